-- going over one instruction is the same
theorem Dg_109 {n i : Nat} {f d : Nat → Int32} (hD : Dg d) (hv : 0 ≤ d i - f_MO_takes (f i) + f_MO_gives (f i)) : Dg (g109_MO_goOver n i f d).2 := by
  unfold g109_MO_goOver
  split
  · exact hD
  · exact Dg_reach hD hv
theorem Dg_124 {n i : Nat} {f g d : Nat → Int32} (hD : Dg d) (hv : 0 ≤ d i - f_MO_takes (f i) + f_MO_gives (f i)) : Dg (g124_MO_goOver n i f g d).2 := by
  have h9 := Dg_109 (n := n) hD hv
  unfold g124_MO_goOver
  split
  · exact h9
  · split
    · exact Dg_reach h9 hv
    · split
      · exact Dg_reach h9 hv
      · exact Dg_reach h9 hv
theorem g106_eq {n hn i : Nat} {f g fr to tg hd d ov : Nat → Int32} (ho : Ok18 (f i)) (hD : Dg d) (hv : 0 ≤ d i - f_MO_takes (f i) + f_MO_gives (f i)) (hr : ∀ h, h < hn → hd (3 * h) = fr h ∧ hd (3 * h + 1) = to h ∧ hd (3 * h + 2) = tg h) :
    g106_MO_goOver n hn i f g hd d ov = ((if (f_CH_givesTargets n hn i fr to tg ((g79_CH_goesOver n i f g d).2)).1 = 0 then 0 else (if (g79_CH_goesOver n i f g d).1 = 0 then 0 else 1)), (f_CH_givesTargets n hn i fr to tg ((g79_CH_goesOver n i f g d).2)).2, upd ov i 1) ∧ Dg (f_CH_givesTargets n hn i fr to tg ((g79_CH_goesOver n i f g d).2)).2 := by
  have e79 := g79_eq (n := n) (g := g) ho (hD (i + 1)) (Dg_109 (n := n) hD hv (tn (g i)))
  have hz := z124_goOver n i f g d
  have hD4 := Dg_124 (n := n) (g := g) hD hv
  obtain ⟨e1, e2⟩ := gt_eq (n := n) (i := i) hr hn 0 1 (g124_MO_goOver n i f g d).2 (by omega) hD4
  have ea := go_and n i hd hn 0 (g124_MO_goOver n i f g d).1 1 (g124_MO_goOver n i f g d).2 hz (Or.inr rfl)
  rw [if_neg (by decide : ¬ (1 : Int32) = 0)] at ea
  unfold f_CH_givesTargets g106_MO_goOver
  rw [e79, e1, ea.1, ea.2]
  refine ⟨?_, e2⟩
  rcases hz with h | h
  · rw [h, if_pos rfl]
  · rw [h, if_neg (by decide : ¬ (1 : Int32) = 0)]
