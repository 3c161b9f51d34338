-- going over one instruction: the parts up to the handlers
def Ok18 (o : Int32) : Prop := o = nI (tn o) ∧ tn o < 18
theorem tk_o {o : Int32} (h : Ok18 o) : TK (tn o) = f_MO_takes o := by rw [takes_eq _ h.2, ← h.1]
theorem pu_o {o : Int32} (h : Ok18 o) : PU (tn o) = f_MO_gives o := by rw [puts_eq _ h.2, ← h.1]
theorem g31_eq (i : Nat) (f : Nat → Int32) : g31_MO_goOver i f = f_FF_goesToNext (f i) := rfl
theorem g60_eq {n i : Nat} {f d : Nat → Int32} (ho : Ok18 (f i)) (hD : d (i + 1) = -1 ∨ 0 ≤ d (i + 1)) : g60_CH_goesOver n i f d = g109_MO_goOver n i f d := by
  unfold g60_CH_goesOver g109_MO_goOver
  rw [g31_eq, tk_o ho, pu_o ho, gives_eq hD]
theorem g79_eq {n i : Nat} {f g d : Nat → Int32} (ho : Ok18 (f i)) (hD : d (i + 1) = -1 ∨ 0 ≤ d (i + 1)) (hD2 : (g109_MO_goOver n i f d).2 (tn (g i)) = -1 ∨ 0 ≤ (g109_MO_goOver n i f d).2 (tn (g i))) : g79_CH_goesOver n i f g d = g124_MO_goOver n i f g d := by
  unfold g79_CH_goesOver g124_MO_goOver
  rw [g60_eq ho hD, jumps_eq, tk_o ho, pu_o ho, gives_eq hD2]
