-- what is written, as lists: pieces
abbrev F3 : Type := Nat × (Nat → Int32) × (Nat → Int32)
def w1 (p : Int32 × Int32) (s : F3) : F3 := (s.1 + 1, upd s.2.1 s.1 p.1, upd s.2.2 s.1 p.2)
def wrL : List (Int32 × Int32) → F3 → F3
  | [], s => s
  | p :: L, s => wrL L (w1 p s)
theorem wrL_app (A B : List (Int32 × Int32)) : ∀ s, wrL (A ++ B) s = wrL B (wrL A s) := by
  induction A with
  | nil => intro s; rfl
  | cons p A ih => intro s; exact ih (w1 p s)
theorem wrL_len (L : List (Int32 × Int32)) : ∀ s, (wrL L s).1 = s.1 + L.length := by
  induction L with
  | nil => intro s; rfl
  | cons p L ih => intro s; rw [wrL, ih, List.length_cons]; show s.1 + 1 + L.length = _; omega
theorem wrL_old (L : List (Int32 × Int32)) : ∀ s x, x < s.1 → (wrL L s).2.1 x = s.2.1 x ∧ (wrL L s).2.2 x = s.2.2 x := by
  induction L with
  | nil => intro s x _; exact ⟨rfl, rfl⟩
  | cons p L ih =>
    intro s x hx
    rw [wrL]
    have h := ih (w1 p s) x (by show x < s.1 + 1; omega)
    rw [h.1, h.2]
    exact ⟨pk_un (by omega), pk_un (by omega)⟩
theorem wrL_at (L : List (Int32 × Int32)) : ∀ s j (hj : j < L.length), (wrL L s).2.1 (s.1 + j) = L[j].1 ∧ (wrL L s).2.2 (s.1 + j) = L[j].2 := by
  induction L with
  | nil => intro s j hj; exact absurd hj (Nat.not_lt_zero _)
  | cons p L ih =>
    intro s j hj
    rw [wrL]
    cases j with
    | zero =>
      have h := wrL_old L (w1 p s) s.1 (by show s.1 < s.1 + 1; omega)
      rw [Nat.add_zero, h.1, h.2]
      exact ⟨pk_us, pk_us⟩
    | succ j =>
      have h := ih (w1 p s) j (by rw [List.length_cons] at hj; omega)
      have e : (w1 p s).1 + j = s.1 + (j + 1) := by show s.1 + 1 + j = _; omega
      rw [e] at h
      exact h
def rotL (r : F3) : (Nat → Int32) × (Nat → Int32) × Nat := (r.2.1, r.2.2, r.1)
def ldL : Nat → Nat → List (Int32 × Int32)
  | 0, _ => []
  | k + 1, h => (1, nI (4 + h)) :: ldL k (h + 1)
def stL : Nat → List (Int32 × Int32)
  | 0 => []
  | k + 1 => (2, nI (5 + k)) :: stL k
def poL : Nat → List (Int32 × Int32)
  | 0 => []
  | k + 1 => (11, 0) :: poL k
def bdL (f g : Nat → Int32) : Nat → Nat → List (Int32 × Int32)
  | 0, _ => []
  | k + 1, i => (f i, g i) :: bdL f g k (i + 1)
theorem ldL_len : ∀ k h, (ldL k h).length = k := by
  intro k
  induction k with
  | zero => intro h; rfl
  | succ k ih => intro h; rw [ldL, List.length_cons, ih]
theorem stL_len : ∀ k, (stL k).length = k := by
  intro k
  induction k with
  | zero => rfl
  | succ k ih => rw [stL, List.length_cons, ih]
theorem poL_len : ∀ k, (poL k).length = k := by
  intro k
  induction k with
  | zero => rfl
  | succ k ih => rw [poL, List.length_cons, ih]
theorem bdL_len (f g : Nat → Int32) : ∀ k i, (bdL f g k i).length = k := by
  intro k
  induction k with
  | zero => intro i; rfl
  | succ k ih => intro i; rw [bdL, List.length_cons, ih]
theorem lw_L : ∀ (kf h : Nat) (fo fa : Nat → Int32) (fq : Nat), lw_MO_wb kf h fo fa fq = rotL (wrL (ldL kf h) (fq, fo, fa)) := by
  intro kf
  induction kf with
  | zero => intro h fo fa fq; rfl
  | succ kf ih => intro h fo fa fq; rw [lw_MO_wb, ih]; rfl
theorem tb_L : ∀ (kf h : Nat) (fo fa : Nat → Int32) (fq : Nat), lp_WE_tb kf h fo fa fq = rotL (wrL (ldL kf (h + 1)) (fq, fo, fa)) := by
  intro kf
  induction kf with
  | zero => intro h fo fa fq; rfl
  | succ kf ih =>
    intro h fo fa fq
    rw [lp_WE_tb, ih, ldL, show 5 + h = 4 + (h + 1) by omega]; rfl
theorem lb_L (f g : Nat → Int32) : ∀ (kf h : Nat) (fo fa : Nat → Int32) (fq : Nat), lb_MO_wb f g kf h fo fa fq = rotL (wrL (bdL f g kf h) (fq, fo, fa)) := by
  intro kf
  induction kf with
  | zero => intro h fo fa fq; rfl
  | succ kf ih => intro h fo fa fq; rw [lb_MO_wb, ih]; rfl
theorem le_L : ∀ (kf : Nat) (y : Int32) (fo fa : Nat → Int32) (fq : Nat), lp_WE_le kf y fo fa fq = rotL (wrL (stL kf) (fq, fo, fa)) := by
  intro kf
  induction kf with
  | zero => intro y fo fa fq; rfl
  | succ kf ih => intro y fo fa fq; rw [lp_WE_le, ih]; rfl
theorem mle_L : ∀ (kf : Nat) (fo fa : Nat → Int32) (fq : Nat), lp_MO_lead kf kf fo fa fq = rotL (wrL (stL kf) (fq, fo, fa)) := by
  intro kf
  induction kf with
  | zero => intro fo fa fq; rfl
  | succ kf ih => intro fo fa fq; rw [lp_MO_lead, Nat.add_sub_cancel, ih, stL, show 5 + kf = 4 + (kf + 1) by omega]; rfl
theorem ju_L : ∀ (kf h : Nat) (fo fa : Nat → Int32) (fq : Nat), lp_WE_ju kf h fo fa fq = rotL (wrL (poL kf) (fq, fo, fa)) := by
  intro kf
  induction kf with
  | zero => intro h fo fa fq; rfl
  | succ kf ih => intro h fo fa fq; rw [lp_WE_ju, ih]; rfl
theorem mju_L : ∀ (kf h : Nat) (fo fa : Nat → Int32) (fq : Nat), lp_MO_junk kf h fo fa fq = rotL (wrL (poL kf) (fq, fo, fa)) := by
  intro kf
  induction kf with
  | zero => intro h fo fa fq; rfl
  | succ kf ih => intro h fo fa fq; rw [lp_MO_junk, ih]; rfl
def leadL (k : Nat) (x : Int32) : List (Int32 × Int32) := stL k ++ [(1, 4), (0, x), (8, 0), (2, 4), (13, 2)]
def junkL (k : Nat) (x : Int32) : List (Int32 × Int32) := poL k ++ [(0, x), (2, 4), (13, 2)]
theorem wr_5 (r : F3) (k : Nat) (h : r.1 = k) (x : Int32) : wrL [(1, 4), (0, x), (8, 0), (2, 4), (13, 2)] r = (((((k + 1) + 1) + 1) + 1) + 1, upd (upd (upd (upd (upd r.2.1 k 1) (k + 1) 0) ((k + 1) + 1) 8) (((k + 1) + 1) + 1) 2) ((((k + 1) + 1) + 1) + 1) 13, upd (upd (upd (upd (upd r.2.2 k 4) (k + 1) x) ((k + 1) + 1) 0) (((k + 1) + 1) + 1) 4) ((((k + 1) + 1) + 1) + 1) 2) := by
  subst h; rfl
theorem wr_3 (r : F3) (k : Nat) (h : r.1 = k) (x : Int32) : wrL [(0, x), (2, 4), (13, 2)] r = (((k + 1) + 1) + 1, upd (upd (upd r.2.1 k 0) (k + 1) 2) ((k + 1) + 1) 13, upd (upd (upd r.2.2 k x) (k + 1) 4) ((k + 1) + 1) 2) := by
  subst h; rfl
theorem MO_lead_L (fq : Nat) (fo fa : Nat → Int32) (b t : Nat) (he st : Nat → Int32) : f_MO_lead fq fo fa b t he st = wrL (leadL (tn (he t)) (st b ^^^ st t)) (fq, fo, fa) := by
  unfold f_MO_lead leadL
  rw [wrL_app, mle_L, wr_5 _ (fq + tn (he t)) (by rw [wrL_len, stL_len])]
  rfl
theorem WE_lead_L (fq : Nat) (fo fa : Nat → Int32) (b t : Nat) (he st : Nat → Int32) : f_WE_writeLead fq fo fa b t he st = wrL (leadL (tn (he t)) (st b ^^^ st t)) (fq, fo, fa) := by
  unfold f_WE_writeLead leadL
  rw [wrL_app, le_L, wr_5 _ (fq + tn (he t)) (by rw [wrL_len, stL_len])]
  rfl
theorem MO_junk_L (fq b bc : Nat) (fo fa he st dw : Nat → Int32) : f_MO_junk fq b bc fo fa he st dw = wrL (junkL (tn (he b)) (st (tn (dw (4 * b + 3)) % bc))) (fq, fo, fa) := by
  unfold f_MO_junk junkL
  rw [wrL_app, mju_L, wr_3 _ (fq + tn (he b)) (by rw [wrL_len, poL_len])]
  rfl
theorem WE_junk_L (fq : Nat) (fo fa : Nat → Int32) (b t : Nat) (he st : Nat → Int32) : f_WE_writeJunk fq fo fa b t he st = wrL (junkL (tn (he b)) (st t)) (fq, fo, fa) := by
  unfold f_WE_writeJunk f_WE_writeGoingTo junkL
  rw [wrL_app, ju_L, wr_3 _ (fq + tn (he b)) (by rw [wrL_len, poL_len])]
  rfl
def sqL (v : Int32) : List (Int32 × Int32) := [(1, v), (9, 0), (5, 0)]
def evL (v : Int32) : List (Int32 × Int32) := [(1, v), (9, 0), (0, 1), (3, 0), (5, 0), (0, 1), (7, 0)]
def ntL (v : Int32) : List (Int32 × Int32) := [(1, v), (9, 0), (5, 0), (0, 3), (7, 0), (0, 2), (8, 0)]
def nmL (u v : Int32) : List (Int32 × Int32) := [(1, u), (9, 0), (5, 0), (0, 7), (5, 0), (0, 1), (4, 0), (1, v), (9, 0), (5, 0), (4, 0)]
def cndL (fq h : Nat) (p j k x : Int32) : List (Int32 × Int32) :=
  if p = 0 then [] else (if p = 1 then evL k ++ ((14, nI (fq + 7 + 1 + (h + 3))) :: junkL h x) else (if p = 2 then ntL k ++ ((14, nI (fq + 7 + 2)) :: (13, nI (fq + 7 + 1 + 1 + (h + 3))) :: junkL h x) else nmL j k ++ ((14, nI (fq + 11 + 2)) :: (13, nI (fq + 11 + 1 + 1 + (h + 3))) :: junkL h x)))
theorem WE_cond_L (fq : Nat) (fo fa : Nat → Int32) (bc b : Nat) (gg : Int32) (he st : Nat → Int32) : f_WE_writeCondition fq fo fa bc b gg he st = ((wrL (cndL fq (tn (he b)) (dr (gn gg) - dr (gn gg) / 4 * 4) (dr (gn (gn gg)) - dr (gn (gn gg)) / 4 * 4) (dr (gn (gn (gn gg))) - dr (gn (gn (gn gg))) / 4 * 4) (st (tn (dr (gn (gn (gn (gn gg))))) % bc))) (fq, fo, fa)).1, (wrL (cndL fq (tn (he b)) (dr (gn gg) - dr (gn gg) / 4 * 4) (dr (gn (gn gg)) - dr (gn (gn gg)) / 4 * 4) (dr (gn (gn (gn gg))) - dr (gn (gn (gn gg))) / 4 * 4) (st (tn (dr (gn (gn (gn (gn gg))))) % bc))) (fq, fo, fa)).2.1, (wrL (cndL fq (tn (he b)) (dr (gn gg) - dr (gn gg) / 4 * 4) (dr (gn (gn gg)) - dr (gn (gn gg)) / 4 * 4) (dr (gn (gn (gn gg))) - dr (gn (gn (gn gg))) / 4 * 4) (st (tn (dr (gn (gn (gn (gn gg))))) % bc))) (fq, fo, fa)).2.2, gn (gn (gn (gn gg)))) := by
  unfold f_WE_writeCondition cndL
  generalize dr (gn gg) - dr (gn gg) / 4 * 4 = p
  by_cases h0 : p = 0
  · simp only [if_pos h0]; rfl
  · simp only [if_neg h0]
    by_cases h1 : p = 1
    · simp only [if_pos h1, WE_junk_L, wrL_app]; rfl
    · simp only [if_neg h1]
      by_cases h2 : p = 2
      · simp only [if_pos h2, WE_junk_L, wrL_app]; rfl
      · simp only [if_neg h2, WE_junk_L, wrL_app]; rfl
theorem MO_cond_L {fq b bc : Nat} {fo fa he st dw fi : Nat → Int32} (hfi : tn (fi b) + tn (he b) = fq) (hp : dw (4 * b) - dw (4 * b) / 4 * 4 = 0 ∨ dw (4 * b) - dw (4 * b) / 4 * 4 = 1 ∨ dw (4 * b) - dw (4 * b) / 4 * 4 = 2 ∨ dw (4 * b) - dw (4 * b) / 4 * 4 = 3) : f_MO_condition fq b bc fo fa he st dw fi = wrL (cndL fq (tn (he b)) (dw (4 * b) - dw (4 * b) / 4 * 4) (dw (4 * b + 1) - dw (4 * b + 1) / 4 * 4) (dw (4 * b + 2) - dw (4 * b + 2) / 4 * 4) (st (tn (dw (4 * b + 3)) % bc))) (fq, fo, fa) ∧ (cndL fq (tn (he b)) (dw (4 * b) - dw (4 * b) / 4 * 4) (dw (4 * b + 1) - dw (4 * b + 1) / 4 * 4) (dw (4 * b + 2) - dw (4 * b + 2) / 4 * 4) (st (tn (dw (4 * b + 3)) % bc))).length = f_MO_conditionLength b he dw := by
  rcases hp with h | h | h | h
  · refine ⟨?_, ?_⟩
    · unfold f_MO_condition f_MO_conditionLength cndL
      rw [h]; rfl
    · unfold cndL f_MO_conditionLength
      rw [h]; rfl
  · refine ⟨?_, ?_⟩
    · unfold f_MO_condition f_MO_conditionLength cndL
      rw [h, hfi]
      simp only [↓reduceIte, if_neg (show ¬ (1 : Int32) = 0 by decide), if_pos (show (1 : Int32) ≤ 1 by decide), if_neg (show ¬ (1 : Int32) ≤ 0 by decide), MO_junk_L, wrL_app]
      rw [show nI (fq + 7 + 1 + (tn (he b) + 3)) = nI (fq + (8 + (tn (he b) + 3))) from congrArg nI (by omega)]
      rfl
    · unfold cndL f_MO_conditionLength
      rw [h]
      simp only [↓reduceIte, if_neg (show ¬ (1 : Int32) = 0 by decide), evL, junkL, List.length_append, List.length_cons, List.length_nil, poL_len]
      omega
  · refine ⟨?_, ?_⟩
    · unfold f_MO_condition f_MO_conditionLength cndL
      rw [h, hfi]
      simp only [↓reduceIte, if_neg (show ¬ (2 : Int32) = 0 by decide), if_neg (show ¬ (2 : Int32) = 1 by decide), if_neg (show ¬ (2 : Int32) ≤ 1 by decide), if_neg (show ¬ (2 : Int32) ≤ 0 by decide), MO_junk_L, wrL_app]
      rw [show nI (fq + 7 + 1 + 1 + (tn (he b) + 3)) = nI (fq + (9 + (tn (he b) + 3))) from congrArg nI (by omega), show nI (fq + 7 + 2) = nI (fq + (9 + (tn (he b) + 3)) - (tn (he b) + 3)) from congrArg nI (by omega)]
      rfl
    · unfold cndL f_MO_conditionLength
      rw [h]
      simp only [↓reduceIte, if_neg (show ¬ (2 : Int32) = 0 by decide), if_neg (show ¬ (2 : Int32) = 1 by decide), ntL, junkL, List.length_append, List.length_cons, List.length_nil, poL_len]
      omega
  · refine ⟨?_, ?_⟩
    · unfold f_MO_condition f_MO_conditionLength cndL
      rw [h, hfi]
      simp only [↓reduceIte, if_neg (show ¬ (3 : Int32) = 0 by decide), if_neg (show ¬ (3 : Int32) = 1 by decide), if_neg (show ¬ (3 : Int32) = 2 by decide), if_neg (show ¬ (3 : Int32) ≤ 1 by decide), if_neg (show ¬ (3 : Int32) ≤ 0 by decide), MO_junk_L, wrL_app]
      rw [show nI (fq + 11 + 1 + 1 + (tn (he b) + 3)) = nI (fq + (13 + (tn (he b) + 3))) from congrArg nI (by omega), show nI (fq + 11 + 2) = nI (fq + (13 + (tn (he b) + 3)) - (tn (he b) + 3)) from congrArg nI (by omega)]
      rfl
    · unfold cndL f_MO_conditionLength
      rw [h]
      simp only [↓reduceIte, if_neg (show ¬ (3 : Int32) = 0 by decide), if_neg (show ¬ (3 : Int32) = 1 by decide), if_neg (show ¬ (3 : Int32) = 2 by decide), nmL, junkL, List.length_append, List.length_cons, List.length_nil, poL_len]
      omega
