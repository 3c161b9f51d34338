-- words at places: instructions, tails, blocks
section Ty4
variable {fq bc n hn : Nat} {st fi f g fr to tg hd d le he sa la : Nat → Int32} {cat : Int32 → Int32} {An : Nat → Pd}
theorem ins_ty {p i : Nat} {v : Int32} (C : CKd n hn f g hd d) (E : CDe n hn f g fr to tg hd) (hi : i < n) (hr : ¬ d i = -1) (hj : f_MO_jumps (f i) = 0) (hcat : ∀ lo, Rs fq An (cat (nI p)) lo) (hnx : f_MO_ends (f i) = 0 → p + 1 < fq ∧ An (p + 1) = dep (tn (d (i + 1))) v) : ∀ lo sk tq, dep (tn (d i)) v lo sk tq → tq ≤ 7 ∧ Ok fq bc st fi cat An p (f i) (g i) lo sk tq := by
  obtain ⟨k, k1, k2, k3, k4, k5, k6, k7⟩ := C.2.2.2.2.2 i hi hr
  rw [k2, tn_nI (by omega)]
  have ho := E.1 i hi
  have hg := E.2.2.2.2 i hi
  have hk := i32_19 _ (Nat.lt_succ_of_lt ho.2)
  rw [← ho.1] at hk
  have hpl : ¬ g31_MO_goOver i f = 0 → tn (d (i + 1)) = k - tkN (f i) + gvN (f i) := fun h => by rw [(k5 h).2, tn_nI (by omega)]
  have dnx : f_MO_ends (f i) = 0 → ¬ g31_MO_goOver i f = 0 → Pln (f i) (g i) → ∀ lo sk tq, dep k v lo sk tq → tq ≤ 7 ∧ Ok fq bc st fi cat An p (f i) (g i) lo sk tq := by
    intro h1 h2 h3
    obtain ⟨q1, q2⟩ := hnx h1
    exact dn q1 q2 h3 (by omega) k3 (hpl h2) (by rw [hpl h2]; omega)
  have hg4 : f i = 1 ∨ f i = 2 → (g i = nI (tn (g i)) ∧ tn (g i) < 9) ∧ (f i = 2 → ¬ tn (g i) = 4) := fun h => by
    have h9 := hg h
    have h8 := h9.2
    exact ⟨⟨h9.1, by omega⟩, fun _ => by omega⟩
  rcases hk with e | e | e | e | e | e | e | e | e | e | e | e | e | e | e | e | e | e | e
  · exact dnx (by rw [e]; decide) (by unfold g31_MO_goOver; rw [e]; decide) ⟨by rw [e]; decide, hg4⟩
  · exact dnx (by rw [e]; decide) (by unfold g31_MO_goOver; rw [e]; decide) ⟨by rw [e]; decide, hg4⟩
  · exact dnx (by rw [e]; decide) (by unfold g31_MO_goOver; rw [e]; decide) ⟨by rw [e]; decide, hg4⟩
  · exact dnx (by rw [e]; decide) (by unfold g31_MO_goOver; rw [e]; decide) ⟨by rw [e]; decide, hg4⟩
  · exact dnx (by rw [e]; decide) (by unfold g31_MO_goOver; rw [e]; decide) ⟨by rw [e]; decide, hg4⟩
  · exact dnx (by rw [e]; decide) (by unfold g31_MO_goOver; rw [e]; decide) ⟨by rw [e]; decide, hg4⟩
  · intro lo sk tq h
    obtain ⟨e1, e2⟩ := h
    subst e1
    have q1 : 2 ≤ tq := by rw [e] at k3; exact k3
    refine ⟨by omega, ?_⟩
    unfold Ok
    obtain ⟨p1, p2⟩ := hnx (by rw [e]; decide)
    have p3 := hpl (by unfold g31_MO_goOver; rw [e]; decide)
    have p4 : tq - tkN (f i) + gvN (f i) = tq - 2 + 1 := by rw [e]; rfl
    right
    right
    right
    right
    right
    right
    left
    exact ⟨e, q1, hcat lo, p1, by rw [p2]; exact ⟨by omega, e2⟩⟩
  · exact dnx (by rw [e]; decide) (by unfold g31_MO_goOver; rw [e]; decide) ⟨by rw [e]; decide, hg4⟩
  · exact dnx (by rw [e]; decide) (by unfold g31_MO_goOver; rw [e]; decide) ⟨by rw [e]; decide, hg4⟩
  · exact dnx (by rw [e]; decide) (by unfold g31_MO_goOver; rw [e]; decide) ⟨by rw [e]; decide, hg4⟩
  · exact dnx (by rw [e]; decide) (by unfold g31_MO_goOver; rw [e]; decide) ⟨by rw [e]; decide, hg4⟩
  · exact dnx (by rw [e]; decide) (by unfold g31_MO_goOver; rw [e]; decide) ⟨by rw [e]; decide, hg4⟩
  · exact dnx (by rw [e]; decide) (by unfold g31_MO_goOver; rw [e]; decide) ⟨by rw [e]; decide, hg4⟩
  · rw [e] at hj; exact absurd hj (by decide)
  · rw [e] at hj; exact absurd hj (by decide)
  · rw [e] at hj; exact absurd hj (by decide)
  · intro lo sk tq h
    obtain ⟨e1, e2⟩ := h
    subst e1
    have q1 : 1 ≤ tq := by rw [e] at k3; exact k3
    refine ⟨by omega, ?_⟩
    unfold Ok
    right
    right
    right
    right
    right
    right
    right
    right
    right
    right
    right
    right
    right
    right
    right
    right
    left
    exact ⟨e, q1⟩
  · intro lo sk tq h
    obtain ⟨e1, e2⟩ := h
    subst e1
    have q1 : 1 ≤ tq := by rw [e] at k3; exact k3
    refine ⟨by omega, ?_⟩
    unfold Ok
    right
    right
    right
    right
    right
    right
    right
    right
    right
    right
    right
    right
    right
    right
    right
    right
    right
    left
    exact ⟨e, q1, hcat lo⟩
  · exact absurd (by have := ho.2; rw [e] at this; exact this : tn (18 : Int32) < 18) (by decide)
def bdA (f g d : Nat → Int32) (v : Int32) : Nat → Nat → List AE
  | 0, _ => []
  | k + 1, i => (f i, g i, dep (tn (d i)) v) :: bdA f g d v k (i + 1)
theorem bdA_c (f g d : Nat → Int32) (v : Int32) : ∀ k i, cdL (bdA f g d v k i) = bdL f g k i := by
  intro k
  induction k with
  | zero => intro i; rfl
  | succ k ih => intro i; rw [bdL, ← ih (i + 1)]; rfl
theorem bdA_len (f g d : Nat → Int32) (v : Int32) (k i : Nat) : (bdA f g d v k i).length = k := by rw [← cdL_len, bdA_c, bdL_len]
theorem bd_ty {v : Int32} (C : CKd n hn f g hd d) (E : CDe n hn f g fr to tg hd) (hcat : ∀ p lo, Rs fq An (cat (nI p)) lo) : ∀ (k i p : Nat), AnIs An p (bdA f g d v k i) → (∀ j, i ≤ j → j < i + k → j < n ∧ ¬ d j = -1 ∧ f_MO_jumps (f j) = 0) → p + k ≤ fq → (k = 0 ∨ f_MO_ends (f (i + k - 1)) = 0 → p + k < fq ∧ An (p + k) = dep (tn (d (i + k))) v) → TyL fq bc st fi cat An p (bdA f g d v k i) ∧ An p = dep (tn (d i)) v := by
  intro k
  induction k with
  | zero => intro i p h1 h2 h3 h4; exact ⟨trivial, (h4 (Or.inl rfl)).2⟩
  | succ k ih =>
    intro i p h1 h2 h3 h4
    obtain ⟨j1, j2, j3⟩ := h2 i (Nat.le_refl _) (by omega)
    by_cases hk : k = 0
    · subst hk
      refine ⟨⟨ins_ty C E j1 j2 j3 (hcat p) (fun he => h4 (Or.inr he)), trivial⟩, h1.1⟩
    · obtain ⟨a1, a2⟩ := ih (i + 1) (p + 1) h1.2 (fun j h5 h6 => h2 j (by omega) (by omega)) (by omega) (fun h => by
        have := h4 (by rcases h with h | h; exact absurd h hk; exact Or.inr (by rw [show i + (k + 1) - 1 = i + 1 + k - 1 by omega]; exact h))
        rw [show p + 1 + k = p + (k + 1) by omega, show i + 1 + k = i + (k + 1) by omega]
        exact this)
      exact ⟨⟨ins_ty C E j1 j2 j3 (hcat p) (fun _ => ⟨by omega, a2⟩), a1⟩, h1.1⟩
def tlA (v : Int32) (p : Nat) (o : Int32) (h1 h2 : Nat) (x1 x2 : Int32) : List AE := if o = 13 then leadA v h2 x2 else (if f_MO_ends o = 0 then (if f_MO_jumps o = 0 then leadA v h1 x1 else (o, nI (p + 1 + (h1 + 5)), dep (h1 + 1) v) :: (leadA v h1 x1 ++ leadA v h2 x2)) else [])
theorem tlA_c (v : Int32) (p : Nat) (o : Int32) (h1 h2 : Nat) (x1 x2 : Int32) : cdL (tlA v p o h1 h2 x1 x2) = tlL p o h1 h2 x1 x2 := by
  unfold tlA tlL
  by_cases h13 : o = 13
  · rw [if_pos h13, if_pos h13, leadA_c]
  · rw [if_neg h13, if_neg h13]
    by_cases he : f_MO_ends o = 0
    · rw [if_pos he, if_pos he]
      by_cases hj : f_MO_jumps o = 0
      · rw [if_pos hj, if_pos hj, leadA_c]
      · rw [if_neg hj, if_neg hj, ← leadA_c v h1 x1, ← leadA_c v h2 x2, ← cdL_app]; rfl
    · rw [if_neg he, if_neg he]; rfl
/-- the tail: where it leads, how deep it begins -/
theorem tl_ty {v o x1 x2 : Int32} {p h1 h2 : Nat} (hH : An 2 = Hd bc st) (hq2 : 2 < fq) (hl : p + (tlA v p o h1 h2 x1 x2).length ≤ fq) (hA : AnIs An p (tlA v p o h1 h2 x1 x2)) (ho : o = 14 ∨ o = 15 ∨ o = 13 ∨ f_MO_jumps o = 0)
    (hj2 : ¬ f_MO_jumps o = 0 → h2 ≤ 4 ∧ ∃ t, t < bc ∧ v ^^^ x2 = st t) (hj1 : f_MO_ends o = 0 → ¬ o = 13 → h1 ≤ 4 ∧ ∃ t, t < bc ∧ v ^^^ x1 = st t) (h12 : ¬ f_MO_jumps o = 0 → ¬ o = 13 → h2 = h1) :
    TyL fq bc st fi cat An p (tlA v p o h1 h2 x1 x2) ∧ (f_MO_ends o = 0 → p < fq ∧ An p = dep (if f_MO_jumps o = 0 then h1 else if o = 13 then h2 else h1 + 1) v) := by
  unfold tlA at hl hA ⊢
  by_cases h13 : o = 13
  · rw [if_pos h13] at hl hA ⊢
    have hjn : ¬ f_MO_jumps o = 0 := by rw [h13]; decide
    rw [leadA_len] at hl
    obtain ⟨b1, b2⟩ := hj2 hjn
    obtain ⟨a1, a2⟩ := lead_ty (fi := fi) (cat := cat) hH hq2 (by omega) b1 hA b2
    exact ⟨a1, fun _ => ⟨by omega, by rw [if_neg hjn, if_pos h13]; exact a2⟩⟩
  · rw [if_neg h13] at hl hA ⊢
    by_cases he2 : f_MO_ends o = 0
    · rw [if_pos he2] at hl hA ⊢
      obtain ⟨c1, c2⟩ := hj1 he2 h13
      by_cases hj : f_MO_jumps o = 0
      · rw [if_pos hj] at hl hA ⊢
        rw [leadA_len] at hl
        obtain ⟨a1, a2⟩ := lead_ty (fi := fi) (cat := cat) hH hq2 (by omega) c1 hA c2
        exact ⟨a1, fun _ => ⟨by omega, by rw [if_pos hj]; exact a2⟩⟩
      · rw [if_neg hj] at hl hA ⊢
        rw [List.length_cons, List.length_append, leadA_len, leadA_len] at hl
        obtain ⟨hA1, hA2⟩ := hA
        rw [AnIs_app, leadA_len] at hA2
        obtain ⟨b1, b2⟩ := hj2 hj
        have e12 := h12 hj h13
        obtain ⟨a1, a2⟩ := lead_ty (fi := fi) (cat := cat) hH hq2 (by omega) c1 hA2.1 c2
        obtain ⟨a3, a4⟩ := lead_ty (fi := fi) (cat := cat) hH hq2 (by omega) b1 hA2.2 b2
        refine ⟨⟨if_ok (by rcases ho with h | h | h | h; exact Or.inl h; exact Or.inr h; exact absurd h h13; exact absurd h hj) (by omega) (by omega) a2 rfl (by omega) (by rw [a4, e12]), ?_⟩, fun _ => ⟨by omega, by rw [if_neg hj, if_neg h13]; exact hA1⟩⟩
        rw [TyL_app, leadA_len]
        exact ⟨a1, a3⟩
    · rw [if_neg he2]
      exact ⟨trivial, fun h => absurd h he2⟩
end Ty4
