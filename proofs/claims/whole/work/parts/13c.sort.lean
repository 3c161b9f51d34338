-- the order of the blocks: by insertion and by rank
def rk (sts : Nat → Int32) : Nat → Int32 → Nat
  | 0, _ => 0
  | c + 1, x => if sts c < x then rk sts c x + 1 else rk sts c x
def insP (sts : Nat → Int32) (x : Int32) : Nat → (Nat → Int32) → Nat × (Nat → Int32)
  | 0, f => (0, f)
  | p + 1, f => if x < sts (f p).toNatClampNeg then insP sts x p (upd f (p + 1) (f p)) else (p + 1, f)
def srt (sts : Nat → Int32) : Nat → (Nat → Int32) → Nat → Int32
  | 0, f => f
  | c + 1, f => upd (insP sts (sts c) c (srt sts c f)).2 (insP sts (sts c) c (srt sts c f)).1 (nI c)
theorem i32_lt_iff {x y : Int32} : x < y ↔ x.toInt < y.toInt := Int32.lt_iff_toInt_lt
theorem i32_lt_of_ne {x y : Int32} (h : ¬ x < y) (h2 : x ≠ y) : y < x := by
  rw [i32_lt_iff] at *
  have : x.toInt ≠ y.toInt := fun e => h2 (Int32.toInt_inj.mp e)
  omega
theorem rk_le (sts : Nat → Int32) (c : Nat) (x : Int32) : rk sts c x ≤ c := by
  induction c with
  | zero => exact Nat.le_refl _
  | succ c ih => rw [rk]; split <;> omega
theorem rk_mono (sts : Nat → Int32) (c : Nat) {x y : Int32} (h : x < y) : rk sts c x ≤ rk sts c y := by
  induction c with
  | zero => exact Nat.le_refl _
  | succ c ih =>
    rw [rk, rk]
    by_cases h1 : sts c < x
    · have h2 : sts c < y := by rw [i32_lt_iff] at *; omega
      rw [if_pos h1, if_pos h2]; omega
    · rw [if_neg h1]; split <;> omega
theorem rk_lt (sts : Nat → Int32) (c : Nat) {j : Nat} (hj : j < c) {y : Int32} (h : sts j < y) : rk sts c (sts j) < rk sts c y := by
  induction c with
  | zero => omega
  | succ c ih =>
    rw [rk, rk]
    by_cases hc : j = c
    · subst hc
      have h1 : ¬ sts j < sts j := by rw [i32_lt_iff]; omega
      rw [if_neg h1, if_pos h]
      have := rk_mono sts j h
      omega
    · have hi := ih (by omega)
      by_cases h1 : sts c < sts j
      · have h2 : sts c < y := by rw [i32_lt_iff] at *; omega
        rw [if_pos h1, if_pos h2]; omega
      · rw [if_neg h1]; split <;> omega
def Srt (sts : Nat → Int32) (c : Nat) (f : Nat → Int32) : Prop := ∀ q, q < c → ∃ j, j < c ∧ f q = nI j ∧ rk sts c (sts j) = q
theorem insP_eq {sts : Nat → Int32} {x : Int32} {c t : Nat} (p : Nat) : ∀ (f : Nat → Int32), (∀ q, q < p → (t ≤ q ↔ x < sts (f q).toNatClampNeg)) → t ≤ p → (insP sts x p f).1 = t ∧ ∀ q, (insP sts x p f).2 q = if t < q ∧ q ≤ p then f (q - 1) else f q := by
  induction p with
  | zero =>
    intro f _ ht
    refine ⟨by simp [insP]; omega, fun q => ?_⟩
    rw [if_neg (by omega)]
    rfl
  | succ p ih =>
    intro f h ht
    rw [insP]
    by_cases h1 : x < sts (f p).toNatClampNeg
    · rw [if_pos h1]
      have ht2 : t ≤ p := (h p (by omega)).mpr h1
      obtain ⟨e1, e2⟩ := ih (upd f (p + 1) (f p)) (fun q hq => by rw [pk_un (by omega)]; exact h q (by omega)) ht2
      refine ⟨e1, fun q => ?_⟩
      rw [e2]
      by_cases hq : q = p + 1
      · subst hq
        rw [if_neg (by omega), if_pos (by omega), pk_us]; rfl
      · by_cases hq2 : t < q ∧ q ≤ p
        · rw [if_pos hq2, if_pos (by omega), pk_un (by omega)]
        · rw [if_neg hq2, if_neg (by omega), pk_un hq]
    · rw [if_neg h1]
      have ht2 : ¬ t ≤ p := fun h2 => h1 ((h p (by omega)).mp h2)
      refine ⟨by simp; omega, fun q => ?_⟩
      rw [if_neg (by omega)]
theorem srt_ok {sts : Nat → Int32} {C : Nat} (hC : C < 2 ^ 31) (hd : ∀ i j, i < C → j < C → sts i = sts j → i = j) (f : Nat → Int32) (c : Nat) : c ≤ C → Srt sts c (srt sts c f) := by
  induction c with
  | zero => intro _ q hq; omega
  | succ c ih =>
    intro hc
    have hs := ih (by omega)
    have hk : ∀ q, q < c → (rk sts c (sts c) ≤ q ↔ sts c < sts ((srt sts c f) q).toNatClampNeg) := by
      intro q hq
      obtain ⟨j, hj, e1, e2⟩ := hs q hq
      rw [e1, nI_clamp (by omega)]
      constructor
      · intro h
        refine i32_lt_of_ne (fun h2 => ?_) (fun h2 => ?_)
        · have := rk_lt sts c hj h2
          omega
        · have := hd _ _ (by omega) (by omega) h2
          omega
      · intro h
        have := rk_mono sts c h
        omega
    obtain ⟨e1, e2⟩ := insP_eq (c := c) c (srt sts c f) hk (rk_le _ _ _)
    intro q hq
    rw [srt, e1]
    have hself : ¬ sts c < sts c := by rw [i32_lt_iff]; omega
    by_cases hq1 : q = rk sts c (sts c)
    · refine ⟨c, by omega, ?_, ?_⟩
      · rw [hq1, pk_us]
      · rw [rk, if_neg hself, hq1]
    · rw [pk_un hq1, e2]
      by_cases hq2 : rk sts c (sts c) < q ∧ q ≤ c
      · rw [if_pos hq2]
        obtain ⟨j, hj, e3, e4⟩ := hs (q - 1) (by omega)
        refine ⟨j, by omega, e3, ?_⟩
        have h3 := (hk (q - 1) (by omega)).mp (by omega)
        rw [e3, nI_clamp (by omega)] at h3
        rw [rk, if_pos h3]; omega
      · rw [if_neg hq2]
        have hq3 : q < c := by
          have := rk_le sts c (sts c)
          omega
        obtain ⟨j, hj, e3, e4⟩ := hs q hq3
        refine ⟨j, by omega, e3, ?_⟩
        have h3 : ¬ sts c < sts j := by
          intro h
          have := (hk q hq3).mpr (by rw [e3, nI_clamp (by omega)]; exact h)
          omega
        rw [rk, if_neg h3, e4]
