-- runs: class and reference; the original's invariant
theorem beg_eq (sa : Nat → Int32) : ∀ (kf i : Nat) (lo : Nat → Int32), lp_MO_run0 sa kf i lo = lp_MA_begin sa kf i lo := by
  intro kf
  induction kf with
  | zero => intro i lo; rfl
  | succ kf ih =>
    intro i lo
    rw [lp_MO_run0, lp_MA_begin, ih, ih]
theorem beg_01 (sa : Nat → Int32) : ∀ (kf i : Nat) (lo : Nat → Int32), lp_MO_run1 sa kf i lo = lp_MO_run0 sa kf i lo := by
  intro kf
  induction kf with
  | zero => intro i lo; rfl
  | succ kf ih =>
    intro i lo
    rw [lp_MO_run1, lp_MO_run0, ih, ih]
/-- an invariant of runs -/
def JP (n hn bc : Nat) (f g hd st fi : Nat → Int32) (Jv : (Nat → Int32) → (Nat → Int32) → Nat → Int32 → Prop) : Prop :=
  (∀ lo sk tq ya, Jv lo sk tq ya → ¬ f_CO_hasI n ya = 0 ∧ (f (tn ya) = nI (tn (f (tn ya))) ∧ tn (f (tn ya)) < 19) ∧ (f (tn ya) = 18 → lp_MO_dispatch tq sk st bc 0 < bc) ∧ SafeM f g tq ya ∧ SafeR n bc f g sk st tq ya) ∧
  (∀ xe xr lo ke sk tq ya em, xe = 0 → Jv lo sk tq ya → (f_MO_step0 xe xr hn tq em bc ya f g hd lo ke sk st fi).2.2.2.2.2.2.1 = 0 → Jv (f_MO_step0 xe xr hn tq em bc ya f g hd lo ke sk st fi).1 (f_MO_step0 xe xr hn tq em bc ya f g hd lo ke sk st fi).2.2.1 (f_MO_step0 xe xr hn tq em bc ya f g hd lo ke sk st fi).2.2.2.1 (f_MO_step0 xe xr hn tq em bc ya f g hd lo ke sk st fi).2.2.2.2.1)
section Rn
variable {n hn bc : Nat} {f g fr to tg hd st fi : Nat → Int32} {Jv : (Nat → Int32) → (Nat → Int32) → Nat → Int32 → Prop}
theorem JP_M (hn2 : hn < 2 ^ 31) (hb : bc ≤ 32) (hr : ∀ h, h < hn → hd (3 * h) = fr h ∧ hd (3 * h + 1) = to h ∧ hd (3 * h + 2) = tg h) (ht : ∀ h, h < hn → ¬ tg h = -1) (P : JP n hn bc f g hd st fi Jv) : ∀ ye yo lo ke sk tq ya em, ye = 0 → Jv lo sk tq ya → ¬ f_CO_hasI n ya = 0 → (f_MA_goThrough ye yo hn bc tq em ya lo ke sk f g fr to tg st fi).2.2.2.2.2.2.1 = 0 → Jv (f_MA_goThrough ye yo hn bc tq em ya lo ke sk f g fr to tg st fi).1 (f_MA_goThrough ye yo hn bc tq em ya lo ke sk f g fr to tg st fi).2.2.1 (f_MA_goThrough ye yo hn bc tq em ya lo ke sk f g fr to tg st fi).2.2.2.1 (f_MA_goThrough ye yo hn bc tq em ya lo ke sk f g fr to tg st fi).2.2.2.2.1 := by
  intro ye yo lo ke sk tq ya em h0 hJ _ hen
  obtain ⟨j1, j2, j4, j5, j6⟩ := P.1 _ _ _ _ hJ
  obtain ⟨m1, m2, m3, m4, m5, m6, m7, m8⟩ := st0_eq (n := n) (ye := ye) (yo := yo) (xr := yo) (em := em) (lo := lo) (ke := ke) (g := g) (fi := fi) hn2 hb hr ht j2 (fun e => (j5.2.2.2.2.1 e).1) j4
  rw [m1, m3, m4, m5]
  exact P.2 ye yo lo ke sk tq ya em h0 hJ (by rw [← m7]; exact hen)
theorem JP_go (hn2 : hn < 2 ^ 31) (hb : bc ≤ 32) (hr : ∀ h, h < hn → hd (3 * h) = fr h ∧ hd (3 * h + 1) = to h ∧ hd (3 * h + 2) = tg h) (ht : ∀ h, h < hn → ¬ tg h = -1) (P : JP n hn bc f g hd st fi Jv) (lm : Nat) (lo ke sk sa : Nat → Int32) (h0 : Jv (f_MA_begin lo sa) sk 0 (nI 0)) : GR (f_MA_goFromStart n hn bc lm lo ke sk f g fr to tg st fi sa) (lp_MO_go0 hn bc f g hd st fi lm (lp_MO_run0 sa 9 0 lo) ke sk 0 (nI 0) 0 0 0 (-2147483648)) 0 (-2147483648) := by
  rw [beg_eq]
  exact go_eq hn2 hb hr ht (Jv := Jv) (fun lo sk tq ya hJ => by
    obtain ⟨j1, j2, j4, j5, j6⟩ := P.1 _ _ _ _ hJ
    exact ⟨j1, j2, fun e => (j5.2.2.2.2.1 e).1, j4⟩) P.2 lm 0 (f_MA_begin lo sa) ke sk 0 (nI 0) 0 0 0 (-2147483648) (fun _ => h0) (Or.inl ⟨rfl, rfl, rfl⟩)
/-- what a run answers and leaves behind: class and reference -/
def RnR (A B : Int32 × (Nat → Int32) × (Nat → Int32) × (Nat → Int32) × Int32 × Int32 × Int32 × Int32 × Int32) : Prop := A.1 = B.1 ∧ A.2.1 = B.2.1 ∧ A.2.2.1 = B.2.2.1 ∧ A.2.2.2.1 = B.2.2.2.1 ∧ A.2.2.2.2.1 = B.2.2.2.2.1 ∧ A.2.2.2.2.2.1 = B.2.2.2.2.2.1 ∧ A.2.2.2.2.2.2.1 = B.2.2.2.2.2.2.1 ∧ A.2.2.2.2.2.2.2.1 = B.2.2.2.2.2.2.2.1 ∧ ((A.2.2.2.2.2.2.2.1 = 0 ∧ B.2.2.2.2.2.2.2.2 = -2147483648) ∨ (¬ A.2.2.2.2.2.2.2.1 = 0 ∧ B.2.2.2.2.2.2.2.2 = A.2.2.2.2.2.2.2.2))
end Rn

theorem cat_ex (fr to tg : Nat → Int32) (x : Int32) : ∀ (kf h : Nat), ¬ lp_CO_catcher fr to tg x kf h = -1 → ∃ q, h ≤ q ∧ q < h + kf ∧ ¬ f_CO_covers q fr to x = 0 ∧ lp_CO_catcher fr to tg x kf h = tg q := by
  intro kf
  induction kf with
  | zero => intro h h1; exact absurd rfl h1
  | succ kf ih =>
    intro h h1
    rw [lp_CO_catcher] at h1 ⊢
    by_cases h2 : f_CO_covers h fr to x = 0
    · rw [if_pos h2] at h1 ⊢
      obtain ⟨q, a1, a2, a3⟩ := ih (h + 1) h1
      exact ⟨q, by omega, by omega, a3⟩
    · rw [if_neg h2]
      exact ⟨h, Nat.le_refl _, by omega, h2, rfl⟩
/-- where the original's machine stands: at a reached instruction, as deep as the check says -/
def JO (n : Nat) (d : Nat → Int32) : (Nat → Int32) → (Nat → Int32) → Nat → Int32 → Prop := fun _ _ tq ya => ∃ p, p < n ∧ ya = nI p ∧ d p = nI tq ∧ tq < 5
theorem JO_P {n hn bc : Nat} {f g fr to tg hd d st fi : Nat → Int32} (C : CKd n hn f g hd d) (E : CDe n hn f g fr to tg hd) (h3 : hn ≤ 3) : JP n hn bc f g hd st fi (JO n d) := by
  have h32 := C.1
  have hr := E.2.2.2.1
  have ht : ∀ h, h < hn → ¬ tg h = -1 := by
    intro h hh e
    have hb := (E.2.2.1 h hh).2.2
    have h2 : (nI (tn (tg h))).toInt = (-1 : Int32).toInt := by rw [← hb.1, e]
    rw [nI_toInt (by have := hb.2; omega)] at h2
    have h4 : (-1 : Int32).toInt = -1 := by decide
    omega
  constructor
  · intro lo sk tq ya hJ
    obtain ⟨p, hp, e, hd2, h5⟩ := hJ
    have et : tn ya = p := by rw [e, tn_nI (by omega)]
    obtain ⟨k, k1, k2, k3, k4, k5, k6, k7⟩ := C.2.2.2.2.2 p hp (by rw [hd2]; exact (nn_neg tq h5).1)
    have ek : k = tq := nn_eq (by omega) (by omega) (by rw [← k2, hd2])
    subst ek
    have ho := E.1 p hp
    have hk := i32_19 _ (Nat.lt_succ_of_lt ho.2)
    rw [← ho.1] at hk
    have hg := E.2.2.2.2 p hp
    have hpl : ya = nI (tn ya) ∧ tn ya < n := by rw [et]; exact ⟨e, hp⟩
    have h18 : ¬ f p = 18 := by
      intro e2
      have := ho.2
      rw [e2] at this
      exact absurd this (by decide)
    refine ⟨?_, by rw [et]; exact ⟨ho.1, Nat.lt_succ_of_lt ho.2⟩, fun e2 => absurd (by rw [← et]; exact e2) h18, ?_, ?_⟩
    · rw [e]
      unfold f_CO_hasI
      have h1 : ¬ nI p < 0 := nI_pos (by omega)
      have h2 : ¬ nI n ≤ nI p := fun e => by have := (nI_leI (by omega) (by omega)).mp e; omega
      rw [if_neg h1, if_neg h2]; decide
    · unfold SafeM
      rw [et]
      generalize f p = o at hk k3 hg h18
      have k3a : ∀ o : Int32, ∀ a : Nat, tkN o = a → tkN o ≤ k → a ≤ k := fun o a h1 h2 => by omega
      rcases hk with e | e | e | e | e | e | e | e | e | e | e | e | e | e | e | e | e | e | e <;> subst e
      · have k9 := k3a _ 0 (by decide) k3
        refine ⟨by omega, fun h => ?_, fun h => ?_, fun h => ?_, fun h => ?_, fun h => ?_, fun h => ?_, fun h => ?_, fun h => ?_, fun h => ?_, fun h => ?_, fun h => ?_, fun h => ?_, fun b0 b1 b2 b9 b11 b12 b6 b13 b14 b15 b16 b17 b18 => ?_⟩
        all_goals first | exact absurd h (by decide) | exact absurd rfl (by assumption) | omega | (have h4 := hg (by decide); have h8 := h4.2; exact ⟨by omega, h4.1, by omega⟩)
      · have k9 := k3a _ 0 (by decide) k3
        refine ⟨by omega, fun h => ?_, fun h => ?_, fun h => ?_, fun h => ?_, fun h => ?_, fun h => ?_, fun h => ?_, fun h => ?_, fun h => ?_, fun h => ?_, fun h => ?_, fun h => ?_, fun b0 b1 b2 b9 b11 b12 b6 b13 b14 b15 b16 b17 b18 => ?_⟩
        all_goals first | exact absurd h (by decide) | exact absurd rfl (by assumption) | omega | (have h4 := hg (by decide); have h8 := h4.2; exact ⟨by omega, h4.1, by omega⟩)
      · have k9 := k3a _ 1 (by decide) k3
        refine ⟨by omega, fun h => ?_, fun h => ?_, fun h => ?_, fun h => ?_, fun h => ?_, fun h => ?_, fun h => ?_, fun h => ?_, fun h => ?_, fun h => ?_, fun h => ?_, fun h => ?_, fun b0 b1 b2 b9 b11 b12 b6 b13 b14 b15 b16 b17 b18 => ?_⟩
        all_goals first | exact absurd h (by decide) | exact absurd rfl (by assumption) | omega | (have h4 := hg (by decide); have h8 := h4.2; exact ⟨by omega, h4.1, by omega⟩)
      · have k9 := k3a _ 2 (by decide) k3
        refine ⟨by omega, fun h => ?_, fun h => ?_, fun h => ?_, fun h => ?_, fun h => ?_, fun h => ?_, fun h => ?_, fun h => ?_, fun h => ?_, fun h => ?_, fun h => ?_, fun h => ?_, fun b0 b1 b2 b9 b11 b12 b6 b13 b14 b15 b16 b17 b18 => ?_⟩
        all_goals first | exact absurd h (by decide) | exact absurd rfl (by assumption) | omega | (have h4 := hg (by decide); have h8 := h4.2; exact ⟨by omega, h4.1, by omega⟩)
      · have k9 := k3a _ 2 (by decide) k3
        refine ⟨by omega, fun h => ?_, fun h => ?_, fun h => ?_, fun h => ?_, fun h => ?_, fun h => ?_, fun h => ?_, fun h => ?_, fun h => ?_, fun h => ?_, fun h => ?_, fun h => ?_, fun b0 b1 b2 b9 b11 b12 b6 b13 b14 b15 b16 b17 b18 => ?_⟩
        all_goals first | exact absurd h (by decide) | exact absurd rfl (by assumption) | omega | (have h4 := hg (by decide); have h8 := h4.2; exact ⟨by omega, h4.1, by omega⟩)
      · have k9 := k3a _ 2 (by decide) k3
        refine ⟨by omega, fun h => ?_, fun h => ?_, fun h => ?_, fun h => ?_, fun h => ?_, fun h => ?_, fun h => ?_, fun h => ?_, fun h => ?_, fun h => ?_, fun h => ?_, fun h => ?_, fun b0 b1 b2 b9 b11 b12 b6 b13 b14 b15 b16 b17 b18 => ?_⟩
        all_goals first | exact absurd h (by decide) | exact absurd rfl (by assumption) | omega | (have h4 := hg (by decide); have h8 := h4.2; exact ⟨by omega, h4.1, by omega⟩)
      · have k9 := k3a _ 2 (by decide) k3
        refine ⟨by omega, fun h => ?_, fun h => ?_, fun h => ?_, fun h => ?_, fun h => ?_, fun h => ?_, fun h => ?_, fun h => ?_, fun h => ?_, fun h => ?_, fun h => ?_, fun h => ?_, fun b0 b1 b2 b9 b11 b12 b6 b13 b14 b15 b16 b17 b18 => ?_⟩
        all_goals first | exact absurd h (by decide) | exact absurd rfl (by assumption) | omega | (have h4 := hg (by decide); have h8 := h4.2; exact ⟨by omega, h4.1, by omega⟩)
      · have k9 := k3a _ 2 (by decide) k3
        refine ⟨by omega, fun h => ?_, fun h => ?_, fun h => ?_, fun h => ?_, fun h => ?_, fun h => ?_, fun h => ?_, fun h => ?_, fun h => ?_, fun h => ?_, fun h => ?_, fun h => ?_, fun b0 b1 b2 b9 b11 b12 b6 b13 b14 b15 b16 b17 b18 => ?_⟩
        all_goals first | exact absurd h (by decide) | exact absurd rfl (by assumption) | omega | (have h4 := hg (by decide); have h8 := h4.2; exact ⟨by omega, h4.1, by omega⟩)
      · have k9 := k3a _ 2 (by decide) k3
        refine ⟨by omega, fun h => ?_, fun h => ?_, fun h => ?_, fun h => ?_, fun h => ?_, fun h => ?_, fun h => ?_, fun h => ?_, fun h => ?_, fun h => ?_, fun h => ?_, fun h => ?_, fun b0 b1 b2 b9 b11 b12 b6 b13 b14 b15 b16 b17 b18 => ?_⟩
        all_goals first | exact absurd h (by decide) | exact absurd rfl (by assumption) | omega | (have h4 := hg (by decide); have h8 := h4.2; exact ⟨by omega, h4.1, by omega⟩)
      · have k9 := k3a _ 1 (by decide) k3
        refine ⟨by omega, fun h => ?_, fun h => ?_, fun h => ?_, fun h => ?_, fun h => ?_, fun h => ?_, fun h => ?_, fun h => ?_, fun h => ?_, fun h => ?_, fun h => ?_, fun h => ?_, fun b0 b1 b2 b9 b11 b12 b6 b13 b14 b15 b16 b17 b18 => ?_⟩
        all_goals first | exact absurd h (by decide) | exact absurd rfl (by assumption) | omega | (have h4 := hg (by decide); have h8 := h4.2; exact ⟨by omega, h4.1, by omega⟩)
      · have k9 := k3a _ 2 (by decide) k3
        refine ⟨by omega, fun h => ?_, fun h => ?_, fun h => ?_, fun h => ?_, fun h => ?_, fun h => ?_, fun h => ?_, fun h => ?_, fun h => ?_, fun h => ?_, fun h => ?_, fun h => ?_, fun b0 b1 b2 b9 b11 b12 b6 b13 b14 b15 b16 b17 b18 => ?_⟩
        all_goals first | exact absurd h (by decide) | exact absurd rfl (by assumption) | omega | (have h4 := hg (by decide); have h8 := h4.2; exact ⟨by omega, h4.1, by omega⟩)
      · have k9 := k3a _ 1 (by decide) k3
        refine ⟨by omega, fun h => ?_, fun h => ?_, fun h => ?_, fun h => ?_, fun h => ?_, fun h => ?_, fun h => ?_, fun h => ?_, fun h => ?_, fun h => ?_, fun h => ?_, fun h => ?_, fun b0 b1 b2 b9 b11 b12 b6 b13 b14 b15 b16 b17 b18 => ?_⟩
        all_goals first | exact absurd h (by decide) | exact absurd rfl (by assumption) | omega | (have h4 := hg (by decide); have h8 := h4.2; exact ⟨by omega, h4.1, by omega⟩)
      · have k9 := k3a _ 1 (by decide) k3
        refine ⟨by omega, fun h => ?_, fun h => ?_, fun h => ?_, fun h => ?_, fun h => ?_, fun h => ?_, fun h => ?_, fun h => ?_, fun h => ?_, fun h => ?_, fun h => ?_, fun h => ?_, fun b0 b1 b2 b9 b11 b12 b6 b13 b14 b15 b16 b17 b18 => ?_⟩
        all_goals first | exact absurd h (by decide) | exact absurd rfl (by assumption) | omega | (have h4 := hg (by decide); have h8 := h4.2; exact ⟨by omega, h4.1, by omega⟩)
      · have k9 := k3a _ 0 (by decide) k3
        refine ⟨by omega, fun h => ?_, fun h => ?_, fun h => ?_, fun h => ?_, fun h => ?_, fun h => ?_, fun h => ?_, fun h => ?_, fun h => ?_, fun h => ?_, fun h => ?_, fun h => ?_, fun b0 b1 b2 b9 b11 b12 b6 b13 b14 b15 b16 b17 b18 => ?_⟩
        all_goals first | exact absurd h (by decide) | exact absurd rfl (by assumption) | omega | (have h4 := hg (by decide); have h8 := h4.2; exact ⟨by omega, h4.1, by omega⟩)
      · have k9 := k3a _ 1 (by decide) k3
        refine ⟨by omega, fun h => ?_, fun h => ?_, fun h => ?_, fun h => ?_, fun h => ?_, fun h => ?_, fun h => ?_, fun h => ?_, fun h => ?_, fun h => ?_, fun h => ?_, fun h => ?_, fun b0 b1 b2 b9 b11 b12 b6 b13 b14 b15 b16 b17 b18 => ?_⟩
        all_goals first | exact absurd h (by decide) | exact absurd rfl (by assumption) | omega | (have h4 := hg (by decide); have h8 := h4.2; exact ⟨by omega, h4.1, by omega⟩)
      · have k9 := k3a _ 1 (by decide) k3
        refine ⟨by omega, fun h => ?_, fun h => ?_, fun h => ?_, fun h => ?_, fun h => ?_, fun h => ?_, fun h => ?_, fun h => ?_, fun h => ?_, fun h => ?_, fun h => ?_, fun h => ?_, fun b0 b1 b2 b9 b11 b12 b6 b13 b14 b15 b16 b17 b18 => ?_⟩
        all_goals first | exact absurd h (by decide) | exact absurd rfl (by assumption) | omega | (have h4 := hg (by decide); have h8 := h4.2; exact ⟨by omega, h4.1, by omega⟩)
      · have k9 := k3a _ 1 (by decide) k3
        refine ⟨by omega, fun h => ?_, fun h => ?_, fun h => ?_, fun h => ?_, fun h => ?_, fun h => ?_, fun h => ?_, fun h => ?_, fun h => ?_, fun h => ?_, fun h => ?_, fun h => ?_, fun b0 b1 b2 b9 b11 b12 b6 b13 b14 b15 b16 b17 b18 => ?_⟩
        all_goals first | exact absurd h (by decide) | exact absurd rfl (by assumption) | omega | (have h4 := hg (by decide); have h8 := h4.2; exact ⟨by omega, h4.1, by omega⟩)
      · have k9 := k3a _ 1 (by decide) k3
        refine ⟨by omega, fun h => ?_, fun h => ?_, fun h => ?_, fun h => ?_, fun h => ?_, fun h => ?_, fun h => ?_, fun h => ?_, fun h => ?_, fun h => ?_, fun h => ?_, fun h => ?_, fun b0 b1 b2 b9 b11 b12 b6 b13 b14 b15 b16 b17 b18 => ?_⟩
        all_goals first | exact absurd h (by decide) | exact absurd rfl (by assumption) | omega | (have h4 := hg (by decide); have h8 := h4.2; exact ⟨by omega, h4.1, by omega⟩)
      · exact absurd rfl h18
    · unfold SafeR
      rw [et] at hpl ⊢
      generalize f p = o at hk k3 hg h18
      have k3a : ∀ o : Int32, ∀ a : Nat, tkN o = a → tkN o ≤ k → a ≤ k := fun o a h1 h2 => by omega
      rcases hk with e | e | e | e | e | e | e | e | e | e | e | e | e | e | e | e | e | e | e <;> subst e
      · have k9 := k3a _ 0 (by decide) k3
        refine ⟨by omega, fun h => ?_, fun h => ?_, fun h => ?_, fun h => ?_, fun h => ?_, fun h h2 => ?_, fun h h2 => ?_, fun h => ?_, fun h => ?_, fun h => ?_, fun h => ?_, fun b0 b1 b2 b9 b11 b12 b16 b17 b18 bj h => ?_, hpl⟩
        all_goals first | exact absurd h (by decide) | exact absurd (by decide) h | exact absurd (by decide) h2 | exact absurd rfl (by assumption) | exact absurd bj (by decide) | omega | (have h4 := hg (by decide); have h8 := h4.2; exact ⟨by omega, h4.1, by omega⟩)
      · have k9 := k3a _ 0 (by decide) k3
        refine ⟨by omega, fun h => ?_, fun h => ?_, fun h => ?_, fun h => ?_, fun h => ?_, fun h h2 => ?_, fun h h2 => ?_, fun h => ?_, fun h => ?_, fun h => ?_, fun h => ?_, fun b0 b1 b2 b9 b11 b12 b16 b17 b18 bj h => ?_, hpl⟩
        all_goals first | exact absurd h (by decide) | exact absurd (by decide) h | exact absurd (by decide) h2 | exact absurd rfl (by assumption) | exact absurd bj (by decide) | omega | (have h4 := hg (by decide); have h8 := h4.2; exact ⟨by omega, h4.1, by omega⟩)
      · have k9 := k3a _ 1 (by decide) k3
        refine ⟨by omega, fun h => ?_, fun h => ?_, fun h => ?_, fun h => ?_, fun h => ?_, fun h h2 => ?_, fun h h2 => ?_, fun h => ?_, fun h => ?_, fun h => ?_, fun h => ?_, fun b0 b1 b2 b9 b11 b12 b16 b17 b18 bj h => ?_, hpl⟩
        all_goals first | exact absurd h (by decide) | exact absurd (by decide) h | exact absurd (by decide) h2 | exact absurd rfl (by assumption) | exact absurd bj (by decide) | omega | (have h4 := hg (by decide); have h8 := h4.2; exact ⟨by omega, h4.1, by omega⟩)
      · have k9 := k3a _ 2 (by decide) k3
        refine ⟨by omega, fun h => ?_, fun h => ?_, fun h => ?_, fun h => ?_, fun h => ?_, fun h h2 => ?_, fun h h2 => ?_, fun h => ?_, fun h => ?_, fun h => ?_, fun h => ?_, fun b0 b1 b2 b9 b11 b12 b16 b17 b18 bj h => ?_, hpl⟩
        all_goals first | exact absurd h (by decide) | exact absurd (by decide) h | exact absurd (by decide) h2 | exact absurd rfl (by assumption) | exact absurd bj (by decide) | omega | (have h4 := hg (by decide); have h8 := h4.2; exact ⟨by omega, h4.1, by omega⟩)
      · have k9 := k3a _ 2 (by decide) k3
        refine ⟨by omega, fun h => ?_, fun h => ?_, fun h => ?_, fun h => ?_, fun h => ?_, fun h h2 => ?_, fun h h2 => ?_, fun h => ?_, fun h => ?_, fun h => ?_, fun h => ?_, fun b0 b1 b2 b9 b11 b12 b16 b17 b18 bj h => ?_, hpl⟩
        all_goals first | exact absurd h (by decide) | exact absurd (by decide) h | exact absurd (by decide) h2 | exact absurd rfl (by assumption) | exact absurd bj (by decide) | omega | (have h4 := hg (by decide); have h8 := h4.2; exact ⟨by omega, h4.1, by omega⟩)
      · have k9 := k3a _ 2 (by decide) k3
        refine ⟨by omega, fun h => ?_, fun h => ?_, fun h => ?_, fun h => ?_, fun h => ?_, fun h h2 => ?_, fun h h2 => ?_, fun h => ?_, fun h => ?_, fun h => ?_, fun h => ?_, fun b0 b1 b2 b9 b11 b12 b16 b17 b18 bj h => ?_, hpl⟩
        all_goals first | exact absurd h (by decide) | exact absurd (by decide) h | exact absurd (by decide) h2 | exact absurd rfl (by assumption) | exact absurd bj (by decide) | omega | (have h4 := hg (by decide); have h8 := h4.2; exact ⟨by omega, h4.1, by omega⟩)
      · have k9 := k3a _ 2 (by decide) k3
        refine ⟨by omega, fun h => ?_, fun h => ?_, fun h => ?_, fun h => ?_, fun h => ?_, fun h h2 => ?_, fun h h2 => ?_, fun h => ?_, fun h => ?_, fun h => ?_, fun h => ?_, fun b0 b1 b2 b9 b11 b12 b16 b17 b18 bj h => ?_, hpl⟩
        all_goals first | exact absurd h (by decide) | exact absurd (by decide) h | exact absurd (by decide) h2 | exact absurd rfl (by assumption) | exact absurd bj (by decide) | omega | (have h4 := hg (by decide); have h8 := h4.2; exact ⟨by omega, h4.1, by omega⟩)
      · have k9 := k3a _ 2 (by decide) k3
        refine ⟨by omega, fun h => ?_, fun h => ?_, fun h => ?_, fun h => ?_, fun h => ?_, fun h h2 => ?_, fun h h2 => ?_, fun h => ?_, fun h => ?_, fun h => ?_, fun h => ?_, fun b0 b1 b2 b9 b11 b12 b16 b17 b18 bj h => ?_, hpl⟩
        all_goals first | exact absurd h (by decide) | exact absurd (by decide) h | exact absurd (by decide) h2 | exact absurd rfl (by assumption) | exact absurd bj (by decide) | omega | (have h4 := hg (by decide); have h8 := h4.2; exact ⟨by omega, h4.1, by omega⟩)
      · have k9 := k3a _ 2 (by decide) k3
        refine ⟨by omega, fun h => ?_, fun h => ?_, fun h => ?_, fun h => ?_, fun h => ?_, fun h h2 => ?_, fun h h2 => ?_, fun h => ?_, fun h => ?_, fun h => ?_, fun h => ?_, fun b0 b1 b2 b9 b11 b12 b16 b17 b18 bj h => ?_, hpl⟩
        all_goals first | exact absurd h (by decide) | exact absurd (by decide) h | exact absurd (by decide) h2 | exact absurd rfl (by assumption) | exact absurd bj (by decide) | omega | (have h4 := hg (by decide); have h8 := h4.2; exact ⟨by omega, h4.1, by omega⟩)
      · have k9 := k3a _ 1 (by decide) k3
        refine ⟨by omega, fun h => ?_, fun h => ?_, fun h => ?_, fun h => ?_, fun h => ?_, fun h h2 => ?_, fun h h2 => ?_, fun h => ?_, fun h => ?_, fun h => ?_, fun h => ?_, fun b0 b1 b2 b9 b11 b12 b16 b17 b18 bj h => ?_, hpl⟩
        all_goals first | exact absurd h (by decide) | exact absurd (by decide) h | exact absurd (by decide) h2 | exact absurd rfl (by assumption) | exact absurd bj (by decide) | omega | (have h4 := hg (by decide); have h8 := h4.2; exact ⟨by omega, h4.1, by omega⟩)
      · have k9 := k3a _ 2 (by decide) k3
        refine ⟨by omega, fun h => ?_, fun h => ?_, fun h => ?_, fun h => ?_, fun h => ?_, fun h h2 => ?_, fun h h2 => ?_, fun h => ?_, fun h => ?_, fun h => ?_, fun h => ?_, fun b0 b1 b2 b9 b11 b12 b16 b17 b18 bj h => ?_, hpl⟩
        all_goals first | exact absurd h (by decide) | exact absurd (by decide) h | exact absurd (by decide) h2 | exact absurd rfl (by assumption) | exact absurd bj (by decide) | omega | (have h4 := hg (by decide); have h8 := h4.2; exact ⟨by omega, h4.1, by omega⟩)
      · have k9 := k3a _ 1 (by decide) k3
        refine ⟨by omega, fun h => ?_, fun h => ?_, fun h => ?_, fun h => ?_, fun h => ?_, fun h h2 => ?_, fun h h2 => ?_, fun h => ?_, fun h => ?_, fun h => ?_, fun h => ?_, fun b0 b1 b2 b9 b11 b12 b16 b17 b18 bj h => ?_, hpl⟩
        all_goals first | exact absurd h (by decide) | exact absurd (by decide) h | exact absurd (by decide) h2 | exact absurd rfl (by assumption) | exact absurd bj (by decide) | omega | (have h4 := hg (by decide); have h8 := h4.2; exact ⟨by omega, h4.1, by omega⟩)
      · have k9 := k3a _ 1 (by decide) k3
        refine ⟨by omega, fun h => ?_, fun h => ?_, fun h => ?_, fun h => ?_, fun h => ?_, fun h h2 => ?_, fun h h2 => ?_, fun h => ?_, fun h => ?_, fun h => ?_, fun h => ?_, fun b0 b1 b2 b9 b11 b12 b16 b17 b18 bj h => ?_, hpl⟩
        all_goals first | exact absurd h (by decide) | exact absurd (by decide) h | exact absurd (by decide) h2 | exact absurd rfl (by assumption) | exact absurd bj (by decide) | omega | (have h4 := hg (by decide); have h8 := h4.2; exact ⟨by omega, h4.1, by omega⟩)
      · have k9 := k3a _ 0 (by decide) k3
        refine ⟨by omega, fun h => ?_, fun h => ?_, fun h => ?_, fun h => ?_, fun h => ?_, fun h h2 => ?_, fun h h2 => ?_, fun h => ?_, fun h => ?_, fun h => ?_, fun h => ?_, fun b0 b1 b2 b9 b11 b12 b16 b17 b18 bj h => ?_, hpl⟩
        all_goals first | exact absurd h (by decide) | exact absurd (by decide) h | exact absurd (by decide) h2 | exact absurd rfl (by assumption) | exact absurd bj (by decide) | omega | (have h4 := hg (by decide); have h8 := h4.2; exact ⟨by omega, h4.1, by omega⟩)
      · have k9 := k3a _ 1 (by decide) k3
        refine ⟨by omega, fun h => ?_, fun h => ?_, fun h => ?_, fun h => ?_, fun h => ?_, fun h h2 => ?_, fun h h2 => ?_, fun h => ?_, fun h => ?_, fun h => ?_, fun h => ?_, fun b0 b1 b2 b9 b11 b12 b16 b17 b18 bj h => ?_, hpl⟩
        all_goals first | exact absurd h (by decide) | exact absurd (by decide) h | exact absurd (by decide) h2 | exact absurd rfl (by assumption) | exact absurd bj (by decide) | omega | (have h4 := hg (by decide); have h8 := h4.2; exact ⟨by omega, h4.1, by omega⟩)
      · have k9 := k3a _ 1 (by decide) k3
        refine ⟨by omega, fun h => ?_, fun h => ?_, fun h => ?_, fun h => ?_, fun h => ?_, fun h h2 => ?_, fun h h2 => ?_, fun h => ?_, fun h => ?_, fun h => ?_, fun h => ?_, fun b0 b1 b2 b9 b11 b12 b16 b17 b18 bj h => ?_, hpl⟩
        all_goals first | exact absurd h (by decide) | exact absurd (by decide) h | exact absurd (by decide) h2 | exact absurd rfl (by assumption) | exact absurd bj (by decide) | omega | (have h4 := hg (by decide); have h8 := h4.2; exact ⟨by omega, h4.1, by omega⟩)
      · have k9 := k3a _ 1 (by decide) k3
        refine ⟨by omega, fun h => ?_, fun h => ?_, fun h => ?_, fun h => ?_, fun h => ?_, fun h h2 => ?_, fun h h2 => ?_, fun h => ?_, fun h => ?_, fun h => ?_, fun h => ?_, fun b0 b1 b2 b9 b11 b12 b16 b17 b18 bj h => ?_, hpl⟩
        all_goals first | exact absurd h (by decide) | exact absurd (by decide) h | exact absurd (by decide) h2 | exact absurd rfl (by assumption) | exact absurd bj (by decide) | omega | (have h4 := hg (by decide); have h8 := h4.2; exact ⟨by omega, h4.1, by omega⟩)
      · have k9 := k3a _ 1 (by decide) k3
        refine ⟨by omega, fun h => ?_, fun h => ?_, fun h => ?_, fun h => ?_, fun h => ?_, fun h h2 => ?_, fun h h2 => ?_, fun h => ?_, fun h => ?_, fun h => ?_, fun h => ?_, fun b0 b1 b2 b9 b11 b12 b16 b17 b18 bj h => ?_, hpl⟩
        all_goals first | exact absurd h (by decide) | exact absurd (by decide) h | exact absurd (by decide) h2 | exact absurd rfl (by assumption) | exact absurd bj (by decide) | omega | (have h4 := hg (by decide); have h8 := h4.2; exact ⟨by omega, h4.1, by omega⟩)
      · exact absurd rfl h18
  · intro xe xr lo ke sk tq ya em hxe hJ hen
    obtain ⟨p, hp, e, hd2, h5⟩ := hJ
    subst e
    have et : tn (nI p) = p := tn_nI (by omega)
    obtain ⟨k, k1, k2, k3, k4, k5, k6, k7⟩ := C.2.2.2.2.2 p hp (by rw [hd2]; exact (nn_neg tq h5).1)
    have ek : k = tq := nn_eq (by omega) (by omega) (by rw [← k2, hd2])
    subst ek
    have ho := E.1 p hp
    have hk := i32_19 _ (Nat.lt_succ_of_lt ho.2)
    rw [← ho.1] at hk
    have next : ∀ q, q = k - tkN (f p) + gvN (f p) → ¬ g31_MO_goOver p f = 0 → ∀ lo sk, JO n d lo sk q (nI p + 1) := by
      intro q hq h31 lo sk
      obtain ⟨a1, a2⟩ := k5 h31
      exact ⟨p + 1, a1, by rw [← nI_add]; rfl, by rw [a2, hq], by omega⟩
    have jump : ∀ q, q = k - tkN (f p) + gvN (f p) → ¬ f_MO_jumps (f p) = 0 → ∀ lo sk, JO n d lo sk q (g (tn (nI p))) := by
      intro q hq hj lo sk
      obtain ⟨a1, a2⟩ := k6 hj
      have hgn := E.2.1 p hp (by rw [jumps_eq]; exact hj)
      rw [et]
      exact ⟨tn (g p), a1, hgn.1, by rw [a2, hq], by omega⟩
    have rais : ¬ f_CO_catcher hn fr to tg (nI p) = -1 → ∀ lo sk, JO n d lo sk 1 (f_CO_catcher hn fr to tg (nI p)) := by
      intro hc lo sk
      obtain ⟨q, a1, a2, a3, a4⟩ := cat_ex fr to tg (nI p) hn 0 hc
      have hq : q < hn := by omega
      rw [cov_eq (hr q hq)] at a3
      obtain ⟨b1, b2⟩ := k7 q hq a3
      have hb := (E.2.2.1 q hq).2.2
      rw [(hr q hq).2.2] at b1 b2
      exact ⟨tn (tg q), b1, by rw [← hb.1]; exact a4, b2, by decide⟩
    rcases hk with e | e | e | e | e | e | e | e | e | e | e | e | e | e | e | e | e | e | e
    · have e1 : f (tn (nI p)) = 0 := by rw [et]; exact e
      have k9 : 0 ≤ k := by rw [e] at k3; exact k3
      have q9 : k - tkN (f p) + gvN (f p) = k - 0 + 1 := by rw [e]; rfl
      rw [s_0 e1]
      exact next _ (by rw [q9]; (try dsimp only); omega) (by unfold g31_MO_goOver; rw [e]; decide) _ _
    · have e1 : f (tn (nI p)) = 1 := by rw [et]; exact e
      have k9 : 0 ≤ k := by rw [e] at k3; exact k3
      have q9 : k - tkN (f p) + gvN (f p) = k - 0 + 1 := by rw [e]; rfl
      rw [s_1 e1]
      exact next _ (by rw [q9]; (try dsimp only); omega) (by unfold g31_MO_goOver; rw [e]; decide) _ _
    · have e1 : f (tn (nI p)) = 2 := by rw [et]; exact e
      have k9 : 1 ≤ k := by rw [e] at k3; exact k3
      have q9 : k - tkN (f p) + gvN (f p) = k - 1 + 0 := by rw [e]; rfl
      rw [s_2 e1]
      exact next _ (by rw [q9]; (try dsimp only); omega) (by unfold g31_MO_goOver; rw [e]; decide) _ _
    · have e1 : f (tn (nI p)) = 3 := by rw [et]; exact e
      have k9 : 2 ≤ k := by rw [e] at k3; exact k3
      have q9 : k - tkN (f p) + gvN (f p) = k - 2 + 1 := by rw [e]; rfl
      rw [s_3 e1]
      exact next _ (by rw [q9]; (try dsimp only); omega) (by unfold g31_MO_goOver; rw [e]; decide) _ _
    · have e1 : f (tn (nI p)) = 4 := by rw [et]; exact e
      have k9 : 2 ≤ k := by rw [e] at k3; exact k3
      have q9 : k - tkN (f p) + gvN (f p) = k - 2 + 1 := by rw [e]; rfl
      rw [s_4 e1]
      exact next _ (by rw [q9]; (try dsimp only); omega) (by unfold g31_MO_goOver; rw [e]; decide) _ _
    · have e1 : f (tn (nI p)) = 5 := by rw [et]; exact e
      have k9 : 2 ≤ k := by rw [e] at k3; exact k3
      have q9 : k - tkN (f p) + gvN (f p) = k - 2 + 1 := by rw [e]; rfl
      rw [s_5 e1]
      exact next _ (by rw [q9]; (try dsimp only); omega) (by unfold g31_MO_goOver; rw [e]; decide) _ _
    · have e1 : f (tn (nI p)) = 6 := by rw [et]; exact e
      have k9 : 2 ≤ k := by rw [e] at k3; exact k3
      have q9 : k - tkN (f p) + gvN (f p) = k - 2 + 1 := by rw [e]; rfl
      rw [s_6 e1 (by omega) hr ht] at hen ⊢
      by_cases h0 : sk (k - 1) = 0
      · rw [if_pos h0] at hen ⊢
        by_cases h : f_CO_catcher hn fr to tg (nI p) = -1
        · rw [if_pos h] at hen; exact absurd (show (2 : Int32) = 0 from hen) (by decide)
        · rw [if_neg h]; exact rais h _ _
      · rw [if_neg h0]; exact next _ (by rw [q9]; (try dsimp only); omega) (by unfold g31_MO_goOver; rw [e]; decide) _ _
    · have e1 : f (tn (nI p)) = 7 := by rw [et]; exact e
      have k9 : 2 ≤ k := by rw [e] at k3; exact k3
      have q9 : k - tkN (f p) + gvN (f p) = k - 2 + 1 := by rw [e]; rfl
      rw [s_7 e1]
      exact next _ (by rw [q9]; (try dsimp only); omega) (by unfold g31_MO_goOver; rw [e]; decide) _ _
    · have e1 : f (tn (nI p)) = 8 := by rw [et]; exact e
      have k9 : 2 ≤ k := by rw [e] at k3; exact k3
      have q9 : k - tkN (f p) + gvN (f p) = k - 2 + 1 := by rw [e]; rfl
      rw [s_8 e1]
      exact next _ (by rw [q9]; (try dsimp only); omega) (by unfold g31_MO_goOver; rw [e]; decide) _ _
    · have e1 : f (tn (nI p)) = 9 := by rw [et]; exact e
      have k9 : 1 ≤ k := by rw [e] at k3; exact k3
      have q9 : k - tkN (f p) + gvN (f p) = k - 1 + 2 := by rw [e]; rfl
      rw [s_9 e1]
      exact next _ (by rw [q9]; (try dsimp only); omega) (by unfold g31_MO_goOver; rw [e]; decide) _ _
    · have e1 : f (tn (nI p)) = 10 := by rw [et]; exact e
      have k9 : 2 ≤ k := by rw [e] at k3; exact k3
      have q9 : k - tkN (f p) + gvN (f p) = k - 2 + 2 := by rw [e]; rfl
      rw [s_10 e1]
      exact next _ (by rw [q9]; (try dsimp only); omega) (by unfold g31_MO_goOver; rw [e]; decide) _ _
    · have e1 : f (tn (nI p)) = 11 := by rw [et]; exact e
      have k9 : 1 ≤ k := by rw [e] at k3; exact k3
      have q9 : k - tkN (f p) + gvN (f p) = k - 1 + 0 := by rw [e]; rfl
      rw [s_11 e1]
      exact next _ (by rw [q9]; (try dsimp only); omega) (by unfold g31_MO_goOver; rw [e]; decide) _ _
    · have e1 : f (tn (nI p)) = 12 := by rw [et]; exact e
      have k9 : 1 ≤ k := by rw [e] at k3; exact k3
      have q9 : k - tkN (f p) + gvN (f p) = k - 1 + 0 := by rw [e]; rfl
      rw [s_12 e1]
      exact next _ (by rw [q9]; (try dsimp only); omega) (by unfold g31_MO_goOver; rw [e]; decide) _ _
    · have e1 : f (tn (nI p)) = 13 := by rw [et]; exact e
      have k9 : 0 ≤ k := by rw [e] at k3; exact k3
      have q9 : k - tkN (f p) + gvN (f p) = k - 0 + 0 := by rw [e]; rfl
      rw [s_13 e1]
      exact jump _ (by rw [q9]; (try dsimp only); omega) (by rw [e]; decide) _ _
    · have e1 : f (tn (nI p)) = 14 := by rw [et]; exact e
      have k9 : 1 ≤ k := by rw [e] at k3; exact k3
      have q9 : k - tkN (f p) + gvN (f p) = k - 1 + 0 := by rw [e]; rfl
      rw [s_14 e1]
      by_cases h : sk (k - 1) = 0
      · simp only [if_pos h]; exact jump _ (by rw [q9]; (try dsimp only); omega) (by rw [e]; decide) _ _
      · simp only [if_neg h]; exact next _ (by rw [q9]; (try dsimp only); omega) (by unfold g31_MO_goOver; rw [e]; decide) _ _
    · have e1 : f (tn (nI p)) = 15 := by rw [et]; exact e
      have k9 : 1 ≤ k := by rw [e] at k3; exact k3
      have q9 : k - tkN (f p) + gvN (f p) = k - 1 + 0 := by rw [e]; rfl
      rw [s_15 e1]
      by_cases h : 0 ≤ sk (k - 1)
      · simp only [if_pos h]; exact next _ (by rw [q9]; (try dsimp only); omega) (by unfold g31_MO_goOver; rw [e]; decide) _ _
      · simp only [if_neg h]; exact jump _ (by rw [q9]; (try dsimp only); omega) (by rw [e]; decide) _ _
    · have e1 : f (tn (nI p)) = 16 := by rw [et]; exact e
      have k9 : 1 ≤ k := by rw [e] at k3; exact k3
      have q9 : k - tkN (f p) + gvN (f p) = k - 1 + 0 := by rw [e]; rfl
      rw [s_16 e1] at hen
      exact absurd (show (1 : Int32) = 0 from hen) (by decide)
    · have e1 : f (tn (nI p)) = 17 := by rw [et]; exact e
      have k9 : 1 ≤ k := by rw [e] at k3; exact k3
      have q9 : k - tkN (f p) + gvN (f p) = k - 1 + 0 := by rw [e]; rfl
      rw [s_17 e1 (by omega) hr ht] at hen ⊢
      by_cases h : f_CO_catcher hn fr to tg (nI p) = -1
      · rw [if_pos h] at hen; exact absurd (show (2 : Int32) = 0 from hen) (by decide)
      · rw [if_neg h]; exact rais h _ _
    · exact absurd (by have := ho.2; rw [e] at this; exact this : tn (18 : Int32) < 18) (by decide)
