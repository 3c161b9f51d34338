-- leaders: the class's marks and the reference's question are the same
theorem jm_br {o : Int32} : ¬ f_FF_branches o = 0 ↔ (o = 14 ∨ o = 15) := by
  unfold f_FF_branches
  by_cases h1 : o = 14
  · rw [if_pos h1]; exact ⟨fun _ => Or.inl h1, fun _ => by decide⟩
  · rw [if_neg h1]
    by_cases h2 : o = 15
    · rw [if_pos h2]; exact ⟨fun _ => Or.inr h2, fun _ => by decide⟩
    · rw [if_neg h2]; exact ⟨fun h => absurd rfl h, fun h => by rcases h with h | h <;> contradiction⟩
theorem re_iff {i : Nat} {d : Nat → Int32} : f_CH_reached i d = 0 ↔ d i = -1 := by
  unfold f_CH_reached
  by_cases h : d i = -1
  · rw [if_pos h]; exact ⟨fun _ => h, fun _ => rfl⟩
  · rw [if_neg h]; exact ⟨fun h2 => absurd h2 (by decide), fun h2 => absurd h2 h⟩
theorem mk1_at : ∀ (kf i : Nat) (mk : Nat → Int32) (j : Nat), (lp1_BL_mark kf i mk) j = (if i ≤ j ∧ j < i + kf then (if j = 0 then 1 else 0) else mk j) := by
  intro kf
  induction kf with
  | zero => intro i mk j; rw [if_neg (by omega)]; rfl
  | succ kf ih =>
    intro i mk j
    have key : ∀ v : Int32, (v = if i = 0 then 1 else 0) → (lp1_BL_mark kf (i + 1) (upd mk i v)) j = (if i ≤ j ∧ j < i + (kf + 1) then (if j = 0 then 1 else 0) else mk j) := by
      intro v hv
      rw [ih]
      by_cases e : j = i
      · subst e; rw [if_neg (by omega), if_pos (by omega), pk_us, hv]
      · by_cases h : i + 1 ≤ j ∧ j < i + 1 + kf
        · rw [if_pos h, if_pos (show i ≤ j ∧ j < i + (kf + 1) by omega)]
        · rw [if_neg h, if_neg (show ¬ (i ≤ j ∧ j < i + (kf + 1)) by omega), pk_un e]
    rw [lp1_BL_mark]
    by_cases h : 0 < i
    · rw [if_pos h]; exact key 0 (by rw [if_neg (by omega)])
    · rw [if_neg h]; exact key 1 (by rw [if_pos (by omega)])
theorem u1_iff {mk : Nat → Int32} {a j : Nat} : ¬ upd mk a 1 j = 0 ↔ (¬ mk j = 0 ∨ a = j) := by
  by_cases e : j = a
  · subst e; rw [pk_us]; exact ⟨fun _ => Or.inr rfl, fun _ => by decide⟩
  · rw [pk_un e]; exact ⟨fun h => Or.inl h, fun h => by rcases h with h | h; exact h; exact absurd h.symm e⟩
theorem mk2_iff (f g d : Nat → Int32) : ∀ (kf i : Nat) (mk : Nat → Int32) (j : Nat), ¬ (lp2_BL_mark f g d kf i mk) j = 0 ↔ (¬ mk j = 0 ∨ ∃ k, i ≤ k ∧ k < i + kf ∧ ¬ d k = -1 ∧ ((¬ f_FF_jumps (f k) = 0 ∧ tn (g k) = j) ∨ (¬ f_FF_branches (f k) = 0 ∧ k + 1 = j))) := by
  intro kf
  induction kf with
  | zero => intro i mk j; exact ⟨fun h => Or.inl h, fun h => by rcases h with h | ⟨k, h1, h2, _⟩; exact h; omega⟩
  | succ kf ih =>
    intro i mk j
    have key : ∀ mk' : Nat → Int32, (¬ mk' j = 0 ↔ (¬ mk j = 0 ∨ (¬ d i = -1 ∧ ((¬ f_FF_jumps (f i) = 0 ∧ tn (g i) = j) ∨ (¬ f_FF_branches (f i) = 0 ∧ i + 1 = j))))) → (¬ (lp2_BL_mark f g d kf (i + 1) mk') j = 0 ↔ (¬ mk j = 0 ∨ ∃ k, i ≤ k ∧ k < i + (kf + 1) ∧ ¬ d k = -1 ∧ ((¬ f_FF_jumps (f k) = 0 ∧ tn (g k) = j) ∨ (¬ f_FF_branches (f k) = 0 ∧ k + 1 = j)))) := by
      intro mk' hm
      rw [ih, hm]
      constructor
      · rintro ((h | h) | ⟨k, h1, h2, h3⟩)
        · exact Or.inl h
        · exact Or.inr ⟨i, Nat.le_refl _, by omega, h⟩
        · exact Or.inr ⟨k, by omega, by omega, h3⟩
      · rintro (h | ⟨k, h1, h2, h3⟩)
        · exact Or.inl (Or.inl h)
        · by_cases e : k = i
          · subst e; exact Or.inl (Or.inr h3)
          · exact Or.inr ⟨k, by omega, by omega, h3⟩
    rw [lp2_BL_mark]
    by_cases h1 : f_CH_reached i d = 0
    · rw [if_pos h1, if_pos h1]
      have h1' := re_iff.mp h1
      exact key mk ⟨fun h => Or.inl h, fun h => by rcases h with h | h; exact h; exact absurd h1' h.1⟩
    · have h1' : ¬ d i = -1 := fun h => h1 (re_iff.mpr h)
      rw [if_neg h1]
      by_cases h2 : f_FF_jumps (f i) = 0
      · rw [if_pos h2, if_neg h1]
        by_cases h3 : f_FF_branches (f i) = 0
        · rw [if_pos h3]
          refine key mk ⟨fun h => Or.inl h, fun h => ?_⟩
          rcases h with h | ⟨_, ⟨h, _⟩ | ⟨h, _⟩⟩
          · exact h
          · exact absurd h2 h
          · exact absurd h3 h
        · rw [if_neg h3]
          refine key _ ?_
          rw [u1_iff]
          refine ⟨fun h => ?_, fun h => ?_⟩
          · rcases h with h | h
            · exact Or.inl h
            · exact Or.inr ⟨h1', Or.inr ⟨h3, h⟩⟩
          · rcases h with h | ⟨_, ⟨h, _⟩ | ⟨_, h⟩⟩
            · exact Or.inl h
            · exact absurd h2 h
            · exact Or.inr h
      · rw [if_neg h2, if_neg h1]
        by_cases h3 : f_FF_branches (f i) = 0
        · rw [if_pos h3]
          refine key _ ?_
          rw [u1_iff]
          refine ⟨fun h => ?_, fun h => ?_⟩
          · rcases h with h | h
            · exact Or.inl h
            · exact Or.inr ⟨h1', Or.inl ⟨h2, h⟩⟩
          · rcases h with h | ⟨_, ⟨_, h⟩ | ⟨h, _⟩⟩
            · exact Or.inl h
            · exact Or.inr h
            · exact absurd h3 h
        · rw [if_neg h3]
          refine key _ ?_
          rw [u1_iff, u1_iff]
          refine ⟨fun h => ?_, fun h => ?_⟩
          · rcases h with (h | h) | h
            · exact Or.inl h
            · exact Or.inr ⟨h1', Or.inl ⟨h2, h⟩⟩
            · exact Or.inr ⟨h1', Or.inr ⟨h3, h⟩⟩
          · rcases h with h | ⟨_, ⟨_, h⟩ | ⟨_, h⟩⟩
            · exact Or.inl (Or.inl h)
            · exact Or.inl (Or.inr h)
            · exact Or.inr h
theorem mk3_iff (fr to tg : Nat → Int32) : ∀ (kf i : Nat) (mk : Nat → Int32) (j : Nat), ¬ (lp3_BL_mark fr to tg kf i mk) j = 0 ↔ (¬ mk j = 0 ∨ ∃ k, i ≤ k ∧ k < i + kf ∧ (tn (fr k) = j ∨ tn (to k) = j ∨ tn (tg k) = j)) := by
  intro kf
  induction kf with
  | zero => intro i mk j; exact ⟨fun h => Or.inl h, fun h => by rcases h with h | ⟨k, h1, h2, _⟩; exact h; omega⟩
  | succ kf ih =>
    intro i mk j
    rw [lp3_BL_mark, ih, u1_iff, u1_iff, u1_iff]
    constructor
    · rintro ((((h | h) | h) | h) | ⟨k, h1, h2, h3⟩)
      · exact Or.inl h
      · exact Or.inr ⟨i, Nat.le_refl _, by omega, Or.inl h⟩
      · exact Or.inr ⟨i, Nat.le_refl _, by omega, Or.inr (Or.inl h)⟩
      · exact Or.inr ⟨i, Nat.le_refl _, by omega, Or.inr (Or.inr h)⟩
      · exact Or.inr ⟨k, by omega, by omega, h3⟩
    · rintro (h | ⟨k, h1, h2, h3⟩)
      · exact Or.inl (Or.inl (Or.inl (Or.inl h)))
      · by_cases e : k = i
        · subst e
          rcases h3 with h | h | h
          · exact Or.inl (Or.inl (Or.inl (Or.inr h)))
          · exact Or.inl (Or.inl (Or.inr h))
          · exact Or.inl (Or.inr h)
        · exact Or.inr ⟨k, by omega, by omega, h3⟩
theorem mk_iff {n hn : Nat} {mk f g fr to tg d : Nat → Int32} {j : Nat} (hj : j < 33) : ¬ (f_BL_mark n hn mk f g fr to tg d) j = 0 ↔ (j = 0 ∨ (∃ k, k < n ∧ ¬ d k = -1 ∧ ((¬ f_FF_jumps (f k) = 0 ∧ tn (g k) = j) ∨ (¬ f_FF_branches (f k) = 0 ∧ k + 1 = j))) ∨ ∃ k, k < hn ∧ (tn (fr k) = j ∨ tn (to k) = j ∨ tn (tg k) = j)) := by
  unfold f_BL_mark
  rw [mk3_iff, mk2_iff, mk1_at, if_pos (by omega)]
  have e0 : (¬ (if j = 0 then (1 : Int32) else 0) = 0) ↔ j = 0 := by
    by_cases h : j = 0
    · rw [if_pos h]; exact ⟨fun _ => h, fun _ => by decide⟩
    · rw [if_neg h]; exact ⟨fun h2 => absurd rfl h2, fun h2 => absurd h2 h⟩
  rw [e0]
  constructor
  · rintro ((h | ⟨k, _, h2, h3⟩) | ⟨k, _, h2, h3⟩)
    · exact Or.inl h
    · exact Or.inr (Or.inl ⟨k, by omega, h3⟩)
    · exact Or.inr (Or.inr ⟨k, by omega, h3⟩)
  · rintro (h | ⟨k, h2, h3⟩ | ⟨k, h2, h3⟩)
    · exact Or.inl (Or.inl h)
    · exact Or.inl (Or.inr ⟨k, by omega, by omega, h3⟩)
    · exact Or.inr ⟨k, by omega, by omega, h3⟩
theorem il1_iff (i : Nat) (f g d : Nat → Int32) : ∀ (kf q : Nat) (t : Int32), ¬ lp1_MO_isLeader i f g d kf q t = 0 ↔ (¬ t = 0 ∨ ∃ k, q ≤ k ∧ k < q + kf ∧ ¬ d k < 0 ∧ ¬ f_MO_jumps (f k) = 0 ∧ g k = nI i) := by
  intro kf
  induction kf with
  | zero => intro q t; exact ⟨fun h => Or.inl h, fun h => by rcases h with h | ⟨k, h1, h2, _⟩; exact h; omega⟩
  | succ kf ih =>
    intro q t
    rw [lp1_MO_isLeader]
    have skip : ∀ t2 : Int32, (¬ t2 = 0 ↔ (¬ t = 0 ∨ (¬ d q < 0 ∧ ¬ f_MO_jumps (f q) = 0 ∧ g q = nI i))) → (¬ lp1_MO_isLeader i f g d kf (q + 1) t2 = 0 ↔ (¬ t = 0 ∨ ∃ k, q ≤ k ∧ k < q + (kf + 1) ∧ ¬ d k < 0 ∧ ¬ f_MO_jumps (f k) = 0 ∧ g k = nI i)) := by
      intro t2 ht
      rw [ih, ht]
      constructor
      · rintro ((h | h) | ⟨k, h1, h2, h3⟩)
        · exact Or.inl h
        · exact Or.inr ⟨q, Nat.le_refl _, by omega, h⟩
        · exact Or.inr ⟨k, by omega, by omega, h3⟩
      · rintro (h | ⟨k, h1, h2, h3⟩)
        · exact Or.inl (Or.inl h)
        · by_cases e : k = q
          · subst e; exact Or.inl (Or.inr h3)
          · exact Or.inr ⟨k, by omega, by omega, h3⟩
    by_cases h1 : t = 0
    · rw [if_pos h1]
      by_cases h2 : d q < 0
      · rw [if_pos h2]; exact skip 0 ⟨fun h => absurd rfl h, fun h => by rcases h with h | h; exact absurd h1 h; exact absurd h2 h.1⟩
      · rw [if_neg h2]
        by_cases h3 : f_MO_jumps (f q) = 0
        · rw [if_pos h3]; exact skip 0 ⟨fun h => absurd rfl h, fun h => by rcases h with h | h; exact absurd h1 h; exact absurd h3 h.2.1⟩
        · rw [if_neg h3]
          by_cases h4 : g q = nI i
          · rw [if_pos h4]; exact skip 1 ⟨fun _ => Or.inr ⟨h2, h3, h4⟩, fun _ => by decide⟩
          · rw [if_neg h4]; exact skip 0 ⟨fun h => absurd rfl h, fun h => by rcases h with h | h; exact absurd h1 h; exact absurd h.2.2 h4⟩
    · rw [if_neg h1]; exact skip 1 ⟨fun _ => Or.inl h1, fun _ => by decide⟩
theorem il2_iff (i : Nat) (hd : Nat → Int32) : ∀ (kf q : Nat) (t : Int32), ¬ lp2_MO_isLeader i hd kf q t = 0 ↔ (¬ t = 0 ∨ ∃ k, q ≤ k ∧ k < q + kf ∧ hd k = nI i) := by
  intro kf
  induction kf with
  | zero => intro q t; exact ⟨fun h => Or.inl h, fun h => by rcases h with h | ⟨k, h1, h2, _⟩; exact h; omega⟩
  | succ kf ih =>
    intro q t
    rw [lp2_MO_isLeader]
    have skip : ∀ t2 : Int32, (¬ t2 = 0 ↔ (¬ t = 0 ∨ hd q = nI i)) → (¬ lp2_MO_isLeader i hd kf (q + 1) t2 = 0 ↔ (¬ t = 0 ∨ ∃ k, q ≤ k ∧ k < q + (kf + 1) ∧ hd k = nI i)) := by
      intro t2 ht
      rw [ih, ht]
      constructor
      · rintro ((h | h) | ⟨k, h1, h2, h3⟩)
        · exact Or.inl h
        · exact Or.inr ⟨q, Nat.le_refl _, by omega, h⟩
        · exact Or.inr ⟨k, by omega, by omega, h3⟩
      · rintro (h | ⟨k, h1, h2, h3⟩)
        · exact Or.inl (Or.inl h)
        · by_cases e : k = q
          · subst e; exact Or.inl (Or.inr h3)
          · exact Or.inr ⟨k, by omega, by omega, h3⟩
    by_cases h1 : t = 0
    · rw [if_pos h1]
      by_cases h4 : hd q = nI i
      · rw [if_pos h4]; exact skip 1 ⟨fun _ => Or.inr h4, fun _ => by decide⟩
      · rw [if_neg h4]; exact skip 0 ⟨fun h => absurd rfl h, fun h => by rcases h with h | h; exact absurd h1 h; exact absurd h h4⟩
    · rw [if_neg h1]; exact skip 1 ⟨fun _ => Or.inl h1, fun _ => by decide⟩
theorem il0_iff {i : Nat} {f d : Nat → Int32} : ¬ g11_MO_isLeader i f d = 0 ↔ (i = 0 ∨ (¬ i = 0 ∧ ¬ d (i - 1) < 0 ∧ (f (i - 1) = 14 ∨ f (i - 1) = 15))) := by
  unfold g11_MO_isLeader
  by_cases h0 : i = 0
  · rw [if_pos h0]; exact ⟨fun _ => Or.inl h0, fun _ => by decide⟩
  · rw [if_neg h0]
    by_cases h1 : d (i - 1) < 0
    · rw [if_pos h1]; exact ⟨fun h => absurd rfl h, fun h => by rcases h with h | h; exact absurd h h0; exact absurd h1 h.2.1⟩
    · rw [if_neg h1]
      by_cases h2 : f (i - 1) = 14
      · rw [if_pos h2]; exact ⟨fun _ => Or.inr ⟨h0, h1, Or.inl h2⟩, fun _ => by decide⟩
      · rw [if_neg h2]
        by_cases h3 : f (i - 1) = 15
        · rw [if_pos h3]; exact ⟨fun _ => Or.inr ⟨h0, h1, Or.inr h3⟩, fun _ => by decide⟩
        · rw [if_neg h3]; exact ⟨fun h => absurd rfl h, fun h => by rcases h with h | ⟨_, _, h | h⟩; exact absurd h h0; exact absurd h h2; exact absurd h h3⟩
theorem il_iff {n hn i : Nat} {f g hd d : Nat → Int32} : ¬ f_MO_isLeader n hn i f g hd d = 0 ↔ (0 ≤ d i ∧ (i = 0 ∨ (¬ i = 0 ∧ ¬ d (i - 1) < 0 ∧ (f (i - 1) = 14 ∨ f (i - 1) = 15)) ∨ (∃ k, k < n ∧ ¬ d k < 0 ∧ ¬ f_MO_jumps (f k) = 0 ∧ g k = nI i) ∨ ∃ k, k < 3 * hn ∧ hd k = nI i)) := by
  unfold f_MO_isLeader
  by_cases h : 0 ≤ d i
  · rw [if_pos h, il2_iff, il1_iff, il0_iff]
    constructor
    · rintro (((h2 | h2) | ⟨k, _, h3, h4⟩) | ⟨k, _, h3, h4⟩)
      · exact ⟨h, Or.inl h2⟩
      · exact ⟨h, Or.inr (Or.inl h2)⟩
      · exact ⟨h, Or.inr (Or.inr (Or.inl ⟨k, by omega, h4⟩))⟩
      · exact ⟨h, Or.inr (Or.inr (Or.inr ⟨k, by omega, h4⟩))⟩
    · rintro ⟨_, h2 | h2 | ⟨k, h3, h4⟩ | ⟨k, h3, h4⟩⟩
      · exact Or.inl (Or.inl (Or.inl h2))
      · exact Or.inl (Or.inl (Or.inr h2))
      · exact Or.inl (Or.inr ⟨k, by omega, by omega, h4⟩)
      · exact Or.inr ⟨k, by omega, by omega, h4⟩
  · rw [if_neg h]; exact ⟨fun h2 => absurd rfl h2, fun h2 => absurd h2.1 h⟩
theorem d4_lt {d : Nat → Int32} (hD : D4 d) (i : Nat) : (d i < 0 ↔ d i = -1) ∧ (0 ≤ d i ↔ ¬ d i = -1) := by
  rcases hD i with e | ⟨k, hk, e⟩
  · rw [e]; exact ⟨by decide, by decide⟩
  · rw [e]
    obtain ⟨h1, h2, h3⟩ := nn_neg k hk
    exact ⟨⟨fun h => absurd h h3, fun h => absurd h h1⟩, ⟨fun _ => h1, fun _ => h2⟩⟩
theorem nn_iff {f : Nat → Int32} {k w i : Nat} (h : Nn f k w) (hi : i < 2 ^ 31) (hw : w < 2 ^ 31) : f k = nI i ↔ tn (f k) = i := by
  constructor
  · intro e; rw [e, tn_nI hi]
  · intro e; rw [h.1, e]
theorem lead_iff {n hn i : Nat} {mk f g fr to tg hd d : Nat → Int32} (h32 : n ≤ 32) (hD : D4 d) (hend : ∀ j, n ≤ j → j < 32 → d j = -1) (hi : i < 32) (hj : ∀ i, i < n → ¬ f_FF_jumps (f i) = 0 → Nn g i 32) (hbr : ∀ h, h < hn → Nn fr h 33 ∧ Nn to h 33 ∧ Nn tg h 33) (hr : ∀ h, h < hn → hd (3 * h) = fr h ∧ hd (3 * h + 1) = to h ∧ hd (3 * h + 2) = tg h) : (¬ (f_BL_mark n hn mk f g fr to tg d) i = 0 ∧ ¬ f_CH_reached i d = 0) ↔ ¬ f_MO_isLeader n hn i f g hd d = 0 := by
  rw [mk_iff (by omega), il_iff, re_iff, (d4_lt hD i).2]
  constructor
  · rintro ⟨h | ⟨k, h1, h2, ⟨h3, h4⟩ | ⟨h3, h4⟩⟩ | ⟨k, h1, h2⟩, hre⟩
    · exact ⟨hre, Or.inl h⟩
    · exact ⟨hre, Or.inr (Or.inr (Or.inl ⟨k, h1, fun h => h2 ((d4_lt hD k).1.mp h), by rw [← jumps_eq]; exact h3, (nn_iff (hj k h1 h3) (by omega) (by decide)).mpr h4⟩))⟩
    · refine ⟨hre, Or.inr (Or.inl ⟨by omega, ?_, ?_⟩)⟩
      · rw [show i - 1 = k by omega]; exact fun h => h2 ((d4_lt hD k).1.mp h)
      · rw [show i - 1 = k by omega]; exact jm_br.mp h3
    · obtain ⟨b1, b2, b3⟩ := hbr k h1
      obtain ⟨r1, r2, r3⟩ := hr k h1
      refine ⟨hre, Or.inr (Or.inr (Or.inr ?_))⟩
      rcases h2 with h | h | h
      · exact ⟨3 * k, by omega, by rw [r1]; exact (nn_iff b1 (by omega) (by decide)).mpr h⟩
      · exact ⟨3 * k + 1, by omega, by rw [r2]; exact (nn_iff b2 (by omega) (by decide)).mpr h⟩
      · exact ⟨3 * k + 2, by omega, by rw [r3]; exact (nn_iff b3 (by omega) (by decide)).mpr h⟩
  · rintro ⟨hre, h | ⟨h1, h2, h3⟩ | ⟨k, h1, h2, h3, h4⟩ | ⟨k, h1, h2⟩⟩
    · exact ⟨Or.inl h, hre⟩
    · refine ⟨Or.inr (Or.inl ⟨i - 1, ?_, ?_, Or.inr ⟨jm_br.mpr h3, by omega⟩⟩), hre⟩
      · apply Nat.lt_of_not_le
        intro h
        exact hre (hend i (by omega) hi)
      · exact fun h => h2 ((d4_lt hD (i - 1)).1.mpr h)
    · have h3' : ¬ f_FF_jumps (f k) = 0 := by rw [jumps_eq]; exact h3
      exact ⟨Or.inr (Or.inl ⟨k, h1, fun h => h2 ((d4_lt hD k).1.mpr h), Or.inl ⟨h3', (nn_iff (hj k h1 h3') (by omega) (by decide)).mp h4⟩⟩), hre⟩
    · refine ⟨Or.inr (Or.inr ⟨k / 3, by omega, ?_⟩), hre⟩
      obtain ⟨b1, b2, b3⟩ := hbr (k / 3) (by omega)
      obtain ⟨r1, r2, r3⟩ := hr (k / 3) (by omega)
      have hk : k = 3 * (k / 3) ∨ k = 3 * (k / 3) + 1 ∨ k = 3 * (k / 3) + 2 := by omega
      rcases hk with e | e | e
      · left; rw [e, r1] at h2; exact (nn_iff b1 (by omega) (by decide)).mp h2
      · right; left; rw [e, r2] at h2; exact (nn_iff b2 (by omega) (by decide)).mp h2
      · right; right; rw [e, r3] at h2; exact (nn_iff b3 (by omega) (by decide)).mp h2
