-- what flatten asks of the blocks holds where the check passed
theorem ck_fall {n hn : Nat} {f g hd d : Nat → Int32} (C : CKd n hn f g hd d) : ∀ i, i < n → 0 ≤ d i → f_MO_jumps (f i) = 0 → f_MO_ends (f i) = 0 → i + 1 < n ∧ 0 ≤ d (i + 1) := by
  intro i hi h0 hj he
  obtain ⟨k, h1, h2, h3, h4, h5, h6, h7⟩ := C.2.2.2.2.2 i hi ((d4_lt C.2.2.1 i).2.mp h0)
  have h13 : ¬ f i = 13 := by
    intro e
    rw [e] at hj
    exact absurd hj (by decide)
  have := h5 (by unfold g31_MO_goOver; rw [if_neg h13, if_pos he]; decide)
  exact ⟨this.1, by rw [this.2]; exact (nn_neg _ h4).2.1⟩
theorem ck_L1 {n hn j : Nat} {f g hd d : Nat → Int32} (C : CKd n hn f g hd d) (hj : j < 32) (h : ¬ f_MO_isLeader n hn j f g hd d = 0) : j < n ∧ ¬ d j = -1 := by
  have h1 := (d4_lt C.2.2.1 j).2.mp (il_iff.mp h).1
  exact ⟨Nat.lt_of_not_le (fun h2 => h1 (C.2.2.2.2.1 j h2 hj)), h1⟩
theorem ck_LJ {n hn i : Nat} {f g hd d : Nat → Int32} (C : CKd n hn f g hd d) (hi : i < n) (hr : ¬ d i = -1) (hj : ¬ f_MO_jumps (f i) = 0) (hg : Nn g i 32) : tn (g i) < n ∧ ¬ f_MO_isLeader n hn (tn (g i)) f g hd d = 0 := by
  obtain ⟨k, h1, h2, h3, h4, h5, h6, h7⟩ := C.2.2.2.2.2 i hi hr
  have := h6 hj
  refine ⟨this.1, il_iff.mpr ⟨by rw [this.2]; exact (nn_neg _ h4).2.1, Or.inr (Or.inr (Or.inl ⟨i, hi, fun h => hr ((d4_lt C.2.2.1 i).1.mp h), hj, hg.1⟩))⟩⟩
theorem ck_LB {n hn i : Nat} {f g hd d : Nat → Int32} (C : CKd n hn f g hd d) (hi : i < n) (hr : ¬ d i = -1) (hb : f i = 14 ∨ f i = 15) : i + 1 < n ∧ ¬ f_MO_isLeader n hn (i + 1) f g hd d = 0 := by
  obtain ⟨k, h1, h2, h3, h4, h5, h6, h7⟩ := C.2.2.2.2.2 i hi hr
  have := h5 (by unfold g31_MO_goOver; rcases hb with e | e <;> rw [e] <;> decide)
  exact ⟨this.1, il_iff.mpr ⟨by rw [this.2]; exact (nn_neg _ h4).2.1, Or.inr (Or.inl ⟨by omega, by rw [Nat.add_sub_cancel]; exact fun h => hr ((d4_lt C.2.2.1 i).1.mp h), by rw [Nat.add_sub_cancel]; exact hb⟩)⟩⟩
theorem ck_LH {n hn i h : Nat} {f g hd d : Nat → Int32} (C : CKd n hn f g hd d) (hi : i < n) (hr : ¬ d i = -1) (hh : h < hn) (hin : ¬ f_MO_inRange hd h (nI i) = 0) (hg : Nn hd (3 * h + 2) 33) : tn (hd (3 * h + 2)) < n ∧ ¬ f_MO_isLeader n hn (tn (hd (3 * h + 2))) f g hd d = 0 := by
  obtain ⟨k, h1, h2, h3, h4, h5, h6, h7⟩ := C.2.2.2.2.2 i hi hr
  have := h7 h hh hin
  exact ⟨this.1, il_iff.mpr ⟨by rw [this.2]; exact (nn_neg _ (by decide)).2.1, Or.inr (Or.inr (Or.inr ⟨3 * h + 2, by omega, hg.1⟩))⟩⟩
theorem ck_IF {n hn i : Nat} {f g hd d : Nat → Int32} (C : CKd n hn f g hd d) (hi : i < n) (hr : ¬ d i = -1) (hb : f i = 14 ∨ f i = 15) : tn (d (i + 1)) ≤ 3 ∧ tn (d (tn (g i))) ≤ 3 := by
  obtain ⟨k, h1, h2, h3, h4, h5, h6, h7⟩ := C.2.2.2.2.2 i hi hr
  have e1 := h5 (by unfold g31_MO_goOver; rcases hb with e | e <;> rw [e] <;> decide)
  have e2 := h6 (by rcases hb with e | e <;> rw [e] <;> decide)
  have e3 : tkN (f i) = 1 ∧ gvN (f i) = 0 := by rcases hb with e | e <;> rw [e] <;> decide
  rw [e1.2, e2.2, tn_nI (by omega)]
  omega
def ebF (bc n : Nat) (le : Nat → Int32) (b : Nat) : Nat := if b + 1 < bc then tn (le (b + 1)) else n
theorem sm_le {G G2 : Nat → Nat} {c : Nat} (h : ∀ q, q < c → G q ≤ G2 q) : sm G c ≤ sm G2 c := by
  induction c with
  | zero => exact Nat.le_refl _
  | succ c ih => rw [sm, sm]; have := ih (fun q hq => h q (by omega)); have := h c (by omega); omega
section Blk
variable {n hn bc : Nat} {f g fr to tg hd d le he sa la : Nat → Int32}
theorem FD_le (C : CKd n hn f g hd d) (F : FD (fun i => f_MO_isLeader n hn i f g hd d) d 32 bc le he sa) {b : Nat} (hb : b < bc) : Nn le b n ∧ ¬ d (tn (le b)) = -1 ∧ he b = d (tn (le b)) := by
  obtain ⟨⟨h1, h2⟩, h3, h4⟩ := F.2.1 b hb
  have := ck_L1 C h2 h3
  exact ⟨⟨h1, this.1⟩, this.2, h4⟩
theorem FD_he (C : CKd n hn f g hd d) (F : FD (fun i => f_MO_isLeader n hn i f g hd d) d 32 bc le he sa) {b : Nat} (hb : b < bc) : Nn he b 5 := by
  obtain ⟨h1, h2, h3⟩ := FD_le C F hb
  unfold Nn
  rw [h3]
  rcases C.2.2.1 (tn (le b)) with e | ⟨k, hk, e⟩
  · exact absurd e h2
  · rw [e, tn_nI (by omega)]; exact ⟨rfl, hk⟩
theorem FD_1 (C : CKd n hn f g hd d) (F : FD (fun i => f_MO_isLeader n hn i f g hd d) d 32 bc le he sa) : 1 ≤ bc := by
  have h0 : ¬ f_MO_isLeader n hn 0 f g hd d = 0 := il_iff.mpr ⟨by rw [C.2.2.2.1]; decide, Or.inl rfl⟩
  have := (F.2.2.2.2 0 (by decide) h0).1.2
  omega
/-- a leader has a block -/
theorem FD_ex (F : FD (fun i => f_MO_isLeader n hn i f g hd d) d 32 bc le he sa) {j : Nat} (hj : j < 32) (h : ¬ f_MO_isLeader n hn j f g hd d = 0) : Nn sa j bc ∧ tn (le (tn (sa j))) = j ∧ le (tn (sa j)) = nI j ∧ he (tn (sa j)) = d j := by
  obtain ⟨h1, h2⟩ := F.2.2.2.2 j hj h
  obtain ⟨⟨h3, _⟩, _, h5⟩ := F.2.1 _ h1.2
  exact ⟨h1, h2, by rw [h3, h2], by rw [h5, h2]⟩
theorem FD_eb (C : CKd n hn f g hd d) (F : FD (fun i => f_MO_isLeader n hn i f g hd d) d 32 bc le he sa) {b : Nat} (hb : b < bc) : tn (le b) < ebF bc n le b ∧ ebF bc n le b ≤ n ∧ (ebF bc n le b < n → ¬ sa (ebF bc n le b) = -1) := by
  have hn32 := C.1
  unfold ebF
  by_cases h : b + 1 < bc
  · rw [if_pos h]
    have h1 := (FD_le C F h).1.2
    refine ⟨F.2.2.1 b (b + 1) (by omega) h, by omega, fun _ => ?_⟩
    have h2 := (F.2.2.2.2 (tn (le (b + 1))) (by omega) (F.2.1 _ h).2.1).1
    intro e
    have h3 : ¬ nI (tn (sa (tn (le (b + 1))))) = -1 := by
      intro h
      have h3 : (nI (tn (sa (tn (le (b + 1)))))).toInt = (-1 : Int32).toInt := by rw [h]
      rw [nI_toInt (by have := h2.2; have := F.1; omega)] at h3
      have h4 : (-1 : Int32).toInt = -1 := by decide
      omega
    rw [← h2.1] at h3
    exact h3 e
  · rw [if_neg h]
    exact ⟨(FD_le C F hb).1.2, Nat.le_refl _, fun h => absurd h (Nat.lt_irrefl _)⟩
theorem FD_sum (C : CKd n hn f g hd d) (F : FD (fun i => f_MO_isLeader n hn i f g hd d) d 32 bc le he sa) : sm (fun b => ebF bc n le b - tn (le b)) bc ≤ 32 := by
  have key : ∀ c, c ≤ bc → sm (fun b => ebF bc n le b - tn (le b)) c ≤ (if c < bc then tn (le c) else n) := by
    intro c
    induction c with
    | zero => intro _; exact Nat.zero_le _
    | succ c ih =>
      intro hc
      have h1 := ih (by omega)
      have h2 := (FD_eb C F (b := c) (by omega)).1
      rw [if_pos (by omega)] at h1
      rw [sm]
      have e : (if c + 1 < bc then tn (le (c + 1)) else n) = ebF bc n le c := rfl
      rw [e]
      omega
  have := key bc (Nat.le_refl _)
  rw [if_neg (Nat.lt_irrefl _)] at this
  have := C.1
  omega
theorem cov_eq {h : Nat} {x : Int32} (hr : hd (3 * h) = fr h ∧ hd (3 * h + 1) = to h ∧ hd (3 * h + 2) = tg h) : f_CO_covers h fr to x = f_MO_inRange hd h x := by
  unfold f_CO_covers f_MO_inRange
  rw [hr.1, hr.2.1]
theorem BK_of (C : CKd n hn f g hd d) (E : CDe n hn f g fr to tg hd) (F : FD (fun i => f_MO_isLeader n hn i f g hd d) d 32 bc le he sa) : BK n hn bc f g fr to tg le he sa (ebF bc n le) (fun i => i < n ∧ ¬ d i = -1) := by
  have h32 := C.1
  refine ⟨⟨FD_1 C F, F.1⟩, fun b hb => (FD_le C F hb).1, fun b hb => FD_he C F hb, fun b hb => ⟨(FD_le C F hb).1.2, (FD_le C F hb).2.1⟩, fun i hi hp hj he2 => ?_, fun i hi hs => ?_, fun i hi hp hj => ?_, fun b hb => FD_eb C F hb, FD_sum C F, fun h hh hex => ?_⟩
  · have := ck_fall C i hi ((d4_lt C.2.2.1 i).2.mpr hp.2) (by rw [← jumps_eq]; exact hj) he2
    exact ⟨this.1, (d4_lt C.2.2.1 (i + 1)).2.mp this.2⟩
  · by_cases h : f_MO_isLeader n hn i f g hd d = 0
    · exact absurd (F.2.2.2.1 i (by omega) h) hs
    · exact (FD_ex F (by omega) h).1
  · have hj2 : ¬ f_MO_jumps (f i) = 0 := by rw [← jumps_eq]; exact hj
    have hg := E.2.1 i hi hj
    have h1 := ck_LJ C hi hp.2 hj2 hg
    have e1 := FD_ex F hg.2 h1.2
    refine ⟨fun hb => ?_, hg, e1.1⟩
    have hb2 := jm_br.mp hb
    have h2 := ck_LB C hi hp.2 hb2
    have e2 := FD_ex F (j := i + 1) (by omega) h2.2
    have h3 := ck_IF C hi hp.2 hb2
    exact ⟨⟨by omega, e2.1⟩, by rw [e2.2.2.2]; exact h3.1, by rw [e1.2.2.2]; exact h3.2⟩
  · obtain ⟨b, hb, hcov⟩ := hex
    obtain ⟨l1, l2, l3⟩ := FD_le C F hb
    have hr := E.2.2.2.1 h hh
    have hb3 := (E.2.2.1 h hh).2.2
    rw [cov_eq hr, l1.1] at hcov
    have hg : Nn hd (3 * h + 2) 33 := by unfold Nn; rw [hr.2.2]; exact hb3
    have h1 := ck_LH C l1.2 l2 hh hcov hg
    rw [hr.2.2] at h1
    exact ⟨⟨hb3.1, by omega⟩, (FD_ex F (by omega) h1.2).1⟩
theorem ba_eq (le : Nat → Int32) (v : Int32) : ∀ (kf b : Nat), (∃ j, b ≤ j ∧ j ≤ b + kf ∧ le j = v) → le (lp_MO_blockAt le v kf b) = v := by
  intro kf
  induction kf with
  | zero => intro b h; rw [lp_MO_blockAt]; exact ba_zero h
  | succ kf ih =>
    intro b h
    rw [lp_MO_blockAt]
    by_cases e : le b = v
    · rw [if_pos e]; exact e
    · rw [if_neg e]; exact ih _ (ba_succ h e)
theorem cvr_iff (h : Nat) (hd le : Nat → Int32) : ∀ (kf q : Nat) (t : Int32), ¬ lp_MO_covers h hd le kf q t = 0 ↔ (¬ t = 0 ∨ ∃ b, q ≤ b ∧ b < q + kf ∧ ¬ f_MO_inRange hd h (le b) = 0) := by
  intro kf
  induction kf with
  | zero => intro q t; exact ⟨fun h => Or.inl h, fun h => by rcases h with h | ⟨k, h1, h2, _⟩; exact h; omega⟩
  | succ kf ih =>
    intro q t
    have skip : ∀ t2 : Int32, (¬ t2 = 0 ↔ (¬ t = 0 ∨ ¬ f_MO_inRange hd h (le q) = 0)) → (¬ lp_MO_covers h hd le kf (q + 1) t2 = 0 ↔ (¬ t = 0 ∨ ∃ b, q ≤ b ∧ b < q + (kf + 1) ∧ ¬ f_MO_inRange hd h (le b) = 0)) := by
      intro t2 ht
      rw [ih, ht]
      constructor
      · rintro ((h | h) | ⟨k, h1, h2, h3⟩)
        · exact Or.inl h
        · exact Or.inr ⟨q, Nat.le_refl _, by omega, h⟩
        · exact Or.inr ⟨k, by omega, by omega, h3⟩
      · rintro (h | ⟨k, h1, h2, h3⟩)
        · exact Or.inl (Or.inl h)
        · by_cases e : k = q
          · subst e; exact Or.inl (Or.inr h3)
          · exact Or.inr ⟨k, by omega, by omega, h3⟩
    rw [lp_MO_covers]
    by_cases h1 : t = 0
    · rw [if_pos h1]
      by_cases h2 : f_MO_inRange hd h (le q) = 0
      · rw [if_pos h2]; exact skip 0 ⟨fun h => absurd rfl h, fun h => by rcases h with h | h; exact absurd h1 h; exact absurd h2 h⟩
      · rw [if_neg h2]; exact skip 1 ⟨fun _ => Or.inr h2, fun _ => by decide⟩
    · rw [if_neg h1]; exact skip 1 ⟨fun _ => Or.inl h1, fun _ => by decide⟩
theorem BR_of (C : CKd n hn f g hd d) (E : CDe n hn f g fr to tg hd) (F : FD (fun i => f_MO_isLeader n hn i f g hd d) d 32 bc le he sa) (A : ∀ b, b < bc → la b = nI (lq_MO_cut n hn f g hd d (n - 1 - tn (le b)) (tn (le b)))) : BR n hn bc f g hd le la he := by
  have h32 := C.1
  have h1c := FD_1 C F
  have hq : ∀ b, b < bc → la b = nI (tn (la b)) ∧ tn (le b) ≤ tn (la b) ∧ tn (la b) < n ∧ ¬ d (tn (la b)) = -1 ∧ tn (la b) + 1 ≤ ebF bc n le b ∧ (¬ f_MO_jumps (f (tn (la b))) = 0 ∨ ¬ f_MO_ends (f (tn (la b))) = 0 ∨ ¬ f_MO_isLeader n hn (tn (la b) + 1) f g hd d = 0) := by
    intro b hb
    obtain ⟨l1, l2, l3⟩ := FD_le C F hb
    have hlt := l1.2
    obtain ⟨a1, a2, a3, a4, a5⟩ := lq_ok (hn := hn) (g := g) (hd := hd) (ck_fall C) (n - 1 - tn (le b)) (tn (le b)) (by omega) ((d4_lt C.2.2.1 _).2.mpr l2)
    have e := A b hb
    have et : tn (la b) = lq_MO_cut n hn f g hd d (n - 1 - tn (le b)) (tn (le b)) := by rw [e, tn_nI (by omega)]
    rw [← et] at a1 a2 a3 a4 a5 e
    refine ⟨e, a1, a2, (d4_lt C.2.2.1 _).2.mp a3, ?_, a5⟩
    unfold ebF
    by_cases hb2 : b + 1 < bc
    · rw [if_pos hb2]
      apply Nat.lt_of_not_le
      intro hge
      have hm := F.2.2.1 b (b + 1) (by omega) hb2
      have := (a4 (tn (le (b + 1)) - 1) (by omega) (by omega)).2.2
      rw [show tn (le (b + 1)) - 1 + 1 = tn (le (b + 1)) by omega] at this
      exact (F.2.1 _ hb2).2.1 this
    · rw [if_neg hb2]; omega
  have hJ : ∀ b, b < bc → ¬ f_MO_jumps (f (tn (la b))) = 0 → Nn sa (tn (g (tn (la b)))) bc ∧ le (tn (sa (tn (g (tn (la b)))))) = g (tn (la b)) ∧ he (tn (sa (tn (g (tn (la b)))))) = d (tn (g (tn (la b)))) := by
    intro b hb hj
    obtain ⟨q1, q2, q3, q4, q5, q6⟩ := hq b hb
    have hg := E.2.1 _ q3 (by rw [jumps_eq]; exact hj)
    have h1 := ck_LJ C q3 q4 hj hg
    have e1 := FD_ex F hg.2 h1.2
    exact ⟨e1.1, by rw [e1.2.2.1, ← hg.1], e1.2.2.2⟩
  have hN : ∀ b, b < bc → f_MO_ends (f (tn (la b))) = 0 → ¬ f (tn (la b)) = 13 → ¬ f_MO_isLeader n hn (tn (la b) + 1) f g hd d = 0 ∧ tn (la b) + 1 < 32 := by
    intro b hb he2 h13
    obtain ⟨q1, q2, q3, q4, q5, q6⟩ := hq b hb
    have hb2 : f (tn (la b)) = 14 ∨ f (tn (la b)) = 15 → ¬ f_MO_isLeader n hn (tn (la b) + 1) f g hd d = 0 ∧ tn (la b) + 1 < 32 := fun h => ⟨(ck_LB C q3 q4 h).2, by have := (ck_LB C q3 q4 h).1; omega⟩
    by_cases hj : f_MO_jumps (f (tn (la b))) = 0
    · have hf := (ck_fall C _ q3 ((d4_lt C.2.2.1 _).2.mpr q4) hj he2).1
      rcases q6 with h | h | h
      · exact absurd hj h
      · exact absurd he2 h
      · exact ⟨h, by omega⟩
    · apply hb2
      unfold f_MO_jumps at hj
      rw [if_neg h13] at hj
      by_cases h14 : f (tn (la b)) = 14
      · exact Or.inl h14
      · rw [if_neg h14] at hj
        by_cases h15 : f (tn (la b)) = 15
        · exact Or.inr h15
        · rw [if_neg h15] at hj; exact absurd rfl hj
  have hdh : ∀ v, (∃ j, 0 ≤ j ∧ j ≤ 0 + (bc - 1) ∧ le j = v) → he (f_MO_blockAt bc le v) = d (tn v) := by
    intro v hex
    have e1 : le (f_MO_blockAt bc le v) = v := ba_eq le v (bc - 1) 0 hex
    have e2 := (F.2.1 (f_MO_blockAt bc le v) (ba_lt h1c le v)).2.2
    rw [e2, e1]
  have exJ : ∀ b, b < bc → ¬ f_MO_jumps (f (tn (la b))) = 0 → ∃ j, 0 ≤ j ∧ j ≤ 0 + (bc - 1) ∧ le j = g (tn (la b)) := fun b hb hj => ⟨_, Nat.zero_le _, by have := (hJ b hb hj).1.2; omega, (hJ b hb hj).2.1⟩
  have exN : ∀ b, b < bc → f_MO_ends (f (tn (la b))) = 0 → ¬ f (tn (la b)) = 13 → ∃ j, 0 ≤ j ∧ j ≤ 0 + (bc - 1) ∧ le j = nI (tn (la b) + 1) := fun b hb he2 h13 => by
    obtain ⟨h1, h2⟩ := hN b hb he2 h13
    have e1 := FD_ex F h2 h1
    exact ⟨_, Nat.zero_le _, by have := e1.1.2; omega, e1.2.2.1⟩
  refine ⟨⟨h1c, F.1⟩, fun b hb => ⟨(FD_le C F hb).1.1, by have := (FD_le C F hb).1.2; omega⟩, fun b hb => ⟨(hq b hb).1, by have := (hq b hb).2.2.1; omega⟩, fun b hb => (hq b hb).2.1, fun b hb => FD_he C F hb, exJ, exN, fun b hb hj h13 => ?_, ?_, fun h hh hcv => ?_⟩
  · obtain ⟨q1, q2, q3, q4, q5, q6⟩ := hq b hb
    have hb2 : f (tn (la b)) = 14 ∨ f (tn (la b)) = 15 := by
      unfold f_MO_jumps at hj
      rw [if_neg h13] at hj
      by_cases h14 : f (tn (la b)) = 14
      · exact Or.inl h14
      · rw [if_neg h14] at hj
        by_cases h15 : f (tn (la b)) = 15
        · exact Or.inr h15
        · rw [if_neg h15] at hj; exact absurd rfl hj
    have he2 : f_MO_ends (f (tn (la b))) = 0 := by rcases hb2 with e | e <;> rw [e] <;> decide
    have h3 := ck_IF C q3 q4 hb2
    rw [hdh _ (exN b hb he2 h13), hdh _ (exJ b hb hj), tn_nI (by omega)]
    exact h3
  · refine Nat.le_trans (sm_le (G2 := fun b => ebF bc n le b - tn (le b)) (fun b hb => ?_)) (FD_sum C F)
    have := hq b hb
    show tn (la b) - tn (le b) + 1 ≤ ebF bc n le b - tn (le b)
    omega
  · unfold f_MO_covers at hcv
    rcases (cvr_iff h hd le bc 0 0).mp hcv with h0 | ⟨b, _, hb, hin⟩
    · exact absurd rfl h0
    · obtain ⟨l1, l2, l3⟩ := FD_le C F (b := b) (by omega)
      have hr := E.2.2.2.1 h hh
      have hb3 := (E.2.2.1 h hh).2.2
      rw [l1.1] at hin
      have hg : Nn hd (3 * h + 2) 33 := by unfold Nn; rw [hr.2.2]; exact hb3
      have h1 := ck_LH C l1.2 l2 hh hin hg
      have e1 := FD_ex F (j := tn (hd (3 * h + 2))) (by omega) h1.2
      exact ⟨tn (sa (tn (hd (3 * h + 2)))), Nat.zero_le _, by have := e1.1.2; omega, by rw [e1.2.2.1, ← hg.1]⟩
end Blk
