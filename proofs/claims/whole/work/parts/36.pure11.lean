-- the check as a whole; class and reference check alike
theorem fill_at : ∀ (kf i : Nat) (d o : Nat → Int32) (j : Nat), (lp_MO_fill kf i d o).1 j = (if i ≤ j ∧ j < i + kf then -1 else d j) ∧ (lp_MO_fill kf i d o).2 j = (if i ≤ j ∧ j < i + kf then 0 else o j) := by
  intro kf
  induction kf with
  | zero => intro i d o j; rw [if_neg (by omega), if_neg (by omega)]; exact ⟨rfl, rfl⟩
  | succ kf ih =>
    intro i d o j
    rw [lp_MO_fill, (ih (i + 1) _ _ j).1, (ih (i + 1) _ _ j).2]
    by_cases e : j = i
    · subst e
      rw [if_neg (by omega), if_pos (by omega), if_neg (by omega), if_pos (by omega), pk_us, pk_us]
      exact ⟨rfl, rfl⟩
    · by_cases h : i + 1 ≤ j ∧ j < i + 1 + kf
      · rw [if_pos h, if_pos (by omega), if_pos h, if_pos (by omega)]; exact ⟨rfl, rfl⟩
      · rw [if_neg h, if_neg (by omega), if_neg h, if_neg (by omega), pk_un e, pk_un e]; exact ⟨rfl, rfl⟩
theorem D4_start {d ov : Nat → Int32} (hD : D4 d) : D4 (upd (lp_MO_fill 32 0 d ov).1 0 0) := by
  apply D4_upd (a := 0) _ (by decide)
  intro j
  rw [(fill_at 32 0 d ov j).1]
  split
  · exact Or.inl rfl
  · exact hD j
theorem ck_ok {n hn : Nat} {f g hd d ov : Nat → Int32} (h32 : n ≤ 32) (ho : ∀ i, i < n → Ok18 (f i)) (hD : D4 d) : D4 (f_MO_check n hn f g hd d ov).2.1 ∧ ((f_MO_check n hn f g hd d ov).1 = 0 → 0 < n ∧ (f_MO_check n hn f g hd d ov).2.1 0 = nI 0 ∧ (∀ j, n ≤ j → j < 32 → (f_MO_check n hn f g hd d ov).2.1 j = -1) ∧ ∀ i, i < n → ¬ (f_MO_check n hn f g hd d ov).2.1 i = -1 → Gd n hn f g hd (f_MO_check n hn f g hd d ov).2.1 i) := by
  unfold f_MO_check
  by_cases h0 : 0 < n
  · rw [if_pos h0]
    obtain ⟨a1, a2, a3, a4⟩ := ck_all (n := n) (hn := hn) (f := f) (g := g) (hd := hd) h32 ho 32 _ (upd (lp_MO_fill 32 0 d ov).1 0 0) (lp_MO_fill 32 0 d ov).2 rfl (Nat.le_trans (rem_le _ _) h32) (D4_start hD) (fun i hi h => by
      rw [(fill_at 32 0 d ov i).2, if_pos (by omega)] at h
      exact absurd rfl h)
    refine ⟨a1, fun h => ⟨h0, ?_, fun j hj hj2 => ?_, a4 h⟩⟩
    · rw [a2 0 (by rw [pk_us]; decide), pk_us]; rfl
    · rw [a3 j hj, pk_un (by omega), (fill_at 32 0 d ov j).1, if_pos (by omega)]
  · rw [if_neg h0]
    exact ⟨hD, fun h => absurd (show (-1 : Int32) = 0 from h) (by decide)⟩
theorem fw_eq {n hn : Nat} {f g fr to tg hd : Nat → Int32} (h32 : n ≤ 32) (ho : ∀ i, i < n → Ok18 (f i)) (hr : ∀ h, h < hn → hd (3 * h) = fr h ∧ hd (3 * h + 1) = to h ∧ hd (3 * h + 2) = tg h) : ∀ (kf r : Nat) (d ov : Nat → Int32), D4 d → (lp_CH_firstWrong n hn f g fr to tg kf r d ov).2 = (lp_MO_check n hn f g hd kf (f_MO_nextOver n d ov) d ov).2 ∧ 1 + (lp_CH_firstWrong n hn f g fr to tg kf r d ov).1 = (lp_MO_check n hn f g hd kf (f_MO_nextOver n d ov) d ov).1 := by
  intro kf
  induction kf with
  | zero => intro r d ov hD; exact ⟨rfl, show (1 : Int32) + -1 = 0 by decide⟩
  | succ kf ih =>
    intro r d ov hD
    rw [lp_CH_firstWrong, lp_MO_check]
    rcases ll_eq_nx (ov := ov) (D4_Dg hD) n 0 with ⟨e1, e2⟩ | ⟨e1, e2⟩
    · have e3 : f_CH_leastLeft n d ov = -1 := e2
      have e4 : n ≤ f_MO_nextOver n d ov := by unfold f_MO_nextOver; omega
      rw [if_pos e3, if_pos e4]; exact ⟨rfl, show (1 : Int32) + -1 = 0 by decide⟩
    · have e1 : f_MO_nextOver n d ov < n := by unfold f_MO_nextOver; omega
      have e3 : f_CH_leastLeft n d ov = nI (f_MO_nextOver n d ov) := e2
      generalize f_MO_nextOver n d ov = j at e1 e3 ⊢
      have e4 : ¬ nI j = -1 := by
        intro h
        have h3 : (nI j).toInt = (-1 : Int32).toInt := by rw [h]
        rw [nI_toInt (by omega)] at h3
        have h4 : (-1 : Int32).toInt = -1 := by decide
        omega
      rw [e3, if_neg e4, tn_nI (by omega), if_neg (by omega : ¬ n ≤ j)]
      obtain ⟨g1, g2⟩ := goes_eq (n := n) (hn := hn) (i := j) (f := f) (g := g) (ov := ov) (ho j e1) (D4_Dg hD) (fun h1 h2 => by
        obtain ⟨k, hk, ek, htk, ha5, ea⟩ := aft hD (ho j e1) h1 h2
        rw [ea]; exact (nn_neg _ ha5).2.1) hr
      have hD2 := (go_all (n := n) (hn := hn) (i := j) (f := f) (g := g) (hd := hd) (ov := ov) hD (ho j e1)).1
      rw [g1] at hD2 ⊢
      by_cases h2 : (f_CH_goesOver n hn j f g fr to tg d).1 = 0
      · rw [if_pos h2, if_pos h2]
        refine ⟨rfl, ?_⟩
        show (1 : Int32) + nI j = nI (1 + j)
        rw [← nI_add]; rfl
      · rw [if_neg h2, if_neg h2]
        exact ih (r + 1) _ _ hD2
theorem fw_ck {n hn : Nat} {f g fr to tg hd d ov : Nat → Int32} (h32 : n ≤ 32) (h0 : 0 < n) (ho : ∀ i, i < n → Ok18 (f i)) (hr : ∀ h, h < hn → hd (3 * h) = fr h ∧ hd (3 * h + 1) = to h ∧ hd (3 * h + 2) = tg h) (hD : D4 d) : (f_CH_firstWrong n hn f g fr to tg d ov).2 = (f_MO_check n hn f g hd d ov).2 ∧ 1 + (f_CH_firstWrong n hn f g fr to tg d ov).1 = (f_MO_check n hn f g hd d ov).1 := by
  unfold f_CH_firstWrong f_MO_check f_CH_forget
  rw [if_pos h0, fill_eq]
  exact fw_eq h32 ho hr 32 0 _ _ (D4_start hD)
theorem check_eq {n hn : Nat} {f g fr to tg hd d ov : Nat → Int32} (h32 : n ≤ 32) (ho : ∀ i, i < n → Ok18 (f i)) (hr : ∀ h, h < hn → hd (3 * h) = fr h ∧ hd (3 * h + 1) = to h ∧ hd (3 * h + 2) = tg h) (hD : D4 d) : f_FF_check n hn f g fr to tg d ov = f_MO_check n hn f g hd d ov := by
  by_cases h0 : 0 < n
  · obtain ⟨e1, e2⟩ := fw_ck (g := g) (ov := ov) h32 h0 ho hr hD
    unfold f_FF_check
    rw [if_pos h0, e2, e1]
  · unfold f_FF_check f_MO_check
    rw [if_neg h0, if_neg h0]
theorem fine_eq {n hn : Nat} {f g fr to tg hd d ov : Nat → Int32} (h32 : n ≤ 32) (ho : ∀ i, i < n → Ok18 (f i)) (hr : ∀ h, h < hn → hd (3 * h) = fr h ∧ hd (3 * h + 1) = to h ∧ hd (3 * h + 2) = tg h) (hD : D4 d) : (f_FF_originalIsFine n hn f g fr to tg d ov).2 = (f_MO_check n hn f g hd d ov).2 ∧ ((f_FF_originalIsFine n hn f g fr to tg d ov).1 = 0 ↔ ¬ (f_MO_check n hn f g hd d ov).1 = 0) := by
  by_cases h0 : 0 < n
  · obtain ⟨e1, e2⟩ := fw_ck (g := g) (ov := ov) h32 h0 ho hr hD
    unfold f_FF_originalIsFine
    rw [if_neg (by omega), ← e2, ← e1]
    by_cases h : (f_CH_firstWrong n hn f g fr to tg d ov).1 = -1
    · rw [if_pos h, h]; exact ⟨rfl, show (1 : Int32) = 0 ↔ ¬ (1 : Int32) + -1 = 0 by decide⟩
    · rw [if_neg h]
      refine ⟨rfl, fun _ h2 => h ?_, fun _ => rfl⟩
      have h3 : (-1 : Int32) + (1 + (f_CH_firstWrong n hn f g fr to tg d ov).1) = -1 + 0 := by rw [h2]
      rw [← Int32.add_assoc, show (-1 : Int32) + 1 = 0 by decide, Int32.zero_add, Int32.add_zero] at h3
      exact h3
  · have e : n = 0 := by omega
    unfold f_FF_originalIsFine f_MO_check
    rw [if_pos e, if_neg h0]
    exact ⟨rfl, show (0 : Int32) = 0 ↔ ¬ (-1 : Int32) = 0 by decide⟩
theorem depth_eq {n hn : Nat} {f g fr to tg hd d ov : Nat → Int32} (h32 : n ≤ 32) (ho : ∀ i, i < n → Ok18 (f i)) (hr : ∀ h, h < hn → hd (3 * h) = fr h ∧ hd (3 * h + 1) = to h ∧ hd (3 * h + 2) = tg h) (hD : D4 d) (v : Int32) : f_FF_depth n hn f g fr to tg d ov v = f_MO_depth n hn f g hd d ov v := by
  unfold f_FF_depth f_MO_depth f_CO_hasI
  by_cases h1 : v < 0
  · rw [if_pos h1, if_pos rfl, if_pos h1]
  · rw [if_neg h1, if_neg h1]
    by_cases h2 : nI n ≤ v
    · have h3 : ¬ v < nI n := by rw [Int32.lt_iff_toInt_lt]; rw [Int32.le_iff_toInt_le] at h2; omega
      rw [if_pos h2, if_pos rfl, if_neg h3]
    · have h3 : v < nI n := by rw [Int32.lt_iff_toInt_lt]; rw [Int32.le_iff_toInt_le] at h2; omega
      have h0 : 0 < n := by
        apply Nat.pos_of_ne_zero
        intro e
        subst e
        exact h1 h3
      rw [if_neg h2, if_neg (by decide), if_pos h3]
      obtain ⟨e1, e2⟩ := fw_ck (g := g) (ov := ov) h32 h0 ho hr hD
      rw [e1]
      unfold f_CH_reached
      by_cases h4 : (f_MO_check n hn f g hd d ov).2.1 (tn v) = -1
      · rw [if_pos h4, if_pos rfl, h4]
      · rw [if_neg h4, if_neg (by decide)]
