-- the check: depths of 0 to 4; what holds at every instruction that is gone over; class and reference check alike
def D4 (d : Nat → Int32) : Prop := ∀ i, d i = -1 ∨ ∃ k, k < 5 ∧ d i = nI k
def tkN (o : Int32) : Nat := tn (f_MO_takes o)
def gvN (o : Int32) : Nat := tn (f_MO_gives o)
theorem aft_all : ∀ k, k < 5 → ∀ o, o < 18 → ¬ nI k < f_MO_takes (nI o) → ¬ 4 < nI k - f_MO_takes (nI o) + f_MO_gives (nI o) → tkN (nI o) ≤ k ∧ k - tkN (nI o) + gvN (nI o) < 5 ∧ nI k - f_MO_takes (nI o) + f_MO_gives (nI o) = nI (k - tkN (nI o) + gvN (nI o)) := by decide +kernel
theorem aft_neg : ∀ o, o < 18 → (-1 : Int32) < f_MO_takes (nI o) := by decide +kernel
theorem nn_neg : ∀ k, k < 5 → ¬ nI k = (-1) ∧ (0 : Int32) ≤ nI k ∧ ¬ nI k < 0 := by decide +kernel
theorem nn_eq {j k : Nat} (hj : j < 2 ^ 31) (hk : k < 2 ^ 31) (h : nI j = nI k) : j = k := (nI_eq hj hk).mp h
theorem D4_Dg {d : Nat → Int32} (h : D4 d) : Dg d := by
  intro i
  rcases h i with h1 | ⟨k, hk, e⟩
  · exact Or.inl h1
  · right; rw [e]; exact (nn_neg k hk).2.1
theorem aft {d : Nat → Int32} {i : Nat} {o : Int32} (hD : D4 d) (ho : Ok18 o) (h1 : ¬ d i < f_MO_takes o) (h2 : ¬ 4 < d i - f_MO_takes o + f_MO_gives o) : ∃ k, k < 5 ∧ d i = nI k ∧ tkN o ≤ k ∧ k - tkN o + gvN o < 5 ∧ d i - f_MO_takes o + f_MO_gives o = nI (k - tkN o + gvN o) := by
  rcases hD i with e | ⟨k, hk, e⟩
  · rw [e] at h1
    have := aft_neg (tn o) ho.2
    rw [← ho.1] at this
    exact absurd this h1
  · rw [e] at h1 h2 ⊢
    have := aft_all k hk (tn o) ho.2
    rw [← ho.1] at this
    exact ⟨k, hk, rfl, this h1 h2⟩
def Ext (d d2 : Nat → Int32) : Prop := ∀ i, ¬ d i = -1 → d2 i = d i
theorem Ext.rf {d : Nat → Int32} : Ext d d := fun _ _ => rfl
theorem Ext.tr {d d2 d3 : Nat → Int32} (h : Ext d d2) (h2 : Ext d2 d3) : Ext d d3 := fun i hi => by rw [h2 i (by rw [h i hi]; exact hi), h i hi]
theorem D4_upd {d : Nat → Int32} {i a : Nat} (h : D4 d) (ha : a < 5) : D4 (upd d i (nI a)) := by
  intro j
  by_cases e : j = i
  · subst e; rw [pk_us]; exact Or.inr ⟨a, ha, rfl⟩
  · rw [pk_un e]; exact h j
theorem rc_all {n i a : Nat} {d : Nat → Int32} (h : D4 d) (ha : a < 5) : D4 (f_MO_reach n i d (nI a)).2 ∧ Ext d (f_MO_reach n i d (nI a)).2 ∧ (¬ (f_MO_reach n i d (nI a)).1 = 0 → i < n ∧ (f_MO_reach n i d (nI a)).2 i = nI a) ∧ (∀ j, n ≤ j → (f_MO_reach n i d (nI a)).2 j = d j) := by
  unfold f_MO_reach
  by_cases h1 : n ≤ i
  · rw [if_pos h1]; exact ⟨h, Ext.rf, fun h9 => absurd rfl h9, fun _ _ => rfl⟩
  · rw [if_neg h1]
    have hu : D4 (upd d i (nI a)) := D4_upd h ha
    have hj : ∀ j, n ≤ j → (upd d i (nI a)) j = d j := fun j hj => pk_un (by omega)
    by_cases h2 : d i < 0
    · rw [if_pos h2]
      refine ⟨hu, fun j hj9 => ?_, fun _ => ⟨by omega, pk_us⟩, hj⟩
      by_cases e : j = i
      · subst e
        rcases h j with e2 | ⟨k, hk, e2⟩
        · exact absurd e2 hj9
        · rw [e2] at h2; exact absurd h2 (nn_neg k hk).2.2
      · exact pk_un e
    · rw [if_neg h2]
      by_cases h3 : d i = nI a
      · rw [if_pos h3]
        refine ⟨hu, fun j hj => ?_, fun _ => ⟨by omega, pk_us⟩, hj⟩
        by_cases e : j = i
        · subst e; show upd d j (nI a) j = d j; rw [pk_us, h3]
        · exact pk_un e
      · rw [if_neg h3]; exact ⟨h, Ext.rf, fun h9 => absurd rfl h9, fun _ _ => rfl⟩
-- what is right at an instruction
def Gd (n hn : Nat) (f g hd d : Nat → Int32) (i : Nat) : Prop := ∃ k, k < 5 ∧ d i = nI k ∧ tkN (f i) ≤ k ∧ k - tkN (f i) + gvN (f i) < 5 ∧
  (¬ g31_MO_goOver i f = 0 → i + 1 < n ∧ d (i + 1) = nI (k - tkN (f i) + gvN (f i))) ∧ (¬ f_MO_jumps (f i) = 0 → tn (g i) < n ∧ d (tn (g i)) = nI (k - tkN (f i) + gvN (f i))) ∧
  (∀ h, h < hn → ¬ f_MO_inRange hd h (nI i) = 0 → tn (hd (3 * h + 2)) < n ∧ d (tn (hd (3 * h + 2))) = nI 1)
theorem Gd.ext {n hn : Nat} {f g hd d d2 : Nat → Int32} {i : Nat} (h : Gd n hn f g hd d i) (he : Ext d d2) : Gd n hn f g hd d2 i := by
  obtain ⟨k, h1, h2, h3, h4, h5, h6, h7⟩ := h
  have hx : ∀ j a, a < 5 → d j = nI a → d2 j = nI a := fun j a ha e => by rw [he j (by rw [e]; exact (nn_neg a ha).1), e]
  exact ⟨k, h1, hx _ _ h1 h2, h3, h4, fun h => ⟨(h5 h).1, hx _ _ h4 (h5 h).2⟩, fun h => ⟨(h6 h).1, hx _ _ h4 (h6 h).2⟩, fun q hq h => ⟨(h7 q hq h).1, hx _ _ (by decide) (h7 q hq h).2⟩⟩
theorem lg_all (n i : Nat) (hd : Nat → Int32) : ∀ (kf h : Nat) (b : Int32) (d : Nat → Int32), D4 d → D4 (lp_MO_goOver n i hd kf h b d).2 ∧ Ext d (lp_MO_goOver n i hd kf h b d).2 ∧ (¬ (lp_MO_goOver n i hd kf h b d).1 = 0 → ¬ b = 0 ∧ ∀ q, h ≤ q → q < h + kf → ¬ f_MO_inRange hd q (nI i) = 0 → tn (hd (3 * q + 2)) < n ∧ (lp_MO_goOver n i hd kf h b d).2 (tn (hd (3 * q + 2))) = nI 1) ∧ (∀ j, n ≤ j → (lp_MO_goOver n i hd kf h b d).2 j = d j) := by
  intro kf
  induction kf with
  | zero => intro h b d hD; exact ⟨hD, Ext.rf, fun h9 => ⟨h9, fun q h1 h2 => by omega⟩, fun _ _ => rfl⟩
  | succ kf ih =>
    intro h b d hD
    rw [lp_MO_goOver]
    by_cases h1 : f_MO_inRange hd h (nI i) = 0
    · rw [if_pos h1]
      obtain ⟨a1, a2, a3, a4⟩ := ih (h + 1) b d hD
      refine ⟨a1, a2, fun h9 => ⟨(a3 h9).1, fun q hq hq2 hq3 => ?_⟩, a4⟩
      by_cases e : q = h
      · subst e; exact absurd h1 hq3
      · exact (a3 h9).2 q (by omega) (by omega) hq3
    · rw [if_neg h1]
      obtain ⟨r1, r2, r3, r4⟩ := rc_all (n := n) (i := tn (hd (3 * h + 2))) (a := 1) hD (by decide)
      have e1 : (1 : Int32) = nI 1 := by decide
      rw [e1]
      have go : ∀ b2 : Int32, (¬ b2 = 0 → ¬ b = 0 ∧ ¬ (f_MO_reach n (tn (hd (3 * h + 2))) d (nI 1)).1 = 0) → D4 (lp_MO_goOver n i hd kf (h + 1) b2 (f_MO_reach n (tn (hd (3 * h + 2))) d (nI 1)).2).2 ∧ Ext d (lp_MO_goOver n i hd kf (h + 1) b2 (f_MO_reach n (tn (hd (3 * h + 2))) d (nI 1)).2).2 ∧ (¬ (lp_MO_goOver n i hd kf (h + 1) b2 (f_MO_reach n (tn (hd (3 * h + 2))) d (nI 1)).2).1 = 0 → ¬ b = 0 ∧ ∀ q, h ≤ q → q < h + (kf + 1) → ¬ f_MO_inRange hd q (nI i) = 0 → tn (hd (3 * q + 2)) < n ∧ (lp_MO_goOver n i hd kf (h + 1) b2 (f_MO_reach n (tn (hd (3 * h + 2))) d (nI 1)).2).2 (tn (hd (3 * q + 2))) = nI 1) ∧ (∀ j, n ≤ j → (lp_MO_goOver n i hd kf (h + 1) b2 (f_MO_reach n (tn (hd (3 * h + 2))) d (nI 1)).2).2 j = d j) := by
        intro b2 hb2
        obtain ⟨a1, a2, a3, a4⟩ := ih (h + 1) b2 _ r1
        refine ⟨a1, r2.tr a2, fun h9 => ?_, fun j hj => by rw [a4 j hj, r4 j hj]⟩
        obtain ⟨c1, c2⟩ := a3 h9
        obtain ⟨c3, c4⟩ := hb2 c1
        refine ⟨c3, fun q hq hq2 hq3 => ?_⟩
        by_cases e : q = h
        · subst e
          obtain ⟨x1, x2⟩ := r3 c4
          exact ⟨x1, by rw [a2 _ (by rw [x2]; decide), x2]⟩
        · exact c2 q (by omega) (by omega) hq3
      by_cases h2 : (f_MO_reach n (tn (hd (3 * h + 2))) d (nI 1)).1 = 0
      · rw [if_pos h2]; exact go 0 (fun h => absurd rfl h)
      · rw [if_neg h2]
        by_cases h3 : b = 0
        · rw [if_pos h3]; exact go 0 (fun h => absurd rfl h)
        · rw [if_neg h3]; exact go (nI 1) (fun _ => ⟨h3, h2⟩)
theorem go_all {n hn i : Nat} {f g hd d ov : Nat → Int32} (hD : D4 d) (ho : Ok18 (f i)) : D4 (f_MO_goOver n hn i f g hd d ov).2.1 ∧ Ext d (f_MO_goOver n hn i f g hd d ov).2.1 ∧ (¬ (f_MO_goOver n hn i f g hd d ov).1 = 0 → Gd n hn f g hd (f_MO_goOver n hn i f g hd d ov).2.1 i) ∧ (∀ j, n ≤ j → (f_MO_goOver n hn i f g hd d ov).2.1 j = d j) := by
  have bad : D4 d ∧ Ext d d ∧ (¬ (0 : Int32) = 0 → Gd n hn f g hd d i) ∧ (∀ j, n ≤ j → d j = d j) := ⟨hD, Ext.rf, fun h => absurd rfl h, fun _ _ => rfl⟩
  unfold f_MO_goOver
  by_cases h1 : d i < f_MO_takes (f i)
  · rw [if_pos h1]; exact bad
  · rw [if_neg h1]
    by_cases h2 : 4 < d i - f_MO_takes (f i) + f_MO_gives (f i)
    · rw [if_pos h2]; exact bad
    · rw [if_neg h2]
      obtain ⟨k, hk, ek, htk, ha5, ea⟩ := aft hD ho h1 h2
      -- the first two
      have e109 : D4 (g109_MO_goOver n i f d).2 ∧ Ext d (g109_MO_goOver n i f d).2 ∧ (¬ (g109_MO_goOver n i f d).1 = 0 → ¬ g31_MO_goOver i f = 0 → i + 1 < n ∧ (g109_MO_goOver n i f d).2 (i + 1) = nI (k - tkN (f i) + gvN (f i))) ∧ (∀ j, n ≤ j → (g109_MO_goOver n i f d).2 j = d j) := by
        unfold g109_MO_goOver
        rw [ea]
        by_cases h3 : g31_MO_goOver i f = 0
        · rw [if_pos h3]; exact ⟨hD, Ext.rf, fun _ h9 => absurd h3 h9, fun _ _ => rfl⟩
        · rw [if_neg h3]
          obtain ⟨r1, r2, r3, r4⟩ := rc_all (n := n) (i := i + 1) hD ha5
          exact ⟨r1, r2, fun h9 _ => r3 h9, r4⟩
      have e124 : D4 (g124_MO_goOver n i f g d).2 ∧ Ext d (g124_MO_goOver n i f g d).2 ∧ (¬ (g124_MO_goOver n i f g d).1 = 0 → (¬ g31_MO_goOver i f = 0 → i + 1 < n ∧ (g124_MO_goOver n i f g d).2 (i + 1) = nI (k - tkN (f i) + gvN (f i))) ∧ (¬ f_MO_jumps (f i) = 0 → tn (g i) < n ∧ (g124_MO_goOver n i f g d).2 (tn (g i)) = nI (k - tkN (f i) + gvN (f i)))) ∧ (∀ j, n ≤ j → (g124_MO_goOver n i f g d).2 j = d j) := by
        obtain ⟨b1, b2, b3, b4⟩ := e109
        unfold g124_MO_goOver
        rw [ea]
        by_cases h3 : f_MO_jumps (f i) = 0
        · rw [if_pos h3]
          exact ⟨b1, b2, fun h9 => ⟨b3 h9, fun h8 => absurd h3 h8⟩, b4⟩
        · rw [if_neg h3]
          obtain ⟨r1, r2, r3, r4⟩ := rc_all (n := n) (i := tn (g i)) b1 ha5
          have r5 : ∀ j, n ≤ j → (f_MO_reach n (tn (g i)) (g109_MO_goOver n i f d).2 (nI (k - tkN (f i) + gvN (f i)))).2 j = d j := fun j hj => by rw [r4 j hj, b4 j hj]
          by_cases h4 : (f_MO_reach n (tn (g i)) (g109_MO_goOver n i f d).2 (nI (k - tkN (f i) + gvN (f i)))).1 = 0
          · rw [if_pos h4]; exact ⟨r1, b2.tr r2, fun h => absurd rfl h, r5⟩
          · rw [if_neg h4]
            by_cases h5 : (g109_MO_goOver n i f d).1 = 0
            · rw [if_pos h5]; exact ⟨r1, b2.tr r2, fun h => absurd rfl h, r5⟩
            · rw [if_neg h5]
              refine ⟨r1, b2.tr r2, fun _ => ⟨fun h9 => ?_, fun _ => r3 h4⟩, r5⟩
              obtain ⟨x1, x2⟩ := b3 h5 h9
              exact ⟨x1, by show (f_MO_reach n (tn (g i)) (g109_MO_goOver n i f d).2 (nI (k - tkN (f i) + gvN (f i)))).2 (i + 1) = _; rw [r2 _ (by rw [x2]; exact (nn_neg _ ha5).1), x2]⟩
      have e106 : D4 (g106_MO_goOver n hn i f g hd d ov).2.1 ∧ Ext d (g106_MO_goOver n hn i f g hd d ov).2.1 ∧ (¬ (g106_MO_goOver n hn i f g hd d ov).1 = 0 → Gd n hn f g hd (g106_MO_goOver n hn i f g hd d ov).2.1 i) ∧ (∀ j, n ≤ j → (g106_MO_goOver n hn i f g hd d ov).2.1 j = d j) := by
        obtain ⟨b1, b2, b3, b4⟩ := e124
        obtain ⟨c1, c2, c3, c4⟩ := lg_all n i hd hn 0 (g124_MO_goOver n i f g d).1 _ b1
        unfold g106_MO_goOver
        refine ⟨c1, b2.tr c2, fun h9 => ?_, fun j hj => (c4 j hj).trans (b4 j hj)⟩
        obtain ⟨x1, x2⟩ := c3 h9
        obtain ⟨y1, y2⟩ := b3 x1
        have he := b2.tr c2
        refine ⟨k, hk, ?_, htk, ha5, fun h => ?_, fun h => ?_, fun q hq h => x2 q (by omega) (by omega) h⟩
        · show (lp_MO_goOver n i hd hn 0 (g124_MO_goOver n i f g d).1 (g124_MO_goOver n i f g d).2).2 i = nI k
          rw [he i (by rw [ek]; exact (nn_neg k hk).1), ek]
        · obtain ⟨z1, z2⟩ := y1 h
          exact ⟨z1, by show (lp_MO_goOver n i hd hn 0 (g124_MO_goOver n i f g d).1 (g124_MO_goOver n i f g d).2).2 (i + 1) = _; rw [c2 _ (by rw [z2]; exact (nn_neg _ ha5).1), z2]⟩
        · obtain ⟨z1, z2⟩ := y2 h
          exact ⟨z1, by show (lp_MO_goOver n i hd hn 0 (g124_MO_goOver n i f g d).1 (g124_MO_goOver n i f g d).2).2 (tn (g i)) = _; rw [c2 _ (by rw [z2]; exact (nn_neg _ ha5).1), z2]⟩
      repeat' apply ite_P (P := fun (r : Int32 × (Nat → Int32) × (Nat → Int32)) => D4 r.2.1 ∧ Ext d r.2.1 ∧ (¬ r.1 = 0 → Gd n hn f g hd r.2.1 i) ∧ (∀ j, n ≤ j → r.2.1 j = d j))
      all_goals first | exact e106 | exact bad
theorem nx_all (d ov : Nat → Int32) {n : Nat} : ∀ (kf i : Nat), i + kf = n → n ≤ lp_MO_nextOver d ov kf i → ∀ j, i ≤ j → j < n → d j < 0 ∨ ¬ ov j = 0 := by
  intro kf
  induction kf with
  | zero => intro i h h2 j h3 h4; omega
  | succ kf ih =>
    intro i h h2 j h3 h4
    rw [lp_MO_nextOver] at h2
    by_cases h5 : d i < 0
    · rw [if_pos h5] at h2
      by_cases e : j = i
      · subst e; exact Or.inl h5
      · exact ih (i + 1) (by omega) h2 j (by omega) h4
    · rw [if_neg h5] at h2
      by_cases h6 : ov i = 0
      · rw [if_pos h6] at h2; omega
      · rw [if_neg h6] at h2
        by_cases e : j = i
        · subst e; exact Or.inr h6
        · exact ih (i + 1) (by omega) h2 j (by omega) h4
theorem ck_all {n hn : Nat} {f g hd : Nat → Int32} (h32 : n ≤ 32) (ho : ∀ i, i < n → Ok18 (f i)) : ∀ (kf j : Nat) (d ov : Nat → Int32), j = f_MO_nextOver n d ov → rem n ov ≤ kf → D4 d → (∀ i, i < n → ¬ ov i = 0 → Gd n hn f g hd d i) →
    D4 (lp_MO_check n hn f g hd kf j d ov).2.1 ∧ Ext d (lp_MO_check n hn f g hd kf j d ov).2.1 ∧ (∀ j2, n ≤ j2 → (lp_MO_check n hn f g hd kf j d ov).2.1 j2 = d j2) ∧ ((lp_MO_check n hn f g hd kf j d ov).1 = 0 → ∀ i, i < n → ¬ (lp_MO_check n hn f g hd kf j d ov).2.1 i = -1 → Gd n hn f g hd (lp_MO_check n hn f g hd kf j d ov).2.1 i) := by
  have stop : ∀ (j : Nat) (d ov : Nat → Int32), j = f_MO_nextOver n d ov → n ≤ j → D4 d → (∀ i, i < n → ¬ ov i = 0 → Gd n hn f g hd d i) → ∀ i, i < n → ¬ d i = -1 → Gd n hn f g hd d i := by
    intro j d ov hj hn2 hD hG i hi hne
    rw [hj] at hn2
    rcases nx_all d ov n 0 (by omega) hn2 i (by omega) hi with h | h
    · rcases hD i with e | ⟨k, hk, e⟩
      · exact absurd e hne
      · rw [e] at h; exact absurd h (nn_neg k hk).2.2
    · exact hG i hi h
  intro kf
  induction kf with
  | zero =>
    intro j d ov hj hr hD hG
    refine ⟨hD, Ext.rf, fun _ _ => rfl, fun _ => stop j d ov hj ?_ hD hG⟩
    apply Nat.le_of_not_lt
    intro h
    exact rem_zero hj hr h
  | succ kf ih =>
    intro j d ov hj hr hD hG
    rw [lp_MO_check]
    by_cases h1 : n ≤ j
    · rw [if_pos h1]; exact ⟨hD, Ext.rf, fun _ _ => rfl, fun _ => stop j d ov hj h1 hD hG⟩
    · rw [if_neg h1]
      obtain ⟨a1, a2, a3, a4⟩ := go_all (n := n) (hn := hn) (i := j) (f := f) (g := g) (hd := hd) (ov := ov) hD (ho j (by omega))
      by_cases h2 : (f_MO_goOver n hn j f g hd d ov).1 = 0
      · rw [if_pos h2]
        refine ⟨a1, a2, a4, fun h9 => ?_⟩
        exfalso
        have h8 : nI (1 + j) = 0 := h9
        exact nI_ne0 (by omega) (by omega) h8
      · rw [if_neg h2]
        obtain ⟨c1, c2, c3, c4⟩ := ih (f_MO_nextOver n (f_MO_goOver n hn j f g hd d ov).2.1 (f_MO_goOver n hn j f g hd d ov).2.2) _ _ rfl (by rw [go_ov]; exact rem_next hj (by omega) hr) a1 (fun i hi hov => by
          rw [go_ov] at hov
          by_cases e : i = j
          · subst e; exact a3 h2
          · rw [pk_un e] at hov; exact (hG i hi hov).ext a2)
        exact ⟨c1, a2.tr c2, fun j2 hj2 => by rw [c3 j2 hj2, a4 j2 hj2], c4⟩
