-- the draws: the generator never meets 31 taken numbers 7937 times in a row
theorem gn_ex : ∃ h : Int32 → Int32, ∀ g, h g = g * 1664525 + 1013904223 := ⟨fun g => g * 1664525 + 1013904223, fun _ => rfl⟩
noncomputable def gn : Int32 → Int32 := Classical.choose gn_ex
theorem gn_eq (g : Int32) : gn g = g * 1664525 + 1013904223 := Classical.choose_spec gn_ex g
theorem dr_ex : ∃ h : Int32 → Int32, ∀ g, h g = (g.toUInt32 >>> ((8 : Int32).toUInt32 &&& Int32.toUInt32 31)).toInt32 := ⟨fun g => (g.toUInt32 >>> ((8 : Int32).toUInt32 &&& Int32.toUInt32 31)).toInt32, fun _ => rfl⟩
noncomputable def dr : Int32 → Int32 := Classical.choose dr_ex
theorem dr_eq (g : Int32) : dr g = (g.toUInt32 >>> ((8 : Int32).toUInt32 &&& Int32.toUInt32 31)).toInt32 := Classical.choose_spec dr_ex g
def it (h : Int32 → Int32) : Nat → Int32 → Int32
  | 0, g => g
  | k + 1, g => h (it h k g)
theorem it_in (h : Int32 → Int32) (k : Nat) : ∀ g, it h k (h g) = h (it h k g) := by
  induction k with
  | zero => intro g; rfl
  | succ k ih => intro g; rw [it, ih, it]
noncomputable def gi (k : Nat) (g : Int32) : Int32 := it gn k g
def rdh (h : Int32 → Int32) (T : Int32 → Bool) : Nat → Int32 → Int32
  | 0, g => g
  | k + 1, g => if T g = true then rdh h T k (h g) else g
noncomputable def rd (T : Int32 → Bool) (k : Nat) (g : Int32) : Int32 := rdh gn (fun x => T (dr x)) k g
def lcS : Nat → Nat
  | 0 => 0
  | n + 1 => 1664525 * lcS n + 1
def lcG (a c : Nat) : Nat → Nat → Nat
  | 0, x => x
  | n + 1, x => a * lcG a c n x + c
def lcF (n x : Nat) : Nat := lcG 1664525 1013904223 n x
theorem lcF_0 (x : Nat) : lcF 0 x = x := rfl
theorem lcF_s (n x : Nat) : lcF (n + 1) x = 1664525 * lcF n x + 1013904223 := by
  unfold lcF; rw [lcG]
theorem lcS_add (m n : Nat) : lcS (m + n) = 1664525 ^ n * lcS m + lcS n := by
  induction n with
  | zero => simp [lcS]
  | succ n ih =>
    rw [← Nat.add_assoc, lcS, ih, lcS, Nat.pow_succ, Nat.mul_add, ← Nat.mul_assoc, Nat.mul_comm 1664525 (1664525 ^ n), Nat.add_assoc]
theorem lc_pow (m : Nat) : 1664525 ^ m % 4 = 1 := by
  induction m with
  | zero => rfl
  | succ m ih => rw [Nat.pow_succ, Nat.mul_mod, ih]
theorem lcS_par (n : Nat) : lcS n % 2 = n % 2 := by
  induction n with
  | zero => rfl
  | succ n ih => rw [lcS]; omega
theorem lcS_dvd (k : Nat) : ∀ n, 2 ^ k ∣ lcS n → 2 ^ k ∣ n := by
  induction k with
  | zero => intro n _; simp
  | succ k ih =>
    intro n h
    have h2 : 2 ∣ lcS n := Nat.dvd_trans ⟨2 ^ k, by rw [Nat.pow_succ, Nat.mul_comm]⟩ h
    have hp := lcS_par n
    have he : n % 2 = 0 := by omega
    obtain ⟨m, rfl⟩ : ∃ m, n = m + m := ⟨n / 2, by omega⟩
    have ha := lc_pow m
    obtain ⟨t, ht⟩ : ∃ t, 1664525 ^ m = 4 * t + 1 := ⟨1664525 ^ m / 4, by omega⟩
    have hs : lcS (m + m) = 2 * ((2 * t + 1) * lcS m) := by
      rw [lcS_add, ht]
      have e1 : (4 * t + 1) * lcS m = 4 * (t * lcS m) + lcS m := by rw [Nat.add_mul, Nat.one_mul, Nat.mul_assoc]
      have e2 : (2 * t + 1) * lcS m = 2 * (t * lcS m) + lcS m := by rw [Nat.add_mul, Nat.one_mul, Nat.mul_assoc]
      rw [e1, e2]; omega
    rw [hs, Nat.pow_succ, Nat.mul_comm (2 ^ k) 2] at h
    have h3 : 2 ^ k ∣ (2 * t + 1) * lcS m := Nat.dvd_of_mul_dvd_mul_left (by decide) h
    have hc : Nat.Coprime (2 ^ k) (2 * t + 1) := by
      apply Nat.Coprime.pow_left
      show Nat.gcd 2 (2 * t + 1) = 1
      rw [Nat.gcd_rec]
      have : (2 * t + 1) % 2 = 1 := by omega
      rw [this]; rfl
    have h4 := ih m (Nat.Coprime.dvd_of_dvd_mul_left hc h3)
    obtain ⟨q, hq⟩ := h4
    exact ⟨q, by rw [Nat.pow_succ]; rw [hq, Nat.mul_comm (2 ^ k) 2, Nat.mul_assoc]; omega⟩
theorem lcF_eq (n : Nat) : ∀ x, lcF n x = x + lcS n * (1664524 * x + 1013904223) := by
  intro x
  generalize hy : 1664524 * x + 1013904223 = y
  induction n with
  | zero => rw [lcF_0, lcS, Nat.zero_mul, Nat.add_zero]
  | succ n ih =>
    rw [lcF_s, ih, lcS, Nat.add_mul, Nat.one_mul, Nat.mul_add, Nat.mul_assoc]
    generalize lcS n * y = z
    omega
theorem lcF_add (m n : Nat) : ∀ x, lcF (m + n) x = lcF n (lcF m x) := by
  intro x
  induction n with
  | zero => rw [Nat.add_zero, lcF_0]
  | succ n ih => rw [← Nat.add_assoc, lcF_s, ih, lcF_s]
def u32 (g : Int32) : Nat := g.toBitVec.toNat
theorem u32_lt (g : Int32) : u32 g < 2 ^ 32 := g.toBitVec.isLt
theorem u32_gn (g : Int32) : u32 (gn g) = (1664525 * u32 g + 1013904223) % 2 ^ 32 := by
  unfold u32
  rw [gn_eq, Int32.toBitVec_add, Int32.toBitVec_mul, BitVec.toNat_add, BitVec.toNat_mul]
  have h1 : (1664525 : Int32).toBitVec.toNat = 1664525 := by decide
  have h2 : (1013904223 : Int32).toBitVec.toNat = 1013904223 := by decide
  rw [h1, h2, Nat.mod_add_mod, Nat.mul_comm]
theorem u32_gi (j : Nat) : ∀ g, u32 (gi j g) % 8192 = lcF j (u32 g) % 8192 := by
  intro g
  induction j with
  | zero => rfl
  | succ j ih =>
    have e : gi (j + 1) g = gn (gi j g) := by unfold gi; rw [it]
    rw [e, u32_gn, lcF_s]
    omega
theorem gi_inj {g : Int32} {i j : Nat} (hij : i < j) (hj : j < 8192) : u32 (gi i g) ≠ u32 (gi j g) := by
  intro h
  have h1 := u32_gi i g
  have h2 := u32_gi j g
  rw [h] at h1
  obtain ⟨d, rfl⟩ : ∃ d, j = i + d := ⟨j - i, by omega⟩
  rw [lcF_add, lcF_eq d] at h2
  generalize lcF i (u32 g) = y at h1 h2
  have h3 : 8192 ∣ lcS d * (1664524 * y + 1013904223) := by omega
  have hc : Nat.Coprime (2 ^ 13) (1664524 * y + 1013904223) := by
    apply Nat.Coprime.pow_left
    show Nat.gcd 2 (1664524 * y + 1013904223) = 1
    rw [Nat.gcd_rec]
    have : (1664524 * y + 1013904223) % 2 = 1 := by omega
    rw [this]; rfl
  have h4 : 2 ^ 13 ∣ lcS d := Nat.Coprime.dvd_of_dvd_mul_right hc h3
  have h5 := lcS_dvd 13 d h4
  have h6 : 8192 ≤ d := Nat.le_of_dvd (by omega) h5
  omega
theorem u32_dr (g : Int32) : u32 (dr g) = u32 g / 256 := by
  unfold u32
  rw [dr_eq]
  exact pk_ushr g 8 8 (by decide)
theorem dr_some {m : Nat} {sts : Nat → Int32} (hm : m ≤ 31) (g : Int32) : ¬ ∀ j, j < 7937 → ∃ b, b < m ∧ sts b = dr (gi j g) := by
  intro h
  have hn : ((List.range 7937).map (fun j => u32 (gi j g))).Nodup := by
    rw [List.Nodup, List.pairwise_map]
    refine List.Pairwise.imp_of_mem ?_ List.pairwise_lt_range
    intro a b ha hb hab
    exact gi_inj hab (by have := List.mem_range.mp hb; omega)
  have hs : ((List.range 7937).map (fun j => u32 (gi j g))) ⊆ (List.range m).flatMap (fun b => (List.range 256).map (fun t => u32 (sts b) * 256 + t)) := by
    intro x hx
    obtain ⟨j, hj, rfl⟩ := List.mem_map.mp hx
    obtain ⟨b, hb, e⟩ := h j (List.mem_range.mp hj)
    refine List.mem_flatMap.mpr ⟨b, List.mem_range.mpr hb, List.mem_map.mpr ⟨u32 (gi j g) % 256, List.mem_range.mpr (Nat.mod_lt _ (by decide)), ?_⟩⟩
    rw [e, u32_dr]
    omega
  have hl := List.Nodup.length_le_of_subset hn hs
  rw [List.length_map, List.length_range, List.length_flatMap] at hl
  have hsum : ∀ w : Nat, ((List.range w).map (fun b => ((List.range 256).map (fun t => u32 (sts b) * 256 + t)).length)).sum = 256 * w := by
    intro w
    induction w with
    | zero => rfl
    | succ w ih => rw [List.range_succ (n := w), List.map_append, List.sum_append, ih]; simp; omega
  rw [hsum] at hl
  omega
theorem rdh_it (h : Int32 → Int32) (T : Int32 → Bool) (k : Nat) : ∀ g, T (rdh h T k g) = true → ∀ j, j ≤ k → T (it h j g) = true := by
  induction k with
  | zero =>
    intro g hT j hj
    have : j = 0 := by omega
    subst this
    exact hT
  | succ k ih =>
    intro g hg j hj
    rw [rdh] at hg
    by_cases hT : T g = true
    · rw [if_pos hT] at hg
      cases j with
      | zero => exact hT
      | succ j => rw [it, ← it_in h j g]; exact ih _ hg j (by omega)
    · rw [if_neg hT] at hg
      exact absurd hg hT
theorem rd_gi (T : Int32 → Bool) (k : Nat) (g : Int32) (h : T (dr (rd T k g)) = true) (j : Nat) (hj : j ≤ k) : T (dr (gi j g)) = true := rdh_it gn (fun x => T (dr x)) k g h j hj
theorem rd_ends {m : Nat} {sts : Nat → Int32} (hm : m ≤ 31) {T : Int32 → Bool} (hT : ∀ x, T x = true → ∃ b, b < m ∧ sts b = x) (g : Int32) : T (dr (rd T 7936 g)) = false := by
  cases h : T (dr (rd T 7936 g)) with
  | false => rfl
  | true => exact absurd (fun j hj => hT _ (rd_gi T 7936 g h j (by omega))) (dr_some hm g)
