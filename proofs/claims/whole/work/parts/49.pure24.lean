-- words at places: pieces of flat code
abbrev AE : Type := Int32 × Int32 × Pd
def cdL (L : List AE) : List (Int32 × Int32) := L.map (fun x => (x.1, x.2.1))
theorem cdL_app (A B : List AE) : cdL (A ++ B) = cdL A ++ cdL B := List.map_append
theorem cdL_len (A : List AE) : (cdL A).length = A.length := List.length_map _
def AnIs (An : Nat → Pd) : Nat → List AE → Prop
  | _, [] => True
  | p, x :: L => An p = x.2.2 ∧ AnIs An (p + 1) L
theorem AnIs_app {An : Nat → Pd} (A B : List AE) : ∀ p, AnIs An p (A ++ B) ↔ AnIs An p A ∧ AnIs An (p + A.length) B := by
  induction A with
  | nil => intro p; exact ⟨fun h => ⟨trivial, h⟩, fun h => h.2⟩
  | cons x A ih =>
    intro p
    show (An p = x.2.2 ∧ AnIs An (p + 1) (A ++ B)) ↔ (An p = x.2.2 ∧ AnIs An (p + 1) A) ∧ AnIs An (p + (x :: A).length) B
    rw [ih (p + 1), List.length_cons, show p + 1 + A.length = p + (A.length + 1) by omega, and_assoc]
section Ty
variable (fq bc : Nat) (st fi : Nat → Int32) (cat : Int32 → Int32) (An : Nat → Pd)
def TyL : Nat → List AE → Prop
  | _, [] => True
  | p, x :: L => (∀ lo sk tq, x.2.2 lo sk tq → tq ≤ 7 ∧ Ok fq bc st fi cat An p x.1 x.2.1 lo sk tq) ∧ TyL (p + 1) L
end Ty
section Ty2
variable {fq bc : Nat} {st fi : Nat → Int32} {cat : Int32 → Int32} {An : Nat → Pd}
theorem TyL_app (A B : List AE) : ∀ p, TyL fq bc st fi cat An p (A ++ B) ↔ TyL fq bc st fi cat An p A ∧ TyL fq bc st fi cat An (p + A.length) B := by
  induction A with
  | nil => intro p; exact ⟨fun h => ⟨trivial, h⟩, fun h => h.2⟩
  | cons x A ih =>
    intro p
    show (_ ∧ TyL fq bc st fi cat An (p + 1) (A ++ B)) ↔ (_ ∧ TyL fq bc st fi cat An (p + 1) A) ∧ TyL fq bc st fi cat An (p + (x :: A).length) B
    rw [ih (p + 1), List.length_cons, show p + 1 + A.length = p + (A.length + 1) by omega, and_assoc]
def dep (k : Nat) (v : Int32) : Pd := fun lo _ tq => tq = k ∧ lo 4 = v
/-- what is asked of an operation that goes to the next place -/
def Pln (o a : Int32) : Prop := (o = 0 ∨ o = 1 ∨ o = 2 ∨ o = 3 ∨ o = 4 ∨ o = 5 ∨ o = 7 ∨ o = 8 ∨ o = 9 ∨ o = 10 ∨ o = 11 ∨ o = 12) ∧ (o = 1 ∨ o = 2 → (a = nI (tn a) ∧ tn a < 9) ∧ (o = 2 → ¬ tn a = 4))
theorem dn {p k k2 : Nat} {v o a : Int32} (hp : p + 1 < fq) (hA : An (p + 1) = dep k2 v) (hpl : Pln o a) (hk : k ≤ 7) (h1 : tkN o ≤ k) (h2 : k2 = k - tkN o + gvN o) (h3 : k2 ≤ 7) : ∀ lo sk tq, dep k v lo sk tq → tq ≤ 7 ∧ Ok fq bc st fi cat An p o a lo sk tq := by
  intro lo sk tq h
  obtain ⟨e1, e2⟩ := h
  subst e1
  refine ⟨hk, ?_⟩
  have nx : ∀ lo' sk' q, q = k2 → lo' 4 = v → Nx fq An p lo' sk' q := fun lo' sk' q h4 h5 => ⟨hp, by rw [hA]; exact ⟨h4, h5⟩⟩
  obtain ⟨ho, ha⟩ := hpl
  unfold Ok
  rcases ho with e | e | e | e | e | e | e | e | e | e | e | e <;> subst e
  · have q1 : 0 ≤ tq := h1
    have q2 : k2 = tq - 0 + 1 := h2
    left
    exact ⟨rfl, by omega, nx _ _ _ (by omega) e2⟩
  · have q1 : 0 ≤ tq := h1
    have q2 : k2 = tq - 0 + 1 := h2
    right
    left
    exact ⟨rfl, by omega, (ha (Or.inl rfl)).1, nx _ _ _ (by omega) e2⟩
  · have q1 : 1 ≤ tq := h1
    have q2 : k2 = tq - 1 + 0 := h2
    right
    right
    left
    exact ⟨rfl, by omega, (ha (Or.inr rfl)).1, nx _ _ _ (by omega) (by rw [pk_un (fun e => (ha (Or.inr rfl)).2 rfl e.symm)]; exact e2)⟩
  · have q1 : 2 ≤ tq := h1
    have q2 : k2 = tq - 2 + 1 := h2
    right
    right
    right
    left
    exact ⟨rfl, by omega, nx _ _ _ (by omega) e2⟩
  · have q1 : 2 ≤ tq := h1
    have q2 : k2 = tq - 2 + 1 := h2
    right
    right
    right
    right
    left
    exact ⟨rfl, by omega, nx _ _ _ (by omega) e2⟩
  · have q1 : 2 ≤ tq := h1
    have q2 : k2 = tq - 2 + 1 := h2
    right
    right
    right
    right
    right
    left
    exact ⟨rfl, by omega, nx _ _ _ (by omega) e2⟩
  · have q1 : 2 ≤ tq := h1
    have q2 : k2 = tq - 2 + 1 := h2
    right
    right
    right
    right
    right
    right
    right
    left
    exact ⟨rfl, by omega, nx _ _ _ (by omega) e2⟩
  · have q1 : 2 ≤ tq := h1
    have q2 : k2 = tq - 2 + 1 := h2
    right
    right
    right
    right
    right
    right
    right
    right
    left
    exact ⟨rfl, by omega, nx _ _ _ (by omega) e2⟩
  · have q1 : 1 ≤ tq := h1
    have q2 : k2 = tq - 1 + 2 := h2
    right
    right
    right
    right
    right
    right
    right
    right
    right
    left
    exact ⟨rfl, by omega, by omega, nx _ _ _ (by omega) e2⟩
  · have q1 : 2 ≤ tq := h1
    have q2 : k2 = tq - 2 + 2 := h2
    right
    right
    right
    right
    right
    right
    right
    right
    right
    right
    left
    exact ⟨rfl, by omega, nx _ _ _ (by omega) e2⟩
  · have q1 : 1 ≤ tq := h1
    have q2 : k2 = tq - 1 + 0 := h2
    right
    right
    right
    right
    right
    right
    right
    right
    right
    right
    right
    left
    exact ⟨rfl, by omega, nx _ _ _ (by omega) e2⟩
  · have q1 : 1 ≤ tq := h1
    have q2 : k2 = tq - 1 + 0 := h2
    right
    right
    right
    right
    right
    right
    right
    right
    right
    right
    right
    right
    left
    exact ⟨rfl, by omega, nx _ _ _ (by omega) e2⟩
def ldA (v : Int32) : Nat → Nat → List AE
  | 0, _ => []
  | k + 1, i => (1, nI (4 + (i + 1)), dep i v) :: ldA v k (i + 1)
def poA (v : Int32) : Nat → List AE
  | 0 => []
  | k + 1 => (11, 0, dep (k + 1) v) :: poA v k
def stA (v : Int32) : Nat → List AE
  | 0 => []
  | k + 1 => (2, nI (5 + k), dep (k + 1) v) :: stA v k
theorem ldA_c (v : Int32) : ∀ k i, cdL (ldA v k i) = ldL k (i + 1) := by
  intro k
  induction k with
  | zero => intro i; rfl
  | succ k ih => intro i; rw [ldL, ← ih (i + 1)]; rfl
theorem poA_c (v : Int32) : ∀ k, cdL (poA v k) = poL k := by
  intro k
  induction k with
  | zero => rfl
  | succ k ih => rw [poL, ← ih]; rfl
theorem stA_c (v : Int32) : ∀ k, cdL (stA v k) = stL k := by
  intro k
  induction k with
  | zero => rfl
  | succ k ih => rw [stL, ← ih]; rfl
theorem ldA_len (v : Int32) (k i : Nat) : (ldA v k i).length = k := by rw [← cdL_len, ldA_c, ldL_len]
theorem poA_len (v : Int32) (k : Nat) : (poA v k).length = k := by rw [← cdL_len, poA_c, poL_len]
theorem stA_len (v : Int32) (k : Nat) : (stA v k).length = k := by rw [← cdL_len, stA_c, stL_len]
theorem n4 {r : Nat} (h : r < 9) : nI r = nI (tn (nI r)) ∧ tn (nI r) < 9 := by rw [tn_nI (by omega)]; exact ⟨rfl, h⟩
theorem four9 : (4 : Int32) = nI (tn 4) ∧ tn (4 : Int32) < 9 := by decide
theorem pl_1 {r : Nat} (h : r < 9) : Pln 1 (nI r) := ⟨Or.inr (Or.inl rfl), fun _ => ⟨n4 h, fun h => absurd h (by decide)⟩⟩
theorem pl_1' {x : Int32} (h : x = nI (tn x) ∧ tn x < 9) : Pln 1 x := ⟨Or.inr (Or.inl rfl), fun _ => ⟨h, fun h => absurd h (by decide)⟩⟩
theorem pl_2 {r : Nat} (h : r < 9) (h4 : r ≠ 4) : Pln 2 (nI r) := ⟨Or.inr (Or.inr (Or.inl rfl)), fun _ => ⟨n4 h, fun _ => by rw [tn_nI (by omega)]; exact h4⟩⟩
theorem pl_k {o a : Int32} (h : o = 0 ∨ o = 3 ∨ o = 4 ∨ o = 5 ∨ o = 7 ∨ o = 8 ∨ o = 9 ∨ o = 10 ∨ o = 11 ∨ o = 12) : Pln o a := by
  rcases h with h | h | h | h | h | h | h | h | h | h <;> subst h <;> exact ⟨by decide, fun h => absurd h (by decide)⟩
theorem ld_ty (v : Int32) : ∀ (k i p : Nat), AnIs An p (ldA v k i) → An (p + k) = dep (i + k) v → p + k < fq → i + k ≤ 4 → TyL fq bc st fi cat An p (ldA v k i) ∧ An p = dep i v := by
  intro k
  induction k with
  | zero => intro i p h1 h2 h3 h4; exact ⟨trivial, h2⟩
  | succ k ih =>
    intro i p h1 h2 h3 h4
    obtain ⟨a1, a2⟩ := ih (i + 1) (p + 1) h1.2 (by rw [show p + 1 + k = p + (k + 1) by omega, show i + 1 + k = i + (k + 1) by omega]; exact h2) (by omega) (by omega)
    refine ⟨⟨dn (by omega) a2 (pl_1 (by omega)) (by omega) (Nat.zero_le _) rfl (by omega), a1⟩, h1.1⟩
theorem po_ty (v : Int32) : ∀ (k p : Nat), AnIs An p (poA v k) → An (p + k) = dep 0 v → p + k < fq → k ≤ 4 → TyL fq bc st fi cat An p (poA v k) ∧ An p = dep k v := by
  intro k
  induction k with
  | zero => intro p h1 h2 h3 h4; exact ⟨trivial, h2⟩
  | succ k ih =>
    intro p h1 h2 h3 h4
    obtain ⟨a1, a2⟩ := ih (p + 1) h1.2 (by rw [show p + 1 + k = p + (k + 1) by omega]; exact h2) (by omega) (by omega)
    refine ⟨⟨dn (by omega) a2 (pl_k (by decide : (11 : Int32) = 0 ∨ (11 : Int32) = 3 ∨ (11 : Int32) = 4 ∨ (11 : Int32) = 5 ∨ (11 : Int32) = 7 ∨ (11 : Int32) = 8 ∨ (11 : Int32) = 9 ∨ (11 : Int32) = 10 ∨ (11 : Int32) = 11 ∨ (11 : Int32) = 12)) (by omega) (Nat.le_add_left 1 k) (by show k = k + 1 - 1 + 0; omega) (by omega), a1⟩, h1.1⟩
theorem st_ty (v : Int32) : ∀ (k p : Nat), AnIs An p (stA v k) → An (p + k) = dep 0 v → p + k < fq → k ≤ 4 → TyL fq bc st fi cat An p (stA v k) ∧ An p = dep k v := by
  intro k
  induction k with
  | zero => intro p h1 h2 h3 h4; exact ⟨trivial, h2⟩
  | succ k ih =>
    intro p h1 h2 h3 h4
    obtain ⟨a1, a2⟩ := ih (p + 1) h1.2 (by rw [show p + 1 + k = p + (k + 1) by omega]; exact h2) (by omega) (by omega)
    refine ⟨⟨dn (by omega) a2 (pl_2 (by omega) (by omega)) (by omega) (Nat.le_add_left 1 k) (by show k = k + 1 - 1 + 0; omega) (by omega), a1⟩, h1.1⟩
/-- the loop's head -/
def Hd (bc : Nat) (st : Nat → Int32) : Pd := fun lo _ tq => tq = 0 ∧ ∃ b, b < bc ∧ lo 4 = st b
def goA (x : Int32) : List AE := [(2, 4, fun _ sk tq => tq = 1 ∧ sk 0 = x), (13, 2, fun lo _ tq => tq = 0 ∧ lo 4 = x)]
theorem go_ty {p : Nat} {x : Int32} (hH : An 2 = Hd bc st) (h2 : 2 < fq) (hp : p + 1 < fq) (hA : AnIs An p (goA x)) (hx : ∃ t, t < bc ∧ x = st t) : TyL fq bc st fi cat An p (goA x) := by
  refine ⟨?_, ?_, trivial⟩
  · intro lo sk tq h
    obtain ⟨e1, e2⟩ := h
    subst e1
    refine ⟨by omega, ?_⟩
    unfold Ok
    right
    right
    left
    exact ⟨rfl, by omega, four9, ⟨hp, by rw [hA.2.1]; exact ⟨rfl, by show upd lo 4 (sk 0) 4 = x; rw [pk_us]; exact e2⟩⟩⟩
  · intro lo sk tq h
    obtain ⟨e1, e2⟩ := h
    subst e1
    refine ⟨by omega, ?_⟩
    unfold Ok
    right
    right
    right
    right
    right
    right
    right
    right
    right
    right
    right
    right
    right
    left
    obtain ⟨t, ht, e3⟩ := hx
    exact ⟨rfl, 2, rfl, h2, by rw [hH]; exact ⟨rfl, t, ht, by rw [e2, e3]⟩⟩
def leadA (v : Int32) (k : Nat) (x : Int32) : List AE := stA v k ++ ((1, 4, dep 0 v) :: (0, x, fun _ sk tq => tq = 1 ∧ sk 0 = v) :: (8, 0, fun _ sk tq => tq = 2 ∧ sk 0 = v ∧ sk 1 = x) :: goA (v ^^^ x))
theorem leadA_c (v : Int32) (k : Nat) (x : Int32) : cdL (leadA v k x) = leadL k x := by
  unfold leadA leadL
  rw [cdL_app, stA_c]; rfl
theorem leadA_len (v : Int32) (k : Nat) (x : Int32) : (leadA v k x).length = k + 5 := by rw [← cdL_len, leadA_c, leadL_len]
theorem lead_ty {p k : Nat} {v x : Int32} (hH : An 2 = Hd bc st) (h2 : 2 < fq) (hp : p + k + 4 < fq) (hk : k ≤ 4) (hA : AnIs An p (leadA v k x)) (hx : ∃ t, t < bc ∧ v ^^^ x = st t) : TyL fq bc st fi cat An p (leadA v k x) ∧ An p = dep k v := by
  unfold leadA at hA ⊢
  rw [AnIs_app, stA_len] at hA
  obtain ⟨hA1, hA2, hA3, hA4, hA5⟩ := hA
  rw [TyL_app, stA_len]
  obtain ⟨a1, a2⟩ := st_ty (fq := fq) (bc := bc) (st := st) (fi := fi) (cat := cat) v k p hA1 hA2 (by omega) hk
  refine ⟨⟨a1, ?_, ?_, ?_, go_ty hH h2 (by omega) hA5 hx⟩, a2⟩
  · intro lo sk tq h
    obtain ⟨e1, e2⟩ := h
    subst e1
    refine ⟨by omega, ?_⟩
    unfold Ok
    right
    left
    exact ⟨rfl, by omega, four9, ⟨by omega, by rw [hA3]; exact ⟨rfl, by show upd sk 0 (lo 4) 0 = v; rw [pk_us]; exact e2⟩⟩⟩
  · intro lo sk tq h
    obtain ⟨e1, e2⟩ := h
    subst e1
    refine ⟨by omega, ?_⟩
    unfold Ok
    left
    exact ⟨rfl, by omega, ⟨by omega, by rw [hA4]; exact ⟨rfl, by show upd sk 1 x 0 = v; rw [pk_un (by decide)]; exact e2, by show upd sk 1 x 1 = x; exact pk_us⟩⟩⟩
  · intro lo sk tq h
    obtain ⟨e1, e2, e3⟩ := h
    subst e1
    refine ⟨by omega, ?_⟩
    unfold Ok
    right
    right
    right
    right
    right
    right
    right
    right
    left
    exact ⟨rfl, by omega, ⟨by omega, by rw [hA5.1]; exact ⟨rfl, by show upd sk 0 (sk 0 ^^^ sk 1) 0 = v ^^^ x; rw [pk_us, e2, e3]⟩⟩⟩
def junkA (v : Int32) (k : Nat) (x : Int32) : List AE := poA v k ++ ((0, x, dep 0 v) :: goA x)
theorem junkA_c (v : Int32) (k : Nat) (x : Int32) : cdL (junkA v k x) = junkL k x := by
  unfold junkA junkL
  rw [cdL_app, poA_c]; rfl
theorem junkA_len (v : Int32) (k : Nat) (x : Int32) : (junkA v k x).length = k + 3 := by
  unfold junkA
  rw [List.length_append, poA_len]; rfl
theorem junk_ty {p k : Nat} {v x : Int32} (hH : An 2 = Hd bc st) (h2 : 2 < fq) (hp : p + k + 2 < fq) (hk : k ≤ 4) (hA : AnIs An p (junkA v k x)) (hx : ∃ t, t < bc ∧ x = st t) : TyL fq bc st fi cat An p (junkA v k x) ∧ An p = dep k v := by
  unfold junkA at hA ⊢
  rw [AnIs_app, poA_len] at hA
  obtain ⟨hA1, hA2, hA3⟩ := hA
  rw [TyL_app, poA_len]
  obtain ⟨a1, a2⟩ := po_ty (fq := fq) (bc := bc) (st := st) (fi := fi) (cat := cat) v k p hA1 hA2 (by omega) hk
  refine ⟨⟨a1, ?_, go_ty hH h2 (by omega) hA3 hx⟩, a2⟩
  intro lo sk tq h
  obtain ⟨e1, e2⟩ := h
  subst e1
  refine ⟨by omega, ?_⟩
  unfold Ok
  left
  exact ⟨rfl, by omega, ⟨by omega, by rw [hA3.1]; exact ⟨rfl, by show upd sk 0 x 0 = x; exact pk_us⟩⟩⟩
end Ty2
