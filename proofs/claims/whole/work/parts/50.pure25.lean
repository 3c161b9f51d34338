-- words at places: conditions, instructions, tails, blocks
section Ty3
variable {fq bc : Nat} {st fi : Nat → Int32} {cat : Int32 → Int32} {An : Nat → Pd}
theorem if_ok {p k q : Nat} {v o a : Int32} (ho : o = 14 ∨ o = 15) (hk : k + 1 ≤ 7) (hp : p + 1 < fq) (hA : An (p + 1) = dep k v) (ha : a = nI q) (hq : q < fq) (hA2 : An q = dep k v) : ∀ lo sk tq, dep (k + 1) v lo sk tq → tq ≤ 7 ∧ Ok fq bc st fi cat An p o a lo sk tq := by
  intro lo sk tq h
  obtain ⟨e1, e2⟩ := h
  subst e1
  refine ⟨hk, ?_⟩
  unfold Ok
  have g1 : Gt fq An a lo sk (k + 1 - 1) := ⟨q, ha, hq, by rw [hA2]; exact ⟨by omega, e2⟩⟩
  have g2 : Nx fq An p lo sk (k + 1 - 1) := ⟨hp, by rw [hA]; exact ⟨by omega, e2⟩⟩
  rcases ho with e | e <;> subst e
  · right
    right
    right
    right
    right
    right
    right
    right
    right
    right
    right
    right
    right
    right
    left
    exact ⟨rfl, by omega, g1, g2⟩
  · right
    right
    right
    right
    right
    right
    right
    right
    right
    right
    right
    right
    right
    right
    right
    left
    exact ⟨rfl, by omega, g1, g2⟩
theorem gt_ok {p k q : Nat} {v a : Int32} (hk : k ≤ 7) (ha : a = nI q) (hq : q < fq) (hA2 : An q = dep k v) : ∀ lo sk tq, dep k v lo sk tq → tq ≤ 7 ∧ Ok fq bc st fi cat An p 13 a lo sk tq := by
  intro lo sk tq h
  obtain ⟨e1, e2⟩ := h
  subst e1
  refine ⟨hk, ?_⟩
  unfold Ok
  right
  right
  right
  right
  right
  right
  right
  right
  right
  right
  right
  right
  right
  left
  exact ⟨rfl, q, ha, hq, by rw [hA2]; exact ⟨rfl, e2⟩⟩
def evA (v : Int32) (h : Nat) (k : Int32) : List AE := [(1, k, dep h v), (9, 0, dep (h + 1) v), (0, 1, dep (h + 2) v), (3, 0, dep (h + 3) v), (5, 0, dep (h + 2) v), (0, 1, dep (h + 1) v), (7, 0, dep (h + 2) v)]
def ntA (v : Int32) (h : Nat) (k : Int32) : List AE := [(1, k, dep h v), (9, 0, dep (h + 1) v), (5, 0, dep (h + 2) v), (0, 3, dep (h + 1) v), (7, 0, dep (h + 2) v), (0, 2, dep (h + 1) v), (8, 0, dep (h + 2) v)]
def nmA (v : Int32) (h : Nat) (j k : Int32) : List AE := [(1, j, dep h v), (9, 0, dep (h + 1) v), (5, 0, dep (h + 2) v), (0, 7, dep (h + 1) v), (5, 0, dep (h + 2) v), (0, 1, dep (h + 1) v), (4, 0, dep (h + 2) v), (1, k, dep (h + 1) v), (9, 0, dep (h + 2) v), (5, 0, dep (h + 3) v), (4, 0, dep (h + 2) v)]
def cndA (v : Int32) (p0 h : Nat) (p j k x : Int32) : List AE :=
  if p = 0 then [] else (if p = 1 then evA v h k ++ ((14, nI (p0 + 7 + 1 + (h + 3)), dep (h + 1) v) :: junkA v h x) else (if p = 2 then ntA v h k ++ ((14, nI (p0 + 7 + 2), dep (h + 1) v) :: (13, nI (p0 + 7 + 1 + 1 + (h + 3)), dep h v) :: junkA v h x) else nmA v h j k ++ ((14, nI (p0 + 11 + 2), dep (h + 1) v) :: (13, nI (p0 + 11 + 1 + 1 + (h + 3)), dep h v) :: junkA v h x)))
theorem cndA_c (v : Int32) (p0 h : Nat) (p j k x : Int32) : cdL (cndA v p0 h p j k x) = cndL p0 h p j k x := by
  unfold cndA cndL
  have e1 : cdL (evA v h k ++ ((14, nI (p0 + 7 + 1 + (h + 3)), dep (h + 1) v) :: junkA v h x)) = evL k ++ ((14, nI (p0 + 7 + 1 + (h + 3))) :: junkL h x) := by rw [cdL_app, ← junkA_c v]; rfl
  have e2 : cdL (ntA v h k ++ ((14, nI (p0 + 7 + 2), dep (h + 1) v) :: (13, nI (p0 + 7 + 1 + 1 + (h + 3)), dep h v) :: junkA v h x)) = ntL k ++ ((14, nI (p0 + 7 + 2)) :: (13, nI (p0 + 7 + 1 + 1 + (h + 3))) :: junkL h x) := by rw [cdL_app, ← junkA_c v]; rfl
  have e3 : cdL (nmA v h j k ++ ((14, nI (p0 + 11 + 2), dep (h + 1) v) :: (13, nI (p0 + 11 + 1 + 1 + (h + 3)), dep h v) :: junkA v h x)) = nmL j k ++ ((14, nI (p0 + 11 + 2)) :: (13, nI (p0 + 11 + 1 + 1 + (h + 3))) :: junkL h x) := by rw [cdL_app, ← junkA_c v]; rfl
  by_cases h0 : p = 0
  · rw [if_pos h0, if_pos h0]; rfl
  · rw [if_neg h0, if_neg h0]
    by_cases h1 : p = 1
    · rw [if_pos h1, if_pos h1, e1]
    · rw [if_neg h1, if_neg h1]
      by_cases h2 : p = 2
      · rw [if_pos h2, if_pos h2, e2]
      · rw [if_neg h2, if_neg h2, e3]
theorem cnd_ty {v x pk j k : Int32} {p h : Nat} (hH : An 2 = Hd bc st) (hq2 : 2 < fq) (h4 : h ≤ 4) (hj : j = nI (tn j) ∧ tn j < 9) (hk : k = nI (tn k) ∧ tn k < 9) (hx : ∃ t, t < bc ∧ x = st t) (hA : AnIs An p (cndA v p h pk j k x)) (hE : An (p + (cndA v p h pk j k x).length) = dep h v) (hf : p + (cndA v p h pk j k x).length < fq) : TyL fq bc st fi cat An p (cndA v p h pk j k x) ∧ An p = dep h v := by
  unfold cndA at hA hE hf ⊢
  by_cases h0 : pk = 0
  · rw [if_pos h0] at hA hE hf ⊢
    exact ⟨trivial, hE⟩
  · rw [if_neg h0] at hA hE hf ⊢
    by_cases h1 : pk = 1
    · rw [if_pos h1] at hA hE hf ⊢
      rw [AnIs_app] at hA
      rw [List.length_append, List.length_cons, junkA_len] at hE hf
      have el : (evA v h k).length = 7 := rfl
      rw [el] at hE hf
      refine ⟨?_, hA.1.1⟩
      obtain ⟨⟨A0, A1, A2, A3, A4, A5, A6, _⟩, A7, AJ⟩ := hA
      obtain ⟨j1, j2⟩ := junk_ty (fi := fi) (cat := cat) hH hq2 (by omega) h4 AJ hx
      rw [TyL_app]
      refine ⟨⟨dn (by omega) A1 (pl_1' hk) (by omega) (by show 0 ≤ _; omega) (by show _ = _ - 0 + 1; omega) (by omega), dn (by omega) A2 (pl_k (by decide : (9 : Int32) = 0 ∨ (9 : Int32) = 3 ∨ (9 : Int32) = 4 ∨ (9 : Int32) = 5 ∨ (9 : Int32) = 7 ∨ (9 : Int32) = 8 ∨ (9 : Int32) = 9 ∨ (9 : Int32) = 10 ∨ (9 : Int32) = 11 ∨ (9 : Int32) = 12)) (by omega) (by show 1 ≤ _; omega) (by show _ = _ - 1 + 2; omega) (by omega), dn (by omega) A3 (pl_k (by decide : (0 : Int32) = 0 ∨ (0 : Int32) = 3 ∨ (0 : Int32) = 4 ∨ (0 : Int32) = 5 ∨ (0 : Int32) = 7 ∨ (0 : Int32) = 8 ∨ (0 : Int32) = 9 ∨ (0 : Int32) = 10 ∨ (0 : Int32) = 11 ∨ (0 : Int32) = 12)) (by omega) (by show 0 ≤ _; omega) (by show _ = _ - 0 + 1; omega) (by omega), dn (by omega) A4 (pl_k (by decide : (3 : Int32) = 0 ∨ (3 : Int32) = 3 ∨ (3 : Int32) = 4 ∨ (3 : Int32) = 5 ∨ (3 : Int32) = 7 ∨ (3 : Int32) = 8 ∨ (3 : Int32) = 9 ∨ (3 : Int32) = 10 ∨ (3 : Int32) = 11 ∨ (3 : Int32) = 12)) (by omega) (by show 2 ≤ _; omega) (by show _ = _ - 2 + 1; omega) (by omega), dn (by omega) A5 (pl_k (by decide : (5 : Int32) = 0 ∨ (5 : Int32) = 3 ∨ (5 : Int32) = 4 ∨ (5 : Int32) = 5 ∨ (5 : Int32) = 7 ∨ (5 : Int32) = 8 ∨ (5 : Int32) = 9 ∨ (5 : Int32) = 10 ∨ (5 : Int32) = 11 ∨ (5 : Int32) = 12)) (by omega) (by show 2 ≤ _; omega) (by show _ = _ - 2 + 1; omega) (by omega), dn (by omega) A6 (pl_k (by decide : (0 : Int32) = 0 ∨ (0 : Int32) = 3 ∨ (0 : Int32) = 4 ∨ (0 : Int32) = 5 ∨ (0 : Int32) = 7 ∨ (0 : Int32) = 8 ∨ (0 : Int32) = 9 ∨ (0 : Int32) = 10 ∨ (0 : Int32) = 11 ∨ (0 : Int32) = 12)) (by omega) (by show 0 ≤ _; omega) (by show _ = _ - 0 + 1; omega) (by omega), dn (by omega) A7 (pl_k (by decide : (7 : Int32) = 0 ∨ (7 : Int32) = 3 ∨ (7 : Int32) = 4 ∨ (7 : Int32) = 5 ∨ (7 : Int32) = 7 ∨ (7 : Int32) = 8 ∨ (7 : Int32) = 9 ∨ (7 : Int32) = 10 ∨ (7 : Int32) = 11 ∨ (7 : Int32) = 12)) (by omega) (by show 2 ≤ _; omega) (by show _ = _ - 2 + 1; omega) (by omega), trivial⟩, if_ok (Or.inl rfl) (by omega) (by omega) j2 rfl (by omega) (by rw [← hE]; congr 1; omega), j1⟩
    · rw [if_neg h1] at hA hE hf ⊢
      by_cases h2 : pk = 2
      · rw [if_pos h2] at hA hE hf ⊢
        rw [AnIs_app] at hA
        rw [List.length_append, List.length_cons, List.length_cons, junkA_len] at hE hf
        have el : (ntA v h k).length = 7 := rfl
        rw [el] at hE hf
        refine ⟨?_, hA.1.1⟩
        obtain ⟨⟨A0, A1, A2, A3, A4, A5, A6, _⟩, A7, AG, AJ⟩ := hA
        obtain ⟨j1, j2⟩ := junk_ty (fi := fi) (cat := cat) hH hq2 (by omega) h4 AJ hx
        rw [TyL_app]
        refine ⟨⟨dn (by omega) A1 (pl_1' hk) (by omega) (by show 0 ≤ _; omega) (by show _ = _ - 0 + 1; omega) (by omega), dn (by omega) A2 (pl_k (by decide : (9 : Int32) = 0 ∨ (9 : Int32) = 3 ∨ (9 : Int32) = 4 ∨ (9 : Int32) = 5 ∨ (9 : Int32) = 7 ∨ (9 : Int32) = 8 ∨ (9 : Int32) = 9 ∨ (9 : Int32) = 10 ∨ (9 : Int32) = 11 ∨ (9 : Int32) = 12)) (by omega) (by show 1 ≤ _; omega) (by show _ = _ - 1 + 2; omega) (by omega), dn (by omega) A3 (pl_k (by decide : (5 : Int32) = 0 ∨ (5 : Int32) = 3 ∨ (5 : Int32) = 4 ∨ (5 : Int32) = 5 ∨ (5 : Int32) = 7 ∨ (5 : Int32) = 8 ∨ (5 : Int32) = 9 ∨ (5 : Int32) = 10 ∨ (5 : Int32) = 11 ∨ (5 : Int32) = 12)) (by omega) (by show 2 ≤ _; omega) (by show _ = _ - 2 + 1; omega) (by omega), dn (by omega) A4 (pl_k (by decide : (0 : Int32) = 0 ∨ (0 : Int32) = 3 ∨ (0 : Int32) = 4 ∨ (0 : Int32) = 5 ∨ (0 : Int32) = 7 ∨ (0 : Int32) = 8 ∨ (0 : Int32) = 9 ∨ (0 : Int32) = 10 ∨ (0 : Int32) = 11 ∨ (0 : Int32) = 12)) (by omega) (by show 0 ≤ _; omega) (by show _ = _ - 0 + 1; omega) (by omega), dn (by omega) A5 (pl_k (by decide : (7 : Int32) = 0 ∨ (7 : Int32) = 3 ∨ (7 : Int32) = 4 ∨ (7 : Int32) = 5 ∨ (7 : Int32) = 7 ∨ (7 : Int32) = 8 ∨ (7 : Int32) = 9 ∨ (7 : Int32) = 10 ∨ (7 : Int32) = 11 ∨ (7 : Int32) = 12)) (by omega) (by show 2 ≤ _; omega) (by show _ = _ - 2 + 1; omega) (by omega), dn (by omega) A6 (pl_k (by decide : (0 : Int32) = 0 ∨ (0 : Int32) = 3 ∨ (0 : Int32) = 4 ∨ (0 : Int32) = 5 ∨ (0 : Int32) = 7 ∨ (0 : Int32) = 8 ∨ (0 : Int32) = 9 ∨ (0 : Int32) = 10 ∨ (0 : Int32) = 11 ∨ (0 : Int32) = 12)) (by omega) (by show 0 ≤ _; omega) (by show _ = _ - 0 + 1; omega) (by omega), dn (by omega) A7 (pl_k (by decide : (8 : Int32) = 0 ∨ (8 : Int32) = 3 ∨ (8 : Int32) = 4 ∨ (8 : Int32) = 5 ∨ (8 : Int32) = 7 ∨ (8 : Int32) = 8 ∨ (8 : Int32) = 9 ∨ (8 : Int32) = 10 ∨ (8 : Int32) = 11 ∨ (8 : Int32) = 12)) (by omega) (by show 2 ≤ _; omega) (by show _ = _ - 2 + 1; omega) (by omega), trivial⟩, if_ok (Or.inl rfl) (by omega) (by omega) AG rfl (by omega) j2, gt_ok (by omega) rfl (by omega) (by rw [← hE]; congr 1; omega), j1⟩
      · rw [if_neg h2] at hA hE hf ⊢
        rw [AnIs_app] at hA
        rw [List.length_append, List.length_cons, List.length_cons, junkA_len] at hE hf
        have el : (nmA v h j k).length = 11 := rfl
        rw [el] at hE hf
        refine ⟨?_, hA.1.1⟩
        obtain ⟨⟨A0, A1, A2, A3, A4, A5, A6, A7, A8, A9, A10, _⟩, A11, AG, AJ⟩ := hA
        obtain ⟨j1, j2⟩ := junk_ty (fi := fi) (cat := cat) hH hq2 (by omega) h4 AJ hx
        rw [TyL_app]
        refine ⟨⟨dn (by omega) A1 (pl_1' hj) (by omega) (by show 0 ≤ _; omega) (by show _ = _ - 0 + 1; omega) (by omega), dn (by omega) A2 (pl_k (by decide : (9 : Int32) = 0 ∨ (9 : Int32) = 3 ∨ (9 : Int32) = 4 ∨ (9 : Int32) = 5 ∨ (9 : Int32) = 7 ∨ (9 : Int32) = 8 ∨ (9 : Int32) = 9 ∨ (9 : Int32) = 10 ∨ (9 : Int32) = 11 ∨ (9 : Int32) = 12)) (by omega) (by show 1 ≤ _; omega) (by show _ = _ - 1 + 2; omega) (by omega), dn (by omega) A3 (pl_k (by decide : (5 : Int32) = 0 ∨ (5 : Int32) = 3 ∨ (5 : Int32) = 4 ∨ (5 : Int32) = 5 ∨ (5 : Int32) = 7 ∨ (5 : Int32) = 8 ∨ (5 : Int32) = 9 ∨ (5 : Int32) = 10 ∨ (5 : Int32) = 11 ∨ (5 : Int32) = 12)) (by omega) (by show 2 ≤ _; omega) (by show _ = _ - 2 + 1; omega) (by omega), dn (by omega) A4 (pl_k (by decide : (0 : Int32) = 0 ∨ (0 : Int32) = 3 ∨ (0 : Int32) = 4 ∨ (0 : Int32) = 5 ∨ (0 : Int32) = 7 ∨ (0 : Int32) = 8 ∨ (0 : Int32) = 9 ∨ (0 : Int32) = 10 ∨ (0 : Int32) = 11 ∨ (0 : Int32) = 12)) (by omega) (by show 0 ≤ _; omega) (by show _ = _ - 0 + 1; omega) (by omega), dn (by omega) A5 (pl_k (by decide : (5 : Int32) = 0 ∨ (5 : Int32) = 3 ∨ (5 : Int32) = 4 ∨ (5 : Int32) = 5 ∨ (5 : Int32) = 7 ∨ (5 : Int32) = 8 ∨ (5 : Int32) = 9 ∨ (5 : Int32) = 10 ∨ (5 : Int32) = 11 ∨ (5 : Int32) = 12)) (by omega) (by show 2 ≤ _; omega) (by show _ = _ - 2 + 1; omega) (by omega), dn (by omega) A6 (pl_k (by decide : (0 : Int32) = 0 ∨ (0 : Int32) = 3 ∨ (0 : Int32) = 4 ∨ (0 : Int32) = 5 ∨ (0 : Int32) = 7 ∨ (0 : Int32) = 8 ∨ (0 : Int32) = 9 ∨ (0 : Int32) = 10 ∨ (0 : Int32) = 11 ∨ (0 : Int32) = 12)) (by omega) (by show 0 ≤ _; omega) (by show _ = _ - 0 + 1; omega) (by omega), dn (by omega) A7 (pl_k (by decide : (4 : Int32) = 0 ∨ (4 : Int32) = 3 ∨ (4 : Int32) = 4 ∨ (4 : Int32) = 5 ∨ (4 : Int32) = 7 ∨ (4 : Int32) = 8 ∨ (4 : Int32) = 9 ∨ (4 : Int32) = 10 ∨ (4 : Int32) = 11 ∨ (4 : Int32) = 12)) (by omega) (by show 2 ≤ _; omega) (by show _ = _ - 2 + 1; omega) (by omega), dn (by omega) A8 (pl_1' hk) (by omega) (by show 0 ≤ _; omega) (by show _ = _ - 0 + 1; omega) (by omega), dn (by omega) A9 (pl_k (by decide : (9 : Int32) = 0 ∨ (9 : Int32) = 3 ∨ (9 : Int32) = 4 ∨ (9 : Int32) = 5 ∨ (9 : Int32) = 7 ∨ (9 : Int32) = 8 ∨ (9 : Int32) = 9 ∨ (9 : Int32) = 10 ∨ (9 : Int32) = 11 ∨ (9 : Int32) = 12)) (by omega) (by show 1 ≤ _; omega) (by show _ = _ - 1 + 2; omega) (by omega), dn (by omega) A10 (pl_k (by decide : (5 : Int32) = 0 ∨ (5 : Int32) = 3 ∨ (5 : Int32) = 4 ∨ (5 : Int32) = 5 ∨ (5 : Int32) = 7 ∨ (5 : Int32) = 8 ∨ (5 : Int32) = 9 ∨ (5 : Int32) = 10 ∨ (5 : Int32) = 11 ∨ (5 : Int32) = 12)) (by omega) (by show 2 ≤ _; omega) (by show _ = _ - 2 + 1; omega) (by omega), dn (by omega) A11 (pl_k (by decide : (4 : Int32) = 0 ∨ (4 : Int32) = 3 ∨ (4 : Int32) = 4 ∨ (4 : Int32) = 5 ∨ (4 : Int32) = 7 ∨ (4 : Int32) = 8 ∨ (4 : Int32) = 9 ∨ (4 : Int32) = 10 ∨ (4 : Int32) = 11 ∨ (4 : Int32) = 12)) (by omega) (by show 2 ≤ _; omega) (by show _ = _ - 2 + 1; omega) (by omega), trivial⟩, if_ok (Or.inl rfl) (by omega) (by omega) AG rfl (by omega) j2, gt_ok (by omega) rfl (by omega) (by rw [← hE]; congr 1; omega), j1⟩
end Ty3
