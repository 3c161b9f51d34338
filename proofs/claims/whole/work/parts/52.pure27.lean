-- words at places: a block
section Ty5
variable {fq bc n hn : Nat} {st fi f g fr to tg hd d le he sa la : Nat → Int32} {cat : Int32 → Int32} {An : Nat → Pd}
def blkA (v : Int32) (p h bl i : Nat) (f g d : Nat → Int32) (pk j k x o : Int32) (h1 h2 : Nat) (x1 x2 : Int32) : List AE := ldA v h 0 ++ (cndA v (p + h) h pk j k x ++ (bdA f g d v bl i ++ tlA v (p + h + (cndL (p + h) h pk j k x).length + bl) o h1 h2 x1 x2))
theorem blkA_c (v : Int32) (p h bl i : Nat) (f g d : Nat → Int32) (pk j k x o : Int32) (h1 h2 : Nat) (x1 x2 : Int32) : cdL (blkA v p h bl i f g d pk j k x o h1 h2 x1 x2) = blkL p h bl i f g pk j k x o h1 h2 x1 x2 := by
  unfold blkA blkL
  rw [cdL_app, cdL_app, cdL_app, ldA_c, cndA_c, bdA_c, tlA_c]
theorem xor_st (a b : Int32) : a ^^^ (a ^^^ b) = b := by
  rw [← Int32.xor_assoc, Int32.xor_self, Int32.zero_xor]
theorem tlA_len (v : Int32) (p : Nat) (o : Int32) (h1 h2 : Nat) (x1 x2 : Int32) (h : f_MO_ends o = 0) : 5 ≤ (tlA v p o h1 h2 x1 x2).length := by
  unfold tlA
  by_cases h13 : o = 13
  · rw [if_pos h13, leadA_len]; omega
  · rw [if_neg h13, if_pos h]
    by_cases hj : f_MO_jumps o = 0
    · rw [if_pos hj, leadA_len]; omega
    · rw [if_neg hj, List.length_cons, List.length_append, leadA_len]; omega
theorem jm_cases {o : Int32} : o = 14 ∨ o = 15 ∨ o = 13 ∨ f_MO_jumps o = 0 := by
  unfold f_MO_jumps
  by_cases h13 : o = 13
  · exact Or.inr (Or.inr (Or.inl h13))
  · by_cases h14 : o = 14
    · exact Or.inl h14
    · by_cases h15 : o = 15
      · exact Or.inr (Or.inl h15)
      · rw [if_neg h13, if_neg h14, if_neg h15]; exact Or.inr (Or.inr (Or.inr rfl))
theorem blk_ty {b p : Nat} {pk j k x : Int32} (C : CKd n hn f g hd d) (E : CDe n hn f g fr to tg hd) (F : FD (fun i => f_MO_isLeader n hn i f g hd d) d 32 bc le he sa) (A : ∀ b, b < bc → la b = nI (lq_MO_cut n hn f g hd d (n - 1 - tn (le b)) (tn (le b)))) (hb : b < bc)
    (hH : An 2 = Hd bc st) (hq2 : 2 < fq) (hcat : ∀ p lo, Rs fq An (cat (nI p)) lo) (hj : j = nI (tn j) ∧ tn j < 9) (hk : k = nI (tn k) ∧ tn k < 9) (hx : ∃ t, t < bc ∧ x = st t)
    (hA : AnIs An p (blkA (st b) p (tn (he b)) (f_MO_bodyLength b f le la) (tn (le b)) f g d pk j k x (f (tn (la b))) (tn (he (tn (sa (tn (la b) + 1))))) (tn (he (tn (sa (tn (g (tn (la b)))))))) (st b ^^^ st (tn (sa (tn (la b) + 1)))) (st b ^^^ st (tn (sa (tn (g (tn (la b)))))))))
    (hl : p + (blkA (st b) p (tn (he b)) (f_MO_bodyLength b f le la) (tn (le b)) f g d pk j k x (f (tn (la b))) (tn (he (tn (sa (tn (la b) + 1))))) (tn (he (tn (sa (tn (g (tn (la b)))))))) (st b ^^^ st (tn (sa (tn (la b) + 1)))) (st b ^^^ st (tn (sa (tn (g (tn (la b)))))))).length ≤ fq) :
    TyL fq bc st fi cat An p (blkA (st b) p (tn (he b)) (f_MO_bodyLength b f le la) (tn (le b)) f g d pk j k x (f (tn (la b))) (tn (he (tn (sa (tn (la b) + 1))))) (tn (he (tn (sa (tn (g (tn (la b)))))))) (st b ^^^ st (tn (sa (tn (la b) + 1)))) (st b ^^^ st (tn (sa (tn (g (tn (la b)))))))) ∧ An p = dep 0 (st b) := by
  have h32 := C.1
  obtain ⟨a1, a2, a3, a4, a5⟩ := la_all C F A hb
  obtain ⟨l1, l2, l3⟩ := FD_le C F hb
  have h5 := (FD_he C F hb).2
  obtain ⟨dk, k1, k2, k3, k4, k5, k6, k7⟩ := C.2.2.2.2.2 _ a2 a3
  have ek : tn (d (tn (la b))) = dk := by rw [k2, tn_nI (by omega)]
  -- where jumps and falls lead
  have hJ : ¬ f_MO_jumps (f (tn (la b))) = 0 → tn (sa (tn (g (tn (la b))))) < bc ∧ tn (he (tn (sa (tn (g (tn (la b))))))) = dk - tkN (f (tn (la b))) + gvN (f (tn (la b))) := by
    intro hj3
    have hg := E.2.1 _ a2 (by rw [jumps_eq]; exact hj3)
    have h1 := ck_LJ C a2 a3 hj3 hg
    have e1 := FD_ex F hg.2 h1.2
    exact ⟨e1.1.2, by rw [e1.2.2.2, (k6 hj3).2, tn_nI (by omega)]⟩
  have hN : f_MO_ends (f (tn (la b))) = 0 → ¬ f (tn (la b)) = 13 → tn (sa (tn (la b) + 1)) < bc ∧ tn (he (tn (sa (tn (la b) + 1)))) = dk - tkN (f (tn (la b))) + gvN (f (tn (la b))) ∧ tn (d (tn (la b) + 1)) = dk - tkN (f (tn (la b))) + gvN (f (tn (la b))) := by
    intro he2 h13
    have hg31 : ¬ g31_MO_goOver (tn (la b)) f = 0 := by unfold g31_MO_goOver; rw [if_neg h13, if_pos he2]; decide
    have hk5 := k5 hg31
    have hld : ¬ f_MO_isLeader n hn (tn (la b) + 1) f g hd d = 0 := by
      by_cases hj3 : f_MO_jumps (f (tn (la b))) = 0
      · rcases a5 with h | h | h
        · exact absurd hj3 h
        · exact absurd he2 h
        · exact h
      · rcases jm_cases (o := f (tn (la b))) with h | h | h | h
        · exact (ck_LB C a2 a3 (Or.inl h)).2
        · exact (ck_LB C a2 a3 (Or.inr h)).2
        · exact absurd h h13
        · exact absurd h hj3
    have e1 := FD_ex F (j := tn (la b) + 1) (by omega) hld
    exact ⟨e1.1.2, by rw [e1.2.2.2, hk5.2, tn_nI (by omega)], by rw [hk5.2, tn_nI (by omega)]⟩
  unfold blkA at hA hl ⊢
  rw [AnIs_app, AnIs_app, AnIs_app, ldA_len, bdA_len] at hA
  obtain ⟨hA1, hA2, hA3, hA4⟩ := hA
  rw [List.length_append, List.length_append, List.length_append, ldA_len, bdA_len] at hl
  rw [TyL_app, TyL_app, TyL_app, ldA_len, bdA_len]
  have hcl : (cndA (st b) (p + tn (he b)) (tn (he b)) pk j k x).length = (cndL (p + tn (he b)) (tn (he b)) pk j k x).length := by rw [← cdL_len, cndA_c]
  rw [hcl] at hA3 hA4 hl ⊢
  have htl := fun h => tlA_len (st b) (p + tn (he b) + (cndL (p + tn (he b)) (tn (he b)) pk j k x).length + f_MO_bodyLength b f le la) (f (tn (la b))) (tn (he (tn (sa (tn (la b) + 1))))) (tn (he (tn (sa (tn (g (tn (la b)))))))) (st b ^^^ st (tn (sa (tn (la b) + 1)))) (st b ^^^ st (tn (sa (tn (g (tn (la b))))))) h
  -- the tail
  obtain ⟨t1, t2⟩ := tl_ty (fi := fi) (cat := cat) hH hq2 (by omega) hA4 jm_cases (fun hj3 => ⟨by rw [(hJ hj3).2]; omega, _, (hJ hj3).1, xor_st _ _⟩) (fun he2 h13 => ⟨by rw [(hN he2 h13).2.1]; omega, _, (hN he2 h13).1, xor_st _ _⟩) (fun hj3 h13 => by
    have he2 : f_MO_ends (f (tn (la b))) = 0 := by
      rcases jm_cases (o := f (tn (la b))) with h | h | h | h
      · rw [h]; decide
      · rw [h]; decide
      · exact absurd h h13
      · exact absurd h hj3
    rw [(hJ hj3).2, (hN he2 h13).2.1])
  -- the instructions
  have hbl : tn (le b) + f_MO_bodyLength b f le la = (if f_MO_jumps (f (tn (la b))) = 0 then tn (la b) + 1 else tn (la b)) := by
    unfold f_MO_bodyLength
    split <;> omega
  obtain ⟨c1, c2⟩ := bd_ty (bc := bc) (st := st) (fi := fi) (v := st b) C E hcat (f_MO_bodyLength b f le la) (tn (le b)) (p + tn (he b) + (cndL (p + tn (he b)) (tn (he b)) pk j k x).length) hA3 (fun q h1 h2 => by
    rw [hbl] at h2
    by_cases hq : q = tn (la b)
    · subst hq
      by_cases hj3 : f_MO_jumps (f (tn (la b))) = 0
      · exact ⟨a2, a3, hj3⟩
      · rw [if_neg hj3] at h2; omega
    · have hlt : q < tn (la b) := by
        by_cases hj3 : f_MO_jumps (f (tn (la b))) = 0
        · rw [if_pos hj3] at h2; omega
        · rw [if_neg hj3] at h2; omega
      refine ⟨by omega, ?_, (a4 q h1 hlt).1⟩
      -- every instruction of a block is reached
      have reach : ∀ r, tn (le b) + r ≤ tn (la b) → ¬ d (tn (le b) + r) = -1 := by
        intro r
        induction r with
        | zero => intro _; exact l2
        | succ r ih =>
          intro hr2
          have h6 := ih (by omega)
          have h7 := a4 (tn (le b) + r) (by omega) (by omega)
          have h8 := ck_fall C (tn (le b) + r) (by omega) ((d4_lt C.2.2.1 _).2.mpr h6) h7.1 h7.2.1
          exact (d4_lt C.2.2.1 _).2.mp h8.2
      have h9 := reach (q - tn (le b)) (by omega)
      rw [show tn (le b) + (q - tn (le b)) = q by omega] at h9
      exact h9) (by omega) (fun hc => by
    have he2 : f_MO_ends (f (tn (la b))) = 0 := by
      by_cases hj3 : f_MO_jumps (f (tn (la b))) = 0
      · rw [if_pos hj3] at hbl
        rcases hc with hc | hc
        · omega
        · rw [hbl, Nat.add_sub_cancel] at hc; exact hc
      · rcases jm_cases (o := f (tn (la b))) with h | h | h | h
        · rw [h]; decide
        · rw [h]; decide
        · rw [h]; decide
        · exact absurd h hj3
    obtain ⟨t3, t4⟩ := t2 he2
    refine ⟨t3, ?_⟩
    rw [t4]
    by_cases hj3 : f_MO_jumps (f (tn (la b))) = 0
    · have h13 : ¬ f (tn (la b)) = 13 := by intro e; rw [e] at hj3; exact absurd hj3 (by decide)
      rw [if_pos hj3] at hbl ⊢
      rw [hbl, (hN he2 h13).2.1, (hN he2 h13).2.2]
    · rw [if_neg hj3] at hbl ⊢
      rw [hbl, ek]
      by_cases h13 : f (tn (la b)) = 13
      · rw [if_pos h13, (hJ hj3).2, h13]
        show dep (dk - 0 + 0) _ = _
        rw [Nat.sub_zero, Nat.add_zero]
      · rw [if_neg h13, (hN he2 h13).2.1]
        have e1 : tkN (f (tn (la b))) = 1 ∧ gvN (f (tn (la b))) = 0 := by
          rcases jm_cases (o := f (tn (la b))) with h | h | h | h
          · rw [h]; decide
          · rw [h]; decide
          · exact absurd h h13
          · exact absurd h hj3
        rw [show dk - tkN (f (tn (la b))) + gvN (f (tn (la b))) + 1 = dk by omega])
  have hlast : p + tn (he b) + (cndL (p + tn (he b)) (tn (he b)) pk j k x).length < fq := by
    by_cases he2 : f_MO_ends (f (tn (la b))) = 0
    · have := htl he2; omega
    · have hj3 : f_MO_jumps (f (tn (la b))) = 0 := by
        rcases jm_cases (o := f (tn (la b))) with h | h | h | h
        · rw [h] at he2; exact absurd (by decide) he2
        · rw [h] at he2; exact absurd (by decide) he2
        · rw [h] at he2; exact absurd (by decide) he2
        · exact h
      rw [if_pos hj3] at hbl
      omega
  -- the condition, the loads
  have ehd : tn (d (tn (le b))) = tn (he b) := by rw [l3]
  rw [ehd] at c2
  obtain ⟨b1, b2⟩ := cnd_ty (fi := fi) (cat := cat) hH hq2 (by omega) hj hk hx hA2 (by rw [hcl]; exact c2) (by rw [hcl]; omega)
  obtain ⟨d1, d2⟩ := ld_ty (fq := fq) (bc := bc) (st := st) (fi := fi) (cat := cat) (st b) (tn (he b)) 0 p hA1 (by rw [Nat.zero_add]; exact b2) (by omega) (by omega)
  exact ⟨⟨d1, b1, c1, t1⟩, d2⟩
end Ty5
