-- a block is written alike
section Bk
variable {n hn bc : Nat} {f g fr to tg hd d le he sa la st : Nat → Int32}
theorem la_all (C : CKd n hn f g hd d) (F : FD (fun i => f_MO_isLeader n hn i f g hd d) d 32 bc le he sa) (A : ∀ b, b < bc → la b = nI (lq_MO_cut n hn f g hd d (n - 1 - tn (le b)) (tn (le b)))) {b : Nat} (hb : b < bc) : tn (le b) ≤ tn (la b) ∧ tn (la b) < n ∧ ¬ d (tn (la b)) = -1 ∧ (∀ j, tn (le b) ≤ j → j < tn (la b) → f_MO_jumps (f j) = 0 ∧ f_MO_ends (f j) = 0 ∧ f_MO_isLeader n hn (j + 1) f g hd d = 0) ∧ (¬ f_MO_jumps (f (tn (la b))) = 0 ∨ ¬ f_MO_ends (f (tn (la b))) = 0 ∨ ¬ f_MO_isLeader n hn (tn (la b) + 1) f g hd d = 0) := by
  have h32 := C.1
  obtain ⟨l1, l2, l3⟩ := FD_le C F hb
  have hlt := l1.2
  obtain ⟨a1, a2, a3, a4, a5⟩ := lq_ok (hn := hn) (g := g) (hd := hd) (ck_fall C) (n - 1 - tn (le b)) (tn (le b)) (by omega) ((d4_lt C.2.2.1 _).2.mpr l2)
  have e := A b hb
  have et : tn (la b) = lq_MO_cut n hn f g hd d (n - 1 - tn (le b)) (tn (le b)) := by rw [e, tn_nI (by omega)]
  rw [← et] at a1 a2 a3 a4 a5
  exact ⟨a1, a2, (d4_lt C.2.2.1 _).2.mp a3, a4, a5⟩
theorem FD_inj (F : FD (fun i => f_MO_isLeader n hn i f g hd d) d 32 bc le he sa) {b c : Nat} (hb : b < bc) (hc : c < bc) (h : tn (le b) = tn (le c)) : b = c := by
  rcases Nat.lt_trichotomy b c with h1 | h1 | h1
  · have := F.2.2.1 b c h1 hc; omega
  · exact h1
  · have := F.2.2.1 c b h1 hb; omega
theorem ba_sa (C : CKd n hn f g hd d) (F : FD (fun i => f_MO_isLeader n hn i f g hd d) d 32 bc le he sa) {j : Nat} (hj : j < 32) (h : ¬ f_MO_isLeader n hn j f g hd d = 0) : f_MO_blockAt bc le (nI j) = tn (sa j) := by
  have e1 := FD_ex F hj h
  have h1c := FD_1 C F
  have e2 : le (f_MO_blockAt bc le (nI j)) = nI j := ba_eq le (nI j) (bc - 1) 0 ⟨tn (sa j), Nat.zero_le _, by have := e1.1.2; omega, e1.2.2.1⟩
  apply FD_inj F (ba_lt h1c le _) e1.1.2
  rw [e2, e1.2.1, tn_nI (by omega)]
theorem tl_eq (C : CKd n hn f g hd d) (E : CDe n hn f g fr to tg hd) (F : FD (fun i => f_MO_isLeader n hn i f g hd d) d 32 bc le he sa) (A : ∀ b, b < bc → la b = nI (lq_MO_cut n hn f g hd d (n - 1 - tn (le b)) (tn (le b)))) {b : Nat} (hb : b < bc) (fq : Nat) (st : Nat → Int32) :
    tlL fq (f (tn (la b))) (tn (he (f_MO_blockAt bc le (nI (tn (la b) + 1))))) (tn (he (f_MO_blockAt bc le (g (tn (la b)))))) (st b ^^^ st (f_MO_blockAt bc le (nI (tn (la b) + 1)))) (st b ^^^ st (f_MO_blockAt bc le (g (tn (la b))))) = tlL fq (f (tn (la b))) (tn (he (tn (sa (tn (la b) + 1))))) (tn (he (tn (sa (tn (g (tn (la b)))))))) (st b ^^^ st (tn (sa (tn (la b) + 1)))) (st b ^^^ st (tn (sa (tn (g (tn (la b))))))) := by
  have h32 := C.1
  obtain ⟨a1, a2, a3, a4, a5⟩ := la_all C F A hb
  have hJ : ¬ f_MO_jumps (f (tn (la b))) = 0 → f_MO_blockAt bc le (g (tn (la b))) = tn (sa (tn (g (tn (la b))))) := by
    intro hj
    have hg := E.2.1 _ a2 (by rw [jumps_eq]; exact hj)
    have h1 := ck_LJ C a2 a3 hj hg
    rw [hg.1, tn_nI (by have := hg.2; omega)]
    exact ba_sa C F hg.2 h1.2
  have hN : f_MO_ends (f (tn (la b))) = 0 → ¬ f (tn (la b)) = 13 → f_MO_blockAt bc le (nI (tn (la b) + 1)) = tn (sa (tn (la b) + 1)) := by
    intro he2 h13
    by_cases hj : f_MO_jumps (f (tn (la b))) = 0
    · have hf := (ck_fall C _ a2 ((d4_lt C.2.2.1 _).2.mpr a3) hj he2).1
      rcases a5 with h | h | h
      · exact absurd hj h
      · exact absurd he2 h
      · exact ba_sa C F (by omega) h
    · have hb2 : f (tn (la b)) = 14 ∨ f (tn (la b)) = 15 := by
        unfold f_MO_jumps at hj
        rw [if_neg h13] at hj
        by_cases h14 : f (tn (la b)) = 14
        · exact Or.inl h14
        · rw [if_neg h14] at hj
          by_cases h15 : f (tn (la b)) = 15
          · exact Or.inr h15
          · rw [if_neg h15] at hj; exact absurd rfl hj
      have h1 := ck_LB C a2 a3 hb2
      exact ba_sa C F (by omega) h1.2
  unfold tlL
  by_cases h13 : f (tn (la b)) = 13
  · rw [if_pos h13, if_pos h13, hJ (by rw [h13]; decide)]
  · rw [if_neg h13, if_neg h13]
    by_cases he2 : f_MO_ends (f (tn (la b))) = 0
    · rw [if_pos he2, if_pos he2, hN he2 h13]
      by_cases hj : f_MO_jumps (f (tn (la b))) = 0
      · rw [if_pos hj, if_pos hj]
      · rw [if_neg hj, if_neg hj, hJ hj]
    · rw [if_neg he2, if_neg he2]
theorem WE_blk_L (C : CKd n hn f g hd d) (F : FD (fun i => f_MO_isLeader n hn i f g hd d) d 32 bc le he sa) (A : ∀ b, b < bc → la b = nI (lq_MO_cut n hn f g hd d (n - 1 - tn (le b)) (tn (le b)))) {bs : Nat → Int32} {q : Nat} (hb : tn (bs q) < bc) (st fo fa : Nat → Int32) (fq : Nat) (g2 : Int32) :
    fb_WE n f g bc le he sa st bs q fo fa fq g2 = ((wrL (blkL fq (tn (he (tn (bs q)))) (f_MO_bodyLength (tn (bs q)) f le la) (tn (le (tn (bs q)))) f g (dr (gn g2) - dr (gn g2) / 4 * 4) (dr (gn (gn g2)) - dr (gn (gn g2)) / 4 * 4) (dr (gn (gn (gn g2))) - dr (gn (gn (gn g2))) / 4 * 4) (st (tn (dr (gn (gn (gn (gn g2))))) % bc)) (f (tn (la (tn (bs q))))) (tn (he (tn (sa (tn (la (tn (bs q))) + 1))))) (tn (he (tn (sa (tn (g (tn (la (tn (bs q)))))))))) (st (tn (bs q)) ^^^ st (tn (sa (tn (la (tn (bs q))) + 1)))) (st (tn (bs q)) ^^^ st (tn (sa (tn (g (tn (la (tn (bs q)))))))))) (fq, fo, fa)).1,
      (wrL (blkL fq (tn (he (tn (bs q)))) (f_MO_bodyLength (tn (bs q)) f le la) (tn (le (tn (bs q)))) f g (dr (gn g2) - dr (gn g2) / 4 * 4) (dr (gn (gn g2)) - dr (gn (gn g2)) / 4 * 4) (dr (gn (gn (gn g2))) - dr (gn (gn (gn g2))) / 4 * 4) (st (tn (dr (gn (gn (gn (gn g2))))) % bc)) (f (tn (la (tn (bs q))))) (tn (he (tn (sa (tn (la (tn (bs q))) + 1))))) (tn (he (tn (sa (tn (g (tn (la (tn (bs q)))))))))) (st (tn (bs q)) ^^^ st (tn (sa (tn (la (tn (bs q))) + 1)))) (st (tn (bs q)) ^^^ st (tn (sa (tn (g (tn (la (tn (bs q)))))))))) (fq, fo, fa)).2.1,
      (wrL (blkL fq (tn (he (tn (bs q)))) (f_MO_bodyLength (tn (bs q)) f le la) (tn (le (tn (bs q)))) f g (dr (gn g2) - dr (gn g2) / 4 * 4) (dr (gn (gn g2)) - dr (gn (gn g2)) / 4 * 4) (dr (gn (gn (gn g2))) - dr (gn (gn (gn g2))) / 4 * 4) (st (tn (dr (gn (gn (gn (gn g2))))) % bc)) (f (tn (la (tn (bs q))))) (tn (he (tn (sa (tn (la (tn (bs q))) + 1))))) (tn (he (tn (sa (tn (g (tn (la (tn (bs q)))))))))) (st (tn (bs q)) ^^^ st (tn (sa (tn (la (tn (bs q))) + 1)))) (st (tn (bs q)) ^^^ st (tn (sa (tn (g (tn (la (tn (bs q)))))))))) (fq, fo, fa)).2.2, gn (gn (gn (gn g2)))) := by
  have h32 := C.1
  obtain ⟨a1, a2, a3, a4, a5⟩ := la_all C F A hb
  obtain ⟨b, hbe⟩ : ∃ z, z = tn (bs q) := ⟨_, rfl⟩
  rw [← hbe] at hb a1 a2 a3 a4 a5 ⊢
  obtain ⟨R1, hR1⟩ : ∃ z, z = wrL (ldL (tn (he b)) 1) (fq, fo, fa) := ⟨_, rfl⟩
  have l1 : R1.1 = fq + tn (he b) := by rw [hR1, wrL_len, ldL_len]
  obtain ⟨K, hK⟩ : ∃ z, z = cndL (fq + tn (he b)) (tn (he b)) (dr (gn g2) - dr (gn g2) / 4 * 4) (dr (gn (gn g2)) - dr (gn (gn g2)) / 4 * 4) (dr (gn (gn (gn g2))) - dr (gn (gn (gn g2))) / 4 * 4) (st (tn (dr (gn (gn (gn (gn g2))))) % bc)) := ⟨_, rfl⟩
  obtain ⟨R2, hR2⟩ : ∃ z, z = wrL K R1 := ⟨_, rfl⟩
  have c0 : f_WE_writeTakingBack fq fo fa b he = (fq + tn (he b), R1.2.1, R1.2.2) := by
    unfold f_WE_writeTakingBack
    rw [tb_L, Nat.zero_add, ← hR1]; rfl
  have c1 : f_WE_writeCondition (fq + tn (he b)) R1.2.1 R1.2.2 bc b g2 he st = (R2.1, R2.2.1, R2.2.2, gn (gn (gn (gn g2)))) := by
    rw [WE_cond_L, ← hK, eta3 l1, ← hR2]
  have hbl : (if f_MO_jumps (f (tn (la b))) = 0 then tn (la b) - tn (le b) + 1 else tn (la b) - tn (le b)) = f_MO_bodyLength b f le la := by
    unfold f_MO_bodyLength
    rfl
  have c2 : f_WE_writeInstructions R2.1 R2.2.1 R2.2.2 n b f g le he st sa = wrL (bdL f g (f_MO_bodyLength b f le la) (tn (le b)) ++ tlL (R2.1 + f_MO_bodyLength b f le la) (f (tn (la b))) (tn (he (tn (sa (tn (la b) + 1))))) (tn (he (tn (sa (tn (g (tn (la b)))))))) (st b ^^^ st (tn (sa (tn (la b) + 1)))) (st b ^^^ st (tn (sa (tn (g (tn (la b)))))))) R2 := by
    unfold f_WE_writeInstructions
    have := WE_ins_L (n := n) (b := b) (ed := tn (la b)) (f := f) (g := g) (le := le) (he := he) (st := st) (sa := sa) a2 (fun j h1 h2 => F.2.2.2.1 j (by omega) (by have := (a4 (j - 1) (by omega) (by omega)).2.2; rw [show j - 1 + 1 = j by omega] at this; exact this)) (fun j h1 h2 => ⟨by rw [jumps_eq]; exact (a4 j h1 h2).1, (a4 j h1 h2).2.1⟩) (fun h1 h2 => by
      have hj : f_MO_jumps (f (tn (la b))) = 0 := by rw [← jumps_eq]; exact h1
      have hf := (ck_fall C _ a2 ((d4_lt C.2.2.1 _).2.mpr a3) hj h2).1
      refine ⟨hf, fun e => ?_⟩
      rcases a5 with h | h | h
      · exact h hj
      · exact h h2
      · have hN := (FD_ex F (by omega) h).1
        have h3 : (nI (tn (sa (tn (la b) + 1)))).toInt = (-1 : Int32).toInt := by rw [← hN.1, e]
        rw [nI_toInt (by have := hN.2; have := F.1; omega)] at h3
        have h4 : (-1 : Int32).toInt = -1 := by decide
        omega) (n - tn (le b)) (tn (le b)) R2 (by omega) (Nat.le_refl _) a1
    rw [this, hbl]
  have l2 : R2.1 = fq + tn (he b) + K.length := by rw [hR2, wrL_len, l1]
  unfold fb_WE blkL
  rw [← hbe]
  simp only [c0, c1, c2]
  rw [wrL_app (ldL (tn (he b)) 1), wrL_app (cndL _ _ _ _ _ _), ← hR1, ← hK, ← hR2, ← l2]
theorem gi4 (g2 : Int32) : gn g2 = gi 1 g2 ∧ gn (gn g2) = gi 2 g2 ∧ gn (gn (gn g2)) = gi 3 g2 ∧ gn (gn (gn (gn g2))) = gi 4 g2 := ⟨rfl, rfl, rfl, rfl⟩
/-- class and reference write the same block -/
theorem blk_eq (C : CKd n hn f g hd d) (E : CDe n hn f g fr to tg hd) (F : FD (fun i => f_MO_isLeader n hn i f g hd d) d 32 bc le he sa) (A : ∀ b, b < bc → la b = nI (lq_MO_cut n hn f g hd d (n - 1 - tn (le b)) (tn (le b)))) {bs dw fi : Nat → Int32} {q : Nat} (hb : tn (bs q) < bc) (st fo fa : Nat → Int32) {fq : Nat} {g2 : Int32} (hfi : tn (fi (tn (bs q))) = fq) (hdw : ∀ k, k < 4 → dw (4 * tn (bs q) + k) = dr (gi (k + 1) g2)) :
    f_MO_writeBlock fq (tn (bs q)) bc fo fa f g le la he st dw fi = ((fb_WE n f g bc le he sa st bs q fo fa fq g2).1, (fb_WE n f g bc le he sa st bs q fo fa fq g2).2.1, (fb_WE n f g bc le he sa st bs q fo fa fq g2).2.2.1) ∧ (fb_WE n f g bc le he sa st bs q fo fa fq g2).2.2.2 = gi 4 g2 := by
  rw [WE_blk_L C F A hb]
  refine ⟨?_, rfl⟩
  have h0 := hdw 0 (by decide)
  have h1 := hdw 1 (by decide)
  have h2 := hdw 2 (by decide)
  have h3 := hdw 3 (by decide)
  rw [Nat.add_zero] at h0
  rw [MO_blk_L hfi (pp_4 (dr_Nn h0)), h0, h1, h2, h3]
  unfold blkL
  rw [tl_eq C E F A hb]
  rfl
end Bk
