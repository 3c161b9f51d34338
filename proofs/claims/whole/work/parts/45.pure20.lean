-- what is written, as lists: a block
def tlL (fq : Nat) (o : Int32) (h1 h2 : Nat) (x1 x2 : Int32) : List (Int32 × Int32) := if o = 13 then leadL h2 x2 else (if f_MO_ends o = 0 then (if f_MO_jumps o = 0 then leadL h1 x1 else (o, nI (fq + 1 + (h1 + 5))) :: (leadL h1 x1 ++ leadL h2 x2)) else [])
def blkL (fq h bl i : Nat) (f g : Nat → Int32) (p j k x o : Int32) (h1 h2 : Nat) (x1 x2 : Int32) : List (Int32 × Int32) := ldL h 1 ++ (cndL (fq + h) h p j k x ++ (bdL f g bl i ++ tlL (fq + h + (cndL (fq + h) h p j k x).length + bl) o h1 h2 x1 x2))
theorem eta3 {r : F3} {k : Nat} (h : r.1 = k) : (k, r.2.1, r.2.2) = r := by subst h; rfl
theorem leadL_len (k : Nat) (x : Int32) : (leadL k x).length = k + 5 := by
  unfold leadL
  rw [List.length_append, stL_len]; rfl
theorem MO_blk_L {fq b bc : Nat} {fo fa f g le la he st dw fi : Nat → Int32} (hfi : tn (fi b) = fq) (hp : dw (4 * b) - dw (4 * b) / 4 * 4 = 0 ∨ dw (4 * b) - dw (4 * b) / 4 * 4 = 1 ∨ dw (4 * b) - dw (4 * b) / 4 * 4 = 2 ∨ dw (4 * b) - dw (4 * b) / 4 * 4 = 3) :
    f_MO_writeBlock fq b bc fo fa f g le la he st dw fi = wrL (blkL fq (tn (he b)) (f_MO_bodyLength b f le la) (tn (le b)) f g (dw (4 * b) - dw (4 * b) / 4 * 4) (dw (4 * b + 1) - dw (4 * b + 1) / 4 * 4) (dw (4 * b + 2) - dw (4 * b + 2) / 4 * 4) (st (tn (dw (4 * b + 3)) % bc)) (f (tn (la b))) (tn (he (f_MO_blockAt bc le (nI (tn (la b) + 1))))) (tn (he (f_MO_blockAt bc le (g (tn (la b)))))) (st b ^^^ st (f_MO_blockAt bc le (nI (tn (la b) + 1)))) (st b ^^^ st (f_MO_blockAt bc le (g (tn (la b)))))) (fq, fo, fa) := by
  obtain ⟨R1, hR1⟩ : ∃ z, z = wrL (ldL (tn (he b)) 1) (fq, fo, fa) := ⟨_, rfl⟩
  have l1 : R1.1 = fq + tn (he b) := by rw [hR1, wrL_len, ldL_len]
  obtain ⟨C, hC⟩ : ∃ z, z = cndL (fq + tn (he b)) (tn (he b)) (dw (4 * b) - dw (4 * b) / 4 * 4) (dw (4 * b + 1) - dw (4 * b + 1) / 4 * 4) (dw (4 * b + 2) - dw (4 * b + 2) / 4 * 4) (st (tn (dw (4 * b + 3)) % bc)) := ⟨_, rfl⟩
  obtain ⟨R2, hR2⟩ : ∃ z, z = wrL C R1 := ⟨_, rfl⟩
  obtain ⟨R3, hR3⟩ : ∃ z, z = wrL (bdL f g (f_MO_bodyLength b f le la) (tn (le b))) R2 := ⟨_, rfl⟩
  have hcl : C.length = f_MO_conditionLength b he dw := by rw [hC]; exact (MO_cond_L (bc := bc) (fo := fo) (fa := fa) (st := st) (fi := fi) (by rw [hfi]) hp).2
  have l2 : R2.1 = fq + tn (he b) + f_MO_conditionLength b he dw := by rw [hR2, wrL_len, l1, hcl]
  have l3 : R3.1 = fq + tn (he b) + f_MO_conditionLength b he dw + f_MO_bodyLength b f le la := by rw [hR3, wrL_len, l2, bdL_len]
  have c0 : lw_MO_wb (tn (he b)) 1 fo fa fq = rotL R1 := by rw [lw_L, hR1]
  have c1 : f_MO_condition (fq + tn (he b)) b bc (rotL R1).1 (rotL R1).2.1 he st dw fi = R2 := by
    rw [(MO_cond_L (by rw [hfi]) hp).1, ← hC, hR2]
    show wrL C (fq + tn (he b), R1.2.1, R1.2.2) = _
    rw [eta3 l1]
  have c2 : lb_MO_wb f g (f_MO_bodyLength b f le la) (tn (le b)) R2.2.1 R2.2.2 (fq + tn (he b) + f_MO_conditionLength b he dw) = rotL R3 := by
    rw [lb_L, eta3 l2, ← hR3]
  have hR : wrL (blkL fq (tn (he b)) (f_MO_bodyLength b f le la) (tn (le b)) f g (dw (4 * b) - dw (4 * b) / 4 * 4) (dw (4 * b + 1) - dw (4 * b + 1) / 4 * 4) (dw (4 * b + 2) - dw (4 * b + 2) / 4 * 4) (st (tn (dw (4 * b + 3)) % bc)) (f (tn (la b))) (tn (he (f_MO_blockAt bc le (nI (tn (la b) + 1))))) (tn (he (f_MO_blockAt bc le (g (tn (la b)))))) (st b ^^^ st (f_MO_blockAt bc le (nI (tn (la b) + 1)))) (st b ^^^ st (f_MO_blockAt bc le (g (tn (la b)))))) (fq, fo, fa) = wrL (tlL (fq + tn (he b) + f_MO_conditionLength b he dw + f_MO_bodyLength b f le la) (f (tn (la b))) (tn (he (f_MO_blockAt bc le (nI (tn (la b) + 1))))) (tn (he (f_MO_blockAt bc le (g (tn (la b)))))) (st b ^^^ st (f_MO_blockAt bc le (nI (tn (la b) + 1)))) (st b ^^^ st (f_MO_blockAt bc le (g (tn (la b)))))) R3 := by
    unfold blkL
    rw [wrL_app, wrL_app, wrL_app, ← hR1, ← hC, ← hR2, ← hR3, hcl]
  rw [hR]
  unfold f_MO_writeBlock tlL
  simp only [c0, c1, c2]
  have e3 : ∀ t, f_MO_lead (fq + tn (he b) + f_MO_conditionLength b he dw + f_MO_bodyLength b f le la) (rotL R3).1 (rotL R3).2.1 b t he st = wrL (leadL (tn (he t)) (st b ^^^ st t)) R3 := by
    intro t
    rw [MO_lead_L]
    show wrL _ (fq + tn (he b) + f_MO_conditionLength b he dw + f_MO_bodyLength b f le la, R3.2.1, R3.2.2) = _
    rw [eta3 l3]
  by_cases h13 : f (tn (la b)) = 13
  · simp only [if_pos h13, e3]
  · simp only [if_neg h13]
    by_cases he2 : f_MO_ends (f (tn (la b))) = 0
    · simp only [if_pos he2]
      by_cases hj : f_MO_jumps (f (tn (la b))) = 0
      · simp only [if_pos hj, e3]
      · simp only [if_neg hj, MO_lead_L]
        rw [wrL, wrL_app]
        have e4 : ((fq + tn (he b) + f_MO_conditionLength b he dw + f_MO_bodyLength b f le la) + 1, upd (rotL R3).1 (fq + tn (he b) + f_MO_conditionLength b he dw + f_MO_bodyLength b f le la) (f (tn (la b))), upd (rotL R3).2.1 (fq + tn (he b) + f_MO_conditionLength b he dw + f_MO_bodyLength b f le la) (nI (fq + tn (he b) + f_MO_conditionLength b he dw + f_MO_bodyLength b f le la + 1 + (tn (he (f_MO_blockAt bc le (nI (tn (la b) + 1)))) + 5)))) = w1 (f (tn (la b)), nI (fq + tn (he b) + f_MO_conditionLength b he dw + f_MO_bodyLength b f le la + 1 + (tn (he (f_MO_blockAt bc le (nI (tn (la b) + 1)))) + 5))) R3 := by
          unfold w1 rotL
          rw [l3]
        rw [e4]
    · simp only [if_neg he2]
      show (fq + tn (he b) + f_MO_conditionLength b he dw + f_MO_bodyLength b f le la, R3.2.1, R3.2.2) = R3
      exact eta3 l3
theorem j13 {o : Int32} (hj : ¬ f_FF_jumps o = 0) (hb : f_FF_branches o = 0) : o = 13 := by
  unfold f_FF_jumps at hj
  by_cases h : o = 13
  · exact h
  · rw [if_neg h, if_pos hb] at hj
    exact absurd rfl hj
theorem WE_jump_L {b i : Nat} {f g he st sa : Nat → Int32} (s : F3) (hj : ¬ f_FF_jumps (f i) = 0) : f_WE_writeJump s.1 s.2.1 s.2.2 b i f g he st sa = wrL (tlL s.1 (f i) (tn (he (tn (sa (i + 1))))) (tn (he (tn (sa (tn (g i)))))) (st b ^^^ st (tn (sa (i + 1)))) (st b ^^^ st (tn (sa (tn (g i)))))) s := by
  unfold f_WE_writeJump tlL
  by_cases hb : f_FF_branches (f i) = 0
  · rw [if_pos hb, if_pos (j13 hj hb), WE_lead_L]
  · rcases jm_br.mp hb with e | e
    all_goals
      have h13 : ¬ f i = 13 := by rw [e]; decide
      have he2 : f_MO_ends (f i) = 0 := by rw [e]; decide
      have hj2 : ¬ f_MO_jumps (f i) = 0 := by rw [e]; decide
      rw [if_neg hb, if_neg h13, if_pos he2, if_neg hj2]
      simp only [WE_lead_L]
      rw [wrL, wrL_app]
      have l1 : (wrL (leadL (tn (he (tn (sa (i + 1))))) (st b ^^^ st (tn (sa (i + 1))))) (w1 (f i, nI (s.1 + 1 + (tn (he (tn (sa (i + 1)))) + 5))) s)).1 = s.1 + 1 + tn (he (tn (sa (i + 1)))) + 5 := by
        rw [wrL_len, leadL_len]
        show s.1 + 1 + (tn (he (tn (sa (i + 1)))) + 5) = _
        omega
      have e4 : (s.1 + 1, upd s.2.1 s.1 (f i), upd s.2.2 s.1 (nI (s.1 + 1 + (tn (he (tn (sa (i + 1)))) + 5)))) = w1 (f i, nI (s.1 + 1 + (tn (he (tn (sa (i + 1)))) + 5))) s := rfl
      rw [e4, eta3 l1]
theorem WE_ins_L {n b ed : Nat} {f g le he st sa : Nat → Int32} (hed : ed < n) (ha : ∀ j, tn (le b) < j → j ≤ ed → sa j = -1) (hb : ∀ j, tn (le b) ≤ j → j < ed → f_FF_jumps (f j) = 0 ∧ f_FF_ends (f j) = 0) (hc : f_FF_jumps (f ed) = 0 → f_FF_ends (f ed) = 0 → ed + 1 < n ∧ ¬ sa (ed + 1) = -1) : ∀ (kf i : Nat) (s : F3), i + kf = n → tn (le b) ≤ i → i ≤ ed →
    lp_WE_instr b f g le he st sa kf i s.2.1 s.2.2 s.1 = wrL (bdL f g (if f_MO_jumps (f ed) = 0 then ed - i + 1 else ed - i) i ++ tlL (s.1 + (if f_MO_jumps (f ed) = 0 then ed - i + 1 else ed - i)) (f ed) (tn (he (tn (sa (ed + 1))))) (tn (he (tn (sa (tn (g ed)))))) (st b ^^^ st (tn (sa (ed + 1)))) (st b ^^^ st (tn (sa (tn (g ed)))))) s := by
  intro kf
  induction kf with
  | zero => intro i s h h1 h2; omega
  | succ kf ih =>
    intro i s h h1 h2
    have go : lp_WE_instr b f g le he st sa (kf + 1) i s.2.1 s.2.2 s.1 = (if f_FF_jumps (f i) = 0 then (if f_FF_ends (f i) = 0 then (lp_WE_instr b f g le he st sa kf (i + 1) (upd s.2.1 s.1 (f i)) (upd s.2.2 s.1 (g i)) (s.1 + 1)) else (s.1 + 1, upd s.2.1 s.1 (f i), upd s.2.2 s.1 (g i))) else ((f_WE_writeJump s.1 s.2.1 s.2.2 b i f g he st sa).1, (f_WE_writeJump s.1 s.2.1 s.2.2 b i f g he st sa).2.1, (f_WE_writeJump s.1 s.2.1 s.2.2 b i f g he st sa).2.2)) := by
      rw [lp_WE_instr]
      by_cases h3 : i ≤ tn (le b)
      · rw [if_pos h3]
      · rw [if_neg h3, if_pos (ha i (by omega) h2)]
    rw [go]
    by_cases hi : i = ed
    · subst hi
      by_cases hj : f_FF_jumps (f i) = 0
      · have hj2 : f_MO_jumps (f i) = 0 := by rw [← jumps_eq]; exact hj
        rw [if_pos hj, if_pos hj2, show i - i + 1 = 1 by omega]
        have h13 : ¬ f i = 13 := by intro e; rw [e] at hj; exact absurd hj (by decide)
        by_cases he2 : f_FF_ends (f i) = 0
        · obtain ⟨c1, c2⟩ := hc hj he2
          rw [if_pos he2]
          obtain ⟨k2, hk2⟩ : ∃ k2, kf = k2 + 1 := ⟨kf - 1, by omega⟩
          subst hk2
          rw [lp_WE_instr, if_neg (by omega), if_neg c2]
          unfold tlL
          rw [if_neg h13, if_pos (show f_MO_ends (f i) = 0 from he2), if_pos hj2, wrL_app, WE_lead_L]
          rfl
        · rw [if_neg he2]
          unfold tlL
          rw [if_neg h13, if_neg (show ¬ f_MO_ends (f i) = 0 from he2)]
          rfl
      · have hj2 : ¬ f_MO_jumps (f i) = 0 := by rw [← jumps_eq]; exact hj
        rw [if_neg hj, if_neg hj2, Nat.sub_self, Nat.add_zero, WE_jump_L s hj]
        rfl
    · obtain ⟨b1, b2⟩ := hb i h1 (by omega)
      rw [if_pos b1, if_pos b2]
      have := ih (i + 1) (w1 (f i, g i) s) (by omega) (by omega) (by omega)
      have e1 : (if f_MO_jumps (f ed) = 0 then ed - i + 1 else ed - i) = (if f_MO_jumps (f ed) = 0 then ed - (i + 1) + 1 else ed - (i + 1)) + 1 := by
        split <;> omega
      rw [e1, bdL]
      refine this.trans ?_
      rw [show (w1 (f i, g i) s).1 + (if f_MO_jumps (f ed) = 0 then ed - (i + 1) + 1 else ed - (i + 1)) = s.1 + ((if f_MO_jumps (f ed) = 0 then ed - (i + 1) + 1 else ed - (i + 1)) + 1) by show s.1 + 1 + _ = _; omega]
      rfl
