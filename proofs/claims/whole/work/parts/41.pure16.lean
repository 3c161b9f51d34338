-- a step, operation by operation
theorem s_0 {xe xr ya : Int32} {hn bc tq em : Nat} {lo ke sk f g hd st fi : Nat → Int32} (e : f (tn ya) = 0) : f_MO_step0 xe xr hn tq em bc ya f g hd lo ke sk st fi = (lo, ke, upd sk tq (g (tn ya)), tq + 1, ya + 1, em, xe, xr) := by
  unfold f_MO_step0 g40_MO_step0
  rw [e]
  rfl
theorem s_1 {xe xr ya : Int32} {hn bc tq em : Nat} {lo ke sk f g hd st fi : Nat → Int32} (e : f (tn ya) = 1) : f_MO_step0 xe xr hn tq em bc ya f g hd lo ke sk st fi = (lo, ke, upd sk tq (lo (tn (g (tn ya)))), tq + 1, ya + 1, em, xe, xr) := by
  unfold f_MO_step0 g40_MO_step0
  rw [e]
  rfl
theorem s_2 {xe xr ya : Int32} {hn bc tq em : Nat} {lo ke sk f g hd st fi : Nat → Int32} (e : f (tn ya) = 2) : f_MO_step0 xe xr hn tq em bc ya f g hd lo ke sk st fi = (upd lo (tn (g (tn ya))) (sk (tq - 1)), ke, sk, tq - 1, ya + 1, em, xe, xr) := by
  unfold f_MO_step0 g40_MO_step0
  rw [e]
  rfl
theorem s_3 {xe xr ya : Int32} {hn bc tq em : Nat} {lo ke sk f g hd st fi : Nat → Int32} (e : f (tn ya) = 3) : f_MO_step0 xe xr hn tq em bc ya f g hd lo ke sk st fi = (lo, ke, upd sk (tq - 1 - 1) (sk (tq - 1 - 1) + sk (tq - 1)), tq - 1 - 1 + 1, ya + 1, em, xe, xr) := by
  unfold f_MO_step0 g40_MO_step0
  rw [e]
  rfl
theorem s_4 {xe xr ya : Int32} {hn bc tq em : Nat} {lo ke sk f g hd st fi : Nat → Int32} (e : f (tn ya) = 4) : f_MO_step0 xe xr hn tq em bc ya f g hd lo ke sk st fi = (lo, ke, upd sk (tq - 1 - 1) (sk (tq - 1 - 1) - sk (tq - 1)), tq - 1 - 1 + 1, ya + 1, em, xe, xr) := by
  unfold f_MO_step0 g40_MO_step0
  rw [e]
  rfl
theorem s_5 {xe xr ya : Int32} {hn bc tq em : Nat} {lo ke sk f g hd st fi : Nat → Int32} (e : f (tn ya) = 5) : f_MO_step0 xe xr hn tq em bc ya f g hd lo ke sk st fi = (lo, ke, upd sk (tq - 1 - 1) (sk (tq - 1 - 1) * sk (tq - 1)), tq - 1 - 1 + 1, ya + 1, em, xe, xr) := by
  unfold f_MO_step0 g40_MO_step0
  rw [e]
  rfl
theorem s_7 {xe xr ya : Int32} {hn bc tq em : Nat} {lo ke sk f g hd st fi : Nat → Int32} (e : f (tn ya) = 7) : f_MO_step0 xe xr hn tq em bc ya f g hd lo ke sk st fi = (lo, ke, upd sk (tq - 1 - 1) (sk (tq - 1 - 1) &&& sk (tq - 1)), tq - 1 - 1 + 1, ya + 1, em, xe, xr) := by
  unfold f_MO_step0 g40_MO_step0
  rw [e]
  rfl
theorem s_8 {xe xr ya : Int32} {hn bc tq em : Nat} {lo ke sk f g hd st fi : Nat → Int32} (e : f (tn ya) = 8) : f_MO_step0 xe xr hn tq em bc ya f g hd lo ke sk st fi = (lo, ke, upd sk (tq - 1 - 1) (sk (tq - 1 - 1) ^^^ sk (tq - 1)), tq - 1 - 1 + 1, ya + 1, em, xe, xr) := by
  unfold f_MO_step0 g40_MO_step0
  rw [e]
  rfl
theorem s_9 {xe xr ya : Int32} {hn bc tq em : Nat} {lo ke sk f g hd st fi : Nat → Int32} (e : f (tn ya) = 9) : f_MO_step0 xe xr hn tq em bc ya f g hd lo ke sk st fi = (lo, ke, upd sk tq (sk (tq - 1)), tq + 1, ya + 1, em, xe, xr) := by
  unfold f_MO_step0 g40_MO_step0
  rw [e]
  rfl
theorem s_10 {xe xr ya : Int32} {hn bc tq em : Nat} {lo ke sk f g hd st fi : Nat → Int32} (e : f (tn ya) = 10) : f_MO_step0 xe xr hn tq em bc ya f g hd lo ke sk st fi = (lo, ke, upd (upd sk (tq - 1 - 1) (sk (tq - 1))) (tq - 1 - 1 + 1) (sk (tq - 1 - 1)), tq - 1 - 1 + 1 + 1, ya + 1, em, xe, xr) := by
  unfold f_MO_step0 g40_MO_step0
  rw [e]
  rfl
theorem s_11 {xe xr ya : Int32} {hn bc tq em : Nat} {lo ke sk f g hd st fi : Nat → Int32} (e : f (tn ya) = 11) : f_MO_step0 xe xr hn tq em bc ya f g hd lo ke sk st fi = (lo, ke, sk, tq - 1, ya + 1, em, xe, xr) := by
  unfold f_MO_step0 g40_MO_step0
  rw [e]
  rfl
theorem s_12 {xe xr ya : Int32} {hn bc tq em : Nat} {lo ke sk f g hd st fi : Nat → Int32} (e : f (tn ya) = 12) : f_MO_step0 xe xr hn tq em bc ya f g hd lo ke sk st fi = (lo, f_MO_emit tq em sk ke, sk, tq - 1, ya + 1, em + 1, xe, xr) := by
  unfold f_MO_step0 g40_MO_step0
  rw [e]
  rfl
theorem s_13 {xe xr ya : Int32} {hn bc tq em : Nat} {lo ke sk f g hd st fi : Nat → Int32} (e : f (tn ya) = 13) : f_MO_step0 xe xr hn tq em bc ya f g hd lo ke sk st fi = (lo, ke, sk, tq, g (tn ya), em, xe, xr) := by
  unfold f_MO_step0 g40_MO_step0
  rw [e]
  rfl
theorem s_14 {xe xr ya : Int32} {hn bc tq em : Nat} {lo ke sk f g hd st fi : Nat → Int32} (e : f (tn ya) = 14) : f_MO_step0 xe xr hn tq em bc ya f g hd lo ke sk st fi = (lo, ke, sk, tq - 1, (if sk (tq - 1) = 0 then g (tn ya) else ya + 1), em, xe, xr) := by
  unfold f_MO_step0 g40_MO_step0
  rw [e]
  show (lo, ke, sk, (if sk (tq - 1) = 0 then (tq - 1, g (tn ya)) else (tq - 1, ya + 1)).1, (if sk (tq - 1) = 0 then (tq - 1, g (tn ya)) else (tq - 1, ya + 1)).2, em, xe, xr) = _
  by_cases h : sk (tq - 1) = 0
  · simp only [if_pos h]
  · simp only [if_neg h]
theorem s_15 {xe xr ya : Int32} {hn bc tq em : Nat} {lo ke sk f g hd st fi : Nat → Int32} (e : f (tn ya) = 15) : f_MO_step0 xe xr hn tq em bc ya f g hd lo ke sk st fi = (lo, ke, sk, tq - 1, (if 0 ≤ sk (tq - 1) then ya + 1 else g (tn ya)), em, xe, xr) := by
  unfold f_MO_step0 g40_MO_step0
  rw [e]
  show (lo, ke, sk, (if 0 ≤ sk (tq - 1) then (tq - 1, ya + 1) else (tq - 1, g (tn ya))).1, (if 0 ≤ sk (tq - 1) then (tq - 1, ya + 1) else (tq - 1, g (tn ya))).2, em, xe, xr) = _
  by_cases h : 0 ≤ sk (tq - 1)
  · simp only [if_pos h]
  · simp only [if_neg h]
theorem s_16 {xe xr ya : Int32} {hn bc tq em : Nat} {lo ke sk f g hd st fi : Nat → Int32} (e : f (tn ya) = 16) : f_MO_step0 xe xr hn tq em bc ya f g hd lo ke sk st fi = (lo, ke, sk, tq - 1, ya, em, 1, sk (tq - 1)) := by
  unfold f_MO_step0 g40_MO_step0
  rw [e]
  rfl
theorem s_17 {xe xr ya : Int32} {hn bc tq em : Nat} {lo ke sk f g hd st fi : Nat → Int32} (e : f (tn ya) = 17) (hn2 : hn < 2 ^ 31) {fr to tg : Nat → Int32} (hr : ∀ h, h < hn → hd (3 * h) = fr h ∧ hd (3 * h + 1) = to h ∧ hd (3 * h + 2) = tg h) (ht : ∀ h, h < hn → ¬ tg h = -1) : f_MO_step0 xe xr hn tq em bc ya f g hd lo ke sk st fi = (if f_CO_catcher hn fr to tg ya = -1 then (lo, ke, sk, tq - 1, ya, em, 2, (sk (tq - 1))) else (lo, ke, upd sk 0 (sk (tq - 1)), 1, f_CO_catcher hn fr to tg ya, em, xe, xr)) := by
  unfold f_MO_step0 g40_MO_step0
  rw [e]
  show (lo, ke, (f_MO_raise0 xe xr ya hn (tq - 1) hd sk (sk (tq - 1))).1, (f_MO_raise0 xe xr ya hn (tq - 1) hd sk (sk (tq - 1))).2.1, (f_MO_raise0 xe xr ya hn (tq - 1) hd sk (sk (tq - 1))).2.2.1, em, (f_MO_raise0 xe xr ya hn (tq - 1) hd sk (sk (tq - 1))).2.2.2.1, (f_MO_raise0 xe xr ya hn (tq - 1) hd sk (sk (tq - 1))).2.2.2.2) = _
  rw [(raise_eq (ye := xe) (yo := xr) (xr := xr) hn2 hr ht).2]
  by_cases h : f_CO_catcher hn fr to tg ya = -1
  · simp only [if_pos h]
  · simp only [if_neg h]
theorem s_6 {xe xr ya : Int32} {hn bc tq em : Nat} {lo ke sk f g hd st fi : Nat → Int32} (e : f (tn ya) = 6) (hn2 : hn < 2 ^ 31) {fr to tg : Nat → Int32} (hr : ∀ h, h < hn → hd (3 * h) = fr h ∧ hd (3 * h + 1) = to h ∧ hd (3 * h + 2) = tg h) (ht : ∀ h, h < hn → ¬ tg h = -1) : f_MO_step0 xe xr hn tq em bc ya f g hd lo ke sk st fi = (if sk (tq - 1) = 0 then (if f_CO_catcher hn fr to tg ya = -1 then (lo, ke, sk, tq - 1 - 1, ya, em, 2, (-1)) else (lo, ke, upd sk 0 (-1), 1, f_CO_catcher hn fr to tg ya, em, xe, xr)) else (lo, ke, upd sk (tq - 1 - 1) (sk (tq - 1 - 1) / sk (tq - 1)), tq - 1 - 1 + 1, ya + 1, em, xe, xr)) := by
  unfold f_MO_step0 g40_MO_step0
  rw [e]
  show (lo, ke, (f_MO_reckon0 xe xr ya hn tq hd sk 6).1, (f_MO_reckon0 xe xr ya hn tq hd sk 6).2.1, (f_MO_reckon0 xe xr ya hn tq hd sk 6).2.2.1, em, (f_MO_reckon0 xe xr ya hn tq hd sk 6).2.2.2.1, (f_MO_reckon0 xe xr ya hn tq hd sk 6).2.2.2.2) = _
  unfold f_MO_reckon0
  rw [if_pos rfl]
  by_cases h0 : sk (tq - 1) = 0
  · rw [if_pos h0, if_pos h0, (raise_eq (ye := xe) (yo := xr) (xr := xr) hn2 hr ht).2]
    by_cases h : f_CO_catcher hn fr to tg ya = -1
    · simp only [if_pos h]
    · simp only [if_neg h]
  · rw [if_neg h0, if_neg h0]
    rfl
theorem s_18 {xe xr ya : Int32} {hn bc tq em : Nat} {lo ke sk f g hd st fi : Nat → Int32} (e : f (tn ya) = 18) : f_MO_step0 xe xr hn tq em bc ya f g hd lo ke sk st fi = (lo, ke, sk, tq - 1, f_MO_dispatch tq bc sk st fi, em, xe, xr) := by
  unfold f_MO_step0 g40_MO_step0
  rw [e]
  rfl
theorem go_01 {hn bc : Nat} {f g hd st fi : Nat → Int32} : ∀ (kf : Nat) (lo ke sk : Nat → Int32) (tq : Nat) (ya : Int32) (s2 em : Nat) (en re : Int32), lp_MO_go1 hn bc f g hd st fi kf lo ke sk tq ya s2 em en re = lp_MO_go0 hn bc f g hd st fi kf lo ke sk tq ya s2 em en re := by
  intro kf
  induction kf with
  | zero => intros; rfl
  | succ kf ih => intro lo ke sk tq ya s2 em en re; rw [lp_MO_go1, lp_MO_go0, ih, st_01]
def GR (A B : (Nat → Int32) × (Nat → Int32) × (Nat → Int32) × Nat × Int32 × Nat × Nat × Int32 × Int32) (o0 r0 : Int32) : Prop := A.1 = B.1 ∧ A.2.1 = B.2.1 ∧ A.2.2.1 = B.2.2.1 ∧ A.2.2.2.1 = B.2.2.2.1 ∧ A.2.2.2.2.1 = B.2.2.2.2.1 ∧ A.2.2.2.2.2.1 = B.2.2.2.2.2.1 ∧ A.2.2.2.2.2.2.1 = B.2.2.2.2.2.2.1 ∧ A.2.2.2.2.2.2.2.1 = B.2.2.2.2.2.2.2.1 ∧ ((A.2.2.2.2.2.2.2.1 = 0 ∧ A.2.2.2.2.2.2.2.2 = o0 ∧ B.2.2.2.2.2.2.2.2 = r0) ∨ (¬ A.2.2.2.2.2.2.2.1 = 0 ∧ A.2.2.2.2.2.2.2.2 = B.2.2.2.2.2.2.2.2))
theorem go_eq {n hn bc : Nat} {f g fr to tg hd st fi : Nat → Int32} {o0 r0 : Int32} (hn2 : hn < 2 ^ 31) (hb : bc ≤ 32) (hr : ∀ h, h < hn → hd (3 * h) = fr h ∧ hd (3 * h + 1) = to h ∧ hd (3 * h + 2) = tg h) (ht : ∀ h, h < hn → ¬ tg h = -1) {Jv : (Nat → Int32) → (Nat → Int32) → Nat → Int32 → Prop}
    (hJ : ∀ lo sk tq ya, Jv lo sk tq ya → ¬ f_CO_hasI n ya = 0 ∧ (f (tn ya) = nI (tn (f (tn ya))) ∧ tn (f (tn ya)) < 19) ∧ (f (tn ya) = 9 → 1 ≤ tq) ∧ (f (tn ya) = 18 → lp_MO_dispatch tq sk st bc 0 < bc))
    (hJs : ∀ xe xr lo ke sk tq ya em, xe = 0 → Jv lo sk tq ya → (f_MO_step0 xe xr hn tq em bc ya f g hd lo ke sk st fi).2.2.2.2.2.2.1 = 0 → Jv (f_MO_step0 xe xr hn tq em bc ya f g hd lo ke sk st fi).1 (f_MO_step0 xe xr hn tq em bc ya f g hd lo ke sk st fi).2.2.1 (f_MO_step0 xe xr hn tq em bc ya f g hd lo ke sk st fi).2.2.2.1 (f_MO_step0 xe xr hn tq em bc ya f g hd lo ke sk st fi).2.2.2.2.1) :
    ∀ (kf i : Nat) (lo ke sk : Nat → Int32) (tq : Nat) (ya : Int32) (em : Nat) (en oc re : Int32), (en = 0 → Jv lo sk tq ya) → ((en = 0 ∧ oc = o0 ∧ re = r0) ∨ (¬ en = 0 ∧ oc = re)) → GR (lp_MA_go n hn bc f g fr to tg st fi kf i lo ke sk tq ya i em en oc) (lp_MO_go0 hn bc f g hd st fi kf lo ke sk tq ya i em en re) o0 r0 := by
  intro kf
  induction kf with
  | zero =>
    intro i lo ke sk tq ya em en oc re h1 h2
    rw [lp_MA_go, lp_MO_go0]
    by_cases h : en = 0
    · rw [if_pos h]; exact ⟨rfl, rfl, rfl, rfl, rfl, rfl, rfl, rfl, h2⟩
    · rw [if_neg h]; exact ⟨rfl, rfl, rfl, rfl, rfl, rfl, rfl, rfl, h2⟩
  | succ kf ih =>
    intro i lo ke sk tq ya em en oc re h1 h2
    rw [lp_MA_go, lp_MO_go0]
    by_cases h : en = 0
    · obtain ⟨j1, j2, j3, j4⟩ := hJ _ _ _ _ (h1 h)
      rw [if_pos h, if_neg j1, if_pos h]
      obtain ⟨m1, m2, m3, m4, m5, m6, m7, m8⟩ := st0_eq (n := n) (ye := en) (yo := oc) (xr := re) (em := em) (lo := lo) (ke := ke) (g := g) (fi := fi) hn2 hb hr ht j2 j3 j4
      have hs := hJs en re lo ke sk tq ya em h (h1 h)
      rw [m1, m2, m3, m4, m5, m6, m7]
      refine ih (i + 1) _ _ _ _ _ _ _ _ _ hs ?_
      rcases m8 with ⟨a1, a2, a3⟩ | ⟨a1, a2⟩
      · rcases h2 with ⟨b1, b2, b3⟩ | ⟨b1, b2⟩
        · exact Or.inl ⟨by rw [← m7, a1, h], by rw [a2, b2], by rw [a3, b3]⟩
        · exact absurd h b1
      · exact Or.inr ⟨by rw [← m7]; exact a1, a2⟩
    · rw [if_neg h, if_neg h]; exact ⟨rfl, rfl, rfl, rfl, rfl, rfl, rfl, rfl, h2⟩
