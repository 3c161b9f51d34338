-- words at places: the whole flat method
def AnF (L : List AE) (p : Nat) : Pd := match L[p]? with
  | some x => x.2.2
  | none => fun _ _ _ => False
theorem AnF_is (L : List AE) : ∀ (B A : List AE), L = A ++ B → AnIs (AnF L) A.length B := by
  intro B
  induction B with
  | nil => intro A _; trivial
  | cons x B ih =>
    intro A h
    refine ⟨?_, ?_⟩
    · unfold AnF
      have e : L[A.length]? = some x := by rw [h]; simp
      rw [e]
    · have := ih (A ++ [x]) (by rw [h]; simp)
      rw [List.length_append] at this
      exact this
theorem TyL_at {fq bc : Nat} {st fi : Nat → Int32} {cat : Int32 → Int32} {An : Nat → Pd} : ∀ (L : List AE) (p : Nat), TyL fq bc st fi cat An p L → ∀ j (hj : j < L.length) lo sk tq, L[j].2.2 lo sk tq → tq ≤ 7 ∧ Ok fq bc st fi cat An (p + j) L[j].1 L[j].2.1 lo sk tq := by
  intro L
  induction L with
  | nil => intro p _ j hj; exact absurd hj (Nat.not_lt_zero _)
  | cons x L ih =>
    intro p h j hj lo sk tq hx
    cases j with
    | zero => exact h.1 lo sk tq hx
    | succ j =>
      have := ih (p + 1) h.2 j (by rw [List.length_cons] at hj; omega) lo sk tq hx
      rw [show p + 1 + j = p + (j + 1) by omega] at this
      exact this
def loopA (bc : Nat) (st : Nat → Int32) : List AE := [(0, st 0, fun _ _ tq => tq = 0), (2, 4, fun _ sk tq => tq = 1 ∧ sk 0 = st 0), (1, 4, Hd bc st), (18, 0, fun lo sk tq => tq = 1 ∧ sk 0 = lo 4 ∧ ∃ b, b < bc ∧ lo 4 = st b)]
def stubA (x : Int32) : List AE := (2, 5, fun _ _ tq => tq = 1) :: (0, x, fun _ _ tq => tq = 0) :: goA x
section Ty6
variable {fq bc : Nat} {st fi : Nat → Int32} {cat : Int32 → Int32} {An : Nat → Pd}
theorem loop_ty (h1 : 1 ≤ bc) (hq : 4 ≤ fq) (hA : AnIs An 0 (loopA bc st)) (hB : ∀ b, b < bc → ∃ q, fi b = nI q ∧ q < fq ∧ An q = dep 0 (st b)) : TyL fq bc st fi cat An 0 (loopA bc st) := by
  obtain ⟨a0, a1, a2, a3, _⟩ := hA
  refine ⟨?_, ?_, ?_, ?_, trivial⟩
  · intro lo sk tq h
    have h : tq = 0 := h
    subst h
    refine ⟨by omega, ?_⟩
    unfold Ok
    left
    exact ⟨rfl, by omega, ⟨by omega, by rw [a1]; exact ⟨rfl, by show upd sk 0 (st 0) 0 = st 0; exact pk_us⟩⟩⟩
  · intro lo sk tq h
    obtain ⟨e1, e2⟩ := h
    subst e1
    refine ⟨by omega, ?_⟩
    unfold Ok
    right
    right
    left
    exact ⟨rfl, by omega, four9, ⟨by omega, by rw [a2]; exact ⟨rfl, 0, h1, by show upd lo 4 (sk 0) 4 = st 0; rw [pk_us]; exact e2⟩⟩⟩
  · intro lo sk tq h
    obtain ⟨e1, b, hb, e2⟩ := h
    subst e1
    refine ⟨by omega, ?_⟩
    unfold Ok
    right
    left
    exact ⟨rfl, by omega, four9, ⟨by omega, by rw [a3]; exact ⟨rfl, by show upd sk 0 (lo 4) 0 = lo 4; exact pk_us, b, hb, e2⟩⟩⟩
  · intro lo sk tq h
    obtain ⟨e1, e2, b, hb, e3⟩ := h
    subst e1
    refine ⟨by omega, ?_⟩
    unfold Ok
    iterate 18 right
    obtain ⟨q, q1, q2, q3⟩ := hB b hb
    exact ⟨rfl, by omega, b, hb, by show st b = sk 0; rw [e2, e3], q, q1, q2, by rw [q3]; exact ⟨rfl, e3⟩⟩
theorem stub_ty {p : Nat} {x : Int32} (hH : An 2 = Hd bc st) (h2 : 2 < fq) (hp : p + 3 < fq) (hA : AnIs An p (stubA x)) (hx : ∃ t, t < bc ∧ x = st t) : TyL fq bc st fi cat An p (stubA x) := by
  obtain ⟨a0, a1, a2⟩ := hA
  refine ⟨?_, ?_, go_ty hH h2 (by omega) a2 hx⟩
  · intro lo sk tq h
    have h : tq = 1 := h
    subst h
    refine ⟨by omega, ?_⟩
    unfold Ok
    right
    right
    left
    exact ⟨rfl, by omega, n4 (r := 5) (by decide), ⟨by omega, by rw [a1]⟩⟩
  · intro lo sk tq h
    have h : tq = 0 := h
    subst h
    refine ⟨by omega, ?_⟩
    unfold Ok
    left
    exact ⟨rfl, by omega, ⟨by omega, by rw [a2.1]; exact ⟨rfl, by show upd sk 0 x 0 = x; exact pk_us⟩⟩⟩
end Ty6
section Ty7
variable {n hn bc : Nat} {f g fr to tg hd d le he sa la st od dw : Nat → Int32} {g9 : Int32}
/-- the block that comes q-th, at place p -/
def mkB (bc : Nat) (f g d le he sa la st od dw : Nat → Int32) (q p : Nat) : List AE := blkA (st (tn (od q))) p (tn (he (tn (od q)))) (f_MO_bodyLength (tn (od q)) f le la) (tn (le (tn (od q)))) f g d (dw (4 * tn (od q)) - dw (4 * tn (od q)) / 4 * 4) (dw (4 * tn (od q) + 1) - dw (4 * tn (od q) + 1) / 4 * 4) (dw (4 * tn (od q) + 2) - dw (4 * tn (od q) + 2) / 4 * 4) (st (tn (dw (4 * tn (od q) + 3)) % bc)) (f (tn (la (tn (od q))))) (tn (he (tn (sa (tn (la (tn (od q))) + 1))))) (tn (he (tn (sa (tn (g (tn (la (tn (od q)))))))))) (st (tn (od q)) ^^^ st (tn (sa (tn (la (tn (od q))) + 1)))) (st (tn (od q)) ^^^ st (tn (sa (tn (g (tn (la (tn (od q)))))))))
def bksA (bc : Nat) (f g d le he sa la st od dw : Nat → Int32) : Nat → Nat → Nat → List AE
  | 0, _, _ => []
  | k + 1, q, p => mkB bc f g d le he sa la st od dw q p ++ bksA bc f g d le he sa la st od dw k (q + 1) (p + (mkB bc f g d le he sa la st od dw q p).length)
theorem wb_L (C : CKd n hn f g hd d) (E : CDe n hn f g fr to tg hd) (F : FD (fun i => f_MO_isLeader n hn i f g hd d) d 32 bc le he sa) (A : ∀ b, b < bc → la b = nI (lq_MO_cut n hn f g hd d (n - 1 - tn (le b)) (tn (le b)))) {q fq : Nat} {fo fa fi : Nat → Int32} (hb : tn (od q) < bc) (hfi : tn (fi (tn (od q))) = fq) (hdw : Nn dw (4 * tn (od q)) (2 ^ 24)) : f_MO_writeBlock fq (tn (od q)) bc fo fa f g le la he st dw fi = wrL (cdL (mkB bc f g d le he sa la st od dw q fq)) (fq, fo, fa) := by
  rw [MO_blk_L hfi (pp_4 hdw)]
  unfold mkB
  rw [blkA_c]
  unfold blkL
  rw [tl_eq C E F A hb]
theorem mod4 {x : Int32} (h : x = nI (tn x) ∧ tn x < 2 ^ 24) : (x - x / 4 * 4) = nI (tn (x - x / 4 * 4)) ∧ tn (x - x / 4 * 4) < 9 := by
  rw [nc_rem (X := x) (Y := 4) (x := tn x) (y := 4) h.1 (by decide) (by have := h.2; omega) (by decide) (by decide)]
  exact n4 (by omega)
/-- all blocks: what is written, where they stand, their words -/
theorem bks_all (C : CKd n hn f g hd d) (E : CDe n hn f g fr to tg hd) (F : FD (fun i => f_MO_isLeader n hn i f g hd d) d 32 bc le he sa) (A : ∀ b, b < bc → la b = nI (lq_MO_cut n hn f g hd d (n - 1 - tn (le b)) (tn (le b)))) (K : BR n hn bc f g hd le la he) (O : BO bc od dw) (hinj : ∀ q r, q < bc → r < bc → tn (od q) = tn (od r) → q = r) (FI : Nat → Int32) :
    ∀ (kf q : Nat) (fi fo fa : Nat → Int32) (fq : Nat), q + kf = bc → fq + sm (fun q => 40 + (tn (la (tn (od q))) - tn (le (tn (od q))) + 1)) bc ≤ 1316 + sm (fun q => 40 + (tn (la (tn (od q))) - tn (le (tn (od q))) + 1)) q → FI = lp_MO_begin f g bc le la he od dw kf q fq fi →
    lp_MO_fl f g bc le la he st od dw FI kf q fo fa fq = rotL (wrL (cdL (bksA bc f g d le he sa la st od dw kf q fq)) (fq, fo, fa)) ∧
    (∀ (L : Nat) (An : Nat → Pd) (cat : Int32 → Int32) (fi2 : Nat → Int32), An 2 = Hd bc st → 2 < L → (∀ p lo, Rs L An (cat (nI p)) lo) → AnIs An fq (bksA bc f g d le he sa la st od dw kf q fq) → fq + (bksA bc f g d le he sa la st od dw kf q fq).length ≤ L → TyL L bc st fi2 cat An fq (bksA bc f g d le he sa la st od dw kf q fq) ∧ ∀ r, q ≤ r → r < bc → ∃ pr, FI (tn (od r)) = nI pr ∧ pr < L ∧ An pr = dep 0 (st (tn (od r)))) := by
  intro kf
  induction kf with
  | zero => intro q fi fo fa fq h hfs hFI; exact ⟨rfl, fun L An cat fi2 _ _ _ _ _ => ⟨trivial, fun r h1 h2 => by omega⟩⟩
  | succ kf ih =>
    intro q fi fo fa fq h hfs hFI
    have hq : q < bc := by omega
    have hb := (O.1 q hq).2
    have hm := sm_mono (G := fun q => 40 + (tn (la (tn (od q))) - tn (le (tn (od q))) + 1)) (q := q + 1) (c := bc) (by omega)
    rw [sm] at hm
    rw [lp_MO_begin] at hFI
    have hk := be_keep (f := f) (g := g) (le := le) (la := la) (he := he) (dw := dw) hinj kf (q + 1) (f_MO_endOf bc (tn (od q)) f g le la he dw (upd fi (tn (od q)) (nI fq))) (upd fi (tn (od q)) (nI fq)) (by omega) q (by omega)
    rw [← hFI, pk_us] at hk
    have d0 := O.2.2 _ hb 0 (by decide)
    rw [Nat.add_zero] at d0
    have d1 := O.2.2 _ hb 1 (by decide)
    have d2 := O.2.2 _ hb 2 (by decide)
    have ew := wb_L (st := st) (fo := fo) (fa := fa) (fi := FI) C E F A hb (fq := fq) (by rw [hk, tn_nI (by omega)]) d0
    have elen : fq + (mkB bc f g d le he sa la st od dw q fq).length = f_MO_endOf bc (tn (od q)) f g le la he dw FI := by
      have e2 := wb_len (fq := fq) (b := tn (od q)) (bc := bc) (fo := fo) (fa := fa) (f := f) (g := g) (le := le) (la := la) (he := he) (st := st) (dw := dw) (fi := FI)
      rw [ew, wrL_len, cdL_len] at e2
      unfold f_MO_endOf
      rw [hk, tn_nI (by omega)]
      exact e2
    have hend : f_MO_endOf bc (tn (od q)) f g le la he dw FI = f_MO_endOf bc (tn (od q)) f g le la he dw (upd fi (tn (od q)) (nI fq)) := eo_at (by rw [hk, pk_us])
    have hle := eo_len K hb dw FI
    rw [hk, tn_nI (by omega)] at hle
    obtain ⟨R, hR⟩ : ∃ z, z = wrL (cdL (mkB bc f g d le he sa la st od dw q fq)) (fq, fo, fa) := ⟨_, rfl⟩
    have lR : R.1 = fq + (mkB bc f g d le he sa la st od dw q fq).length := by rw [hR, wrL_len, cdL_len]
    obtain ⟨i1, i2⟩ := ih (q + 1) (upd fi (tn (od q)) (nI fq)) R.2.1 R.2.2 (fq + (mkB bc f g d le he sa la st od dw q fq).length) (by omega) (by rw [sm, elen]; omega) (by rw [elen, hend]; exact hFI)
    constructor
    · rw [lp_MO_fl, ew, ← hR, lR, i1, bksA, cdL_app, wrL_app, ← hR, eta3 lR]
    · intro L An cat fi2 hH h2 hcat hAn hL
      rw [bksA] at hAn hL ⊢
      rw [AnIs_app] at hAn
      rw [List.length_append] at hL
      rw [TyL_app]
      obtain ⟨t1, t2⟩ := blk_ty (fq := L) (fi := fi2) (cat := cat) (An := An) C E F A hb hH h2 hcat (mod4 ⟨d1.1, d1.2⟩) (mod4 ⟨d2.1, d2.2⟩) ⟨_, Nat.mod_lt _ (by omega), rfl⟩ hAn.1 (by show fq + (mkB bc f g d le he sa la st od dw q fq).length ≤ L; omega)
      obtain ⟨u1, u2⟩ := i2 L An cat fi2 hH h2 hcat hAn.2 (by omega)
      refine ⟨⟨t1, u1⟩, fun r h3 h4 => ?_⟩
      by_cases e : r = q
      · subst e
        refine ⟨fq, hk, ?_, t2⟩
        have hpos : 0 < (mkB bc f g d le he sa la st od dw r fq).length := by
          unfold mkB blkA
          rw [List.length_append, List.length_append, List.length_append, bdA_len]
          by_cases he2 : f_MO_ends (f (tn (la (tn (od r))))) = 0
          · have := tlA_len (st (tn (od r))) (fq + tn (he (tn (od r))) + (cndL (fq + tn (he (tn (od r)))) (tn (he (tn (od r)))) (dw (4 * tn (od r)) - dw (4 * tn (od r)) / 4 * 4) (dw (4 * tn (od r) + 1) - dw (4 * tn (od r) + 1) / 4 * 4) (dw (4 * tn (od r) + 2) - dw (4 * tn (od r) + 2) / 4 * 4) (st (tn (dw (4 * tn (od r) + 3)) % bc))).length + f_MO_bodyLength (tn (od r)) f le la) (f (tn (la (tn (od r))))) (tn (he (tn (sa (tn (la (tn (od r))) + 1))))) (tn (he (tn (sa (tn (g (tn (la (tn (od r)))))))))) (st (tn (od r)) ^^^ st (tn (sa (tn (la (tn (od r))) + 1)))) (st (tn (od r)) ^^^ st (tn (sa (tn (g (tn (la (tn (od r))))))))) he2
            omega
          · have hj3 : f_MO_jumps (f (tn (la (tn (od r))))) = 0 := by
              rcases jm_cases (o := f (tn (la (tn (od r))))) with h | h | h | h
              · rw [h] at he2; exact absurd (by decide) he2
              · rw [h] at he2; exact absurd (by decide) he2
              · rw [h] at he2; exact absurd (by decide) he2
              · exact h
            have : 0 < f_MO_bodyLength (tn (od r)) f le la := by
              unfold f_MO_bodyLength
              rw [if_pos hj3]
              omega
            omega
        omega
      · exact u2 r (by omega) h4
end Ty7
