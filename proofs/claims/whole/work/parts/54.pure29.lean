-- words at places: stubs; the flat method runs safely
def Tgt (T : Nat → Prop) (fh : Nat) (fx : Nat → Int32) : Prop := ∀ k, k < fh → ∃ s, fx (3 * k + 2) = nI s ∧ T s
section Ty8
variable {n hn bc : Nat} {f g fr to tg hd d le he sa la st od dw fi : Nat → Int32}
theorem sp_tg {T : Nat → Prop} {fq h : Nat} (hT : T fq) : ∀ (kf q : Nat) (fx : Nat → Int32) (fh : Nat), Tgt T fh fx → Tgt T (lp_MO_spread fq h bc hd f g le la he dw fi od kf q fx fh).2 (lp_MO_spread fq h bc hd f g le la he dw fi od kf q fx fh).1 := by
  intro kf
  induction kf with
  | zero => intro q fx fh h1; exact h1
  | succ kf ih =>
    intro q fx fh h1
    rw [lp_MO_spread]
    split
    · exact ih _ _ _ h1
    · apply ih
      intro k hk
      by_cases e : k = fh
      · subst e; exact ⟨fq, pk_us, hT⟩
      · obtain ⟨s, s1, s2⟩ := h1 k (by omega)
        refine ⟨s, ?_, s2⟩
        rw [pk_un (show 3 * k + 2 ≠ 3 * fh + 2 by omega), pk_un (show 3 * k + 2 ≠ 3 * fh + 1 by omega), pk_un (show 3 * k + 2 ≠ 3 * fh by omega)]
        exact s1
def stsA (bc : Nat) (hd le st : Nat → Int32) : Nat → Nat → List AE
  | 0, _ => []
  | k + 1, h => (if f_MO_covers h bc hd le = 0 then [] else stubA (st (f_MO_blockAt bc le (hd (3 * h + 2))))) ++ stsA bc hd le st k (h + 1)
theorem sts_all (h1 : 1 ≤ bc) : ∀ (kf h : Nat) (fo fa : Nat → Int32) (fq fh : Nat) (fx : Nat → Int32),
    ((lh_MO_fl f g hd bc le la he st od dw fi kf h fo fa fq fh fx).2.2.1, (lh_MO_fl f g hd bc le la he st od dw fi kf h fo fa fq fh fx).1, (lh_MO_fl f g hd bc le la he st od dw fi kf h fo fa fq fh fx).2.1) = wrL (cdL (stsA bc hd le st kf h)) (fq, fo, fa) ∧ (stsA bc hd le st kf h).length ≤ 4 * kf ∧ (lh_MO_fl f g hd bc le la he st od dw fi kf h fo fa fq fh fx).2.2.2.1 ≤ fh + bc * kf ∧
    (∀ (L : Nat) (An : Nat → Pd) (cat : Int32 → Int32) (fi2 : Nat → Int32), An 2 = Hd bc st → 2 < L → AnIs An fq (stsA bc hd le st kf h) → fq + (stsA bc hd le st kf h).length ≤ L → Tgt (fun s => s < L ∧ ∀ lo sk, An s lo sk 1) fh fx → TyL L bc st fi2 cat An fq (stsA bc hd le st kf h) ∧ Tgt (fun s => s < L ∧ ∀ lo sk, An s lo sk 1) (lh_MO_fl f g hd bc le la he st od dw fi kf h fo fa fq fh fx).2.2.2.1 (lh_MO_fl f g hd bc le la he st od dw fi kf h fo fa fq fh fx).2.2.2.2) := by
  intro kf
  induction kf with
  | zero => intro h fo fa fq fh fx; exact ⟨rfl, Nat.le_refl _, Nat.le_refl _, fun L An cat fi2 _ _ _ _ hT => ⟨trivial, hT⟩⟩
  | succ kf ih =>
    intro h fo fa fq fh fx
    rw [lh_MO_fl, stsA]
    have hmul : bc * (kf + 1) = bc * kf + bc := Nat.mul_succ _ _
    by_cases hcv : f_MO_covers h bc hd le = 0
    · rw [if_pos hcv, if_pos hcv, List.nil_append]
      obtain ⟨i1, i2, i3, i4⟩ := ih (h + 1) fo fa fq fh fx
      exact ⟨i1, by omega, by omega, i4⟩
    · rw [if_neg hcv, if_neg hcv]
      obtain ⟨i1, i2, i3, i4⟩ := ih (h + 1) (f_MO_spread fq fh h bc fo fa fx hd f g le la he st dw fi od).2.1 (f_MO_spread fq fh h bc fo fa fx hd f g le la he st dw fi od).2.2.1 (f_MO_spread fq fh h bc fo fa fx hd f g le la he st dw fi od).1 (f_MO_spread fq fh h bc fo fa fx hd f g le la he st dw fi od).2.2.2.1 (f_MO_spread fq fh h bc fo fa fx hd f g le la he st dw fi od).2.2.2.2
      have el : (stubA (st (f_MO_blockAt bc le (hd (3 * h + 2))))).length = 4 := rfl
      refine ⟨?_, ?_, ?_, ?_⟩
      · rw [i1, cdL_app, wrL_app]; rfl
      · rw [List.length_append, el]; omega
      · have := sp_fh (fq := fq) (fh := fh) (h := h) (bc := bc) (fo := fo) (fa := fa) (fx := fx) (hd := hd) (f := f) (g := g) (le := le) (la := la) (he := he) (st := st) (dw := dw) (fi := fi) (od := od)
        omega
      · intro L An cat fi2 hH h2 hA hL hT
        rw [AnIs_app, el] at hA
        rw [List.length_append, el] at hL
        rw [TyL_app, el]
        obtain ⟨t1, t2⟩ := i4 L An cat fi2 hH h2 hA.2 (by show fq + 1 + 1 + 1 + 1 + _ ≤ L; omega) (sp_tg ⟨by omega, fun lo sk => by rw [hA.1.1]⟩ bc 0 fx fh hT)
        exact ⟨⟨stub_ty hH h2 (by omega) hA.1 ⟨_, ba_lt h1 le _, rfl⟩, t1⟩, t2⟩
/-- the flat method that flatten writes runs safely -/
theorem flat_J (C : CKd n hn f g hd d) (E : CDe n hn f g fr to tg hd) (F : FD (fun i => f_MO_isLeader n hn i f g hd d) d 32 bc le he sa) (A : ∀ b, b < bc → la b = nI (lq_MO_cut n hn f g hd d (n - 1 - tn (le b)) (tn (le b)))) (K : BR n hn bc f g hd le la he) (O : BO bc od dw) (hinj : ∀ q r, q < bc → r < bc → tn (od q) = tn (od r) → q = r) (hD : Dst bc st) (h3 : hn ≤ 3) (fi0 fo0 fa0 fx0 : Nat → Int32) {FI fo fa fx fo9 fa9 xf xt xg : Nat → Int32} {fq fh fq9 : Nat}
    (hFI : FI = lp_MO_begin f g bc le la he od dw bc 0 4 fi0) (h9 : (fo9, fa9, fq9) = lp_MO_fl f g bc le la he st od dw FI bc 0 (upd (upd (upd (upd fo0 0 0) 1 2) 2 1) 3 18) (upd (upd (upd (upd fa0 0 (st 0)) 1 4) 2 4) 3 0) 4) (hR : (fo, fa, fq, fh, fx) = lh_MO_fl f g hd bc le la he st od dw FI hn 0 fo9 fa9 fq9 0 fx0) (hHR : HR fh xf xt xg fx) :
    (∃ Jv, JP fq fh bc fo fa fx st FI Jv ∧ ∀ lo sk, Jv lo sk 0 (nI 0)) ∧ fq ≤ 1328 ∧ fh ≤ 96 ∧ (∀ h, h < fh → ¬ xg h = -1) ∧ 0 < fq := by
  have h1 : 1 ≤ bc := K.1.1
  have hb32 : bc ≤ 32 := K.1.2
  have hs : sm (fun q => 40 + (tn (la (tn (od q))) - tn (le (tn (od q))) + 1)) bc ≤ 40 * bc + 32 := by
    rw [O.2.1 (fun b => 40 + (tn (la b) - tn (le b) + 1))]
    exact sm_40 (G := fun b => tn (la b) - tn (le b) + 1) K.2.2.2.2.2.2.2.2.1
  have hs0 : 4 + sm (fun q => 40 + (tn (la (tn (od q))) - tn (le (tn (od q))) + 1)) bc ≤ 1316 + sm (fun q => 40 + (tn (la (tn (od q))) - tn (le (tn (od q))) + 1)) 0 := by
    have : sm (fun q => 40 + (tn (la (tn (od q))) - tn (le (tn (od q))) + 1)) 0 = 0 := rfl
    omega
  obtain ⟨b1, b2⟩ := bks_all (st := st) C E F A K O hinj FI bc 0 fi0 (upd (upd (upd (upd fo0 0 0) 1 2) 2 1) 3 18) (upd (upd (upd (upd fa0 0 (st 0)) 1 4) 2 4) 3 0) 4 (by omega) hs0 hFI
  obtain ⟨s1, s2, s3, s4⟩ := sts_all (f := f) (g := g) (la := la) (he := he) (od := od) (dw := dw) (fi := FI) (hd := hd) (le := le) (st := st) h1 hn 0 fo9 fa9 fq9 0 fx0
  obtain ⟨Bk, hBk⟩ : ∃ z, z = bksA bc f g d le he sa la st od dw bc 0 4 := ⟨_, rfl⟩
  obtain ⟨Sk, hSk⟩ : ∃ z, z = stsA bc hd le st hn 0 := ⟨_, rfl⟩
  rw [← hBk] at b1 b2
  rw [← hSk] at s1 s2 s4
  rw [← hR] at s1 s3 s4
  rw [← h9] at b1
  have e9 : (fq9, fo9, fa9) = wrL (cdL Bk) (4, upd (upd (upd (upd fo0 0 0) 1 2) 2 1) 3 18, upd (upd (upd (upd fa0 0 (st 0)) 1 4) 2 4) 3 0) := by
    have e2 : rotL (fq9, fo9, fa9) = rotL (wrL (cdL Bk) (4, upd (upd (upd (upd fo0 0 0) 1 2) 2 1) 3 18, upd (upd (upd (upd fa0 0 (st 0)) 1 4) 2 4) 3 0)) := b1
    unfold rotL at e2
    injection e2 with e3 e4
    injection e4 with e5 e6
    exact Prod.ext e6 (Prod.ext e3 e5)
  have l9 : fq9 = 4 + Bk.length := by
    have := wrL_len (cdL Bk) (4, upd (upd (upd (upd fo0 0 0) 1 2) 2 1) 3 18, upd (upd (upd (upd fa0 0 (st 0)) 1 4) 2 4) 3 0)
    rw [← e9, cdL_len] at this
    exact this
  have m9 : fq9 ≤ 1316 := by
    have := fl_len (st := st) (fi := FI) (dw := dw) K O.1 bc 0 (upd (upd (upd (upd fo0 0 0) 1 2) 2 1) 3 18) (upd (upd (upd (upd fa0 0 (st 0)) 1 4) 2 4) 3 0) 4 (by omega) hs0
    rw [← h9] at this
    exact this
  have lq : fq = fq9 + Sk.length := by
    have := wrL_len (cdL Sk) (fq9, fo9, fa9)
    rw [← s1, cdL_len] at this
    exact this
  obtain ⟨L, hL⟩ : ∃ z, z = loopA bc st ++ (Bk ++ Sk) := ⟨_, rfl⟩
  have lL : L.length = fq := by
    rw [hL, List.length_append, List.length_append]
    show 4 + _ = _
    omega
  have ecode : (fq, fo, fa) = wrL (cdL L) (0, fo0, fa0) := by
    rw [hL, cdL_app, cdL_app, wrL_app, wrL_app]
    have e0 : wrL (cdL (loopA bc st)) (0, fo0, fa0) = (4, upd (upd (upd (upd fo0 0 0) 1 2) 2 1) 3 18, upd (upd (upd (upd fa0 0 (st 0)) 1 4) 2 4) 3 0) := rfl
    rw [e0, ← e9]
    exact s1
  have hA0 : AnIs (AnF L) 0 (loopA bc st ++ (Bk ++ Sk)) := by rw [← hL]; exact AnF_is L L [] rfl
  rw [AnIs_app, AnIs_app] at hA0
  obtain ⟨hA1, hA2, hA3⟩ := hA0
  have el : (loopA bc st).length = 4 := rfl
  rw [el, Nat.zero_add] at hA2 hA3
  have hH : AnF L 2 = Hd bc st := hA1.2.2.1
  obtain ⟨t3, t4⟩ := s4 fq (AnF L) (fun x => f_CO_catcher fh xf xt xg x) FI hH (by omega) (by rw [l9]; exact hA3) (by omega) (fun k hk => by omega)
  have hxg : ∀ k, k < fh → ∃ s, xg k = nI s ∧ s < fq ∧ ∀ lo sk, AnF L s lo sk 1 := by
    intro k hk
    obtain ⟨s, q1, q2⟩ := t4 k hk
    exact ⟨s, by rw [← (hHR k hk).2.2]; exact q1, q2⟩
  have hq13 : fq ≤ 1328 := by omega
  have hfh : fh ≤ 96 := by
    have : bc * hn ≤ 32 * 3 := Nat.mul_le_mul hb32 h3
    have s3' : fh ≤ 0 + bc * hn := s3
    omega
  have hne : ∀ h, h < fh → ¬ xg h = -1 := by
    intro h hh e
    obtain ⟨s, q1, q2, _⟩ := hxg h hh
    have h2 : (nI s).toInt = (-1 : Int32).toInt := by rw [← q1, e]
    rw [nI_toInt (by omega)] at h2
    have h4 : (-1 : Int32).toInt = -1 := by decide
    omega
  have hcat : ∀ p lo, Rs fq (AnF L) ((fun x => f_CO_catcher fh xf xt xg x) (nI p)) lo := by
    intro p lo hc
    obtain ⟨q, a1, a2, a3, a4⟩ := cat_ex xf xt xg (nI p) fh 0 hc
    obtain ⟨s, q1, q2, q3⟩ := hxg q (by omega)
    exact ⟨s, by show f_CO_catcher fh xf xt xg (nI p) = nI s; exact a4.trans q1, q2, fun sk => q3 lo sk⟩
  obtain ⟨t1, t2⟩ := b2 fq (AnF L) (fun x => f_CO_catcher fh xf xt xg x) FI hH (by omega) hcat hA2 (by omega)
  have hB : ∀ b, b < bc → ∃ q, FI b = nI q ∧ q < fq ∧ AnF L q = dep 0 (st b) := by
    intro b hb
    obtain ⟨r, hr, e⟩ := sm_has O.2.1 hb
    have := t2 r (Nat.zero_le _) hr
    rw [e] at this
    exact this
  have t0 := loop_ty (fq := fq) (cat := fun x => f_CO_catcher fh xf xt xg x) h1 (by omega) hA1 hB
  have tall : TyL fq bc st FI (fun x => f_CO_catcher fh xf xt xg x) (AnF L) 0 L := by
    have : TyL fq bc st FI (fun x => f_CO_catcher fh xf xt xg x) (AnF L) 0 (loopA bc st ++ (Bk ++ Sk)) := by
      rw [TyL_app, TyL_app, el, Nat.zero_add]
      exact ⟨t0, t1, by rw [← l9]; exact t3⟩
    rw [← hL] at this
    exact this
  refine ⟨⟨JF fq (AnF L), JF_P hq13 (by omega) hb32 hD hHR hne (fun p hp lo sk tq hAn => ?_), fun lo sk => ⟨0, by omega, rfl, ?_⟩⟩, hq13, hfh, hne, by omega⟩
  · have hpl : p < L.length := by omega
    have ha := wrL_at (cdL L) (0, fo0, fa0) p (by rw [cdL_len]; exact hpl)
    rw [← ecode, Nat.zero_add] at ha
    have eo : fo p = L[p].1 := by
      have := ha.1
      rw [show fo p = L[p].1 from this.trans (by unfold cdL; rw [List.getElem_map])]
    have ea : fa p = L[p].2.1 := by
      have := ha.2
      rw [show fa p = L[p].2.1 from this.trans (by unfold cdL; rw [List.getElem_map])]
    have := TyL_at L 0 tall p hpl lo sk tq (by
      unfold AnF at hAn
      rw [List.getElem?_eq_getElem hpl] at hAn
      exact hAn)
    rw [Nat.zero_add] at this
    rw [eo, ea]
    exact this
  · rw [hA1.1]
end Ty8
