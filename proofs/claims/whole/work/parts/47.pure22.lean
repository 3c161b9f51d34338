-- all blocks, all handlers: written alike
section Wv
variable {n hn bc : Nat} {f g fr to tg hd d le he sa la st od bs dw : Nat → Int32} {g9 : Int32}
theorem be_keep (hinj : ∀ q r, q < bc → r < bc → tn (od q) = tn (od r) → q = r) : ∀ (kf q pl : Nat) (fi : Nat → Int32), q + kf = bc → ∀ r, r < q → (lp_MO_begin f g bc le la he od dw kf q pl fi) (tn (od r)) = fi (tn (od r)) := by
  intro kf
  induction kf with
  | zero => intro q pl fi h r hr; rfl
  | succ kf ih =>
    intro q pl fi h r hr
    rw [lp_MO_begin, ih (q + 1) _ _ (by omega) r (by omega), pk_un]
    intro e
    have := hinj r q (by omega) (by omega) e
    omega
theorem eo_at {b : Nat} {fi fi2 : Nat → Int32} (h : fi b = fi2 b) : f_MO_endOf bc b f g le la he dw fi = f_MO_endOf bc b f g le la he dw fi2 := by
  unfold f_MO_endOf
  rw [h]
theorem wv_eq (C : CKd n hn f g hd d) (E : CDe n hn f g fr to tg hd) (F : FD (fun i => f_MO_isLeader n hn i f g hd d) d 32 bc le he sa) (A : ∀ b, b < bc → la b = nI (lq_MO_cut n hn f g hd d (n - 1 - tn (le b)) (tn (le b)))) (K : BR n hn bc f g hd le la he)
    (hod : ∀ q, q < bc → od q = bs q) (hob : ∀ q, q < bc → Nn bs q bc) (hinj : ∀ q r, q < bc → r < bc → tn (od q) = tn (od r) → q = r) (hdw : ∀ q, q < bc → ∀ k, k < 4 → dw (4 * tn (od q) + k) = dr (gi (4 * q + k + 1) g9)) (FI : Nat → Int32) :
    ∀ (kf q : Nat) (fi be fo fa : Nat → Int32) (fq : Nat) (g2 : Int32), q + kf = bc → fq + sm (fun q => 40 + (tn (la (tn (od q))) - tn (le (tn (od q))) + 1)) bc ≤ 1316 + sm (fun q => 40 + (tn (la (tn (od q))) - tn (le (tn (od q))) + 1)) q → g2 = gi (4 * q) g9 → FI = lp_MO_begin f g bc le la he od dw kf q fq fi → (∀ r, r < q → be (tn (bs r)) = nI (f_MO_endOf bc (tn (bs r)) f g le la he dw FI)) →
    (lp_WE_weave n f g bc le he sa st bs kf q fi be fo fa fq g2).1 = FI ∧ (∀ r, r < bc → (lp_WE_weave n f g bc le he sa st bs kf q fi be fo fa fq g2).2.1 (tn (bs r)) = nI (f_MO_endOf bc (tn (bs r)) f g le la he dw FI)) ∧ ((lp_WE_weave n f g bc le he sa st bs kf q fi be fo fa fq g2).2.2.1, (lp_WE_weave n f g bc le he sa st bs kf q fi be fo fa fq g2).2.2.2.1, (lp_WE_weave n f g bc le he sa st bs kf q fi be fo fa fq g2).2.2.2.2.1) = lp_MO_fl f g bc le la he st od dw FI kf q fo fa fq := by
  intro kf
  induction kf with
  | zero =>
    intro q fi be fo fa fq g2 h hfs hg2 hFI hbe
    have e : q = bc := by omega
    subst e
    exact ⟨hFI.symm, hbe, rfl⟩
  | succ kf ih =>
    intro q fi be fo fa fq g2 h hfs hg2 hFI hbe
    have hq : q < bc := by omega
    have eo := hod q hq
    have hb := (hob q hq).2
    have hm := sm_mono (G := fun q => 40 + (tn (la (tn (od q))) - tn (le (tn (od q))) + 1)) (q := q + 1) (c := bc) (by omega)
    rw [sm] at hm
    rw [lp_MO_begin, eo] at hFI
    have hk := be_keep (f := f) (g := g) (le := le) (la := la) (he := he) (dw := dw) hinj kf (q + 1) (f_MO_endOf bc (tn (bs q)) f g le la he dw (upd fi (tn (bs q)) (nI fq))) (upd fi (tn (bs q)) (nI fq)) (by omega) q (by omega)
    rw [← hFI, eo, pk_us] at hk
    obtain ⟨b1, b2⟩ := blk_eq C E F A (dw := dw) (fi := FI) hb st fo fa (fq := fq) (g2 := g2) (by rw [hk, tn_nI (by omega)]) (fun k hk2 => by
      have := hdw q hq k hk2
      rw [eo] at this
      rw [this, hg2, gi_add]
      congr 2
      omega)
    have hlen : (fb_WE n f g bc le he sa st bs q fo fa fq g2).1 = f_MO_endOf bc (tn (bs q)) f g le la he dw FI := by
      have e2 := wb_len (fq := fq) (b := tn (bs q)) (bc := bc) (fo := fo) (fa := fa) (f := f) (g := g) (le := le) (la := la) (he := he) (st := st) (dw := dw) (fi := FI)
      rw [b1] at e2
      unfold f_MO_endOf
      rw [hk, tn_nI (by omega)]
      exact e2
    have hend : f_MO_endOf bc (tn (bs q)) f g le la he dw FI = f_MO_endOf bc (tn (bs q)) f g le la he dw (upd fi (tn (bs q)) (nI fq)) := eo_at (by rw [hk, pk_us])
    have hle := eo_len K hb dw FI
    rw [hk, tn_nI (by omega)] at hle
    rw [lp_WE_weave, lp_MO_fl, eo, b1]
    refine ih (q + 1) _ _ _ _ _ _ (by omega) ?_ ?_ ?_ ?_
    · rw [sm, hlen]
      have eo2 : tn (od q) = tn (bs q) := by rw [eo]
      rw [eo2] at hm ⊢
      omega
    · rw [b2, hg2, gi_add]
      congr 1
      omega
    · rw [hlen, hend]; exact hFI
    · intro r hr
      by_cases e : tn (bs r) = tn (bs q)
      · rw [e, pk_us, hlen]
      · rw [pk_un e]
        have hne : r ≠ q := fun e2 => e (by rw [e2])
        exact hbe r (by omega)
def HR (fh : Nat) (xf xt xg fx : Nat → Int32) : Prop := ∀ k, k < fh → fx (3 * k) = xf k ∧ fx (3 * k + 1) = xt k ∧ fx (3 * k + 2) = xg k
theorem HR_push {fh : Nat} {xf xt xg fx : Nat → Int32} (h2 : HR fh xf xt xg fx) (a b c : Int32) : HR (fh + 1) (upd xf fh a) (upd xt fh b) (upd xg fh c) (upd (upd (upd fx (3 * fh) a) (3 * fh + 1) b) (3 * fh + 2) c) := by
  intro k hk
  by_cases e : k = fh
  · subst e
    refine ⟨?_, ?_, ?_⟩
    · rw [pk_un (show 3 * k ≠ 3 * k + 2 by omega), pk_un (show 3 * k ≠ 3 * k + 1 by omega), pk_us, pk_us]
    · rw [pk_un (show 3 * k + 1 ≠ 3 * k + 2 by omega), pk_us, pk_us]
    · rw [pk_us, pk_us]
  · have h := h2 k (by omega)
    refine ⟨?_, ?_, ?_⟩
    · rw [pk_un (show 3 * k ≠ 3 * fh + 2 by omega), pk_un (show 3 * k ≠ 3 * fh + 1 by omega), pk_un (show 3 * k ≠ 3 * fh by omega), pk_un e]; exact h.1
    · rw [pk_un (show 3 * k + 1 ≠ 3 * fh + 2 by omega), pk_un (show 3 * k + 1 ≠ 3 * fh + 1 by omega), pk_un (show 3 * k + 1 ≠ 3 * fh by omega), pk_un e]; exact h.2.1
    · rw [pk_un (show 3 * k + 2 ≠ 3 * fh + 2 by omega), pk_un (show 3 * k + 2 ≠ 3 * fh + 1 by omega), pk_un (show 3 * k + 2 ≠ 3 * fh by omega), pk_un e]; exact h.2.2
theorem ca_eq {fq h : Nat} {fi be : Nat → Int32} (hr : hd (3 * h) = fr h ∧ hd (3 * h + 1) = to h ∧ hd (3 * h + 2) = tg h) (hod : ∀ q, q < bc → od q = bs q) (hbe : ∀ r, r < bc → be (tn (bs r)) = nI (f_MO_endOf bc (tn (bs r)) f g le la he dw fi)) : ∀ (kf q : Nat) (us : Int32) (xf xt xg fx : Nat → Int32) (fh : Nat), q + kf = bc → HR fh xf xt xg fx →
    (lp_WE_catch fq h le fi be bs fr to kf q us xf xt xg fh).2.2.2.2 = (lp_MO_spread fq h bc hd f g le la he dw fi od kf q fx fh).2 ∧ HR (lp_WE_catch fq h le fi be bs fr to kf q us xf xt xg fh).2.2.2.2 (lp_WE_catch fq h le fi be bs fr to kf q us xf xt xg fh).2.1 (lp_WE_catch fq h le fi be bs fr to kf q us xf xt xg fh).2.2.1 (lp_WE_catch fq h le fi be bs fr to kf q us xf xt xg fh).2.2.2.1 (lp_MO_spread fq h bc hd f g le la he dw fi od kf q fx fh).1 ∧
    ((lp_WE_catch fq h le fi be bs fr to kf q us xf xt xg fh).1 = 0 ↔ (us = 0 ∧ ∀ r, q ≤ r → r < bc → f_MO_inRange hd h (le (tn (bs r))) = 0)) := by
  intro kf
  induction kf with
  | zero => intro q us xf xt xg fx fh h1 h2; exact ⟨rfl, h2, fun h => ⟨h, fun r h3 h4 => by omega⟩, fun h => h.1⟩
  | succ kf ih =>
    intro q us xf xt xg fx fh h1 h2
    rw [lp_WE_catch, lp_MO_spread, hod q (by omega), cov_eq hr]
    by_cases h3 : f_MO_inRange hd h (le (tn (bs q))) = 0
    · rw [if_pos h3, if_pos h3]
      obtain ⟨a1, a2, a3⟩ := ih (q + 1) us xf xt xg fx fh (by omega) h2
      refine ⟨a1, a2, a3.trans ⟨fun h4 => ⟨h4.1, fun r h5 h6 => ?_⟩, fun h4 => ⟨h4.1, fun r h5 h6 => h4.2 r (by omega) h6⟩⟩⟩
      by_cases e : r = q
      · rw [e]; exact h3
      · exact h4.2 r (by omega) h6
    · rw [if_neg h3, if_neg h3]
      obtain ⟨a1, a2, a3⟩ := ih (q + 1) 1 (upd xf fh (fi (tn (bs q)))) (upd xt fh (be (tn (bs q)))) (upd xg fh (nI fq)) (upd (upd (upd fx (3 * fh) (fi (tn (bs q)))) (3 * fh + 1) (nI (f_MO_endOf bc (tn (bs q)) f g le la he dw fi))) (3 * fh + 2) (nI fq)) (fh + 1) (by omega) (by have h9 := HR_push h2 (fi (tn (bs q))) (be (tn (bs q))) (nI fq); rw [hbe q (by omega)] at h9 ⊢; exact h9)
      refine ⟨a1, a2, a3.trans ⟨fun h4 => absurd h4.1 (by decide), fun h4 => absurd (h4.2 q (Nat.le_refl _) (by omega)) h3⟩⟩
theorem ca_none {fq h : Nat} {fi be : Nat → Int32} (hr : hd (3 * h) = fr h ∧ hd (3 * h + 1) = to h ∧ hd (3 * h + 2) = tg h) : ∀ (kf q : Nat) (us : Int32) (xf xt xg : Nat → Int32) (fh : Nat), (∀ r, q ≤ r → r < q + kf → f_MO_inRange hd h (le (tn (bs r))) = 0) → lp_WE_catch fq h le fi be bs fr to kf q us xf xt xg fh = (us, xf, xt, xg, fh) := by
  intro kf
  induction kf with
  | zero => intros; rfl
  | succ kf ih =>
    intro q us xf xt xg fh h1
    rw [lp_WE_catch, cov_eq hr, if_pos (h1 q (Nat.le_refl _) (by omega))]
    exact ih (q + 1) us xf xt xg fh (fun r h2 h3 => h1 r (by omega) (by omega))
theorem lc_eq (C : CKd n hn f g hd d) (E : CDe n hn f g fr to tg hd) (F : FD (fun i => f_MO_isLeader n hn i f g hd d) d 32 bc le he sa) {fi be : Nat → Int32} (hod : ∀ q, q < bc → od q = bs q) (hob : ∀ q, q < bc → Nn bs q bc) (hperm : ∀ F : Nat → Nat, sm (fun q => F (tn (od q))) bc = sm F bc) (hbe : ∀ r, r < bc → be (tn (bs r)) = nI (f_MO_endOf bc (tn (bs r)) f g le la he dw fi)) :
    ∀ (kf h : Nat) (fo fa : Nat → Int32) (fq fh : Nat) (xf xt xg fx : Nat → Int32), h + kf = hn → HR fh xf xt xg fx →
    (lc_WE_weave fr to tg bc le sa st bs fi be kf h fo fa fq fh xf xt xg).1 = (lh_MO_fl f g hd bc le la he st od dw fi kf h fo fa fq fh fx).1 ∧ (lc_WE_weave fr to tg bc le sa st bs fi be kf h fo fa fq fh xf xt xg).2.1 = (lh_MO_fl f g hd bc le la he st od dw fi kf h fo fa fq fh fx).2.1 ∧ (lc_WE_weave fr to tg bc le sa st bs fi be kf h fo fa fq fh xf xt xg).2.2.1 = (lh_MO_fl f g hd bc le la he st od dw fi kf h fo fa fq fh fx).2.2.1 ∧ (lc_WE_weave fr to tg bc le sa st bs fi be kf h fo fa fq fh xf xt xg).2.2.2.1 = (lh_MO_fl f g hd bc le la he st od dw fi kf h fo fa fq fh fx).2.2.2.1 ∧
    HR (lc_WE_weave fr to tg bc le sa st bs fi be kf h fo fa fq fh xf xt xg).2.2.2.1 (lc_WE_weave fr to tg bc le sa st bs fi be kf h fo fa fq fh xf xt xg).2.2.2.2.1 (lc_WE_weave fr to tg bc le sa st bs fi be kf h fo fa fq fh xf xt xg).2.2.2.2.2.1 (lc_WE_weave fr to tg bc le sa st bs fi be kf h fo fa fq fh xf xt xg).2.2.2.2.2.2 (lh_MO_fl f g hd bc le la he st od dw fi kf h fo fa fq fh fx).2.2.2.2 := by
  have h32 := C.1
  intro kf
  induction kf with
  | zero => intro h fo fa fq fh xf xt xg fx h1 h2; exact ⟨rfl, rfl, rfl, rfl, h2⟩
  | succ kf ih =>
    intro h fo fa fq fh xf xt xg fx h1 h2
    have hr := E.2.2.2.1 h (by omega)
    rw [lc_WE_weave, lh_MO_fl]
    by_cases hcv : f_MO_covers h bc hd le = 0
    · have hno : ∀ b, b < bc → f_MO_inRange hd h (le b) = 0 := by
        intro b hb
        apply Classical.byContradiction
        intro hh
        exact (cvr_iff h hd le bc 0 0).mpr (Or.inr ⟨b, Nat.zero_le _, by omega, hh⟩) hcv
      have hn2 := ca_none (fq := fq) (fi := fi) (be := be) (le := le) (bs := bs) hr bc 0 0 xf xt xg fh (fun r _ h3 => hno _ (hob r (by omega)).2)
      rw [if_pos hcv]
      unfold f_WE_writeCatching
      rw [hn2]
      exact ih (h + 1) fo fa fq fh xf xt xg fx (by omega) h2
    · rw [if_neg hcv]
      obtain ⟨a1, a2, a3⟩ := ca_eq (fq := fq) (bc := bc) (f := f) (g := g) (le := le) (la := la) (he := he) (dw := dw) (fi := fi) (be := be) hr hod hbe bc 0 0 xf xt xg fx fh (by omega) h2
      have hus : ¬ (lp_WE_catch fq h le fi be bs fr to bc 0 0 xf xt xg fh).1 = 0 := by
        intro hu
        have hall := (a3.mp hu).2
        rcases (cvr_iff h hd le bc 0 0).mp hcv with h0 | ⟨b, _, hb, hin⟩
        · exact absurd rfl h0
        · obtain ⟨q, hq, e⟩ := sm_has hperm (b := b) (by omega)
          rw [hod q hq] at e
          have := hall q (Nat.zero_le _) hq
          rw [e] at this
          exact hin this
      have hst : tn (sa (tn (tg h))) = f_MO_blockAt bc le (hd (3 * h + 2)) := by
        rcases (cvr_iff h hd le bc 0 0).mp hcv with h0 | ⟨b, _, hb, hin⟩
        · exact absurd rfl h0
        · obtain ⟨l1, l2, l3⟩ := FD_le C F (b := b) (by omega)
          rw [l1.1] at hin
          have hb3 := (E.2.2.1 h (by omega)).2.2
          have hg : Nn hd (3 * h + 2) 33 := by unfold Nn; rw [hr.2.2]; exact hb3
          have h5 := ck_LH C l1.2 l2 (by omega) hin hg
          rw [hr.2.2] at h5
          rw [hr.2.2, hb3.1, tn_nI (by have := hb3.2; omega)]
          exact (ba_sa C F (by omega) h5.2).symm
      have e1 : f_WE_writeCatching fq fh bc h fo fa xf xt xg le fi be bs st sa fr to tg = ((f_MO_spread fq fh h bc fo fa fx hd f g le la he st dw fi od).1, (f_MO_spread fq fh h bc fo fa fx hd f g le la he st dw fi od).2.1, (f_MO_spread fq fh h bc fo fa fx hd f g le la he st dw fi od).2.2.1, (f_MO_spread fq fh h bc fo fa fx hd f g le la he st dw fi od).2.2.2.1, (lp_WE_catch fq h le fi be bs fr to bc 0 0 xf xt xg fh).2.1, (lp_WE_catch fq h le fi be bs fr to bc 0 0 xf xt xg fh).2.2.1, (lp_WE_catch fq h le fi be bs fr to bc 0 0 xf xt xg fh).2.2.2.1) := by
        unfold f_WE_writeCatching f_MO_spread f_WE_writeGoingTo
        rw [if_neg hus, hst, a1]
      rw [e1]
      refine ih (h + 1) _ _ _ _ _ _ _ _ (by omega) ?_
      show HR (lp_MO_spread fq h bc hd f g le la he dw fi od bc 0 fx fh).2 _ _ _ (lp_MO_spread fq h bc hd f g le la he dw fi od bc 0 fx fh).1
      rw [← a1]
      exact a2
end Wv
