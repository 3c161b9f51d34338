-- each call keeps what holds between calls
section Cl
variable {n hn fq fh bc : Nat} {f g fr to tg hd d ov fo fa xf xt xg fx le he la sa st fi be bs mk dw od lo ke sk sr : Nat → Int32} {ye yo xr : Int32}
theorem LI_clear (I : LI n hn fq fh bc f g fr to tg hd d fo fa xf xt xg fx st fi bs ye yo xr) : LI 0 0 fq fh bc f g fr to tg hd d fo fa xf xt xg fx st fi bs ye yo xr :=
  ⟨⟨by decide, by decide, ⟨fun i h => by omega, fun i h => by omega, fun i h => by omega, fun i h => by omega, fun i h => by omega⟩, I.1.2.2.2⟩, I.2⟩
theorem out_n2 {x : Int32} {k : Nat} (hk : k < 2 ^ 31) (h : f_MO_outside x (nI k) = 0) : x = nI (tn x) ∧ tn x < k + 1 := by
  obtain ⟨h1, h2⟩ := (out_eq x (nI k)).mp h
  exact ⟨tn_eq h1, by have := tn_le h1 hk h2; omega⟩
theorem LI_add (I : LI n hn fq fh bc f g fr to tg hd d fo fa xf xt xg fx st fi bs ye yo xr) (o b : Int32) : LI (f_FF_add n f g o b).2.1 hn fq fh bc (f_FF_add n f g o b).2.2.1 (f_FF_add n f g o b).2.2.2 fr to tg hd d fo fa xf xt xg fx st fi bs ye yo xr := by
  obtain ⟨⟨i1, i2, ⟨c1, c2, c3, c4, c5⟩, i4⟩, I2⟩ := I
  have same : LI n hn fq fh bc f g fr to tg hd d fo fa xf xt xg fx st fi bs ye yo xr := ⟨⟨i1, i2, ⟨c1, c2, c3, c4, c5⟩, i4⟩, I2⟩
  unfold f_FF_add
  by_cases h1 : o < 0
  · rw [if_pos h1]; exact same
  · rw [if_neg h1]
    by_cases h2 : 17 < o
    · rw [if_pos h2]; exact same
    · rw [if_neg h2]
      by_cases h3 : n = 32
      · rw [if_pos h3]; exact same
      · rw [if_neg h3]
        by_cases h4 : f_FF_takesOperand o b = 0
        · rw [if_pos h4]; exact same
        · rw [if_neg h4]
          have hle : o ≤ nI 17 := by
            have : o ≤ 17 := by rw [lt_not] at h2; exact Classical.not_not.mp h2
            exact this
          have hok : Ok18 o := ⟨tn_eq h1, by have := tn_le h1 (by decide) hle; omega⟩
          have key : ∀ x : Int32, (f_FF_hasOperand o = 0 ∨ x = b) → LI (n + 1) hn fq fh bc (upd f n o) (upd g n x) fr to tg hd d fo fa xf xt xg fx st fi bs ye yo xr := by
            intro x hx
            have hb : f_FF_hasOperand o = 0 → f_MO_jumps o = 0 ∧ ¬ o = 1 ∧ ¬ o = 2 := by
              intro h
              rw [has_eq] at h
              unfold f_MO_bears at h
              by_cases e0 : o = 0
              · rw [if_pos e0] at h; exact absurd h (by decide)
              · rw [if_neg e0] at h
                by_cases e1 : o = 1
                · rw [if_pos e1] at h; exact absurd h (by decide)
                · rw [if_neg e1] at h
                  by_cases e2 : o = 2
                  · rw [if_pos e2] at h; exact absurd h (by decide)
                  · rw [if_neg e2] at h
                    by_cases e3 : f_MO_jumps o = 0
                    · exact ⟨e3, e1, e2⟩
                    · rw [if_neg e3] at h; exact absurd h (by decide)
            refine ⟨⟨by omega, i2, ⟨fun i hi => ?_, fun i hi hj => ?_, c3, c4, fun i hi h12 => ?_⟩, i4⟩, I2⟩
            · by_cases e : i = n
              · subst e; rw [pk_us]; exact hok
              · rw [pk_un e]; exact c1 i (by omega)
            · by_cases e : i = n
              · subst e
                rw [pk_us, jumps_eq] at hj
                have hxb : x = b := by
                  rcases hx with h | h
                  · exact absurd (hb h).1 hj
                  · exact h
                have hO : f_MO_outside b 31 = 0 := Classical.byContradiction (fun h9 => h4 ((takes_op o b).mpr (Or.inr ⟨hj, h9⟩)))
                unfold Nn
                rw [pk_us, hxb]
                exact out_n2 (k := 31) (by decide) hO
              · rw [pk_un e] at hj
                unfold Nn
                rw [pk_un e]
                exact c2 i (by omega) hj
            · by_cases e : i = n
              · subst e
                rw [pk_us] at h12
                have hxb : x = b := by
                  rcases hx with h | h
                  · rcases h12 with e1 | e2
                    · exact absurd e1 (hb h).2.1
                    · exact absurd e2 (hb h).2.2
                  · exact h
                have hO : f_MO_outside b 3 = 0 := Classical.byContradiction (fun h9 => h4 ((takes_op o b).mpr (Or.inl ⟨h12, h9⟩)))
                unfold Nn
                rw [pk_us, hxb]
                exact out_n2 (k := 3) (by decide) hO
              · rw [pk_un e] at h12
                unfold Nn
                rw [pk_un e]
                exact c5 i (by omega) h12
          by_cases h5 : f_FF_hasOperand o = 0
          · rw [if_pos h5]; exact key 0 (Or.inl h5)
          · rw [if_neg h5]; exact key b (Or.inr rfl)
theorem LI_handler (I : LI n hn fq fh bc f g fr to tg hd d fo fa xf xt xg fx st fi bs ye yo xr) (u v w : Int32) : LI n (f_FF_handler hn fr to tg u v w).2.1 fq fh bc f g (f_FF_handler hn fr to tg u v w).2.2.1 (f_FF_handler hn fr to tg u v w).2.2.2.1 (f_FF_handler hn fr to tg u v w).2.2.2.2 (f_MO_handler hn hd u v w).2.2 d fo fa xf xt xg fx st fi bs ye yo xr := by
  obtain ⟨⟨i1, i2, ⟨c1, c2, c3, c4, c5⟩, i4⟩, I2⟩ := I
  have same : LI n hn fq fh bc f g fr to tg hd d fo fa xf xt xg fx st fi bs ye yo xr := ⟨⟨i1, i2, ⟨c1, c2, c3, c4, c5⟩, i4⟩, I2⟩
  unfold f_FF_handler f_MO_handler
  by_cases h1 : f_MO_outside u 32 = 0
  · have h1' : ¬ f_FF_isPlace u = 0 := fun h => (place_eq u).mp h h1
    rw [if_neg h1', if_pos h1]
    by_cases h2 : f_MO_outside v 32 = 0
    · have h2' : ¬ f_FF_isPlace v = 0 := fun h => (place_eq v).mp h h2
      rw [if_neg h2', if_pos h2]
      by_cases h3 : f_MO_outside w 32 = 0
      · have h3' : ¬ f_FF_isPlace w = 0 := fun h => (place_eq w).mp h h3
        rw [if_neg h3', if_pos h3]
        by_cases h4 : v ≤ u
        · rw [if_pos h4, if_pos h4]; exact same
        · rw [if_neg h4, if_neg h4]
          by_cases h5 : hn = 3
          · rw [if_pos h5, if_pos h5]; exact same
          · rw [if_neg h5, if_neg h5]
            have hp := HR_push (xf := fr) (xt := to) (xg := tg) (fx := hd) (fh := hn) c4 u v w
            refine ⟨⟨i1, by show hn + 1 ≤ 3; omega, ⟨c1, c2, fun h hh => ?_, hp, c5⟩, i4⟩, I2⟩
            have hh : h < hn + 1 := hh
            show Nn (upd fr hn u) h 33 ∧ Nn (upd to hn v) h 33 ∧ Nn (upd tg hn w) h 33
            unfold Nn
            by_cases e : h = hn
            · subst e
              rw [pk_us, pk_us, pk_us]
              exact ⟨out_n2 (k := 32) (by decide) h1, out_n2 (k := 32) (by decide) h2, out_n2 (k := 32) (by decide) h3⟩
            · rw [pk_un e, pk_un e, pk_un e]
              exact c3 h (by omega)
      · have h3' : f_FF_isPlace w = 0 := (place_eq w).mpr h3
        rw [if_pos h3', if_neg h3]; exact same
    · have h2' : f_FF_isPlace v = 0 := (place_eq v).mpr h2
      rw [if_pos h2', if_neg h2]; exact same
  · have h1' : f_FF_isPlace u = 0 := (place_eq u).mpr h1
    rw [if_pos h1', if_neg h1]; exact same
theorem LI_d (I : LI n hn fq fh bc f g fr to tg hd d fo fa xf xt xg fx st fi bs ye yo xr) {d2 : Nat → Int32} (h : D4 d2) : LI n hn fq fh bc f g fr to tg hd d2 fo fa xf xt xg fx st fi bs ye yo xr := ⟨⟨I.1.1, I.1.2.1, I.1.2.2.1, h⟩, I.2⟩
theorem LI_ck (I : LI n hn fq fh bc f g fr to tg hd d fo fa xf xt xg fx st fi bs ye yo xr) : D4 (f_MO_check n hn f g hd d ov).2.1 := (ck_ok I.1.1 I.1.2.2.1.1 I.1.2.2.2).1
theorem LI_check (I : LI n hn fq fh bc f g fr to tg hd d fo fa xf xt xg fx st fi bs ye yo xr) : f_FF_check n hn f g fr to tg d ov = f_MO_check n hn f g hd d ov := check_eq I.1.1 I.1.2.2.1.1 I.1.2.2.1.2.2.2.1 I.1.2.2.2
theorem LI_depth (I : LI n hn fq fh bc f g fr to tg hd d fo fa xf xt xg fx st fi bs ye yo xr) (v : Int32) : f_FF_depth n hn f g fr to tg d ov v = f_MO_depth n hn f g hd d ov v ∧ D4 (f_MO_depth n hn f g hd d ov v).2.1 := by
  refine ⟨depth_eq I.1.1 I.1.2.2.1.1 I.1.2.2.1.2.2.2.1 I.1.2.2.2 v, ?_⟩
  unfold f_MO_depth
  have h1 := LI_ck (ov := ov) I
  split
  · exact I.1.2.2.2
  · split
    · exact h1
    · exact I.1.2.2.2
theorem LI_tg (I : LI n hn fq fh bc f g fr to tg hd d fo fa xf xt xg fx st fi bs ye yo xr) : ∀ h, h < hn → ¬ tg h = -1 := by
  intro h hh e
  have hb := (I.1.2.2.1.2.2.1 h hh).2.2
  have h2 : (nI (tn (tg h))).toInt = (-1 : Int32).toInt := by rw [← hb.1, e]
  rw [nI_toInt (by have := hb.2; omega)] at h2
  have h4 : (-1 : Int32).toInt = -1 := by decide
  omega
theorem LI_J0 (I : LI n hn fq fh bc f g fr to tg hd d fo fa xf xt xg fx st fi bs ye yo xr) (h : (f_MO_check n hn f g hd d ov).1 = 0) : JP n hn bc f g hd st fi (JO n (f_MO_check n hn f g hd d ov).2.1) ∧ ∀ lo sk, JO n (f_MO_check n hn f g hd d ov).2.1 lo sk 0 (nI 0) := by
  have C := fl_C I h
  exact ⟨JO_P C I.1.2.2.1 I.1.2.1, fun lo sk => ⟨0, C.2.1, rfl, C.2.2.2.1, by decide⟩⟩
/-- what two runs have in common: answer, use, locals, what was emitted, the stack, steps, emits, ending, result -/
def RunR (A B : Int32 × (Nat → Int32) × (Nat → Int32) × (Nat → Int32) × Int32 × Int32 × Int32 × Int32 × Int32 × Int32) (ra rb : Int32) : Prop := ra = rb ∧ A.1 = B.1 ∧ A.2.1 = B.2.1 ∧ A.2.2.1 = B.2.2.1 ∧ A.2.2.2.1 = B.2.2.2.1 ∧ A.2.2.2.2.2.2.1 = B.2.2.2.2.2.2.1 ∧ A.2.2.2.2.2.2.2.1 = B.2.2.2.2.2.2.2.1 ∧ A.2.2.2.2.2.2.2.2.1 = B.2.2.2.2.2.2.2.2.1 ∧ ((A.2.2.2.2.2.2.2.2.1 = 0 ∧ B.2.2.2.2.2.2.2.2.2 = -2147483648) ∨ (¬ A.2.2.2.2.2.2.2.2.1 = 0 ∧ B.2.2.2.2.2.2.2.2.2 = A.2.2.2.2.2.2.2.2.2))
theorem run0_eq (I : LI n hn fq fh bc f g fr to tg hd d fo fa xf xt xg fx st fi bs ye yo xr) (v y_top y_at y_wu y_tk y_ec x_top x_at : Int32) {A B : Int32 × (Nat → Int32) × (Nat → Int32) × Int32 × (Nat → Int32) × (Nat → Int32) × (Nat → Int32) × Int32 × Int32 × Int32 × Int32 × Int32 × Int32} (eA : A = f_FF_run0 n hn f g fr to tg d ov bc y_top y_at y_wu y_tk y_ec ye yo lo ke sk st fi sr v) (eB : B = f_MO_run0 y_wu ye xr y_tk y_ec x_top x_at n hn bc f g hd d ov lo ke sk st fi sr v) :
    A.2.1 = B.2.1 ∧ A.2.2.1 = B.2.2.1 ∧ D4 A.2.1 ∧ RunR A.2.2.2 B.2.2.2 A.1 B.1 := by
  unfold f_FF_run0 at eA
  unfold f_MO_run0 at eB
  obtain ⟨e1, e2⟩ := fine_eq (g := g) (ov := ov) I.1.1 I.1.2.2.1.1 I.1.2.2.1.2.2.2.1 I.1.2.2.2
  have hrr : (ye = 0 ∧ xr = -2147483648) ∨ (¬ ye = 0 ∧ xr = yo) := I.2.2.2
  by_cases h1 : v < 0
  · rw [if_pos h1] at eA
    rw [if_neg (fun h => ((out_eq v 4000).mp h).1 h1)] at eB
    subst eA; subst eB
    exact ⟨rfl, rfl, I.1.2.2.2, rfl, rfl, rfl, rfl, rfl, rfl, rfl, rfl, hrr⟩
  · rw [if_neg h1] at eA
    by_cases h2 : v ≤ 4000
    · rw [if_pos h2] at eA
      rw [if_pos ((out_eq v 4000).mpr ⟨h1, h2⟩)] at eB
      by_cases h0 : (f_MO_check n hn f g hd d ov).1 = 0
      · rw [if_pos h0] at eB
        rw [if_neg (fun h => e2.mp h h0), e1] at eA
        obtain ⟨P, h00⟩ := LI_J0 (ov := ov) I h0
        obtain ⟨g1, g2, g3, g4, g5, g6, g7, g8, g9⟩ := JP_go (fr := fr) (to := to) (tg := tg) (by have := I.1.2.1; omega) I.2.1.2.2.1 I.1.2.2.1.2.2.2.1 (LI_tg I) P (tn v) lo ke sk sr (h00 _ _)
        subst eA; subst eB
        refine ⟨rfl, rfl, LI_ck I, g8, rfl, g1, g2, g3, congrArg nI g6, congrArg nI g7, g8, ?_⟩
        rcases g9 with ⟨a1, a2, a3⟩ | ⟨a1, a2⟩
        · exact Or.inl ⟨a1, a3⟩
        · exact Or.inr ⟨a1, a2.symm⟩
      · rw [if_neg h0] at eB
        rw [if_pos (e2.mpr h0), e1] at eA
        subst eA; subst eB
        exact ⟨rfl, rfl, LI_ck I, rfl, rfl, rfl, rfl, rfl, rfl, rfl, rfl, hrr⟩
    · rw [if_neg h2] at eA
      rw [if_neg (fun h => h2 ((out_eq v 4000).mp h).2)] at eB
      subst eA; subst eB
      exact ⟨rfl, rfl, I.1.2.2.2, rfl, rfl, rfl, rfl, rfl, rfl, rfl, rfl, hrr⟩
theorem run1_eq (I : LI n hn fq fh bc f g fr to tg hd d fo fa xf xt xg fx st fi bs ye yo xr) (v y_top y_at y_wu y_tk y_ec x_top x_at : Int32) {A B : Int32 × Int32 × (Nat → Int32) × (Nat → Int32) × (Nat → Int32) × Int32 × Int32 × Int32 × Int32 × Int32 × Int32} (eA : A = f_FF_run1 fq fh bc y_top y_at y_wu y_tk y_ec ye yo fo fa xf xt xg lo ke sk st fi sr v) (eB : B = f_MO_run1 y_wu ye xr y_tk y_ec x_top x_at fq fh bc fo fa fx lo ke sk st fi sr v) : RunR A.2 B.2 A.1 B.1 := by
  unfold f_FF_run1 at eA
  unfold f_MO_run1 at eB
  have hrr : (ye = 0 ∧ xr = -2147483648) ∨ (¬ ye = 0 ∧ xr = yo) := I.2.2.2
  by_cases h1 : v < 0
  · rw [if_pos h1] at eA
    rw [if_neg (fun h => ((out_eq v 4000).mp h).1 h1)] at eB
    subst eA; subst eB
    exact ⟨rfl, rfl, rfl, rfl, rfl, rfl, rfl, rfl, hrr⟩
  · rw [if_neg h1] at eA
    by_cases h2 : v ≤ 4000
    · rw [if_pos h2] at eA
      rw [if_pos ((out_eq v 4000).mpr ⟨h1, h2⟩)] at eB
      by_cases h0 : 0 < fq
      · rw [if_pos h0] at eA eB
        obtain ⟨Jv, P, h00⟩ := I.2.1.2.2.2.2.2 h0
        obtain ⟨g1, g2, g3, g4, g5, g6, g7, g8, g9⟩ := JP_go (fr := xf) (to := xt) (tg := xg) (by have := I.2.1.2.1; omega) I.2.1.2.2.1 I.2.1.2.2.2.1 I.2.1.2.2.2.2.1 P (tn v) lo ke sk sr (h00 _ _)
        rw [go_01, beg_01] at eB
        subst eA; subst eB
        refine ⟨g8, rfl, g1, g2, g3, congrArg nI g6, congrArg nI g7, g8, ?_⟩
        rcases g9 with ⟨a1, a2, a3⟩ | ⟨a1, a2⟩
        · exact Or.inl ⟨a1, a3⟩
        · exact Or.inr ⟨a1, a2.symm⟩
      · rw [if_neg h0] at eA eB
        subst eA; subst eB
        exact ⟨rfl, rfl, rfl, rfl, rfl, rfl, rfl, rfl, hrr⟩
    · rw [if_neg h2] at eA
      rw [if_neg (fun h => h2 ((out_eq v 4000).mp h).2)] at eB
      subst eA; subst eB
      exact ⟨rfl, rfl, rfl, rfl, rfl, rfl, rfl, rfl, hrr⟩
theorem LI_r (I : LI n hn fq fh bc f g fr to tg hd d fo fa xf xt xg fx st fi bs ye yo xr) {ye2 yo2 xr2 : Int32} (h : (ye2 = 0 ∧ xr2 = -2147483648) ∨ (¬ ye2 = 0 ∧ xr2 = yo2)) : LI n hn fq fh bc f g fr to tg hd d fo fa xf xt xg fx st fi bs ye2 yo2 xr2 := ⟨I.1, I.2.1, I.2.2.1, h⟩
theorem LI_start : LI 0 0 0 0 0 (fun _ => 0) (fun _ => 0) (fun _ => 0) (fun _ => 0) (fun _ => 0) (fun _ => 0) (fun _ => 0) (fun _ => 0) (fun _ => 0) (fun _ => 0) (fun _ => 0) (fun _ => 0) (fun _ => 0) (fun _ => 0) (fun _ => 0) (fun _ => 0) 0 0 (-2147483648) :=
  ⟨⟨by decide, by decide, ⟨fun i h => by omega, fun i h => by omega, fun i h => by omega, fun i h => by omega, fun i h => by omega⟩, fun i => Or.inr ⟨0, by decide, rfl⟩⟩, ⟨by decide, by decide, by decide, fun k hk => by omega, fun k hk => by omega, fun h => by omega⟩, fun q _ => (show (0 : Int32) = nI (tn 0) ∧ tn (0 : Int32) < 32 by decide), Or.inl ⟨rfl, rfl⟩⟩
theorem res_eq (I : LI n hn fq fh bc f g fr to tg hd d fo fa xf xt xg fx st fi bs ye yo xr) : f_FF_result ye yo = xr := by
  unfold f_FF_result
  rcases I.2.2.2 with ⟨h1, h2⟩ | ⟨h1, h2⟩
  · rw [if_pos h1, h2]
  · rw [if_neg h1, h2]
end Cl
