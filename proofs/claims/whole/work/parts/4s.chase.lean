/-! caught, flee -/
theorem xv_end {o : Int32} (hO : S30 o) {v E : Nat} (hE : E < 900) (hst : stab o v E) {c s : Nat} (hc : c < 30) {j : Nat} (hj : j < 1000000) : xv o v (E + 1) c s ≤ j ↔ hb (WW o v j c) s = true := by
  have h := xv_is (v := v) hO (s := s) hc (E + 1) (by omega)
  rcases Nat.lt_or_ge (E + 1) j with z | z
  · have e : WW o v j c = WW o v (E + 1) c := by
      rw [hst c hc]
      have := stab_all hO hst (j - E) c hc
      rw [show E + (j - E) = j by omega] at this; exact this
    rw [e, ← h.2 (E + 1) (Nat.le_refl _)]
    rcases h.1 with w | w <;> omega
  · exact h.2 j z
theorem thr_end {o : Int32} (hO : S30 o) {v E : Nat} (hE : E < 900) (hst : stab o v E) : Thr o v 1000000 (xv o v (E + 1)) := fun c s j hc _ hj => xv_end hO hE hst hc hj
section CH2
variable {u : PoS}
theorem chaseX {a : Nat → Int32} (h : Liv (u.1 3) a) {x y w : Int32} {post : Int32 → PoS → Prop} (h1 : ∀ p s v, p < 30 → s < 30 → 1 ≤ v → v ≤ 2 → x = nI p → y = nI s → w = nI v → hb (opn a) p = true → hb (opn a) s = true → post 1 u) (h0 : (¬ ∃ p s v, p < 30 ∧ s < 30 ∧ 1 ≤ v ∧ v ≤ 2 ∧ x = nI p ∧ y = nI s ∧ w = nI v ∧ hb (opn a) p = true ∧ hb (opn a) s = true) → post 0 u) : wp_X11_canChase x y w u post := by
  have hO := h.2.2.2.opn
  refine isOpenX (b := 0) hO (fun p hp ep op => ⟨fun q => absurd q (by decide), fun _ => isOpenX (b := 0) hO (fun s hs es os => ⟨fun q => absurd q (by decide), fun _ => ?_⟩) (fun hno => ⟨fun _ => h0 ?_, fun q => absurd rfl q⟩)⟩) (fun hno => ⟨fun _ => h0 ?_, fun q => absurd rfl q⟩)
  · rcases out1 (m := 2) (by decide) (x := w) with z | ⟨v, v1, v2, ev⟩
    · refine within_f z ⟨fun _ => h0 ?_, fun q => absurd rfl q⟩
      rintro ⟨p', s', v, -, -, v1, v2, -, -, ev, -⟩
      rw [ev] at z
      rcases z with z | z
      · exact nI_nlt (b := 1) (a := v) v1 (by omega) z
      · exact nI_nlt (b := v) (a := 2) v2 (by decide) z
    · refine within_t (by rw [ev]; exact nI_nlt (b := 1) (a := v) v1 (by omega)) (by rw [ev]; exact nI_nlt (b := v) (a := 2) v2 (by decide)) ⟨fun q => absurd q (by decide), fun _ => h1 p s v hp hs v1 v2 ep es ev op os⟩
  · rintro ⟨p', s', v, -, hs', -, -, -, es, -, -, os⟩
    rw [hno s' hs' es] at os; exact Bool.noConfusion os
  · rintro ⟨p', s', v, hp', -, -, -, ep, -, -, op, -⟩
    rw [hno p' hp' ep] at op; exact Bool.noConfusion op
theorem chaseM {x y w : Int32} {post : Int32 → PoS → Prop} (h1 : ∀ p s v, p < 30 → s < 30 → 1 ≤ v → v ≤ 2 → x = nI p → y = nI s → w = nI v → hb (opn (u.1 49)) p = true → hb (opn (u.1 49)) s = true → post 1 u) (h0 : (¬ ∃ p s v, p < 30 ∧ s < 30 ∧ 1 ≤ v ∧ v ≤ 2 ∧ x = nI p ∧ y = nI s ∧ w = nI v ∧ hb (opn (u.1 49)) p = true ∧ hb (opn (u.1 49)) s = true) → post 0 u) : wp_X12_areFlying x y w u post := by
  refine isFreeM (r := u.1 49) (fun p hp ep op => ⟨fun q => absurd q (by decide), fun _ => isFreeM (r := u.1 49) (fun s hs es os => ⟨fun q => absurd q (by decide), fun _ => ?_⟩) (fun hno => ⟨fun _ => h0 ?_, fun q => absurd rfl q⟩)⟩) (fun hno => ⟨fun _ => h0 ?_, fun q => absurd rfl q⟩)
  · rcases out1 (m := 2) (by decide) (x := w) with z | ⟨v, v1, v2, ev⟩
    · refine isIn_f z ⟨fun _ => h0 ?_, fun q => absurd rfl q⟩
      rintro ⟨p', s', v, -, -, v1, v2, -, -, ev, -⟩
      rw [ev] at z
      rcases z with z | z
      · exact nI_nlt (b := 1) (a := v) v1 (by omega) z
      · exact nI_nlt (b := v) (a := 2) v2 (by decide) z
    · refine isIn_t (by rw [ev]; exact nI_nlt (b := 1) (a := v) v1 (by omega)) (by rw [ev]; exact nI_nlt (b := v) (a := 2) v2 (by decide)) ⟨fun q => absurd q (by decide), fun _ => h1 p s v hp hs v1 v2 ep es ev op os⟩
  · rintro ⟨p', s', v, -, hs', -, -, -, es, -, -, os⟩
    rw [hno s' hs' es] at os; exact Bool.noConfusion os
  · rintro ⟨p', s', v, hp', -, -, -, ep, -, -, op, -⟩
    rw [hno p' hp' ep] at op; exact Bool.noConfusion op
end CH2
theorem inv_ch {LT : Nat → PoS → Prop} (hLT : LTok LT) {u u1 z : PoS} (hI : Inv LT u) (h1 : ∀ j, j < 32 ∨ 34 < j → u1.1 j = u.1 j) (h2 : ∀ j, j ≠ 59 → j ≠ 60 → z.1 j = u1.1 j) : Inv LT z :=
  inv_scr hLT hI (fun j hj => by rw [h2 j (by omega) (by omega), h1 j (by omega)]) (fun k _ => by rw [h2 48 (by decide) (by decide), h1 48 (by decide)])
/-- the turns it takes -/
theorem xv_cnd {o : Int32} (hO : S30 o) {v E p s : Nat} (hE : E < 900) (hst : stab o v E) (hp : p < 30) (hop : hb o p = true) (hne : ¬ p = s) : (∀ t, t ≤ E → cnd o v p s t → (∀ j, j < t → ¬ cnd o v p s j) → xv o v (E + 1) p s = t + 1) ∧ ((∀ t, t ≤ E → ¬ cnd o v p s t) → xv o v (E + 1) p s = 1000000) := by
  have key : ∀ t, hb (WW o v (t + 1) p) s = true ↔ cnd o v p s t := by
    intro t
    rw [WW_s hO hp hop]
    exact ⟨fun h => h.resolve_left (fun e => hne e.symm), fun h => Or.inr h⟩
  have k0 : ¬ hb (WW o v 0 p) s = true := fun h => hne ((bt1_hb hp s).mp h).symm
  have b := xv_is (v := v) hO (s := s) hp (E + 1) (by omega)
  refine ⟨fun t ht h1 h2 => ?_, fun h => ?_⟩
  · have a1 := (xv_end hO hE hst hp (s := s) (j := t + 1) (by omega)).mpr ((key t).mpr h1)
    have a2 : ¬ xv o v (E + 1) p s ≤ t := fun hle => by
      have := (xv_end hO hE hst hp (s := s) (j := t) (by omega)).mp hle
      cases t with
      | zero => exact k0 this
      | succ t => exact h2 t (by omega) ((key t).mp this)
    omega
  · rcases b.1 with w | w
    · exfalso
      have := (b.2 (E + 1) (Nat.le_refl _)).mp w
      exact h E (Nat.le_refl _) ((key E).mp this)
    · exact w
theorem ob_caught {LT : Nat → PoS → Prop} (hLT : LTok LT) (x y w : Int32) : Ob32 (wp_X11_caught x y w) (wp_X12_caught x y w) (Inv LT) := by
  intro u hI
  have hL := hI.1.liv
  have hO := opn_30 (u.1 49)
  by_cases ok : ∃ p s v, p < 30 ∧ s < 30 ∧ 1 ≤ v ∧ v ≤ 2 ∧ x = nI p ∧ y = nI s ∧ w = nI v ∧ hb (opn (u.1 49)) p = true ∧ hb (opn (u.1 49)) s = true
  · obtain ⟨p, s, v, hp, hs, v1, v2, rfl, rfl, rfl, op, os⟩ := id ok
    obtain ⟨E, hE, hst, hnst⟩ := stab_ex (o := opn (u.1 49)) (v := v) hO
    generalize eo : opn (u.1 49) = o at *
    have bx := xv_6 (o := o) (v := v) hO (s := s) hp (show E + 1 < 1000000 by omega)
    refine ⟨fun r u1 => r = (if xv o v (E + 1) p s = 1000000 then -1 else nI (xv o v (E + 1) p s)) ∧ ∀ j, j < 32 ∨ 34 < j → u1.1 j = u.1 j, fun K hK => ?_, fun r u1 hr K hK => ?_⟩
    · refine chaseX hL (fun _ _ _ _ _ _ _ _ _ _ _ _ => ⟨fun _ => openX (b := 0) hL.2.2.2.opn ?_, fun q => absurd q (by decide)⟩) (fun h => by rw [eo] at h; exact absurd ok h)
      rw [eo]
      by_cases e : p = s
      · subst e
        intro z1 e1 z2 e2
        refine ⟨fun q => absurd rfl q, fun _ => hK _ z2 ⟨?_, fun j hj => by rw [e2, pI_o (by omega), e1, pI_o (by omega)]⟩⟩
        have : xv o v (E + 1) p p = 0 := by
          have := (xv_end hO hE hst hp (s := p) (j := 0) (by decide)).mpr (WW_self 0 hp)
          omega
        rw [this, if_neg (by decide), gI_def, e2, pI_s, up_ne (by decide), e1, pI_s, up_eq]; rfl
      · obtain ⟨c1, c2⟩ := xv_cnd hO hE hst hp op e
        refine playX hO v2 hp hs op e hE hst hnst (fun z fz hz => hK _ z ⟨?_, fun j hj => fz j (by omega) (by omega) (by omega)⟩)
        rcases hz with ⟨t, ht, h1, h2, h3, -⟩ | ⟨h1, h2, -⟩
        · rw [c1 t ht h1 h2, if_neg (by omega), gI_def, h3]
        · rw [c2 h1, if_pos rfl, gI_def, h2]
    · obtain ⟨rfl, f1⟩ := hr
      have e49 : u1.1 49 = u.1 49 := f1 49 (by decide)
      have eo1 : opn (u1.1 49) = o := by rw [e49, eo]
      refine chaseM (fun _ _ _ _ _ _ _ _ _ _ _ _ => ⟨fun _ => layTurnsM (E := E) v2 hE (by rw [eo1]; exact hst) (by rw [eo1]; exact hnst) (fun z fz g60 hT => ?_), fun q => absurd q (by decide)⟩) (fun h => by rw [eo1] at h; exact absurd ok h)
      rw [eo1] at hT
      have K1 := hK z (inv_ch hLT hI f1 fz)
      rw [show (30 : Int32) * nI p + nI s = nI (30 * p + s) by simp (disch := omega) only [q_lit, nI_add, pk_mul, q_sub, q_rem, q_div, q_vp, q_cl, q_lt, q_le, q_eq, q_neg1, gI_def], q_vp (by omega) (by omega), q_cl (by omega), gI_def, (hT p s hp hs).1]
      refine ⟨by omega, fun x5 e5 => ?_⟩
      rw [e5, show (1000000 : Int32) = nI 1000000 from rfl, q_eq (by omega) (by omega)]
      refine ⟨fun q => ?_, fun q => ?_⟩
      · rw [if_neg q] at K1; exact K1
      · rw [if_pos q] at K1; exact K1
  · refine ⟨fun r u1 => r = -1 ∧ u1 = u, fun K hK => chaseX hL (fun p s v a b c d e f g h i => absurd ⟨p, s, v, a, b, c, d, e, f, g, h, i⟩ ok) (fun _ => ⟨fun q => absurd rfl q, fun _ => hK _ _ ⟨rfl, rfl⟩⟩), fun r u1 hr K hK => ?_⟩
    obtain ⟨rfl, rfl⟩ := hr
    exact chaseM (fun p s v a b c d e f g h i => absurd ⟨p, s, v, a, b, c, d, e, f, g, h, i⟩ ok) (fun _ => ⟨fun q => absurd rfl q, fun _ => hK _ hI⟩)
/-- the first of those from which it takes longest -/
def FirstMax (P : Nat → Prop) (f : Nat → Nat) (n d : Nat) : Prop := d < n ∧ P d ∧ (∀ e, e < n → P e → f e ≤ f d) ∧ ∀ e, e < d → P e → f e < f d
theorem first_low {o : Int32} (hO : S30 o) {v E p s : Nat} (hE : E < 900) (hst : stab o v E) (hp : p < 30) (hs : s < 30) (hos : hb o s = true) {d d' : Nat} (hM : FirstMax (fun e => hb (gls o p) e = true) (tbV (Rch o (bt1 s) v) (xv o v (E + 1))) 30 d') (h : (∃ t, t ≤ E ∧ cnd o v p s t ∧ (∀ j, j < t → ¬ cnd o v p s j) ∧ IsLow (inC o v p s t) d) ∨ ((∀ t, t ≤ E → ¬ cnd o v p s t) ∧ IsLow (inC o v p s (E + 1)) d)) : d = d' := by
  obtain ⟨m1, m2, m3, m4⟩ := hM
  have tb : ∀ {e j}, hb (gls o p) e = true → j + 1 < 1000000 → (tbV (Rch o (bt1 s) v) (xv o v (E + 1)) e ≤ j + 1 ↔ hb (Rch o (WW o v j e) v) s = true) := fun {e j} he hj => tb_le hO (thr_end hO hE hst) ((gls_30 hO p).lt he) ((gls_hb hp e).mp he).1 hs hos (by omega) hj
  have one := fun e => tbV_b (Rch o (bt1 s) v) (xv o v (E + 1)) e
  -- d' is the lowest of the set
  have fin : ∀ P : Nat → Prop, IsLow P d → IsLow P d' → d = d' := by
    intro P h1 h2
    rcases Nat.lt_trichotomy d d' with z | z | z
    · exact absurd h1.1 (h2.2 d z)
    · exact z
    · exact absurd h2.1 (h1.2 d' z)
  rcases h with ⟨t, ht, c1, c2, hl⟩ | ⟨c1, hl⟩
  · have inC_iff : ∀ e, inC o v p s t e ↔ hb (gls o p) e = true ∧ t + 1 ≤ tbV (Rch o (bt1 s) v) (xv o v (E + 1)) e := by
      intro e
      constructor
      · rintro ⟨h1, h2⟩
        refine ⟨h1, ?_⟩
        cases t with
        | zero => exact (one e).1
        | succ t =>
          have : ¬ tbV (Rch o (bt1 s) v) (xv o v (E + 1)) e ≤ t + 1 := fun w => h2 t (by omega) ((tb h1 (by omega)).mp w)
          omega
      · rintro ⟨h1, h2⟩
        refine ⟨h1, fun j hj w => ?_⟩
        have := (tb h1 (by omega)).mpr w
        omega
    have all : ∀ e, hb (gls o p) e = true → tbV (Rch o (bt1 s) v) (xv o v (E + 1)) e ≤ t + 1 := fun e he => (tb he (by omega)).mpr (c1 e he)
    have dd := (inC_iff d).mp hl.1
    have d30 := (gls_30 hO p).lt dd.1
    have h1 := m3 d d30 dd.1
    have h2 := all d' m2
    refine fin _ hl ⟨(inC_iff d').mpr ⟨m2, by omega⟩, fun e he hin => ?_⟩
    have h3 := (inC_iff e).mp hin
    have h4 := m4 e he h3.1
    omega
  · have inC_iff : ∀ e, inC o v p s (E + 1) e ↔ hb (gls o p) e = true ∧ tbV (Rch o (bt1 s) v) (xv o v (E + 1)) e = 1000000 := by
      intro e
      constructor
      · rintro ⟨h1, h2⟩
        refine ⟨h1, ?_⟩
        apply Classical.byContradiction
        intro hne
        have hb' := one e
        obtain ⟨j, hj⟩ : ∃ j, tbV (Rch o (bt1 s) v) (xv o v (E + 1)) e = j + 1 := ⟨_, (Nat.sub_add_cancel hb'.1).symm⟩
        have hw := (tb (j := j) h1 (by omega)).mp (by omega)
        rcases Nat.lt_or_ge j (E + 1) with z | z
        · exact h2 j z hw
        · have e30 := (gls_30 hO p).lt h1
          have ee : WW o v j e = WW o v E e := by
            have := stab_all hO hst (j - E) e e30
            rw [show E + (j - E) = j by omega] at this; exact this
          rw [ee] at hw
          exact h2 E (by omega) hw
      · rintro ⟨h1, h2⟩
        refine ⟨h1, fun j hj w => ?_⟩
        have := (tb h1 (by omega)).mpr w
        omega
    have dd := (inC_iff d).mp hl.1
    have d30 := (gls_30 hO p).lt dd.1
    have h1 := m3 d d30 dd.1
    have h2 := (one d').2
    refine fin _ hl ⟨(inC_iff d').mpr ⟨m2, by omega⟩, fun e he hin => ?_⟩
    have h3 := (inC_iff e).mp hin
    have h4 := m4 e he h3.1
    omega
theorem ob_flee {LT : Nat → PoS → Prop} (hLT : LTok LT) (x y w : Int32) : Ob32 (wp_X11_flee x y w) (wp_X12_flee x y w) (Inv LT) := by
  intro u hI
  have hL := hI.1.liv
  have hO := opn_30 (u.1 49)
  by_cases ok : ∃ p s v, p < 30 ∧ s < 30 ∧ 1 ≤ v ∧ v ≤ 2 ∧ x = nI p ∧ y = nI s ∧ w = nI v ∧ hb (opn (u.1 49)) p = true ∧ hb (opn (u.1 49)) s = true
  · obtain ⟨p, s, v, hp, hs, v1, v2, rfl, rfl, rfl, op, os⟩ := id ok
    obtain ⟨E, hE, hst, hnst⟩ := stab_ex (o := opn (u.1 49)) (v := v) hO
    generalize eo : opn (u.1 49) = o at *
    by_cases e : p = s
    · subst e
      refine ⟨fun r u1 => r = nI p ∧ ∀ j, j < 32 ∨ 34 < j → u1.1 j = u.1 j, fun K hK => ?_, fun r u1 hr K hK => ?_⟩
      · refine chaseX hL (fun _ _ _ _ _ _ _ _ _ _ _ _ => ⟨fun _ => openX (b := 0) hL.2.2.2.opn ?_, fun q => absurd q (by decide)⟩) (fun h => by rw [eo] at h; exact absurd ok h)
        rw [eo]
        intro z1 e1 z2 e2
        refine ⟨fun q => absurd rfl q, fun _ => hK _ z2 ⟨?_, fun j hj => by rw [e2, pI_o (by omega), e1, pI_o (by omega)]⟩⟩
        rw [gI_def, e2, pI_s, up_eq]
      · obtain ⟨rfl, f1⟩ := hr
        have e49 : u1.1 49 = u.1 49 := f1 49 (by decide)
        have eo1 : opn (u1.1 49) = o := by rw [e49, eo]
        exact chaseM (fun _ _ _ _ _ _ _ _ _ _ _ _ => ⟨fun _ => ⟨fun q => absurd rfl q, fun _ => hK u1 (inv_ch hLT hI f1 (fun _ _ _ => rfl))⟩, fun q => absurd q (by decide)⟩) (fun h => by rw [eo1] at h; exact absurd ok h)
    · refine ⟨fun r u1 => (∃ d, r = nI d ∧ ((∃ t, t ≤ E ∧ cnd o v p s t ∧ (∀ j, j < t → ¬ cnd o v p s j) ∧ IsLow (inC o v p s t) d) ∨ ((∀ t, t ≤ E → ¬ cnd o v p s t) ∧ IsLow (inC o v p s (E + 1)) d))) ∧ ∀ j, j < 32 ∨ 34 < j → u1.1 j = u.1 j, fun K hK => ?_, fun r u1 hr K hK => ?_⟩
      · refine chaseX hL (fun _ _ _ _ _ _ _ _ _ _ _ _ => ⟨fun _ => openX (b := 0) hL.2.2.2.opn ?_, fun q => absurd q (by decide)⟩) (fun h => by rw [eo] at h; exact absurd ok h)
        rw [eo]
        refine playX hO v2 hp hs op e hE hst hnst (fun z fz hz => hK _ z ⟨?_, fun j hj => fz j (by omega) (by omega) (by omega)⟩)
        rcases hz with ⟨t, ht, h1, h2, -, d, hd, h3, h4⟩ | ⟨h1, -, d, hd, h3, h4⟩
        · exact ⟨d, h3, Or.inl ⟨t, ht, h1, h2, h4⟩⟩
        · exact ⟨d, h3, Or.inr ⟨h1, h4⟩⟩
      · obtain ⟨⟨d, rfl, hd⟩, f1⟩ := hr
        have e49 : u1.1 49 = u.1 49 := f1 49 (by decide)
        have eo1 : opn (u1.1 49) = o := by rw [e49, eo]
        refine chaseM (fun _ _ _ _ _ _ _ _ _ _ _ _ => ⟨fun _ => ⟨fun _ => layTurnsM (E := E) v2 hE (by rw [eo1]; exact hst) (by rw [eo1]; exact hnst) (fun z fz g60 hT => ?_), fun q => absurd ((nI_eq (by omega) (by omega)).mp q) e⟩, fun q => absurd q (by decide)⟩) (fun h => by rw [eo1] at h; exact absurd ok h)
        rw [eo1] at hT g60
        have ez : opn (z.1 49) = o := by rw [fz 49 (by decide) (by decide), eo1]
        have K1 := hK z (inv_ch hLT hI f1 fz)
        generalize hf : tbV (Rch o (bt1 s) v) (xv o v (E + 1)) = f at *
        have fb : ∀ e, f e ≤ 1000000 := fun e => by rw [← hf]; exact (tbV_b _ _ e).2
        have bh : ∀ (c : Nat), c < 30 → ∀ K2 : Int32 → PoS → Prop, K2 (nI (f c)) z → wp_X12_turnsBehind (nI c) (nI s) z K2 := fun c hc K2 h => behindM hT hc hs (g60 s hs os) (by rw [hf]; exact h)
        refine ⟨31, ?_⟩
        have lp : ∀ m c, c + m = 30 → ∀ fnd : Int32, ((fnd = -1 ∧ ∀ e, e < c → ¬ hb (gls o p) e = true) ∨ ∃ d', fnd = nI d' ∧ FirstMax (fun e => hb (gls o p) e = true) f c d') → wl_X12_flee_30 K (m + 1) (nI p) (nI s) fnd (nI c) z := by
          intro m
          induction m with
          | zero =>
            intro c hc fnd hfn
            obtain rfl : c = 30 := by omega
            rw [wl_X12_flee_30]
            refine ⟨fun _ => ?_, fun q => absurd (by decide) q⟩
            rcases hfn with ⟨-, h⟩ | ⟨d', h1, h2⟩
            · exact absurd ((gls_hb hp p).mpr ⟨op, Or.inl rfl⟩) (h p hp)
            · have ed := first_low hO hE hst hp hs os (d := d) (d' := d') (by rw [hf]; exact h2) hd
              rw [h1, ← ed]; exact K1
          | succ m ih =>
            intro c hc fnd hfn
            have stay : ((fnd = -1 ∧ ∀ e, e < c + 1 → ¬ hb (gls o p) e = true) ∨ ∃ d', fnd = nI d' ∧ FirstMax (fun e => hb (gls o p) e = true) f (c + 1) d') → wj_X12_flee_77 (wl_X12_flee_30 K (m + 1)) K (nI p) (nI s) fnd (nI c) z := by
              intro h
              unfold wj_X12_flee_77
              rw [nI_1]
              exact ih (c + 1) (by omega) fnd h
            have take : FirstMax (fun e => hb (gls o p) e = true) f (c + 1) c → wj_X12_flee_73 (wl_X12_flee_30 K (m + 1)) K (nI p) (nI s) (nI c) z := by
              intro h
              unfold wj_X12_flee_73 wj_X12_flee_77
              rw [nI_1]
              exact ih (c + 1) (by omega) (nI c) (Or.inr ⟨c, rfl, h⟩)
            rw [wl_X12_flee_30]
            refine ⟨fun q => absurd q (nI_ge (b := 30) (by omega) (by decide)), fun _ => goalsM hp ?_⟩
            rw [ez]
            cases hg : hb (gls o p) c
            · refine hasM_f (by omega) hg ⟨fun _ => stay ?_, fun q => absurd rfl q⟩
              rcases hfn with ⟨h1, h2⟩ | ⟨d', h1, h2, h3, h4, h5⟩
              · refine Or.inl ⟨h1, fun e he => ?_⟩
                by_cases y : e = c
                · rw [y]; exact bN hg
                · exact h2 e (by omega)
              · refine Or.inr ⟨d', h1, by omega, h3, fun e he hge => ?_, h5⟩
                by_cases y : e = c
                · rw [y] at hge; exact absurd hge (bN hg)
                · exact h4 e (by omega) hge
            · refine hasM_t (by omega) hg ⟨fun q => absurd q (by decide), fun _ => ?_⟩
              rcases hfn with ⟨h1, h2⟩ | ⟨d', h1, h2, h3, h4, h5⟩
              · refine ⟨fun _ => take ⟨by omega, hg, fun e he hge => ?_, fun e he hge => absurd hge (h2 e he)⟩, fun q => absurd h1 q⟩
                by_cases y : e = c
                · rw [y]; exact Nat.le_refl _
                · exact absurd hge (h2 e (by omega))
              · rw [h1]
                refine ⟨fun q => absurd q (q_neg0 (by omega)), fun _ => bh c (by omega) _ (bh d' (by omega) _ ?_)⟩
                have b1 := fb c
                have b2 := fb d'
                rw [q_le (by omega) (by omega)]
                refine ⟨fun q => ?_, fun q => take ⟨by omega, hg, fun e he hge => ?_, fun e he hge => ?_⟩⟩
                · rw [← h1]
                  refine stay (Or.inr ⟨d', h1, by omega, h3, fun e he hge => ?_, h5⟩)
                  by_cases y : e = c
                  · rw [y]; exact q
                  · exact h4 e (by omega) hge
                · by_cases y : e = c
                  · rw [y]; exact Nat.le_refl _
                  · have := h4 e (by omega) hge; omega
                · have := h4 e he hge; omega
        exact lp 30 0 rfl (-1) (Or.inl ⟨rfl, fun e he => by omega⟩)
  · refine ⟨fun r u1 => r = -1 ∧ u1 = u, fun K hK => chaseX hL (fun p s v a b c d e f g h i => absurd ⟨p, s, v, a, b, c, d, e, f, g, h, i⟩ ok) (fun _ => ⟨fun q => absurd rfl q, fun _ => hK _ _ ⟨rfl, rfl⟩⟩), fun r u1 hr K hK => ?_⟩
    obtain ⟨rfl, rfl⟩ := hr
    exact chaseM (fun p s v a b c d e f g h i => absurd ⟨p, s, v, a, b, c, d, e, f, g, h, i⟩ ok) (fun _ => ⟨fun q => absurd rfl q, fun _ => hK _ hI⟩)
