/-! of, whose -/
theorem stepsToX {u : PoS} {b p : Nat} {a : Nat → Int32} (h : Liv (u.1 (3 + b)) a) (hp : p < nN (a 0)) {post : Int32 → PoS → Prop} (K : post (gst a p) u) : wp_X8_stepsTo b (nI p) u post := by
  obtain ⟨a1, a2, a3, a4⟩ := atF_of h hp
  obtain ⟨s1, s2, s3⟩ := shw h
  refine ⟨rl_in (k := 50) (by decide), by rw [zadd]; exact rl_in (by omega), openX h.2.2.2.opn ?_⟩
  rw [zadd, q_cl (by omega), gI_def, gI_def, s3, a3]
  exact stepsX (opn_30 a) s1 a1 K
theorem ob_of (y x : Int32) : Ob32 (wp_X11_of y x) (wp_X12_of y x) (Inv LTx) := by
  intro u hI
  have hR := hI.1
  have hL := hR.liv
  obtain ⟨w, q, hC⟩ := ctx_of hI
  by_cases hp : ∃ p, p < nN (u.1 49 0) ∧ y = nI p
  · obtain ⟨p, hp, rfl⟩ := hp
    obtain ⟨n, hn, n1, n2, n3⟩ := hL.ppl
    obtain ⟨c, wi, t, b', hc, hw, ht, hb', h5, g1, g2, g3, g4, g5, g6, g7, g8⟩ := hL.per hp
    have hF : ∃ F : Int32, F = if x = 0 then nI c else if x = 1 then nI wi else if x = 2 then nI t else if x = 3 then nI b' else if x = 4 then wvl w (u.1 49) (u.1 49 2) p (aw (gst (u.1 49) p)) else if x = 5 then pvl q (u.1 49) p else -1 := ⟨_, rfl⟩
    obtain ⟨F, hF⟩ := hF
    have d01 : ¬ (1 : Int32) = 0 := by decide
    have d02 : ¬ (2 : Int32) = 0 := by decide
    have d12 : ¬ (2 : Int32) = 1 := by decide
    refine ⟨fun r u1 => r = F ∧ Fr47 u u1, fun K hK => ?_, fun r u1 hr K hK => ?_⟩
    · have hK' := fun z fz => hK F z ⟨rfl, fz⟩
      have hKu := hK' u (fun _ _ => rfl)
      refine perX hR (fun _ _ _ => ⟨fun _ => ⟨fun e => ?_, fun e => ?_, fun e => ?_, fun e => ?_, fun e => ?_, fun e => ?_, fun e0 e1 e2 e3 e4 e5 => ?_⟩, fun q => absurd q (by decide)⟩) (fun z => absurd rfl (no_per hL z p hp))
      · subst e; rw [if_pos rfl] at hF
        rw [zadd, q_vp (by omega) (by omega), q_cl (by omega), gI_def, g2]; rw [hF] at hKu; exact ⟨by omega, hKu⟩
      · subst e; rw [if_neg (by decide), if_pos rfl] at hF
        rw [show (5 : Int32) + nI p = nI (5 + p) by simp (disch := omega) only [q_lit, nI_add, pk_mul, q_sub, q_rem, q_div, q_vp, q_cl, q_lt, q_le, q_eq, q_neg1, gI_def], q_vp (by omega) (by omega), q_cl (by omega), gI_def, g4]; rw [hF] at hKu; exact ⟨by omega, hKu⟩
      · subst e; rw [if_neg (by decide), if_neg (by decide), if_pos rfl] at hF
        rw [show (10 : Int32) + nI p = nI (10 + p) by simp (disch := omega) only [q_lit, nI_add, pk_mul, q_sub, q_rem, q_div, q_vp, q_cl, q_lt, q_le, q_eq, q_neg1, gI_def], q_vp (by omega) (by omega), q_cl (by omega), gI_def, g6]; rw [hF] at hKu; exact ⟨by omega, hKu⟩
      · subst e; rw [if_neg (by decide), if_neg (by decide), if_neg (by decide), if_pos rfl] at hF
        rw [show (15 : Int32) + nI p = nI (15 + p) by simp (disch := omega) only [q_lit, nI_add, pk_mul, q_sub, q_rem, q_div, q_vp, q_cl, q_lt, q_le, q_eq, q_neg1, gI_def], q_vp (by omega) (by omega), q_cl (by omega), gI_def, g8]; rw [hF] at hKu; exact ⟨by omega, hKu⟩
      · subst e; rw [if_neg (by decide), if_neg (by decide), if_neg (by decide), if_neg (by decide), if_pos rfl] at hF
        refine stepsToX (b := 0) hL hp ?_
        rw [gI_def, hL.1.2.1]
        refine wantsX hC ⟨by decide, hL, hp⟩ hL.txt (dst_cases _ _ _) (fun z fz => ?_)
        have := hK' z fz; rw [hF] at this; exact this
      · subst e; rw [if_neg (by decide), if_neg (by decide), if_neg (by decide), if_neg (by decide), if_neg (by decide), if_pos rfl] at hF
        refine poursX hC ⟨by decide, hL, hp⟩ hL.txt (fun z fz => ?_)
        have := hK' z fz; rw [hF] at this; exact this
      · rw [if_neg e0, if_neg e1, if_neg e2, if_neg e3, if_neg e4, if_neg e5] at hF
        rw [hF] at hKu; exact hKu
    · obtain ⟨rfl, f1⟩ := hr
      have e49 := f1 49 (by decide)
      have hL' : Liv (u.1 3) (u1.1 49) := by rw [e49]; exact hL
      have hC' : Ctx u1 (nN (u.1 49 1)) w q := hC.mv ⟨fun j _ _ => f1 j (by omega), f1 51 (by decide)⟩
      have hK' := fun z fz => hK z (inv_fs hI f1 fz)
      have hKu := hK' u1 (fun _ _ _ _ => rfl)
      refine perM (r := u.1 3) (by rw [e49]; exact hR) (fun _ _ _ => ⟨fun _ => ?_, fun q => absurd q (by decide)⟩) (fun z => absurd rfl (no_per hL (by rw [e49] at z; exact z) p hp))
      rcases rng 3 (by decide) x with ⟨k, hk, rfl⟩ | hx
      · refine isIn_t (nI_pos (by omega)) (nI_nlt (a := 3) hk (by decide)) ⟨fun q => absurd q (by decide), fun _ => getM h5 (by omega) ?_⟩
        rw [e49]
        match k, hk with
        | 0, _ => rw [if_pos (by decide)] at hF; rw [Nat.add_zero, g1, ← hF]; exact hKu
        | 1, _ => rw [if_neg (by decide), if_pos (by decide)] at hF; rw [show 10 + 6 * p + 1 = 11 + 6 * p by omega, g3, ← hF]; exact hKu
        | 2, _ => rw [if_neg (by decide), if_neg (by decide), if_pos (by decide)] at hF; rw [show 10 + 6 * p + 2 = 12 + 6 * p by omega, g5, ← hF]; exact hKu
        | 3, _ => rw [if_neg (by decide), if_neg (by decide), if_neg (by decide), if_pos (by decide)] at hF; rw [show 10 + 6 * p + 3 = 13 + 6 * p by omega, g7, ← hF]; exact hKu
      · have n0 : ¬ x = 0 := fun e => by rw [e] at hx; exact absurd hx (by decide)
        have n1 : ¬ x = 1 := fun e => by rw [e] at hx; exact absurd hx (by decide)
        have n2 : ¬ x = 2 := fun e => by rw [e] at hx; exact absurd hx (by decide)
        have n3 : ¬ x = 3 := fun e => by rw [e] at hx; exact absurd hx (by decide)
        rw [if_neg n0, if_neg n1, if_neg n2, if_neg n3] at hF
        refine isIn_f hx ⟨fun _ => ⟨fun e4 => ⟨fun e5 => ?_, fun e5 => ?_⟩, fun e4 => ?_⟩, fun q => absurd rfl q⟩
        · rw [if_neg e4, if_neg e5] at hF; rw [hF] at hKu; exact hKu
        · rw [if_neg e4, if_pos e5] at hF
          refine poursM (ρ := u.1 3) hC' hL' (by rw [e49]; exact hp) (by rw [e49]; exact hL.txt) (fun z fz => ?_)
          rw [e49, ← hF]; exact hK' z fz
        · rw [if_pos e4] at hF
          rw [gI_def, e49]
          refine wantsM (ρ := u.1 3) hC' hL' (by rw [e49]; exact hp) hL.txt (fun z fz => ?_)
          rw [e49, ← hF]; exact hK' z fz
  · refine ⟨fun r u1 => r = -1 ∧ u1 = u, fun K hK => perX hR (fun p hp' e => absurd ⟨p, hp', e⟩ hp) (fun _ => ⟨fun q => absurd rfl q, fun _ => hK _ _ ⟨rfl, rfl⟩⟩), fun r u1 hr K hK => ?_⟩
    obtain ⟨rfl, rfl⟩ := hr
    exact perM hR (fun p hp' e => absurd ⟨p, hp', e⟩ hp) (fun _ => ⟨fun q => absurd rfl q, fun _ => hK _ hI⟩)
/-! whose -/
def saidOk (w : Nat → (Nat → Int32) → Nat → Int32 → Int32) (a : Nat → Int32) (t k : Nat) : Prop := wvl w a (nI t) (nN (a (177 + 2 * k))) (aw (gst a (nN (a (177 + 2 * k))))) = a (178 + 2 * k)
noncomputable def whF (w : Nat → (Nat → Int32) → Nat → Int32 → Int32) (a : Nat → Int32) : Nat → Int32
  | 0 => 0
  | t + 1 => @ite Int32 (∀ k, k < nN (a 5) → saidOk w a t k) (Classical.propDecidable _) (whF w a t ||| bt1 t) (whF w a t)
theorem ob_whose : Ob32 wp_X11_whose wp_X12_whose (Inv LTx) := by
  intro u hI
  have hR := hI.1
  have hL := hR.liv
  obtain ⟨w, q, hC⟩ := ctx_of hI
  obtain ⟨T, hT, T1⟩ := hR.2.1.2.1
  obtain ⟨S, hS, S1⟩ := hR.2.1.2.2.2.2.2.1
  have T2 : u.1 3 117 = nI T := by rw [hR.1.2.1, T1]
  have S2 : u.1 3 166 = nI S := by rw [hR.1.2.2.2.2.2.1, S1]
  have TN : nN (u.1 49 1) = T := by rw [T1, nN_nI (by omega)]
  have SN : nN (u.1 49 5) = S := by rw [S1, nN_nI (by omega)]
  rw [TN] at hC
  have sai : ∀ k, k < S → ∃ p, p < nN (u.1 49 0) ∧ u.1 49 (177 + 2 * k) = nI p ∧ u.1 3 (167 + k) = nI p ∧ u.1 3 (175 + k) = u.1 49 (178 + 2 * k) ∧ nN (u.1 49 (177 + 2 * k)) = p := fun k hk => by
    obtain ⟨h1, ⟨p, hp, h2⟩, h3⟩ := hR.2.2.2.2.2.2.1 k (by omega) (by omega)
    obtain ⟨n, hn, e1, e2, e3⟩ := hL.ppl
    exact ⟨p, hp, h2, by rw [h1, h2], h3, by rw [h2, nN_nI (by omega)]⟩
  obtain ⟨np, hnp, np1, np2, np3⟩ := hL.ppl
  have ab : ∀ t k, t < T → k < S → (saidOk w (u.1 49) t k ↔ wvl w (u.1 49) (nI t) (nN (u.1 49 (177 + 2 * k))) (aw (gst (u.1 49) (nN (u.1 49 (177 + 2 * k))))) = u.1 49 (178 + 2 * k)) := fun t k _ _ => Iff.rfl
  refine ⟨fun r u1 => r = whF w (u.1 49) T ∧ Fr47 u u1, fun K hK => ⟨T + 1, ?_⟩, fun r u1 hr K hK => ?_⟩
  · -- the class
    have sa : ∀ t, t < T → ∀ z, Fr47 u z → ∀ (post : Int32 → PoS → Prop), (∀ z', Fr47 u z' → ((∀ k, k < S → saidOk w (u.1 49) t k) → post 1 z') ∧ ((¬ ∀ k, k < S → saidOk w (u.1 49) t k) → post 0 z')) → wp_X11_saysAll (nI t) z post := by
      intro t ht z fz post hp
      refine ⟨S + 1, ?_⟩
      have lp : ∀ m k, k + m = S → (∀ j, j < k → saidOk w (u.1 49) t j) → ∀ z, Fr47 u z → wl_X11_saysAll_2 post (m + 1) (nI t) (nI k) z := by
        intro m
        induction m with
        | zero => intro k hk ok z fz
                  rw [wl_X11_saysAll_2, gI_def, fz 3 (by decide), S2]
                  exact ⟨fun _ => (hp z fz).1 (fun j hj => ok j (by omega)), fun z => absurd (nI_le (show S ≤ k by omega) (by omega)) z⟩
        | succ m ih =>
          intro k hk ok z fz
          obtain ⟨p, hpp, s1, s2, s3, s4⟩ := sai k (by omega)
          have e3 := fz 3 (by decide)
          rw [wl_X11_saysAll_2, gI_def, e3, S2, q_le (by omega) (by omega), show (167 : Int32) + nI k = nI (167 + k) by simp (disch := omega) only [q_lit, nI_add, pk_mul, q_sub, q_rem, q_div, q_vp, q_cl, q_lt, q_le, q_eq, q_neg1, gI_def], show (175 : Int32) + nI k = nI (175 + k) by simp (disch := omega) only [q_lit, nI_add, pk_mul, q_sub, q_rem, q_div, q_vp, q_cl, q_lt, q_le, q_eq, q_neg1, gI_def], q_vp (by omega) (by omega), q_vp (by omega) (by omega), q_cl (by omega), q_cl (by omega)]
          refine ⟨fun z => by omega, fun _ => ⟨by omega, fun x1 ex => ?_⟩⟩
          rw [gI_def, e3, s2] at ex
          subst ex
          have hLz : Liv (z.1 (3 + 0)) (u.1 49) := by rw [show 3 + 0 = 3 from rfl, e3]; exact hL
          refine stepsToX (b := 0) hLz hpp (wantsX (hC.mv ⟨fun j _ _ => fz j (by omega), fz 51 (by decide)⟩) ⟨by decide, hLz, hpp⟩ (Or.inr ⟨t, ht, rfl⟩) (dst_cases _ _ _) (fun z' fz' => ?_))
          have fz'' : Fr47 u z' := fun j hj => by rw [fz' j hj, fz j hj]
          have hab := ab t k ht (by omega)
          rw [s4] at hab
          rw [gI_def, fz'' 3 (by decide), s3]
          refine ⟨by omega, fun e => ?_, fun e => ?_⟩
          · rw [nI_1]
            refine ih (k + 1) (by omega) (fun j hj => ?_) z' fz''
            by_cases q : j = k
            · rw [q]; exact hab.mpr e
            · exact ok j (by omega)
          · exact (hp z' fz'').2 (fun all => e (hab.mp (all k (by omega))))
      exact lp S 0 (Nat.zero_add S) (fun j hj => absurd hj (Nat.not_lt_zero j)) z fz
    have lp : ∀ m t, t + m = T → ∀ z, Fr47 u z → wl_X11_whose_4 K (m + 1) (whF w (u.1 49) t) (nI t) z := by
      intro m
      induction m with
      | zero => intro t ht z fz
                rw [wl_X11_whose_4, gI_def, fz 3 (by decide), T2]
                exact ⟨fun _ => hK _ _ ⟨by rw [show t = T by omega], fz⟩, fun z => absurd (nI_le (show T ≤ t by omega) (by omega)) z⟩
      | succ m ih =>
        intro t ht z fz
        have ih := ih (t + 1) (by omega)
        rw [whF, SN] at ih
        rw [wl_X11_whose_4, gI_def, fz 3 (by decide), T2, q_le (by omega) (by omega)]
        refine ⟨fun z => by omega, fun _ => sa t (by omega) z fz _ (fun z' fz' => ⟨fun all => ⟨fun q => absurd q (by decide), fun _ x3 e3 => ?_⟩, fun nall => ⟨fun _ => ?_, fun q => absurd rfl q⟩⟩)⟩
        · unfold wj_X11_whose_29; rw [nI_1, e3]
          rw [if_pos all] at ih; exact ih z' fz'
        · unfold wj_X11_whose_29; rw [nI_1]
          rw [if_neg nall] at ih; exact ih z' fz'
    exact lp T 0 (Nat.zero_add T) u (fun _ _ => rfl)
  · -- the reference
    obtain ⟨rfl, f1⟩ := hr
    have e49 := f1 49 (by decide)
    have hC' : Ctx u1 T w q := hC.mv ⟨fun j _ _ => f1 j (by omega), f1 51 (by decide)⟩
    refine ⟨T + 1, ?_⟩
    have inner : ∀ t, t < T → ∀ (v1 : Int32) (post : Int32 → PoS → Prop) (k82 : Int32 → Int32 → Int32 → PoS → Prop), (∀ z', FrS u1 z' → ((∀ k, k < S → saidOk w (u.1 49) t k) → k82 v1 (nI t) 1 z') ∧ ((¬ ∀ k, k < S → saidOk w (u.1 49) t k) → k82 v1 (nI t) 0 z')) → ∀ m k, k + m = S → ∀ z, FrS u1 z → ∀ v3 : Int32, ((v3 = 1 ∧ ∀ j, j < k → saidOk w (u.1 49) t j) ∨ (v3 = 0 ∧ ¬ ∀ j, j < k → saidOk w (u.1 49) t j)) → wl_X12_whose_19 k82 post (m + 1) v1 (nI t) v3 (nI k) z := by
      intro t ht v1 post k82 hk82 m
      induction m with
      | zero => intro k hk z fz v3 hv
                obtain rfl : k = S := by omega
                rw [wl_X12_whose_19, gI_def, fz 49 (by decide) (by decide) (by decide), e49, S1]
                refine ⟨fun _ => ?_, fun z => absurd (nI_le (Nat.le_refl k) (by omega)) z⟩
                rcases hv with ⟨rfl, h⟩ | ⟨rfl, h⟩
                · exact (hk82 z fz).1 h
                · exact (hk82 z fz).2 h
      | succ m ih =>
        intro k hk z fz v3 hv
        obtain ⟨p, hpp, s1, s2, s3, s4⟩ := sai k (by omega)
        have z49 : z.1 49 = u.1 49 := by rw [fz 49 (by decide) (by decide) (by decide), e49]
        rw [wl_X12_whose_19, gI_def, z49, S1, q_le (by omega) (by omega)]
        refine ⟨fun z => by omega, fun _ => ⟨fun q => ?_, fun q => ?_⟩⟩
        · unfold wj_X12_whose_74 wj_X12_whose_75
          rw [nI_1]
          refine ih (k + 1) (by omega) z fz 0 (Or.inr ⟨rfl, fun all => ?_⟩)
          rcases hv with ⟨rfl, h⟩ | ⟨rfl, h⟩
          · exact absurd q (by decide)
          · exact h (fun j hj => all j (by omega))
        · rcases hv with ⟨rfl, h⟩ | ⟨rfl, h⟩
          · rw [show (177 : Int32) + 2 * nI k = nI (177 + 2 * k) by simp (disch := omega) only [q_lit, nI_add, pk_mul, q_sub, q_rem, q_div, q_vp, q_cl, q_lt, q_le, q_eq, q_neg1, gI_def], show nI (177 + 2 * k) + 1 = nI (177 + 2 * k + 1) by simp (disch := omega) only [q_lit, nI_add, pk_mul, q_sub, q_rem, q_div, q_vp, q_cl, q_lt, q_le, q_eq, q_neg1, gI_def], q_vp (by omega) (by omega), q_vp (by omega) (by omega), q_cl (by omega), q_cl (by omega), gI_def, z49, s1]
            refine ⟨by omega, wantsM (ρ := u.1 3) (hC'.mv fz.law) (by rw [z49]; exact hL) (by rw [z49]; exact hpp) (Or.inr ⟨t, ht, rfl⟩) (fun z' fz' => ?_)⟩
            have fz'' := fz.tr fz'
            have hab := ab t k ht (by omega)
            rw [s4] at hab
            rw [gI_def, z49, fz'' 49 (by decide) (by decide) (by decide), e49, show 177 + 2 * k + 1 = 178 + 2 * k by omega]
            refine ⟨by omega, fun e => ?_, fun e => ?_⟩
            · unfold wj_X12_whose_74 wj_X12_whose_75
              rw [nI_1]
              exact ih (k + 1) (by omega) z' fz'' 0 (Or.inr ⟨rfl, fun all => e (hab.mp (all k (by omega)))⟩)
            · unfold wj_X12_whose_75
              rw [nI_1]
              refine ih (k + 1) (by omega) z' fz'' 1 (Or.inl ⟨rfl, fun j hj => ?_⟩)
              by_cases q : j = k
              · rw [q]; exact hab.mpr e
              · exact h j (by omega)
          · exact absurd rfl q
    have lp : ∀ m t, t + m = T → ∀ z, FrS u1 z → wl_X12_whose_4 K (m + 1) (whF w (u.1 49) t) (nI t) z := by
      intro m
      induction m with
      | zero => intro t ht z fz
                rw [wl_X12_whose_4, gI_def, fz 49 (by decide) (by decide) (by decide), e49, T1]
                exact ⟨fun _ => by rw [show t = T by omega]; exact hK _ (inv_fs hI f1 fz), fun z => absurd (nI_le (show T ≤ t by omega) (by omega)) z⟩
      | succ m ih =>
        intro t ht z fz
        have ih := ih (t + 1) (by omega)
        rw [whF, SN] at ih
        rw [wl_X12_whose_4, gI_def, fz 49 (by decide) (by decide) (by decide), e49, T1, q_le (by omega) (by omega)]
        refine ⟨fun z => by omega, fun _ => ⟨S + 1, inner t (by omega) _ K _ (fun z' fz' => ⟨fun all => ⟨fun q => absurd q (by decide), fun _ x7 e7 => ?_⟩, fun nall => ⟨fun _ x7 e7 => ?_, fun q => absurd rfl q⟩⟩) S 0 (Nat.zero_add S) z fz 1 (Or.inl ⟨rfl, fun j hj => absurd hj (Nat.not_lt_zero j)⟩)⟩⟩
        · rw [e7, nI_1]
          rw [if_pos all] at ih; exact ih z' fz'
        · rw [e7, nI_1, Int32.or_zero]
          rw [if_neg nall] at ih; exact ih z' fz'
    exact lp T 0 (Nat.zero_add T) u1 (fun _ _ _ _ => rfl)
