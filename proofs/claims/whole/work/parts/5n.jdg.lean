/-! the judge's loop -/
theorem bin_two {o : Nat} (h : isTwo o) (x y : Int) : binE o x y = twoE o x y := by
  unfold isTwo at h; unfold binE; rw [if_neg (by omega), if_neg (by omega)]
theorem bin_cmp {o : Nat} (h : isCmp o) (x y : Int) : binE o x y = b01 (cmpE o x y) := by
  unfold isCmp at h; unfold binE; rw [if_neg (by omega), if_pos (by omega)]
theorem bin_jn {o : Nat} (h : isJn o) (t s : Bool) : binE o (b01 t) (b01 s) = b01 (if o = 21 then t && s else t || s) := by
  rcases h with rfl | rfl <;> cases t <;> cases s <;> decide
theorem opw_b {o : Nat} : opw o = 17 ∨ (26 ≤ opw o ∧ opw o ≤ 40) := by
  unfold opw
  repeat' (first | omega | split)
theorem env8 (a : Nat → Int32) (p : Nat) (s : Int32) (c : Nat) : env a p s (8 + c) = (a (40 + c)).toInt := by
  unfold env
  rw [if_neg (by omega), if_neg (by omega), if_neg (by omega), if_neg (by omega), if_neg (by omega), if_neg (by omega), if_neg (by omega), if_neg (by omega), show 8 + c - 8 = c by omega]
theorem imaxJ {i v : Nat} (h : i ≤ v) (hv : v < 2 ^ 31) : imax (nI i) (nI v) = nI v := by
  unfold imax
  by_cases q : i = v
  · subst q
    split <;> rfl
  · rw [if_pos (by rw [q_lt (by omega) hv]; omega)]
theorem isCellX {x : Int32} {u : PoS} {post : Int32 → PoS → Prop} (h1 : 0 ≤ x.toInt → x.toInt < 30 → post 1 u) (h0 : ¬ (0 ≤ x.toInt ∧ x.toInt < 30) → post 0 u) : wp_X11_isCell x u post := by
  unfold wp_X11_isCell
  rw [Int32.lt_iff_toInt_lt, Int32.le_iff_toInt_le, show (0 : Int32).toInt = 0 from rfl, show (30 : Int32).toInt = 30 from rfl]
  exact ⟨fun q => h0 (by omega), fun q => ⟨fun q2 => h0 (by omega), fun q2 => h1 (by omega) (by omega)⟩⟩
theorem cellA {x : Int32} (h : nN x % 64 ≠ 0) : x = nI (nN x / 64 * 64 + nN x % 64) ∧ nN x / 64 * 64 + nN x % 64 < 2 ^ 31 := by
  have e : nN x = x.toInt.toNat := rfl
  have b1 := Int32.toInt_lt x
  have e2 : nN x / 64 * 64 + nN x % 64 = nN x := by omega
  rw [e2]
  exact ⟨i32_eq (by rw [nI_toInt (by omega)]; omega), by omega⟩
theorem jdgX {t b p j sz : Nat} {s : Int32} {a : Nat → Int32} {A : Nat → Nat × Nat} {K1 K2 : Int32 → PoS → Prop} {post : Int32 → PoS → Prop} (ht : t < 4) (he : BE (env a p s)) (hj : (A j).1 = 48) (hjs : j < sz) (hsz : sz ≤ 300) {W : List Int} (hW : W.length ≤ 62) : ∀ (n i : Nat) (V : List Int) (u : PoS), XN A (env a p s) n i V j W → EnvX u b p a → u.1 (7 + t) 5 = nI sz → (∀ q, i ≤ q → q ≤ j → A q = cdA t u q) → SAt (u.1 47) V → (∀ z, Fr47 u z → SAt (z.1 47) W → K2 (nI W.length) z) → wl_X2_says_6 t b K1 K2 post (n + 1) (nI p) s (nI V.length) (nI i) u := by
  intro n
  induction n with
  | zero =>
    rintro i V u ⟨rfl, rfl⟩ hE h5 hc hV H
    have hA := hc j (Nat.le_refl _) (Nat.le_refl _)
    have w48 : nN (u.1 (14 + 4 * t) j) % 64 = 48 := by rw [hA] at hj; exact hj
    have hA2 : (A j).2 = nN (u.1 (14 + 4 * t) j) / 64 := by rw [hA]; rfl
    obtain ⟨c1, c3⟩ := cellA (x := u.1 (14 + 4 * t) j) (by omega)
    rw [w48, ← hA2] at c1 c3
    rw [wl_X2_says_6, gI_def u (7 + t) 5, h5, q_cl (n := j) (by omega), gI_def u (14 + 4 * t) j, c1, show irem (nI ((A j).2 * 64 + 48)) 64 = nI 48 by rw [show (64 : Int32) = nI 64 from rfl, q_rem (by omega) (by decide) (by decide)]; congr 1; omega]
    refine ⟨fun q => absurd q (by simp (disch := omega) only [q_lit, nI_add, pk_mul, q_sub, q_rem, q_div, q_vp, q_cl, q_lt, q_le, q_eq, q_neg1, gI_def]; omega), fun _ => ⟨fun q => absurd q (by simp (disch := omega) only [q_lit, nI_add, pk_mul, q_sub, q_rem, q_div, q_vp, q_cl, q_lt, q_le, q_eq, q_neg1, gI_def]; omega), fun _ => ⟨fun q => absurd q (by rw [nI_1]; simp (disch := omega) only [q_lit, nI_add, pk_mul, q_sub, q_rem, q_div, q_vp, q_cl, q_lt, q_le, q_eq, q_neg1, gI_def]; omega), fun _ => ⟨by simp (disch := omega) only [q_lit, nI_add, pk_mul, q_sub, q_rem, q_div, q_vp, q_cl, q_lt, q_le, q_eq, q_neg1, gI_def]; omega, fun x1 e1 => ⟨by simp (disch := omega) only [q_lit, nI_add, pk_mul, q_sub, q_rem, q_div, q_vp, q_cl, q_lt, q_le, q_eq, q_neg1, gI_def]; omega, fun x2 e2 => ?_⟩⟩⟩⟩⟩
    subst e1
    exact ⟨fun q => absurd rfl q, fun _ => H u (fun _ _ => rfl) hV⟩
  | succ n ih =>
    rintro i V u ⟨i1, V1, ⟨hl, h1⟩, h2⟩ hE h5 hc hV H
    have hi1 := XN_le h2
    have hb1 := hE.1
    have hij : i < i1 := by
      rcases h1 with ⟨_, _, _, h⟩ | ⟨_, _, h⟩ | ⟨_, h, _, h', _⟩ | ⟨_, h, _, x, _, h'⟩ | ⟨_, x, Z, _, _, h⟩ | ⟨_, x, Z, _, _, h⟩ | ⟨_, x, Z, _, _, h⟩ | ⟨o, _, h, _⟩
      · omega
      · omega
      · omega
      · split at h' <;> omega
      · omega
      · omega
      · omega
      · omega
    have nz : (A i).1 ≠ 0 := by
      rcases h1 with ⟨h, _⟩ | ⟨h, _⟩ | ⟨h, _⟩ | ⟨h, _⟩ | ⟨h, _⟩ | ⟨h, _⟩ | ⟨h, _⟩ | ⟨o, h, _⟩
      all_goals (try have := @opw_b o)
      all_goals omega
    have hA := hc i (Nat.le_refl _) (by omega)
    have hA1 : (A i).1 = nN (u.1 (14 + 4 * t) i) % 64 := by rw [hA]; rfl
    have hA2 : (A i).2 = nN (u.1 (14 + 4 * t) i) / 64 := by rw [hA]; rfl
    obtain ⟨c1, c3⟩ := cellA (x := u.1 (14 + 4 * t) i) (by omega)
    have c2 : (A i).1 < 64 := by omega
    rw [← hA1, ← hA2] at c1 c3
    clear hA hA1 hA2 nz
    generalize A i = x at h1 c1 c2 c3
    obtain ⟨w, v⟩ := x
    simp only at h1 c1 c2 c3
    have cont : ∀ z : PoS, Fr47 u z → SAt (z.1 47) V1 → wl_X2_says_6 t b K1 K2 post (n + 1) (nI p) s (nI V1.length) (nI i1) z := by
      intro z hz hzV
      exact ih i1 V1 z h2 ⟨hE.1, by rw [hz (3 + b) (by omega)]; exact hE.2.1, hE.2.2⟩ (by rw [hz (7 + t) (by omega)]; exact h5) (fun q q1 q2 => by rw [hc q (by omega) q2, cdA_raw (by rw [hz (14 + 4 * t) (by omega)])]) hzV (fun y hy => H y (fun j' q => by rw [hy j' q, hz j' q]))
    have putS : ∀ (Z : List Int) (r : Int32), i1 = i + 1 → V1 = r.toInt :: Z → SAt (u.1 47) Z → Bd r.toInt → wj_X2_says_373 t b (wl_X2_says_6 t b K1 K2 post (n + 1)) post (nI p) s (nI (Z.length + 1)) (nI i) (pI u 47 Z.length r) := by
      intro Z r e1 e2 hZ hb
      have := cont (pI u 47 Z.length r) (fun j hj => pI_o hj) (by rw [e2, pI_s]; exact ⟨by rw [up_eq], hb, SAt_up hZ (Nat.le_refl _)⟩)
      unfold wj_X2_says_373
      rw [nI_1, ← e1]; rw [e2] at this; exact this
    rw [wl_X2_says_6, gI_def u (7 + t) 5, h5, q_cl (n := i) (by omega), gI_def u (14 + 4 * t) i, c1, show irem (nI (v * 64 + w)) 64 = nI w by (rw [show (64 : Int32) = nI 64 from rfl, q_rem (by omega) (by decide) (by decide)]; congr 1; omega), show nI (v * 64 + w) / 64 = nI v by (rw [show (64 : Int32) = nI 64 from rfl, q_div (by omega) (by decide) (by decide)]; congr 1; omega)]
    refine ⟨fun q => absurd q (by simp (disch := omega) only [q_lit, nI_add, pk_mul, q_sub, q_rem, q_div, q_vp, q_cl, q_lt, q_le, q_eq, q_neg1, gI_def]; omega), fun _ => ⟨fun q => absurd q (by simp (disch := omega) only [q_lit, nI_add, pk_mul, q_sub, q_rem, q_div, q_vp, q_cl, q_lt, q_le, q_eq, q_neg1, gI_def]; omega), fun _ => ⟨fun q => absurd q (by rw [nI_1]; simp (disch := omega) only [q_lit, nI_add, pk_mul, q_sub, q_rem, q_div, q_vp, q_cl, q_lt, q_le, q_eq, q_neg1, gI_def]; omega), fun _ => ⟨by simp (disch := omega) only [q_lit, nI_add, pk_mul, q_sub, q_rem, q_div, q_vp, q_cl, q_lt, q_le, q_eq, q_neg1, gI_def]; omega, fun x1 e1 => ⟨by simp (disch := omega) only [q_lit, nI_add, pk_mul, q_sub, q_rem, q_div, q_vp, q_cl, q_lt, q_le, q_eq, q_neg1, gI_def]; omega, fun x2 e2 => ?_⟩⟩⟩⟩⟩
    subst e1; subst e2
    have pos : ∀ (Z : List Int) (x : Int), (x :: Z).length ≤ 62 → ¬ nI (x :: Z).length ≤ 0 := fun Z x h => by
      rw [List.length_cons] at h ⊢
      simp (disch := omega) only [q_lit, nI_add, pk_mul, q_sub, q_rem, q_div, q_vp, q_cl, q_lt, q_le, q_eq, q_neg1, gI_def]; omega
    rcases h1 with ⟨rfl, hv, hV1, hi⟩ | ⟨⟨h9, h16⟩, hV1, hi⟩ | ⟨rfl, hv1, hv2, hi, hV1⟩ | ⟨rfl, hv1, hv2, x, rfl, hi⟩ | ⟨rfl, x, Z, rfl, hV1, hi⟩ | ⟨rfl, x, Z, rfl, hV1, hi⟩ | ⟨rfl, x, Z, rfl, hV1, hi⟩ | ⟨o, hw, hi, h1⟩
    · refine ⟨fun _ => ⟨fun q => absurd rfl q, fun _ => ⟨by simp (disch := omega) only [q_lit, nI_add, pk_mul, q_sub, q_rem, q_div, q_vp, q_cl, q_lt, q_le, q_eq, q_neg1, gI_def]; omega, fun z ez => ?_⟩⟩, fun q => absurd q (by decide)⟩
      rw [q_cl (by omega)] at ez
      subst ez
      rw [nI_1]
      exact putS V (nI v) hi (by rw [nI_toInt (by omega)]; exact hV1) hV (by rw [nI_toInt (by omega)]; unfold Bd; omega)
    · have n48 : ¬ nI w = 48 := by simp (disch := omega) only [q_lit, nI_add, pk_mul, q_sub, q_rem, q_div, q_vp, q_cl, q_lt, q_le, q_eq, q_neg1, gI_def]; omega
      have n41 : ¬ nI w = 41 := by simp (disch := omega) only [q_lit, nI_add, pk_mul, q_sub, q_rem, q_div, q_vp, q_cl, q_lt, q_le, q_eq, q_neg1, gI_def]; omega
      refine ⟨fun _ => ⟨fun _ => isNameX c2 (fun _ _ => ⟨fun q => absurd q (by decide), fun _ => ⟨fun q16 => ?_, fun q16 => ⟨by simp (disch := omega) only [q_lit, nI_add, pk_mul, q_sub, q_rem, q_div, q_vp, q_cl, q_lt, q_le, q_eq, q_neg1, gI_def]; omega, fun z ez => ?_⟩⟩⟩) (fun q => absurd ⟨h9, h16⟩ q), fun q => absurd q n41⟩, fun q => absurd q n48⟩
      · have w15 : w ≤ 15 := by
          have : ¬ w = 16 := fun h => q16 (by rw [h]; rfl)
          omega
        refine namX (s := s) hE h9 w15 (fun r hr => ⟨by simp (disch := omega) only [q_lit, nI_add, pk_mul, q_sub, q_rem, q_div, q_vp, q_cl, q_lt, q_le, q_eq, q_neg1, gI_def]; omega, fun z ez => ?_⟩)
        rw [q_cl (by omega)] at ez
        subst ez
        rw [nI_1]
        exact putS V r hi (by rw [hr]; exact hV1) hV (by rw [hr]; exact he _ (by omega))
      · have w16 : w = 16 := by simp (disch := omega) only [q_lit, q_eq] at q16; exact q16
        subst w16
        rw [q_cl (by omega)] at ez
        subst ez
        rw [nI_1]
        exact putS V s hi hV1 hV (he 7 (by omega))
    · refine ⟨fun _ => ⟨fun _ => isNameX (by decide) (fun _ q => absurd q (by decide)) (fun _ => ⟨fun _ => ⟨fun q => absurd rfl q, fun _ x25 ex => ?_⟩, fun q => absurd rfl q⟩), fun q => absurd q (by decide)⟩, fun q => absurd q (by decide)⟩
      obtain ⟨v', rfl⟩ : ∃ v', v = v' + 1 := ⟨v - 1, by omega⟩
      rw [nI_pred, imaxJ (by omega) (by omega)] at ex
      subst ex
      unfold wj_X2_says_373
      rw [nI_1]
      have := cont u (fun _ _ => rfl) (by rw [hV1]; exact hV)
      rw [hV1, hi] at this; exact this
    · obtain ⟨w1, w2, zV⟩ := hV
      have w1 : (gI u 47 V1.length).toInt = x := w1
      have pp := pos V1 x hl
      rw [List.length_cons] at hl
      refine ⟨fun _ => ⟨fun _ => isNameX (by decide) (fun _ q => absurd q (by decide)) (fun _ => ⟨fun _ => ⟨fun _ => ⟨fun q => absurd rfl q, fun _ => ⟨fun q => absurd q pp, fun _ => ?_⟩⟩, fun q => absurd q (by decide)⟩, fun q => absurd rfl q⟩), fun q => absurd q (by decide)⟩, fun q => absurd q (by decide)⟩
      simp (disch := omega) only [List.length_cons, pk_m1, q_cl]
      refine ⟨by simp (disch := omega) only [q_lit, nI_add, pk_mul, q_sub, q_rem, q_div, q_vp, q_cl, q_lt, q_le, q_eq, q_neg1, gI_def]; omega, fun q => ?_, fun q => ?_⟩
      · unfold wj_X2_says_189 wj_X2_says_373
        rw [nI_1]
        have := cont u (fun _ _ => rfl) zV
        rw [hi, if_neg (fun h => q (i32_z.mpr (by rw [w1]; exact h)))] at this; exact this
      · obtain ⟨v', rfl⟩ : ∃ v', v = v' + 1 := ⟨v - 1, by omega⟩
        rw [nI_pred, imaxJ (by omega) (by omega)]
        unfold wj_X2_says_189 wj_X2_says_373
        rw [nI_1]
        have := cont u (fun _ _ => rfl) zV
        rw [hi, if_pos (by rw [← w1]; exact i32_z.mp q)] at this; exact this
    · obtain ⟨w1, w2, zV⟩ := hV
      have w1 : (gI u 47 Z.length).toInt = x := w1
      have pp := pos Z x hl
      rw [List.length_cons] at hl
      refine ⟨fun _ => ⟨fun _ => isNameX (by decide) (fun _ q => absurd q (by decide)) (fun _ => ⟨fun _ => ⟨fun _ => ⟨fun _ => ⟨fun q => absurd rfl q, fun _ => ⟨fun q => absurd q pp, fun _ => ?_⟩⟩, fun q => absurd q (by decide)⟩, fun q => absurd q (by decide)⟩, fun q => absurd rfl q⟩), fun q => absurd q (by decide)⟩, fun q => absurd q (by decide)⟩
      simp (disch := omega) only [List.length_cons, nI_pred, q_cl]
      refine ⟨by simp (disch := omega) only [q_lit, nI_add, pk_mul, q_sub, q_rem, q_div, q_vp, q_cl, q_lt, q_le, q_eq, q_neg1, gI_def]; omega, by simp (disch := omega) only [q_lit, nI_add, pk_mul, q_sub, q_rem, q_div, q_vp, q_cl, q_lt, q_le, q_eq, q_neg1, gI_def]; omega, fun z ez => ?_⟩
      subst ez
      have e1 : (-(gI u 47 Z.length)).toInt = -x := by
        unfold Bd at w2
        rw [Int32.toInt_neg, w1, bm32 (by omega) (by omega)]
      exact putS Z _ hi (by rw [e1]; exact hV1) zV (by rw [e1]; unfold Bd at w2 ⊢; omega)
    · obtain ⟨w1, w2, zV⟩ := hV
      have w1 : (gI u 47 Z.length).toInt = x := w1
      have pp := pos Z x hl
      rw [List.length_cons] at hl
      refine ⟨fun _ => ⟨fun _ => isNameX (by decide) (fun _ q => absurd q (by decide)) (fun _ => ⟨fun _ => ⟨fun _ => ⟨fun _ => ⟨fun _ => ⟨fun _ => ⟨fun q => absurd rfl q, fun _ => ⟨fun q => absurd q pp, fun _ => ?_⟩⟩, fun q => absurd q (by decide)⟩, fun q => absurd q (by decide)⟩, fun q => absurd q (by decide)⟩, fun q => absurd q (by decide)⟩, fun q => absurd rfl q⟩), fun q => absurd q (by decide)⟩, fun q => absurd q (by decide)⟩
      simp (disch := omega) only [List.length_cons, nI_pred, q_cl]
      refine ⟨by simp (disch := omega) only [q_lit, nI_add, pk_mul, q_sub, q_rem, q_div, q_vp, q_cl, q_lt, q_le, q_eq, q_neg1, gI_def]; omega, fun x9 e9 => isCellX (fun g0 g30 => ⟨fun q => absurd q (by decide), fun _ => ?_⟩) (fun g => ⟨fun _ => ⟨by simp (disch := omega) only [q_lit, nI_add, pk_mul, q_sub, q_rem, q_div, q_vp, q_cl, q_lt, q_le, q_eq, q_neg1, gI_def]; omega, fun z ez => ?_⟩, fun q => absurd rfl q⟩)⟩
      · subst e9
        obtain ⟨c, hc0⟩ : ∃ c : Nat, x = c := ⟨x.toNat, by rw [w1] at g0; omega⟩
        rw [w1, hc0] at g30
        have e9 : gI u 47 Z.length = nI c := i32_eq (by rw [w1, hc0, nI_toInt (by omega)])
        have cel := hE.2.1.2.2.2.1 c (by omega)
        rw [e9, show (20 : Int32) + nI c = nI (20 + c) by simp (disch := omega) only [q_lit, nI_add, pk_mul, q_sub, q_rem, q_div, q_vp, q_cl, q_lt, q_le, q_eq, q_neg1, gI_def], q_cl (by omega)]
        refine ⟨rl_in (by omega), by simp (disch := omega) only [q_lit, nI_add, pk_mul, q_sub, q_rem, q_div, q_vp, q_cl, q_lt, q_le, q_eq, q_neg1, gI_def]; omega, fun z ez => ?_⟩
        rw [q_cl (by omega), gI_def, cel.1] at ez
        subst ez
        have ee : watE (env a p s) x = (a (40 + c)).toInt := by
          rw [hc0, watE, if_pos ⟨by omega, by omega⟩, Int.toNat_natCast, env8]
        exact putS Z _ hi (by rw [← ee]; exact hV1) zV (by rw [← env8 a p s c]; exact he _ (by omega))
      · subst e9
        rw [q_cl (by omega)] at ez
        subst ez
        rw [w1] at g
        exact putS Z _ hi (by rw [hV1, watE, if_neg (by omega)]; rfl) zV (by unfold Bd; decide)
    · obtain ⟨w1, w2, zV⟩ := hV
      have w1 : gI u 47 Z.length = nI (if x = true then 1 else 0) := b01_t w1
      have pp := pos Z (b01 x) hl
      rw [List.length_cons] at hl
      refine ⟨fun _ => ⟨fun _ => isNameX (by decide) (fun _ q => absurd q (by decide)) (fun _ => ⟨fun _ => ⟨fun _ => ⟨fun _ => ⟨fun _ => ⟨fun q => absurd rfl q, fun _ => ⟨fun q => absurd q pp, fun _ => ?_⟩⟩, fun q => absurd q (by decide)⟩, fun q => absurd q (by decide)⟩, fun q => absurd q (by decide)⟩, fun q => absurd rfl q⟩), fun q => absurd q (by decide)⟩, fun q => absurd q (by decide)⟩
      simp (disch := omega) only [List.length_cons, nI_pred, q_cl]
      refine ⟨by simp (disch := omega) only [q_lit, nI_add, pk_mul, q_sub, q_rem, q_div, q_vp, q_cl, q_lt, q_le, q_eq, q_neg1, gI_def]; omega, by simp (disch := omega) only [q_lit, nI_add, pk_mul, q_sub, q_rem, q_div, q_vp, q_cl, q_lt, q_le, q_eq, q_neg1, gI_def]; omega, fun z ez => ?_⟩
      have e1 : (1 - gI u 47 Z.length).toInt = b01 (!x) := by rw [w1]; cases x <;> decide
      subst ez
      exact putS Z _ hi (by rw [e1]; exact hV1) zV (by rw [e1]; exact bd01 _)
    · have ob := @opw_b o
      rw [← hw] at ob
      have n48 : ¬ nI w = 48 := by simp (disch := omega) only [q_lit, nI_add, pk_mul, q_sub, q_rem, q_div, q_vp, q_cl, q_lt, q_le, q_eq, q_neg1, gI_def]; omega
      have n41 : ¬ nI w = 41 := by simp (disch := omega) only [q_lit, nI_add, pk_mul, q_sub, q_rem, q_div, q_vp, q_cl, q_lt, q_le, q_eq, q_neg1, gI_def]; omega
      have n46 : ¬ nI w = 46 := by simp (disch := omega) only [q_lit, nI_add, pk_mul, q_sub, q_rem, q_div, q_vp, q_cl, q_lt, q_le, q_eq, q_neg1, gI_def]; omega
      have n47 : ¬ nI w = 47 := by simp (disch := omega) only [q_lit, nI_add, pk_mul, q_sub, q_rem, q_div, q_vp, q_cl, q_lt, q_le, q_eq, q_neg1, gI_def]; omega
      have n45 : ¬ nI w = 45 := by simp (disch := omega) only [q_lit, nI_add, pk_mul, q_sub, q_rem, q_div, q_vp, q_cl, q_lt, q_le, q_eq, q_neg1, gI_def]; omega
      have n20 : ¬ nI w = 20 := by simp (disch := omega) only [q_lit, nI_add, pk_mul, q_sub, q_rem, q_div, q_vp, q_cl, q_lt, q_le, q_eq, q_neg1, gI_def]; omega
      have n18 : ¬ nI w = 18 := by simp (disch := omega) only [q_lit, nI_add, pk_mul, q_sub, q_rem, q_div, q_vp, q_cl, q_lt, q_le, q_eq, q_neg1, gI_def]; omega
      obtain ⟨Z, x, y, rfl, hV1, hok⟩ : ∃ Z x y, V = y :: x :: Z ∧ V1 = binE o x y :: Z ∧ (isTwo o ∨ isCmp o ∨ (isJn o ∧ (x = 0 ∨ x = 1) ∧ (y = 0 ∨ y = 1))) := by
        rcases h1 with ⟨k, x, y, Z, h, h'⟩ | ⟨k, x, y, Z, h, h'⟩ | ⟨k, x, y, Z, h, h'⟩
        · exact ⟨Z, x, y, h, by rw [bin_two k]; exact h', Or.inl k⟩
        · exact ⟨Z, x, y, h, by rw [bin_cmp k]; exact h', Or.inr (Or.inl k)⟩
        · exact ⟨Z, b01 x, b01 y, h, by rw [bin_jn k]; exact h', Or.inr (Or.inr ⟨k, by cases x <;> decide, by cases y <;> decide⟩)⟩
      obtain ⟨y1, y2, w1, w2, zV⟩ := hV
      simp only [List.length_cons] at hl y1
      have gx : (gI u 47 Z.length).toInt = x := w1
      have gy : (gI u 47 (Z.length + 1)).toInt = y := y1
      have p1 : ¬ nI (Z.length + 1 + 1) ≤ 1 := by simp (disch := omega) only [q_lit, nI_add, pk_mul, q_sub, q_rem, q_div, q_vp, q_cl, q_lt, q_le, q_eq, q_neg1, gI_def]; omega
      refine ⟨fun _ => ⟨fun _ => isNameX c2 (fun q q' => by omega) (fun _ => ⟨fun _ => ⟨fun _ => ⟨fun _ => ⟨fun _ => ⟨fun _ => ⟨fun _ => ⟨fun q => absurd q p1, fun _ => ?_⟩, fun q => absurd q n18⟩, fun q => absurd q n20⟩, fun q => absurd q n45⟩, fun q => absurd q n47⟩, fun q => absurd q n46⟩, fun q => absurd rfl q⟩), fun q => absurd q n41⟩, fun q => absurd q n48⟩
      simp (disch := omega) only [List.length_cons, pk_m1, nI_pred, q_cl]
      rw [hw]
      refine ⟨by simp (disch := omega) only [q_lit, nI_add, pk_mul, q_sub, q_rem, q_div, q_vp, q_cl, q_lt, q_le, q_eq, q_neg1, gI_def]; omega, by simp (disch := omega) only [q_lit, nI_add, pk_mul, q_sub, q_rem, q_div, q_vp, q_cl, q_lt, q_le, q_eq, q_neg1, gI_def]; omega, joinX (by rw [gx]; exact w2) (by rw [gy]; exact y2) ?_ (fun r hr => ⟨by simp (disch := omega) only [q_lit, nI_add, pk_mul, q_sub, q_rem, q_div, q_vp, q_cl, q_lt, q_le, q_eq, q_neg1, gI_def]; omega, fun z ez => ?_⟩)⟩
      · rcases hok with k | k | ⟨k, k1, k2⟩
        · exact Or.inl k
        · exact Or.inr (Or.inl k)
        · refine Or.inr (Or.inr ⟨k, ?_, ?_⟩)
          · rcases k1 with k1 | k1
            · exact Or.inl (i32_eq (by rw [gx, k1]; rfl))
            · exact Or.inr (i32_eq (by rw [gx, k1]; rfl))
          · rcases k2 with k2 | k2
            · exact Or.inl (i32_eq (by rw [gy, k2]; rfl))
            · exact Or.inr (i32_eq (by rw [gy, k2]; rfl))
      · subst ez
        rw [gx, gy] at hr
        have e1 := lclip r
        rw [hr] at e1
        exact putS Z _ hi (by rw [e1]; exact hV1) zV (by rw [e1, ← hr]; exact clM_b _)
theorem sayX_of {t fld s0 j sz : Nat} {pr : Bool} {nd : Nat} {r : Cd} {F : (Nat → Int) → Int} {u : PoS} (ht : t < 4) (hF : Frg pr false nd (cdA t u) s0 j r F) (hnd : nd ≤ 62) (hj : (cdA t u j).1 = 48) (hjs : j < sz) (hsz : sz ≤ 300) (h5 : u.1 (7 + t) 5 = nI sz) (hf : u.1 (7 + t) fld = nI s0) : SayX t fld F u := by
  intro u' b p s a post k1 k2 hE hs H
  have he : BE (env a p s) := envB (u := u') (b := b) hE.2.1 hE.2.2 hs
  obtain ⟨n, hn⟩ := hF.2.2.2.1 (cdA t u) (fun _ _ _ => rfl) (env a p s) he [] (by simp only [List.length_nil]; omega)
  rw [hf]
  refine ⟨n + 1, jdgX (a := a) (p := p) (s := s) ht he hj hjs hsz (W := [F (env a p s)]) (show 1 ≤ 62 by decide) n s0 [] u' hn hE (by rw [k1]; exact h5) (fun q q1 q2 => (cdA_raw (by rw [k2])).symm) trivial (fun z hz hS => ?_)⟩
  obtain ⟨h1, -, -⟩ := hS
  exact ⟨fun q => absurd q (show ¬ nI 1 ≤ 0 by decide), fun _ => H z _ hz h1⟩
theorem sayM_of {t k sort i0 : Nat} {pr : Bool} {nd s0 j : Nat} {A : Nat → Nat × Nat} {r : Cd} {F : (Nat → Int) → Int} {u : PoS} (ht : t < 4) (hk : k < 24) (hF : Frg pr false nd A s0 j r F) (hpr : sort ≠ 0 → pr = true) (hs0 : u.1 51 (681 * t + 1 + 3 * k + 1) = nI i0) (hs1 : u.1 51 (681 * t + 1 + 3 * k + 2) = nI (i0 + r.length)) (hl : i0 + r.length ≤ 304) (hc : ∀ q x, r[q]? = some x → u.1 51 (681 * t + 73 + 2 * (i0 + q)) = nI x.1 ∧ u.1 51 (681 * t + 73 + 2 * (i0 + q) + 1) = nI x.2) : SayM t k sort F u := by
  intro u' p s post hcell hE hs H
  obtain ⟨⟨ρ, hL⟩, hp, f0, f1, f2, f3, f4, f5, f6, f7⟩ := hE
  obtain ⟨h30, g1, g2, hp5⟩ := atF_of hL hp
  obtain ⟨s', hs', hse⟩ : ∃ s', Sm 99 s' ∧ (pr = true ∨ s' = s) := by
    by_cases q : sort = 0
    · exact ⟨s, hs q, Or.inr rfl⟩
    · exact ⟨nI 0, ⟨0, by decide, rfl⟩, Or.inl (hpr q)⟩
  have eqF : F (env (u'.1 49) p s') = F (env (u'.1 49) p s) := by
    rcases hse with q | q
    · refine hF.2.2.2.2.2.1 q _ _ (fun i hi => ?_)
      unfold env
      rw [if_neg hi, if_neg hi]
    · rw [q]
  have he : BE (env (u'.1 49) p s') := envB (u := u') (b := 0) hL hp hs'
  obtain ⟨V', T', ⟨e1, e2⟩, hR⟩ := hF.2.2.2.2.1 (env (u'.1 49) p s') he [] []
  subst e1; subst e2
  intro x1 ex1 x2 ex2
  rw [show (681 : Int32) * nI t + 1 + 3 * nI k = nI (681 * t + 1 + 3 * k) by simp (disch := omega) only [q_lit, nI_add, pk_mul, q_sub, q_rem, q_div, q_vp, q_cl, q_lt, q_le, q_eq, q_neg1, gI_def]] at ex1
  rw [show (681 : Int32) * nI t + 73 = nI (681 * t + 73) by simp (disch := omega) only [q_lit, nI_add, pk_mul, q_sub, q_rem, q_div, q_vp, q_cl, q_lt, q_le, q_eq, q_neg1, gI_def]] at ex2
  subst ex1; subst ex2
  rw [nI_1, q_cl (by omega), gI_def, show 681 * t + 1 + 3 * k + 1 = 681 * t + (1 + 3 * k + 1) by omega, hcell _ (by omega), show 681 * t + (1 + 3 * k + 1) = 681 * t + 1 + 3 * k + 1 by omega, hs0]
  refine ⟨by simp (disch := omega) only [q_lit, nI_add, pk_mul, q_sub, q_rem, q_div, q_vp, q_cl, q_lt, q_le, q_eq, q_neg1, gI_def]; omega, fun x3 e3 => ?_⟩
  subst e3
  refine ⟨r.length + 1, upsM he (by omega) (by omega) r i0 [] [] _ _ u' hR (fun q x hq => ?_) ?_ hl (Nat.zero_le _) trivial trivial (fun v hv hm => ?_) (fun c hc => ?_) (fun z hz hV hT => H z _ hz ?_)⟩
  · have hlt : q < r.length := by
      obtain ⟨w, -⟩ := List.getElem?_eq_some_iff.mp hq
      exact w
    have := hc q x hq
    rw [show 681 * t + 73 + 2 * (i0 + q) = 681 * t + (73 + 2 * (i0 + q)) by omega] at this ⊢
    rw [show 681 * t + (73 + 2 * (i0 + q)) + 1 = 681 * t + (73 + 2 * (i0 + q) + 1) by omega] at this ⊢
    rw [hcell _ (by omega), hcell _ (by omega)]; exact this
  · rw [show 681 * t + 1 + 3 * k + 2 = 681 * t + (1 + 3 * k + 2) by omega] at hs1 ⊢
    rw [hcell _ (by omega)]; exact hs1
  · have h8 : v = 0 ∨ v = 1 ∨ v = 2 ∨ v = 3 ∨ v = 4 ∨ v = 5 ∨ v = 6 ∨ v = 7 := by omega
    rcases h8 with rfl | rfl | rfl | rfl | rfl | rfl | rfl | rfl
    · rw [f0]; rfl
    · rw [f1, nI_toInt (by omega)]; rfl
    · rw [f2]; rfl
    · rw [f3]; rfl
    · rw [f4]; rfl
    · rw [f5]; rfl
    · rw [f6]; rfl
    · rcases hse with q | q
      · exact absurd ⟨rfl, rfl⟩ (hF.2.2.2.2.2.2 q _ hm)
      · rw [f7, q]; rfl
  · rw [env8]
  · obtain ⟨h1, -, -⟩ := hV
    rw [← eqF]; exact h1
