/-! PLAYED -/
theorem q_neg0 {n : Nat} (h : n < 2 ^ 31) : ¬ nI n = -1 := by
  rw [show (1 : Int32) = nI 1 from rfl, q_neg1 h]; exact fun h => h
section PLAYED
variable (T : Nat) (w : Nat → (Nat → Int32) → Nat → Int32 → Int32) (q : Nat → (Nat → Int32) → Nat → Int32)
theorem act_clause {t51 : Nat → Int32} {X κ : Nat} {v x : Int32} (hX : X < 2720) (hκ : κ ≤ 9) (e0 : t51 X = nI κ) (h1 : 2 ≤ κ → κ ≠ 8 → v = t51 (X + 1)) (h2 : κ = 3 ∨ κ = 5 → x = t51 (X + 2)) (h9 : κ = 9 → Sm 60 (t51 (X + 1))) : ActP IsB T w q (wp_X11_act (nI κ) v x) (fun u K => u.1 51 = t51 → wp_X12_isPlayed (nI X) u K) := by
  intro r a hR hT hc
  have mk : ∀ (u : PoS) (K : Int32 → PoS → Prop), u.1 51 = t51 → ((nI κ = 2 → wp_X12_person (t51 (X + 1)) 1 u (fun (r3 : Int32) (u4 : PoS) => ((r3 < 0 → K 0 u4) ∧ (¬ r3 < 0 → K 1 u4)))) ∧ (nI κ = 3 → wp_X12_field (t51 (X + 2)) (t51 (X + 1)) u (fun (r6 : Int32) (u7 : PoS) => IsB r6 ∧ K r6 u7)) ∧ (nI κ = 4 → wp_X12_shed (t51 (X + 1)) 1 u (fun (r8 : Int32) (u9 : PoS) => IsB r8 ∧ K r8 u9)) ∧ (nI κ = 5 → wp_X12_walk (t51 (X + 1)) (t51 (X + 2)) u (fun (r10 : Int32) (u11 : PoS) => IsB r10 ∧ K r10 u11)) ∧ (nI κ = 6 → wp_X12_hat (t51 (X + 1)) 0 u (fun (r12 : Int32) (u13 : PoS) => IsB r12 ∧ K r12 u13)) ∧ (nI κ = 7 → wp_X12_hat (t51 (X + 1)) 1 u (fun (r14 : Int32) (u15 : PoS) => IsB r14 ∧ K r14 u15)) ∧ (nI κ = 8 → wp_X12_draw u (fun (r16 : Int32) (u17 : PoS) => ((r16 < 0 → K 0 u17) ∧ (¬ r16 < 0 → K 1 u17)))) ∧ (nI κ = 9 → wp_X12_arePassed (t51 (X + 1)) u (fun (r19 : Int32) (u20 : PoS) => IsB r19 ∧ K r19 u20)) ∧ (¬ nI κ = 2 → ¬ nI κ = 3 → ¬ nI κ = 4 → ¬ nI κ = 5 → ¬ nI κ = 6 → ¬ nI κ = 7 → ¬ nI κ = 8 → ¬ nI κ = 9 → K 1 u)) → wp_X12_isPlayed (nI X) u K := by
    intro u K e H
    unfold wp_X12_isPlayed
    rw [show nI X + 1 = nI (X + 1) from nI_1 X, show nI X + 2 = nI (X + 2) by simp (disch := omega) only [q_lit, nI_add, pk_mul, q_sub, q_rem, q_div, q_vp, q_cl, q_lt, q_le, q_eq, q_neg1, gI_def], q_cl (by omega), q_cl (by omega), q_cl (by omega), q_vp (by omega) (by omega), q_vp (by omega) (by omega), q_vp (by omega) (by omega), gI_def, gI_def, gI_def, e, e0]
    refine ⟨by omega, fun x1 ex1 => ⟨by omega, fun x2 ex2 => ⟨by omega, ?_⟩⟩⟩
    rw [ex1, ex2]; exact H
  have num : ∀ {F : Int32}, NumP F → IsB (if F = -1 then 0 else 1) := fun {F} h => by
    rcases h with h | ⟨n, hn, h⟩
    · rw [if_pos h]; exact Or.inl rfl
    · rw [h, if_neg (q_neg0 (by omega))]; exact Or.inr rfl
  have numX : ∀ {F : Int32}, NumP F → ∀ (K : Int32 → PoS → Prop) z, K (if F = -1 then 0 else 1) z → ((F = (-1) → K 0 z) ∧ (¬ F = (-1) → K 1 z)) := fun {F} h K z hK => by
    refine ⟨fun e => ?_, fun e => ?_⟩
    · rw [if_pos e] at hK; exact hK
    · rw [if_neg e] at hK; exact hK
  have numM : ∀ {F : Int32}, NumP F → ∀ (K : Int32 → PoS → Prop) z, K (if F = -1 then 0 else 1) z → ((F < 0 → K 0 z) ∧ (¬ F < 0 → K 1 z)) := fun {F} h K z hK => by
    rcases h with h | ⟨n, hn, h⟩
    · subst h; rw [if_pos rfl] at hK; exact ⟨fun _ => hK, fun e => absurd (by decide) e⟩
    · subst h; rw [if_neg (q_neg0 (by omega))] at hK; exact ⟨fun e => absurd e (nI_pos (by omega)), fun _ => hK⟩
  match κ, hκ with
  | 2, _ =>
    obtain ⟨F, hP, r', a', hR', e1, hx, hm⟩ := act_person T w q (t51 (X + 1)) r a hR hT hc
    have hv := h1 (by decide) (by decide)
    subst hv
    refine ⟨_, num hP, r', a', hR', e1, fun u K e hC hK => ?_, fun u K e hw hC hK e51 => mk u K e51 ?_⟩
    · exact ⟨fun _ => hx u _ e hC (fun z f g => numX hP K z (hK z f g)), fun z => absurd z (by decide), fun z => absurd z (by decide), fun z => absurd z (by decide), fun z => absurd z (by decide), fun z => absurd z (by decide), fun z => absurd z (by decide), fun z => absurd z (by decide), fun z => absurd rfl z⟩
    · exact ⟨fun _ => hm u _ e hw hC (fun z f g => numM hP K z (hK z f g)), fun z => absurd z (by decide), fun z => absurd z (by decide), fun z => absurd z (by decide), fun z => absurd z (by decide), fun z => absurd z (by decide), fun z => absurd z (by decide), fun z => absurd z (by decide), fun z => absurd rfl z⟩
  | 3, _ =>
    obtain ⟨F, hP, r', a', hR', e1, hx, hm⟩ := act_field T w q (t51 (X + 2)) (t51 (X + 1)) r a hR hT hc
    have hv := h1 (by decide) (by decide)
    have hx2 := h2 (Or.inl rfl)
    subst hv hx2
    refine ⟨F, hP, r', a', hR', e1, fun u K e hC hK => ?_, fun u K e hw hC hK e51 => mk u K e51 ?_⟩
    · exact ⟨fun z => absurd z (by decide), fun _ => hx u _ e hC (fun z f g => ⟨hP, hK z f g⟩), fun z => absurd z (by decide), fun z => absurd z (by decide), fun z => absurd z (by decide), fun z => absurd z (by decide), fun z => absurd z (by decide), fun z => absurd z (by decide), fun _ z => absurd rfl z⟩
    · exact ⟨fun z => absurd z (by decide), fun _ => hm u _ e hw hC (fun z f g => ⟨hP, hK z f g⟩), fun z => absurd z (by decide), fun z => absurd z (by decide), fun z => absurd z (by decide), fun z => absurd z (by decide), fun z => absurd z (by decide), fun z => absurd z (by decide), fun _ z => absurd rfl z⟩
  | 4, _ =>
    obtain ⟨F, hP, r', a', hR', e1, hx, hm⟩ := act_shed T w q (t51 (X + 1)) r a hR hT hc
    have hv := h1 (by decide) (by decide)
    subst hv
    refine ⟨F, hP, r', a', hR', e1, fun u K e hC hK => ?_, fun u K e hw hC hK e51 => mk u K e51 ?_⟩
    · exact ⟨fun z => absurd z (by decide), fun z => absurd z (by decide), fun _ => hx u _ e hC (fun z f g => ⟨hP, hK z f g⟩), fun z => absurd z (by decide), fun z => absurd z (by decide), fun z => absurd z (by decide), fun z => absurd z (by decide), fun z => absurd z (by decide), fun _ _ z => absurd rfl z⟩
    · exact ⟨fun z => absurd z (by decide), fun z => absurd z (by decide), fun _ => hm u _ e hw hC (fun z f g => ⟨hP, hK z f g⟩), fun z => absurd z (by decide), fun z => absurd z (by decide), fun z => absurd z (by decide), fun z => absurd z (by decide), fun z => absurd z (by decide), fun _ _ z => absurd rfl z⟩
  | 5, _ =>
    obtain ⟨F, hP, r', a', hR', e1, hx, hm⟩ := act_walk T w q (t51 (X + 1)) (t51 (X + 2)) r a hR hT hc
    have hv := h1 (by decide) (by decide)
    have hx2 := h2 (Or.inr rfl)
    subst hv hx2
    refine ⟨F, hP, r', a', hR', e1, fun u K e hC hK => ?_, fun u K e hw hC hK e51 => mk u K e51 ?_⟩
    · exact ⟨fun z => absurd z (by decide), fun z => absurd z (by decide), fun z => absurd z (by decide), fun _ => hx u _ e hC (fun z f g => ⟨hP, hK z f g⟩), fun z => absurd z (by decide), fun z => absurd z (by decide), fun z => absurd z (by decide), fun z => absurd z (by decide), fun _ _ _ z => absurd rfl z⟩
    · exact ⟨fun z => absurd z (by decide), fun z => absurd z (by decide), fun z => absurd z (by decide), fun _ => hm u _ e hw hC (fun z f g => ⟨hP, hK z f g⟩), fun z => absurd z (by decide), fun z => absurd z (by decide), fun z => absurd z (by decide), fun z => absurd z (by decide), fun _ _ _ z => absurd rfl z⟩
  | 6, _ =>
    obtain ⟨F, hP, r', a', hR', e1, hx, hm⟩ := act_hat T w q (t51 (X + 1)) 0 (Or.inl rfl) r a hR hT hc
    have hv := h1 (by decide) (by decide)
    subst hv
    refine ⟨F, hP, r', a', hR', e1, fun u K e hC hK => ?_, fun u K e hw hC hK e51 => mk u K e51 ?_⟩
    · exact ⟨fun z => absurd z (by decide), fun z => absurd z (by decide), fun z => absurd z (by decide), fun z => absurd z (by decide), fun _ => hx u _ e hC (fun z f g => ⟨hP, hK z f g⟩), fun z => absurd z (by decide), fun z => absurd z (by decide), fun z => absurd z (by decide), fun _ _ _ _ z => absurd rfl z⟩
    · exact ⟨fun z => absurd z (by decide), fun z => absurd z (by decide), fun z => absurd z (by decide), fun z => absurd z (by decide), fun _ => hm u _ e hw hC (fun z f g => ⟨hP, hK z f g⟩), fun z => absurd z (by decide), fun z => absurd z (by decide), fun z => absurd z (by decide), fun _ _ _ _ z => absurd rfl z⟩
  | 7, _ =>
    obtain ⟨F, hP, r', a', hR', e1, hx, hm⟩ := act_hat T w q (t51 (X + 1)) 1 (Or.inr rfl) r a hR hT hc
    have hv := h1 (by decide) (by decide)
    subst hv
    refine ⟨F, hP, r', a', hR', e1, fun u K e hC hK => ?_, fun u K e hw hC hK e51 => mk u K e51 ?_⟩
    · exact ⟨fun z => absurd z (by decide), fun z => absurd z (by decide), fun z => absurd z (by decide), fun z => absurd z (by decide), fun z => absurd z (by decide), fun _ => hx u _ e hC (fun z f g => ⟨hP, hK z f g⟩), fun z => absurd z (by decide), fun z => absurd z (by decide), fun _ _ _ _ _ z => absurd rfl z⟩
    · exact ⟨fun z => absurd z (by decide), fun z => absurd z (by decide), fun z => absurd z (by decide), fun z => absurd z (by decide), fun z => absurd z (by decide), fun _ => hm u _ e hw hC (fun z f g => ⟨hP, hK z f g⟩), fun z => absurd z (by decide), fun z => absurd z (by decide), fun _ _ _ _ _ z => absurd rfl z⟩
  | 8, _ =>
    obtain ⟨F, hP, r', a', hR', e1, hx, hm⟩ := act_draw T w q r a hR hT hc
    refine ⟨_, num hP, r', a', hR', e1, fun u K e hC hK => ?_, fun u K e hw hC hK e51 => mk u K e51 ?_⟩
    · exact ⟨fun z => absurd z (by decide), fun z => absurd z (by decide), fun z => absurd z (by decide), fun z => absurd z (by decide), fun z => absurd z (by decide), fun z => absurd z (by decide), fun _ => hx u _ e hC (fun z f g => numX hP K z (hK z f g)), fun z => absurd z (by decide), fun _ _ _ _ _ _ z => absurd rfl z⟩
    · exact ⟨fun z => absurd z (by decide), fun z => absurd z (by decide), fun z => absurd z (by decide), fun z => absurd z (by decide), fun z => absurd z (by decide), fun z => absurd z (by decide), fun _ => hm u _ e hw hC (fun z f g => numM hP K z (hK z f g)), fun z => absurd z (by decide), fun _ _ _ _ _ _ z => absurd rfl z⟩
  | 9, _ =>
    obtain ⟨n, hn, en⟩ := h9 rfl
    have hv := h1 (by decide) (by decide)
    rw [en] at hv mk
    subst hv
    obtain ⟨u0, hC0⟩ := hc
    obtain ⟨m1, m2, m3⟩ := hR.liv.min
    obtain ⟨i1, i2, i3⟩ := pas_ok hR hT hC0 (min n (9999 - nN (a 6))) (by omega)
    have hB : IsB (if n ≤ 9999 - nN (a 6) then 1 else 0) := by
      by_cases z : n ≤ 9999 - nN (a 6)
      · rw [if_pos z]; exact Or.inr rfl
      · rw [if_neg z]; exact Or.inl rfl
    refine ⟨(if n ≤ 9999 - nN (a 6) then 1 else 0), hB, _, _, i1, i2, fun u K e hC hK => ?_, fun u K e hw hC hK e51 => mk u K e51 ?_⟩
    · refine ⟨fun z => absurd z (by decide), fun z => absurd z (by decide), fun z => absurd z (by decide), fun z => absurd z (by decide), fun z => absurd z (by decide), fun z => absurd z (by decide), fun z => absurd z (by decide), fun _ => ?_, fun _ _ _ _ _ _ _ z => absurd rfl z⟩
      have fin : ∀ s : Int32, s = (if n ≤ 9999 - nN (a 6) then 1 else 0) → wj_X11_act_133 K (nI n) s u := fun s hs => passesX hR hT hC e hn rfl (fun z f g => by rw [hs]; exact ⟨hB, hK z f g⟩)
      rw [gI_def, e, m3, nI_add, show (9999 : Int32) = nI 9999 from rfl, q_lt (by omega) (by omega)]
      refine ⟨fun z => fin 0 ?_, fun z => fin 1 ?_⟩
      · rw [if_neg (by omega)]
      · rw [if_pos (by omega)]
    · exact ⟨fun z => absurd z (by decide), fun z => absurd z (by decide), fun z => absurd z (by decide), fun z => absurd z (by decide), fun z => absurd z (by decide), fun z => absurd z (by decide), fun z => absurd z (by decide), fun _ => passesM hR hT hC e hw hn rfl (fun z f _ g => ⟨hB, hK z f g⟩), fun _ _ _ _ _ _ _ z => absurd rfl z⟩
  | 0, _ =>
    refine ⟨1, Or.inr rfl, r, a, hR, rfl, fun u K e hC hK => ?_, fun u K e hw hC hK e51 => mk u K e51 ?_⟩
    · exact ⟨fun z => absurd z (by decide), fun z => absurd z (by decide), fun z => absurd z (by decide), fun z => absurd z (by decide), fun z => absurd z (by decide), fun z => absurd z (by decide), fun z => absurd z (by decide), fun z => absurd z (by decide), fun _ _ _ _ _ _ _ _ => hK u (FrB.refl 0 u) e⟩
    · exact ⟨fun z => absurd z (by decide), fun z => absurd z (by decide), fun z => absurd z (by decide), fun z => absurd z (by decide), fun z => absurd z (by decide), fun z => absurd z (by decide), fun z => absurd z (by decide), fun z => absurd z (by decide), fun _ _ _ _ _ _ _ _ => hK u (FrR.refl u) e⟩
  | 1, _ =>
    refine ⟨1, Or.inr rfl, r, a, hR, rfl, fun u K e hC hK => ?_, fun u K e hw hC hK e51 => mk u K e51 ?_⟩
    · exact ⟨fun z => absurd z (by decide), fun z => absurd z (by decide), fun z => absurd z (by decide), fun z => absurd z (by decide), fun z => absurd z (by decide), fun z => absurd z (by decide), fun z => absurd z (by decide), fun z => absurd z (by decide), fun _ _ _ _ _ _ _ _ => hK u (FrB.refl 0 u) e⟩
    · exact ⟨fun z => absurd z (by decide), fun z => absurd z (by decide), fun z => absurd z (by decide), fun z => absurd z (by decide), fun z => absurd z (by decide), fun z => absurd z (by decide), fun z => absurd z (by decide), fun z => absurd z (by decide), fun _ _ _ _ _ _ _ _ => hK u (FrR.refl u) e⟩
/-- the CLAUSES of TEXT t from k on, as they stand in v -/
theorem act_clauses {v : PoS} {t n : Nat} (ht : t < 4) (hn : n ≤ 24) (en : v.1 (7 + t) 4 = nI n) (en' : v.1 51 (681 * t) = nI n) (hcl : ∀ k, k < n → Cla t k v) : ∀ m k, k + m = n → Act T w q (fun u K => (∀ j, 7 ≤ j → j ≤ 26 → u.1 j = v.1 j) → wl_X11_played_20 K (m + 1) t (nI k) u) (fun u K => u.1 51 = v.1 51 → wl_X12_played_21 K (m + 1) (nI t) (nI k) u) := by
  intro m
  induction m with
  | zero =>
    intro k hk r a hR hT hc
    refine ⟨-1, r, a, hR, rfl, fun u K e hC hK ej => ?_, fun u K e hw hC hK e51 => ?_⟩
    · rw [wl_X11_played_20, gI_def, ej (7 + t) (by omega) (by omega), en]
      exact ⟨fun _ => hK u (FrB.refl 0 u) e, fun h => absurd (nI_le (show n ≤ k by omega) (by omega)) h⟩
    · rw [wl_X12_played_21, show (681 : Int32) * nI t = nI (681 * t) by simp (disch := omega) only [q_lit, nI_add, pk_mul, q_sub, q_rem, q_div, q_vp, q_cl, q_lt, q_le, q_eq, q_neg1, gI_def], q_vp (by omega) (by omega), q_cl (by omega), gI_def, e51, en']
      exact ⟨by omega, fun _ => hK u (FrR.refl u) e, fun h => absurd (nI_le (show n ≤ k by omega) (by omega)) h⟩
  | succ m ih =>
    intro k hk r a hR hT hc
    obtain ⟨κ, c1, c2, c3, c4, c5, c6⟩ := hcl k (by omega)
    obtain ⟨F, hP, r', a', hR', e1, hx, hm⟩ := act_clause T w q (t51 := v.1 51) (X := 681 * t + 1 + 3 * k) (κ := κ) (v := v.1 (12 + 4 * t) k) (x := v.1 (13 + 4 * t) k) (by omega) c1 c3 (fun h h' => by rw [c4 h h', show 681 * t + 1 + 3 * k + 1 = 681 * t + 2 + 3 * k by omega]) (fun h => by rw [c5 h, show 681 * t + 1 + 3 * k + 2 = 681 * t + 3 + 3 * k by omega]) (fun h => by rw [show 681 * t + 1 + 3 * k + 1 = 681 * t + 2 + 3 * k by omega]; exact c6 h) r a hR hT hc
    have hx' : ∀ (u : PoS) (K : Int32 → PoS → Prop), u.1 3 = r → Ctx u T w q → (∀ j, 7 ≤ j → j ≤ 26 → u.1 j = v.1 j) → (∀ z, FrB 0 u z → z.1 3 = r' → ((¬ F = 0 → wl_X11_played_20 K (m + 1) t (nI (k + 1)) z) ∧ (F = 0 → K (nI k) z))) → wl_X11_played_20 K (m + 1 + 1) t (nI k) u := by
      intro u K e hC ej H
      rw [wl_X11_played_20, q_cl (by omega), gI_def, gI_def, gI_def, gI_def, ej (7 + t) (by omega) (by omega), en, ej (11 + 4 * t) (by omega) (by omega), ej (12 + 4 * t) (by omega) (by omega), ej (13 + 4 * t) (by omega) (by omega), c2, nI_1, q_vp (by omega) (by omega), q_le (by omega) (by omega)]
      exact ⟨fun h => by omega, fun _ => ⟨fun h => absurd h (nI_ge (b := 24) (by omega) (by decide)), fun _ => ⟨by omega, by omega, by omega, hx u _ e hC H⟩⟩⟩
    have hm' : ∀ (u : PoS) (K : Int32 → PoS → Prop), u.1 49 = a → u.1 48 24 = 1 → Ctx u T w q → u.1 51 = v.1 51 → (∀ z, FrR u z → z.1 49 = a' → ((¬ F = 0 → wl_X12_played_21 K (m + 1) (nI t) (nI (k + 1)) z) ∧ (F = 0 → K (nI k) z))) → wl_X12_played_21 K (m + 1 + 1) (nI t) (nI k) u := by
      intro u K e hw hC e51 H
      rw [wl_X12_played_21, show (681 : Int32) * nI t = nI (681 * t) by simp (disch := omega) only [q_lit, nI_add, pk_mul, q_sub, q_rem, q_div, q_vp, q_cl, q_lt, q_le, q_eq, q_neg1, gI_def], show nI (681 * t) + 1 + 3 * nI k = nI (681 * t + 1 + 3 * k) by simp (disch := omega) only [q_lit, nI_add, pk_mul, q_sub, q_rem, q_div, q_vp, q_cl, q_lt, q_le, q_eq, q_neg1, gI_def], q_vp (by omega) (by omega), q_cl (by omega), gI_def, e51, en', nI_1, q_le (by omega) (by omega)]
      exact ⟨by omega, fun h => by omega, fun _ => hm u _ e hw hC H e51⟩
    by_cases h0 : F = 0
    · exact ⟨nI k, r', a', hR', e1, fun u K e hC hK ej => hx' u K e hC ej (fun z f g => ⟨fun h => absurd h0 h, fun _ => hK z f g⟩), fun u K e hw hC hK e51 => hm' u K e hw hC e51 (fun z f g => ⟨fun h => absurd h0 h, fun _ => hK z f g⟩)⟩
    · obtain ⟨F2, r2, a2, hR2, e2, hx2, hm2⟩ := ih (k + 1) (by omega) r' a' hR' (by rw [e1]; exact hT) hc
      refine ⟨F2, r2, a2, hR2, by rw [e2, e1], fun u K e hC hK ej => hx' u K e hC ej (fun z f g => ⟨fun _ => hx2 z K g (hC.mv (f.law (by decide))) (fun z2 f2 g2 => hK z2 (fun j h1 h2 => by rw [f2 j h1 h2, f j h1 h2]) g2) (fun j j1 j2 => by rw [f j (by omega) (by omega), ej j j1 j2]), fun h => absurd h h0⟩), fun u K e hw hC hK e51 => hm' u K e hw hC e51 (fun z f g => ⟨fun _ => hm2 z K g (by rw [f.2 24 (by decide)]; exact hw) (hC.mv f.law) (fun z2 f2 g2 => hK z2 (f.tr f2) g2) (by rw [f.1 51 (by decide) (by decide) (by decide) (by decide) (by decide)]; exact e51), fun h => absurd h h0⟩)⟩
end PLAYED
theorem ob_played (x : Int32) : Ob32 (wp_X11_played x) (wp_X12_played x) (Inv LTx) := by
  intro u hI
  obtain ⟨w, q, hC⟩ := ctx_of hI
  have hR := hI.1
  obtain ⟨T, hT4, eT⟩ := hR.2.1.2.1
  have eT' : u.1 3 117 = nI T := by rw [hR.1.2.1, eT]
  have nT : nN (u.1 49 1) = T := by rw [eT, nN_nI (by omega)]
  by_cases ok : ∃ t, t < T ∧ x = nI t
  · obtain ⟨t, ht, rfl⟩ := ok
    obtain ⟨ht4, n, hn, a1, a2, a3, a4, a5⟩ := hI.2.2.2.2.2.2 t (by omega) (by omega)
    rw [nT] at hC
    obtain ⟨F, r', a', hR', e1, hx, hm⟩ := act_clauses T w q ht4 hn a1 a2 a3 n 0 (Nat.zero_add n) (u.1 3) (u.1 49) hR nT ⟨u, hC⟩
    refine ⟨fun r u1 => r = F ∧ FrB 0 u u1 ∧ u1.1 3 = r', fun K hK => ⟨fun z => absurd z (nI_pos (by omega)), fun _ => ⟨fun z => ?_, fun _ => ⟨fun _ => ⟨vp_in_nI (by omega) (by decide), n + 1, ?_⟩, fun z => absurd z (by decide)⟩⟩⟩, fun r u1 hr K hK => ?_⟩
    · rw [gI_def, eT', q_le (by omega) (by omega)] at z; omega
    · rw [q_cl (by omega)]
      exact hx u K rfl hC (fun z f g => hK _ _ ⟨rfl, f, g⟩) (fun _ _ _ => rfl)
    · obtain ⟨rfl, f, g⟩ := hr
      have e49 := f 49 (by decide) (by decide)
      unfold wp_X12_played
      rw [gI_def, e49, eT]
      refine inM1 (by omega) (fun t' _ _ => ⟨fun _ => ⟨n + 1, ?_⟩, fun z => absurd z (by decide)⟩) (fun z => ?_)
      · refine hm u1 K e49 (by rw [f 48 (by decide) (by decide)]; exact hI.2.2.2.2.2.1) (hC.mv (f.law (by decide))) (fun z fz gz => hK z (inv_act hI f fz (by rw [gz]; exact e1) (by rw [g, gz]; exact hR'))) (f 51 (by decide) (by decide))
      · rcases z with z | z
        · exact absurd z (nI_pos (by omega))
        · rw [q_le (by omega) (by omega)] at z; omega
  · refine ⟨fun r u1 => r = -2 ∧ u1 = u, fun K hK => ?_, fun r u1 hr K hK => ?_⟩
    · refine ⟨fun _ => ⟨fun z => absurd rfl z, fun _ => hK _ _ ⟨rfl, rfl⟩⟩, fun h0 => ⟨fun _ => ⟨fun z => absurd rfl z, fun _ => hK _ _ ⟨rfl, rfl⟩⟩, fun h1 => ?_⟩⟩
      obtain ⟨j, hj, rfl⟩ := nI_of h0
      rw [gI_def, eT', q_le (by omega) hj] at h1
      exact absurd ⟨j, by omega, rfl⟩ ok
    · obtain ⟨rfl, rfl⟩ := hr
      unfold wp_X12_played
      rw [gI_def, eT]
      exact inM1 (by omega) (fun t' h e => absurd ⟨t', h, e⟩ ok) (fun _ => ⟨fun z => absurd rfl z, fun _ => hK _ hI⟩)
