/-! the class cuts the tape into TOKENS -/
theorem digX {c : Nat} {u : PoS} {post : Int32 → PoS → Prop} (hc : c ≤ 255) (h1 : isD c = true → post 1 u) (h0 : isD c = false → post 0 u) : wp_X6_isDigit (nI c) u post := by
  unfold wp_X6_isDigit
  simp (disch := omega) only [q_lit, q_lt]
  unfold isD at h1 h0
  exact ⟨fun q => h0 (decide_eq_false (by omega)), fun q => ⟨fun q2 => h0 (decide_eq_false (by omega)), fun q2 => h1 (decide_eq_true (by omega))⟩⟩
theorem letX {c : Nat} {u : PoS} {post : Int32 → PoS → Prop} (hc : c ≤ 255) (h1 : isL c = true → post 1 u) (h0 : isL c = false → post 0 u) : wp_X6_isLetter (nI c) u post := by
  unfold wp_X6_isLetter wj_X6_isLetter_12
  simp (disch := omega) only [q_lit, q_lt, q_le]
  unfold isL at h1 h0
  exact ⟨fun q => ⟨fun a => h0 (decide_eq_false (by omega)), fun a => ⟨fun b => h0 (decide_eq_false (by omega)), fun b => h1 (decide_eq_true (by omega))⟩⟩, fun q => ⟨fun q2 => h1 (decide_eq_true (by omega)), fun q2 => ⟨fun a => h0 (decide_eq_false (by omega)), fun a => ⟨fun b => h0 (decide_eq_false (by omega)), fun b => h1 (decide_eq_true (by omega))⟩⟩⟩⟩
def al (c d : Nat) : Bool := (isD c && isD d) || (isL c && isL d)
theorem alikeX {c d : Nat} {u : PoS} {post : Int32 → PoS → Prop} (hc : c ≤ 255) (hd : d ≤ 255) (h1 : al c d = true → post 1 u) (h0 : al c d = false → post 0 u) : wp_X6_isAlike (nI c) (nI d) u post := by
  unfold al at h1 h0
  have J : (isD c && isD d) = false → wj_X6_isAlike_14 post (nI c) (nI d) u := fun hf => by
    rw [hf, Bool.false_or] at h1 h0
    exact letX hc (fun e => ⟨fun q => absurd q (by decide), fun _ => letX hd (fun e2 => ⟨fun q => absurd q (by decide), fun _ => h1 (by rw [e, e2]; rfl)⟩) (fun e2 => ⟨fun _ => h0 (by rw [e2, Bool.and_false]), fun q => absurd rfl q⟩)⟩) (fun e => ⟨fun _ => h0 (by rw [e, Bool.false_and]), fun q => absurd rfl q⟩)
  exact digX hc (fun e => ⟨fun q => absurd q (by decide), fun _ => digX hd (fun e2 => ⟨fun _ => h1 (by rw [e, e2]; rfl), fun q => absurd q (by decide)⟩) (fun e2 => ⟨fun q => absurd rfl q, fun _ => J (by rw [e2, Bool.and_false])⟩)⟩) (fun e => ⟨fun _ => J (by rw [e, Bool.false_and]), fun q => absurd rfl q⟩)
theorem runX {P : Nat → Bool} {b : Nat → Nat} {L c p : Nat} {K62 : Int32 → Int32 → Int32 → Int32 → PoS → Prop} {post : PoS → Prop} (hL : L ≤ 300) (hc : c ≤ 255) (hb : ∀ i, i < L → b i ≤ 255) (hP : ∀ d, al c d = P d) {u : PoS} (ht : ∀ i, i < L → u.1 31 i = nI (b i)) : ∀ f q, q ≤ L → L - q ≤ f → K62 (nI L) (nI p) (nI c) (nI (rnE P b L f q)) u → wl_X6_cutTokens_38 K62 post (f + 1) (nI L) (nI p) (nI c) (nI q) u := by
  intro f
  induction f with
  | zero =>
    intro q h1 h2 H
    rw [wl_X6_cutTokens_38, q_le (by omega) (by omega)]
    exact ⟨fun _ => H, fun a => absurd (show L ≤ q by omega) a⟩
  | succ f ih =>
    intro q h1 h2 H
    rw [wl_X6_cutTokens_38, q_le (by omega) (by omega)]
    refine ⟨fun a => ?_, fun a => ⟨by simp (disch := omega) only [q_lit, nI_add, pk_mul, q_sub, q_rem, q_div, q_vp, q_cl, q_lt, q_le, q_eq, q_neg1, gI_def]; omega, ?_⟩⟩
    · rw [rnE, if_neg (fun z => absurd z.1 (by omega))] at H; exact H
    · rw [q_cl (by omega), gI_def, ht q (by omega)]
      refine alikeX hc (hb q (by omega)) (fun e => ⟨fun z => absurd z (by decide), fun _ => ?_⟩) (fun e => ⟨fun _ => ?_, fun z => absurd rfl z⟩)
      · rw [nI_1]
        refine ih (q + 1) (by omega) (by omega) ?_
        rw [rnE, if_pos ⟨by omega, by rw [← hP]; exact e⟩] at H; exact H
      · rw [rnE, if_neg (fun z => by rw [← hP, e] at z; exact absurd z.2 (by decide))] at H; exact H
theorem numX {b : Nat → Nat} {L : Nat} {post : Int32 → PoS → Prop} {u : PoS} (hL : L ≤ 300) (ht : ∀ i, i < L → u.1 31 i = nI (b i)) : ∀ c p v, v ≤ 10000 → p + c ≤ L → (∀ i, p ≤ i → i < p + c → 48 ≤ b i ∧ b i ≤ 57) → post (nI (nmC b c p v)) u → wl_X6_numberOf_5 post (c + 1) (nI (p + c)) (nI v) (nI p) u := by
  intro c
  induction c with
  | zero =>
    intro p v hv hp hd H
    rw [wl_X6_numberOf_5]
    exact ⟨fun _ => H, fun q => absurd (show nI (p + 0) ≤ nI p by rw [q_le (by omega) (by omega)]; omega) q⟩
  | succ c ih =>
    intro p v hv hp hd H
    have hd0 := hd p (by omega) (by omega)
    rw [wl_X6_numberOf_5]
    refine ⟨fun q => absurd q (by simp (disch := omega) only [q_lit, nI_add, pk_mul, q_sub, q_rem, q_div, q_vp, q_cl, q_lt, q_le, q_eq, q_neg1, gI_def]; omega), fun _ => ⟨by simp (disch := omega) only [q_lit, nI_add, pk_mul, q_sub, q_rem, q_div, q_vp, q_cl, q_lt, q_le, q_eq, q_neg1, gI_def]; omega, fun x1 ex => ?_⟩⟩
    rw [q_cl (by omega), gI_def, ht p (by omega), show nI v * 10 + nI (b p) - 48 = nI (v * 10 + b p - 48) by simp (disch := omega) only [q_lit, nI_add, pk_mul, q_sub, q_rem, q_div, q_vp, q_cl, q_lt, q_le, q_eq, q_neg1, gI_def]] at ex
    have em : imin 10000 (nI (v * 10 + b p - 48)) = nI (min 10000 (v * 10 + b p - 48)) := by
      unfold imin
      rw [show (10000 : Int32) = nI 10000 from rfl]
      by_cases w : v * 10 + b p - 48 < 10000
      · rw [if_pos (by rw [q_lt (by omega) (by omega)]; exact w)]; congr 1; omega
      · rw [if_neg (by rw [q_lt (by omega) (by omega)]; exact w)]; congr 1; omega
    rw [em] at ex
    subst ex
    rw [nI_1, show p + (c + 1) = (p + 1) + c by omega]
    exact ih (p + 1) _ (by omega) (by omega) (fun i q1 q2 => hd i (by omega) (by omega)) H
theorem nI_m1 {n : Nat} (h : n < 2 ^ 31) : ¬ nI n = -1 := fun q => by
  rw [show (-1 : Int32) = -nI 1 from rfl, q_neg1 h] at q
  exact q
theorem wordX {b : Nat → Nat} {L p e : Nat} {post : Int32 → PoS → Prop} {u : PoS} (hL : L ≤ 300) (hpe : p ≤ e) (he : e ≤ L) (ht : ∀ i, i < L → u.1 31 i = nI (b i)) : ∀ m x ok, x + m = 136 → (ok = true → p + (x - stW x) ≤ e) → post (nI (wkW b p e m x ok)) u → wl_X6_wordKind_8 post (m + 1) (nI p) (nI e) (nI (wiW x)) (if ok = true then nI (p + (x - stW x)) else -1) (nI x) u := by
  intro m
  induction m with
  | zero =>
    intro x ok hx hok H
    obtain rfl : x = 136 := by omega
    rw [wl_X6_wordKind_8]
    exact ⟨fun _ => H, fun q => absurd (show (136 : Int32) ≤ nI 136 by decide) q⟩
  | succ m ih =>
    intro x ok hx hok H
    have hst := st_le x
    have nx : ∀ ok', (ok' = true → p + (x + 1 - stW (x + 1)) ≤ e) → post (nI (wkW b p e m (x + 1) ok')) u → wl_X6_wordKind_8 post (m + 1) (nI p) (nI e) (nI (wiW (x + 1))) (if ok' = true then nI (p + (x + 1 - stW (x + 1))) else -1) (nI x + 1) u := fun ok' h1 h2 => by
      rw [nI_1]; exact ih (x + 1) ok' (by omega) h1 h2
    rw [wl_X6_wordKind_8]
    refine ⟨fun q => absurd q (by simp (disch := omega) only [q_lit, nI_add, pk_mul, q_sub, q_rem, q_div, q_vp, q_cl, q_lt, q_le, q_eq, q_neg1, gI_def]; omega), fun _ => ⟨by simp (disch := omega) only [q_lit, nI_add, pk_mul, q_sub, q_rem, q_div, q_vp, q_cl, q_lt, q_le, q_eq, q_neg1, gI_def]; omega, fun x1 ex => ?_⟩⟩
    rw [q_cl (by omega)] at ex
    subst ex
    rw [wkW] at H
    by_cases c : jsC 0 x = 32
    · rw [if_pos c] at H
      have e0 : stW (x + 1) = x + 1 := by rw [stW, if_pos c]
      have e1 : wiW (x + 1) = wiW x + 1 := by rw [wiW, if_pos c]
      refine ⟨fun q => absurd c q, fun _ => ⟨fun q => ?_, fun q => ?_⟩⟩
      · rw [if_neg (fun z => q (by rw [if_pos z.1, z.2]))] at H
        have := nx true (fun _ => by rw [e0, Nat.sub_self]; omega) H
        rw [e0, e1, Nat.sub_self, if_pos rfl, Nat.add_zero] at this
        unfold wj_X6_wordKind_81
        simp only [nI_1] at this ⊢
        exact this
      · cases ok
        · rw [if_neg (by decide)] at q
          exact absurd q.symm (nI_m1 (by omega))
        · have hk := hok rfl
          rw [if_pos rfl, q_eq (by omega) (by omega)] at q
          rw [if_pos ⟨rfl, q⟩] at H
          exact H
    · rw [if_neg c] at H
      have e0 : stW (x + 1) = stW x := by rw [stW, if_neg c]
      have e1 : wiW (x + 1) = wiW x := by rw [wiW, if_neg c]
      have no : (ok && decide (p + (x - stW x) < e ∧ nI (b (p + (x - stW x))) = jsC 0 x)) = false → wj_X6_wordKind_78 (wl_X6_wordKind_8 post (m + 1)) post (nI p) (nI e) (nI (wiW x)) (nI x) u := fun hf => by
        rw [hf] at H
        have := nx false (fun h => absurd h (by decide)) H
        rw [e1, if_neg (by decide)] at this
        exact this
      refine ⟨fun _ => ?_, fun q => absurd q c⟩
      cases ok
      · refine ⟨fun _ => no rfl, fun q => absurd rfl q⟩
      · have hk := hok rfl
        rw [if_pos rfl]
        refine ⟨fun q => absurd q (nI_m1 (by omega)), fun _ => ⟨fun q => no ?_, fun q => ?_⟩⟩
        · rw [q_le (by omega) (by omega)] at q
          rw [Bool.true_and]; exact decide_eq_false (fun z => by omega)
        · rw [q_le (by omega) (by omega)] at q
          rw [q_cl (by omega), gI_def, ht _ (by omega)]
          refine ⟨by simp (disch := omega) only [q_lit, nI_add, pk_mul, q_sub, q_rem, q_div, q_vp, q_cl, q_lt, q_le, q_eq, q_neg1, gI_def]; omega, fun q2 => no ?_, fun q2 => ?_⟩
          · rw [Bool.true_and]; exact decide_eq_false (fun z => q2 z.2)
          · rw [Bool.true_and, decide_eq_true ⟨by omega, q2⟩] at H
            have := nx true (fun _ => by rw [e0]; omega) H
            rw [e0, e1, if_pos rfl, show p + (x + 1 - stW x) = p + (x - stW x) + 1 by omega] at this
            unfold wj_X6_wordKind_81
            simp only [nI_1] at this ⊢
            exact this
theorem sgT : ∀ c, c < 256 → (∀ x, x < 11 → jsC 1 x = nI c → sgS c = 28 + x) ∧ ((∀ x, x < 11 → ¬ jsC 1 x = nI c) → sgS c = 42) := by decide +kernel
theorem signX {c d : Nat} {u : PoS} {post : Int32 → PoS → Prop} (hc : c ≤ 255) (hd : d ≤ 255) (H : post (nI (sgK c d)) u) : wp_X6_signKind (nI c) (nI d) u post := by
  have T := sgT c (by omega)
  have lp : ∀ m x, x + m = 11 → (∀ y, y < x → ¬ jsC 1 y = nI c) → post (nI (sgS c)) u → wl_X6_signKind_34 post (m + 1) (nI c) (nI x) u := by
    intro m
    induction m with
    | zero =>
      intro x hx hn H
      obtain rfl : x = 11 := by omega
      rw [wl_X6_signKind_34]
      rw [T.2 hn] at H
      exact ⟨fun _ => H, fun q => absurd (show (11 : Int32) ≤ nI 11 by decide) q⟩
    | succ m ih =>
      intro x hx hn H
      rw [wl_X6_signKind_34]
      refine ⟨fun q => absurd q (by simp (disch := omega) only [q_lit, nI_add, pk_mul, q_sub, q_rem, q_div, q_vp, q_cl, q_lt, q_le, q_eq, q_neg1, gI_def]; omega), fun _ => ⟨by simp (disch := omega) only [q_lit, nI_add, pk_mul, q_sub, q_rem, q_div, q_vp, q_cl, q_lt, q_le, q_eq, q_neg1, gI_def]; omega, ?_⟩⟩
      rw [q_cl (by omega)]
      refine ⟨fun q => ?_, fun q => ?_⟩
      · rw [nI_1]
        refine ih (x + 1) (by omega) (fun y hy => ?_) H
        by_cases z : y = x
        · rw [z]; exact q
        · exact hn y (by omega)
      · rw [T.1 x (by omega) q] at H
        rw [show (28 : Int32) + nI x = nI (28 + x) by simp (disch := omega) only [q_lit, nI_add, pk_mul, q_sub, q_rem, q_div, q_vp, q_cl, q_lt, q_le, q_eq, q_neg1, gI_def]]; exact H
  unfold wp_X6_signKind
  simp (disch := omega) only [q_lit, q_eq]
  have w32 : ¬ (d = 61 ∧ c = 60) → ¬ (d = 61 ∧ c = 62) → wj_X6_signKind_32 post (nI c) u := fun h1 h2 => by
    rw [sgK, if_neg h1, if_neg h2] at H
    exact ⟨12, lp 11 0 rfl (fun y hy => absurd hy (Nat.not_lt_zero y)) H⟩
  refine ⟨fun q => w32 (fun z => q z.1) (fun z => q z.1), fun q => ⟨fun q2 => ⟨fun q3 => absurd (by rw [q2]; rfl) q3, fun _ => ?_⟩, fun q2 => ⟨fun q3 => w32 (fun z => q2 z.2) (fun z => q3 z.2), fun q3 => ⟨fun _ => ?_, fun q4 => absurd q4 (by rw [q3]; decide)⟩⟩⟩⟩
  · rw [sgK, if_pos ⟨q, q2⟩] at H; exact H
  · rw [sgK, if_neg (fun z => q2 z.2), if_pos ⟨q, q3⟩] at H; exact H
def FrC (u z : PoS) : Prop := (∀ j, j ≠ 27 → j ≠ 28 → j ≠ 29 → j ≠ 30 → z.1 j = u.1 j) ∧ (∀ i, i ≠ 5 → z.1 27 i = u.1 27 i) ∧ z.2 = u.2
theorem FrC.t {u v z : PoS} (h : FrC u v) (h2 : FrC v z) : FrC u z := ⟨fun j a b c d => by rw [h2.1 j a b c d, h.1 j a b c d], fun i q => by rw [h2.2.1 i q, h.2.1 i q], by rw [h2.2.2, h.2.2]⟩
def CT (u : PoS) (T : List Tk) : Prop := u.1 27 5 = nI T.length ∧ ∀ (k : Nat) (x : Tk), T[k]? = some x → u.1 28 k = nI x.1 ∧ u.1 29 k = nI x.2.2.1 ∧ u.1 30 k = nI x.2.1
theorem addX {u : PoS} {T : List Tk} {κ n s e : Nat} {post : PoS → Prop} (hT : CT u T) (hl : T.length ≤ 300) (H : ∀ z, CT z (T ++ [(κ, n, s, e)]) → FrC u z → post z) : wp_X6_addToken (nI κ) (nI s) (nI n) u post := by
  have h5 := hT.1
  unfold wp_X6_addToken
  rw [gI_def, h5, q_cl (by omega)]
  refine ⟨fun q => absurd q (by simp (disch := omega) only [q_lit, nI_add, pk_mul, q_sub, q_rem, q_div, q_vp, q_cl, q_lt, q_le, q_eq, q_neg1, gI_def]; omega), fun _ => ⟨by simp (disch := omega) only [q_lit, nI_add, pk_mul, q_sub, q_rem, q_div, q_vp, q_cl, q_lt, q_le, q_eq, q_neg1, gI_def]; omega, fun z1 e1 => ?_⟩⟩
  have g1 : gI z1 27 5 = nI T.length := by rw [e1, gI_def, pI_o (by decide)]; exact h5
  rw [g1, q_cl (by omega)]
  refine ⟨by simp (disch := omega) only [q_lit, nI_add, pk_mul, q_sub, q_rem, q_div, q_vp, q_cl, q_lt, q_le, q_eq, q_neg1, gI_def]; omega, fun z2 e2 => ?_⟩
  have g2 : gI z2 27 5 = nI T.length := by rw [e2, gI_def, pI_o (by decide)]; exact g1
  rw [g2, q_cl (by omega)]
  refine ⟨by simp (disch := omega) only [q_lit, nI_add, pk_mul, q_sub, q_rem, q_div, q_vp, q_cl, q_lt, q_le, q_eq, q_neg1, gI_def]; omega, fun z3 e3 z4 e4 => ?_⟩
  have g3 : gI z3 27 5 = nI T.length := by rw [e3, gI_def, pI_o (by decide)]; exact g2
  rw [g3, nI_1] at e4
  subst e1; subst e2; subst e3; subst e4
  refine H _ ⟨?_, fun k x hk => ?_⟩ ⟨fun j a b c d => ?_, fun i hi => ?_, rfl⟩
  · rw [pI_s, up_eq, List.length_append]; rfl
  · simp (disch := omega) only [pI_s, pI_o]
    by_cases q : k = T.length
    · subst q
      rw [List.getElem?_append_right (Nat.le_refl _), Nat.sub_self] at hk
      obtain rfl := Option.some.inj hk
      exact ⟨by rw [up_eq], by rw [up_eq], by rw [up_eq]⟩
    · have hk2 : k < T.length := by
        obtain ⟨w, -⟩ := List.getElem?_eq_some_iff.mp hk
        rw [List.length_append] at w
        simp only [List.length_cons, List.length_nil] at w
        omega
      rw [List.getElem?_append_left hk2] at hk
      rw [up_ne q, up_ne q, up_ne q]
      exact hT.2 k x hk
  · rw [pI_o a, pI_o d, pI_o c, pI_o b]
  · rw [pI_s, up_ne hi, pI_o (by decide), pI_o (by decide), pI_o (by decide)]
theorem al_d {c : Nat} (h : isD c = true) : ∀ d, al c d = isD d := fun d => by
  have : isL c = false := by
    unfold isD at h
    have := of_decide_eq_true h
    unfold isL
    exact decide_eq_false (by omega)
  rw [al, h, this, Bool.true_and, Bool.false_and, Bool.or_false]
theorem al_l {c : Nat} (h : isD c = false) (h2 : isL c = true) : ∀ d, al c d = isL d := fun d => by
  rw [al, h, h2, Bool.true_and, Bool.false_and, Bool.false_or]
theorem cutL {b : Nat → Nat} {L : Nat} {post : PoS → Prop} (hL : L ≤ 300) (hb : ∀ i, i < L → b i ≤ 255) : ∀ f p T u, p ≤ L → L - p < f → T.length ≤ p → CT u T → (∀ i, i < L → u.1 31 i = nI (b i)) → (∀ z, CT z (T ++ toks b L f p) → FrC u z → post z) → wl_X6_cutTokens_7 (fun v z => wp_X6_addToken 43 v 0 z post) post f (nI L) (nI p) u := by
  intro f
  induction f with
  | zero => intro p T u _ h; omega
  | succ f ih =>
    intro p T u hp hf hT hC ht H
    rw [wl_X6_cutTokens_7, q_le (by omega) (by omega)]
    rw [toks] at H
    refine ⟨fun q => ?_, fun q => ⟨by simp (disch := omega) only [q_lit, nI_add, pk_mul, q_sub, q_rem, q_div, q_vp, q_cl, q_lt, q_le, q_eq, q_neg1, gI_def]; omega, fun x2 e2 x3 e3 => ?_⟩⟩
    · rw [if_pos q] at H
      exact addX (κ := 43) (n := 0) (s := L) (e := L) hC (by omega) H
    · rw [if_neg q] at H
      rw [q_cl (by omega), gI_def, ht p (by omega)] at e2
      rw [nI_1] at e3
      subst e2; subst e3
      have hc := hb p (by omega)
      have te := tkE_b (b := b) (L := L) (p := p) (by omega)
      have blank : ∀ z : Prop, (isD (b p) = true ∨ isL (b p) = true) → b p = 32 ∨ b p = 10 → z := fun z h1 h2 => by
        exfalso
        unfold isD isL at h1
        rcases h1 with h1 | h1
        · have := of_decide_eq_true h1; omega
        · have := of_decide_eq_true h1; omega
      have go : ∀ κ n e z, (κ, n, p, e) = (tkK b L p, tkN b L p, p, tkE b L p) → ¬ (b p = 32 ∨ b p = 10) → CT z (T ++ [(κ, n, p, e)]) → FrC u z → wl_X6_cutTokens_7 (fun v z => wp_X6_addToken 43 v 0 z post) post f (nI L) (nI e) z := by
        intro κ n e z hx hn hz hf2
        rw [if_neg hn] at H
        have ee : e = tkE b L p := congrArg (fun x : Tk => x.2.2.2) hx
        rw [hx] at hz
        rw [ee]
        refine ih (tkE b L p) _ z te.2 (by omega) (by rw [List.length_append]; show T.length + 1 ≤ _; omega) hz (fun i hi => by rw [hf2.1 31 (by decide) (by decide) (by decide) (by decide)]; exact ht i hi) (fun y hy hfy => H y ?_ (hf2.t hfy))
        rw [List.append_assoc] at hy; exact hy
      refine digX hc (fun d => ⟨fun _ => ?_, fun q => absurd q (by decide)⟩) (fun d => ⟨fun q => absurd rfl q, fun _ => letX hc (fun l => ⟨fun q => absurd q (by decide), fun _ => ?_⟩) (fun l => ⟨fun _ => ⟨fun q2 => ?_, fun q2 => ⟨fun q3 => ?_, fun q3 => ?_⟩⟩, fun q => absurd rfl q⟩)⟩)
      · have nb : ¬ (b p = 32 ∨ b p = 10) := blank _ (Or.inl d)
        have ek : tkE b L p = rnE isD b L L (p + 1) := by rw [tkE, if_pos d]
        have en : tkN b L p = nmC b (tkE b L p - p) p 0 := by rw [tkN, if_pos d]
        have eK : tkK b L p = 41 := by rw [tkK, if_pos d]
        refine ⟨L + 1, runX (P := isD) hL hc hb (al_d d) ht L (p + 1) (by omega) (by omega) ?_⟩
        rw [← ek]
        refine digX hc (fun _ => ⟨fun q => absurd q (by decide), fun _ => ?_⟩) (fun q => by rw [d] at q; exact absurd q (by decide))
        have := numX (post := fun r17 u18 => wp_X6_addToken 41 (nI p) r17 u18 (fun u20 => wj_X6_cutTokens_174 (wl_X6_cutTokens_7 (fun v z => wp_X6_addToken 43 v 0 z post) post f) post (nI L) (nI (tkE b L p)) u20)) hL ht (tkE b L p - p) p 0 (by omega) (by omega) (fun i q1 q2 => by
          have hD : isD (b i) = true := by
            by_cases w : i = p
            · rw [w]; exact d
            · exact rn_in (P := isD) (b := b) (L := L) (f := L) (q := p + 1) (by omega) (by rw [← ek]; omega)
          unfold isD at hD
          exact of_decide_eq_true hD) (addX (κ := 41) (n := nmC b (tkE b L p - p) p 0) (s := p) (e := tkE b L p) hC (by omega) (fun z hz hfz => go _ _ _ z (by rw [eK, en]) nb hz hfz))
        rw [show p + (tkE b L p - p) = tkE b L p by omega] at this
        exact ⟨_, this⟩
      · have nb : ¬ (b p = 32 ∨ b p = 10) := blank _ (Or.inr l)
        have d' : ¬ isD (b p) = true := by rw [d]; decide
        have ek : tkE b L p = rnE isL b L L (p + 1) := by rw [tkE, if_neg d', if_pos l]
        have en : tkN b L p = 0 := by rw [tkN, if_neg d']
        have eK : tkK b L p = wkW b p (tkE b L p) 136 0 true := by rw [tkK, if_neg d', if_pos l]
        refine ⟨L + 1, runX (P := isL) hL hc hb (al_l d l) ht L (p + 1) (by omega) (by omega) ?_⟩
        rw [← ek]
        refine digX hc (fun q => absurd q d') (fun q => ⟨fun _ => ?_, fun q => absurd rfl q⟩)
        refine ⟨137, wordX (e := tkE b L p) hL (by omega) te.2 ht 136 0 true rfl (fun _ => by show p + 0 ≤ _; omega) ?_⟩
        rw [← eK]
        exact addX (κ := tkK b L p) (n := 0) (s := p) (e := tkE b L p) hC (by omega) (fun z hz hfz => go _ _ _ z (by rw [en]) nb hz hfz)
      · have q2 : b p = 32 := by simp (disch := omega) only [q_lit, q_eq] at q2; exact q2
        rw [if_pos (Or.inl q2)] at H
        exact ih (p + 1) T u (by omega) (by omega) (by omega) hC ht H
      · have q3 : b p = 10 := by simp (disch := omega) only [q_lit, q_eq] at q3; exact q3
        rw [if_pos (Or.inr q3)] at H
        exact ih (p + 1) T u (by omega) (by omega) (by omega) hC ht H
      · have nb : ¬ (b p = 32 ∨ b p = 10) := fun z => by
          rcases z with z | z
          · exact q2 (by rw [z]; rfl)
          · exact q3 (by rw [z]; rfl)
        have d' : ¬ isD (b p) = true := by rw [d]; decide
        have l' : ¬ isL (b p) = true := by rw [l]; decide
        have en : tkN b L p = 0 := by rw [tkN, if_neg d']
        have eK : tkK b L p = sgK (b p) (nbE b L p) := by rw [tkK, if_neg d', if_neg l']
        have sb := sg_b (b p) (nbE b L p)
        have nbb : nbE b L p ≤ 255 := by
          unfold nbE
          split
          · exact hb _ (by omega)
          · omega
        have fin : wj_X6_cutTokens_131 (wl_X6_cutTokens_7 (fun v z => wp_X6_addToken 43 v 0 z post) post f) post (nI L) (nI p) (nI (b p)) (nI (p + 1)) (nI (nbE b L p)) u := by
          refine signX hc nbb ?_
          refine addX (κ := sgK (b p) (nbE b L p)) (n := 0) (s := p) (e := tkE b L p) hC (by omega) (fun z hz hfz => ?_)
          have g := go _ _ _ z (by rw [eK, en]) nb hz hfz
          by_cases w : 39 ≤ sgK (b p) (nbE b L p) ∧ sgK (b p) (nbE b L p) ≤ 40
          · rw [show tkE b L p = p + 2 by rw [tkE, if_neg d', if_neg l', if_pos w]] at g
            refine ⟨fun q => absurd q (by simp (disch := omega) only [q_lit, nI_add, pk_mul, q_sub, q_rem, q_div, q_vp, q_cl, q_lt, q_le, q_eq, q_neg1, gI_def]; omega), fun _ => ⟨fun q => absurd q (by simp (disch := omega) only [q_lit, nI_add, pk_mul, q_sub, q_rem, q_div, q_vp, q_cl, q_lt, q_le, q_eq, q_neg1, gI_def]; omega), fun _ x28 ex => ?_⟩⟩
            rw [nI_1] at ex
            subst ex
            exact g
          · rw [show tkE b L p = p + 1 by rw [tkE, if_neg d', if_neg l', if_neg w]] at g
            have a : ∀ x28 : Int32, x28 = nI (p + 1) + 0 → wj_X6_cutTokens_174 (wl_X6_cutTokens_7 (fun v z => wp_X6_addToken 43 v 0 z post) post f) post (nI L) x28 z := fun x28 ex => by
              rw [Int32.add_zero] at ex
              subst ex
              exact g
            refine ⟨fun _ => a, fun q => ⟨fun _ => a, fun q2 => ?_⟩⟩
            exfalso
            simp (disch := omega) only [q_lit, q_lt] at q q2
            omega
        refine ⟨fun q4 => ?_, fun q4 => ⟨by simp (disch := omega) only [q_le] at q4; simp (disch := omega) only [q_lit, nI_add, pk_mul, q_sub, q_rem, q_div, q_vp, q_cl, q_lt, q_le, q_eq, q_neg1, gI_def]; omega, ?_⟩⟩
        · have : nbE b L p = 0 := by
            simp (disch := omega) only [q_lit, q_le] at q4
            rw [nbE, if_neg (by omega)]
          rw [this] at fin; exact fin
        · have : nbE b L p = b (p + 1) := by
            simp (disch := omega) only [q_lit, q_le] at q4
            rw [nbE, if_pos (by omega)]
          simp (disch := omega) only [q_lit, q_le] at q4
          rw [this] at fin
          rw [q_cl (by omega), gI_def, ht _ (by omega)]; exact fin
theorem cutX {b : Nat → Nat} {L : Nat} {post : PoS → Prop} {u : PoS} (hL : L ≤ 300) (hb : ∀ i, i < L → b i ≤ 255) (ht : ∀ i, i < L → u.1 31 i = nI (b i)) (H : ∀ z, CT z (toks b L (L + 1) 0) → FrC u z → post z) : wp_X6_cutTokens (nI L) u post := by
  intro z1 e1
  subst e1
  refine ⟨L + 1, cutL hL hb (L + 1) 0 [] _ (Nat.zero_le _) (by omega) (Nat.le_refl _) ⟨by rw [pI_s, up_eq]; rfl, fun k x h => absurd h (by simp)⟩ (fun i hi => by rw [pI_o (by decide)]; exact ht i hi) (fun z hz hf => H z hz (FrC.t ⟨fun j a _ _ _ => pI_o a, fun i hi => by rw [pI_s, up_ne hi], rfl⟩ hf))⟩
