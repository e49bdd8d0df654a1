/-! OBLIGATIONS: wettest, ledger, book, end, seen, said -/
theorem ppl {r a : Nat → Int32} (h : RowOk r a) : ∃ n, n ≤ 5 ∧ a 0 = nI n ∧ r 84 = nI n ∧ nN (a 0) = n := by
  obtain ⟨n, hn, e⟩ := h.2.1.1
  exact ⟨n, hn, e, by rw [h.1.1, e], by rw [e, nN_nI (by omega)]⟩
/-- what a PERSON is: its cell, without, wet, been (o = 0, 1, 2, 3) -/
theorem per_of {r a : Nat → Int32} (h : RowOk r a) {p : Nat} (hp : p < nN (a 0)) : ∃ c w t b : Nat, c ≤ 29 ∧ w ≤ 1 ∧ t ≤ 99 ∧ b ≤ 999 ∧ p < 5 ∧ a (10 + 6 * p) = nI c ∧ r p = nI c ∧ a (11 + 6 * p) = nI w ∧ r (5 + p) = nI w ∧ a (12 + 6 * p) = nI t ∧ r (10 + p) = nI t ∧ a (13 + 6 * p) = nI b ∧ r (15 + p) = nI b := by
  obtain ⟨n, hn, e1, e2, e3⟩ := ppl h
  obtain ⟨⟨f1, f2, f3, f4⟩, ⟨c, hc, g1⟩, ⟨w, hw, g2⟩, ⟨t, ht, g3⟩, ⟨b, hb, g4⟩, -⟩ := h.2.2.1 p (by omega) hp
  exact ⟨c, w, t, b, hc, hw, ht, hb, by omega, g1, by rw [f1, g1], g2, by rw [f2, g2], g3, by rw [f3, g3], g4, by rw [f4, g4]⟩
theorem perX {a : Nat → Int32} {u : PoS} (h : RowOk (u.1 3) a) {x : Int32} {post : Int32 → PoS → Prop} (h1 : ∀ p, p < nN (a 0) → x = nI p → post 1 u) (h0 : (x < 0 ∨ nI (nN (a 0)) ≤ x) → post 0 u) : wp_X11_isPerson x u post := by
  obtain ⟨n, hn, e1, e2, e3⟩ := ppl h
  refine ⟨fun q => h0 (Or.inl q), fun q => ⟨fun z => h0 (Or.inr ?_), fun z => ?_⟩⟩
  · rw [gI_def, e2] at z; rw [e3]; exact z
  · obtain ⟨p, hp, rfl⟩ := nI_of q
    rw [gI_def, e2, q_le (by omega) hp] at z
    exact h1 p (by omega) rfl
theorem inM1 {n : Nat} (hn : n < 2 ^ 30) {x : Int32} {u : PoS} {post : Int32 → PoS → Prop} (h1 : ∀ p, p < n → x = nI p → post 1 u) (h0 : (x < 0 ∨ nI n ≤ x) → post 0 u) : wp_X12_isIn x 0 (nI n - 1) u post := by
  refine isIn_c (fun q z => ?_) (fun q => ?_)
  · obtain ⟨p, hp, rfl⟩ := nI_of q
    refine h1 p ?_ rfl
    rw [fa_lt', nI_toInt hp, show (1 : Int32) = nI 1 from rfl, pk_sub_toInt (by omega) (by omega)] at z
    omega
  · rcases q with q | q
    · exact h0 (Or.inl q)
    · by_cases g : x < 0
      · exact h0 (Or.inl g)
      · obtain ⟨p, hp, rfl⟩ := nI_of g
        rw [fa_lt', nI_toInt hp, show (1 : Int32) = nI 1 from rfl, pk_sub_toInt (by omega) (by omega)] at q
        exact h0 (Or.inr (nI_le (by omega) hp))
theorem perM {r : Nat → Int32} {u : PoS} (h : RowOk r (u.1 49)) {x : Int32} {post : Int32 → PoS → Prop} (h1 : ∀ p, p < nN (u.1 49 0) → x = nI p → post 1 u) (h0 : (x < 0 ∨ nI (nN (u.1 49 0)) ≤ x) → post 0 u) : wp_X12_isPerson x u post := by
  obtain ⟨n, hn, e1, e2, e3⟩ := ppl h
  unfold wp_X12_isPerson
  rw [gI_def, e1]
  rw [e3] at h1 h0
  exact inM1 (by omega) (fun p hp e => ⟨Or.inr rfl, h1 p hp e⟩) (fun q => ⟨Or.inl rfl, h0 q⟩)
theorem getM {u : PoS} {p o : Nat} (hp : p < 5) (ho : o < 6) {post : Int32 → PoS → Prop} (K : post (u.1 49 (10 + 6 * p + o)) u) : wp_X12_get (nI p) (nI o) u post := by
  unfold wp_X12_get
  simp (disch := omega) only [q_lit, nI_add, pk_mul, q_sub, q_rem, q_div, q_vp, q_cl, q_lt, q_le, q_eq, q_neg1, gI_def]
  exact ⟨by omega, K⟩
def wetF (a : Nat → Int32) (p : Nat) : Nat := nN (a (12 + 6 * p))
theorem wetF_of {r a : Nat → Int32} (h : RowOk r a) {p : Nat} (hp : p < nN (a 0)) : wetF a p ≤ 99 ∧ a (12 + 6 * p) = nI (wetF a p) ∧ r (10 + p) = nI (wetF a p) ∧ p < 5 := by
  obtain ⟨c, w, t, b, hc, hw, ht, hb, h5, e1, e2, e3, e4, e5, e6, e7, e8⟩ := per_of h hp
  unfold wetF
  rw [e5, nN_nI (by omega)]
  exact ⟨ht, rfl, e6, h5⟩
theorem weX {a : Nat → Int32} {u : PoS} (h : RowOk (u.1 3) a) (post : Int32 → PoS → Prop) (hK : post (mostF (wetF a) (nN (a 0))).1 u) : ∀ k c, c + k = nN (a 0) → wl_X11_wettest_6 post (k + 1) (mostF (wetF a) c).1 (nI (mostF (wetF a) c).2) (nI c) u := by
  intro k
  obtain ⟨n, hn, e1, e2, e3⟩ := ppl h
  induction k with
  | zero => intro c hc; rw [show nN (a 0) = c by omega] at hK
            rw [wl_X11_wettest_6, gI_def, e2, show c = n by omega]; rw [show c = n by omega] at hK
            exact ⟨fun _ => hK, fun q => absurd (nI_le (Nat.le_refl n) (by omega)) q⟩
  | succ k ih =>
    intro c hc
    obtain ⟨hl, g1, g2, g5⟩ := wetF_of h (show c < nN (a 0) by omega)
    have hm : (mostF (wetF a) c).2 ≤ 99 := by
      rcases mostF_is (wetF a) c with e | ⟨j, hj, e⟩
      · rw [e]; decide
      · rw [e]; exact (wetF_of h (show j < nN (a 0) by omega)).1
    have := ih (c + 1) (by omega)
    rw [mostF] at this
    rw [wl_X11_wettest_6]
    simp (disch := omega) only [q_lit, nI_add, pk_mul, q_sub, q_rem, q_div, q_vp, q_cl, q_lt, q_le, q_eq, q_neg1, gI_def, e2, g2]
    refine ⟨fun q => by omega, fun _ => ⟨by omega, fun q => ?_, fun q => ⟨by omega, fun x1 ex => ?_⟩⟩⟩
    · unfold wj_X11_wettest_42
      rw [nI_1]
      rw [if_neg (by omega)] at this; exact this
    · unfold wj_X11_wettest_42
      rw [nI_1, ex]
      rw [if_pos (by omega)] at this; exact this
theorem weM {r : Nat → Int32} {u : PoS} (h : RowOk r (u.1 49)) (post : Int32 → PoS → Prop) (hK : post (mostF (wetF (u.1 49)) (nN (u.1 49 0))).1 u) : ∀ k c, c + k = nN (u.1 49 0) → wl_X12_wettest_4 post (k + 1) (mostF (wetF (u.1 49)) c).1 (nI c) u := by
  intro k
  obtain ⟨n, hn, e1, e2, e3⟩ := ppl h
  induction k with
  | zero => intro c hc; rw [show nN (u.1 49 0) = c by omega] at hK
            rw [wl_X12_wettest_4, gI_def, e1, show c = n by omega]; rw [show c = n by omega] at hK
            exact ⟨fun _ => hK, fun q => absurd (nI_le (Nat.le_refl n) (by omega)) q⟩
  | succ k ih =>
    intro c hc
    obtain ⟨hl, g1, g2, g5⟩ := wetF_of h (show c < nN (u.1 49 0) by omega)
    have := ih (c + 1) (by omega)
    rw [mostF] at this
    rw [wl_X12_wettest_4, gI_def, e1, q_le (by omega) (by omega)]
    refine ⟨fun q => by omega, fun _ => getM (o := 2) g5 (by decide) ?_⟩
    rw [show 10 + 6 * c + 2 = 12 + 6 * c by omega, g1]
    refine ⟨fun q => ?_, fun q => ?_⟩
    · rcases mostF_is (wetF (u.1 49)) c with e | ⟨j, hj, e⟩
      · rw [e] at q; exact absurd rfl q
      · obtain ⟨hl2, k1, k2, k5⟩ := wetF_of h (show j < nN (u.1 49 0) by omega)
        rw [e] at this ⊢
        refine getM (o := 2) k5 (by decide) ?_
        rw [show 10 + 6 * j + 2 = 12 + 6 * j by omega, k1]
        unfold wj_X12_wettest_35
        rw [q_le (by omega) (by omega)]
        refine ⟨fun z => ?_, fun z => ?_⟩
        · unfold wj_X12_wettest_40; rw [nI_1]
          rw [if_neg (by simp only; omega)] at this; exact this
        · unfold wj_X12_wettest_40; rw [nI_1]
          rw [if_pos (by simp only; omega)] at this; exact this
    · rcases mostF_is (wetF (u.1 49)) c with e | ⟨j, hj, e⟩
      · rw [e] at this ⊢
        unfold wj_X12_wettest_35
        rw [show (0 : Int32) = nI 0 from rfl, q_le (by omega) (by omega)]
        refine ⟨fun z => ?_, fun z => ?_⟩
        · unfold wj_X12_wettest_40; rw [nI_1]
          rw [if_neg (by simp only; omega)] at this; exact this
        · unfold wj_X12_wettest_40; rw [nI_1]
          rw [if_pos (by simp only; omega)] at this; exact this
      · rw [e] at q
        rw [show (1 : Int32) = nI 1 from rfl] at q
        rw [q_neg1 (by omega)] at q; exact q.elim
theorem ob_wettest (LT : Nat → PoS → Prop) : Ob32 wp_X11_wettest wp_X12_wettest (Inv LT) :=
  ob_same (fun u => (mostF (wetF (u.1 49)) (nN (u.1 49 0))).1) (fun u hI K hK => ⟨_, weX hI.1 _ hK _ 0 (Nat.zero_add _)⟩) (fun u hI K hK => ⟨_, weM hI.1 _ hK _ 0 (Nat.zero_add _)⟩)
theorem rns {r a : Nat → Int32} (h : RowOk r a) : ∃ n, n ≤ 30 ∧ a 9 = nI n ∧ r 53 = nI n ∧ nN (a 9) = n := by
  obtain ⟨n, hn, e⟩ := h.2.1.2.2.2.2.2.2.2.2.2.1
  exact ⟨n, hn, e, by rw [h.1.2.2.2.2.2.2.2.2.2, e], by rw [e, nN_nI (by omega)]⟩
theorem withinX1 {n : Nat} (hn : n < 2 ^ 30) {x : Int32} {u : PoS} {post : Int32 → PoS → Prop} (h1 : ∀ p, p < n → x = nI p → post 1 u) (h0 : (x < 0 ∨ nI n ≤ x) → post 0 u) : wp_X11_isWithin x 0 (nI n - 1) u post := inM1 hn h1 h0
theorem wh4 (x : Int32) : x = nI 0 ∨ x = nI 1 ∨ x = nI 2 ∨ x = nI 3 ∨ (¬ x = 0 ∧ ¬ x = 1 ∧ ¬ x = 2 ∧ ¬ x = 3) := by
  by_cases h0 : x = nI 0
  · exact Or.inl h0
  by_cases h1 : x = nI 1
  · exact Or.inr (Or.inl h1)
  by_cases h2 : x = nI 2
  · exact Or.inr (Or.inr (Or.inl h2))
  by_cases h3 : x = nI 3
  · exact Or.inr (Or.inr (Or.inr (Or.inl h3)))
  · exact Or.inr (Or.inr (Or.inr (Or.inr ⟨h0, h1, h2, h3⟩)))
/-- the rain k of the BOOK: MINUTE, PERSON, CELL, WATER (what = 0, 1, 2, 3) -/
def rnF (a : Nat → Int32) (k what : Nat) : Nat := if what = 0 then nN (a (3643 + 2 * k)) else if what = 1 then nN (a (3644 + 2 * k)) / 3000 else if what = 2 then nN (a (3644 + 2 * k)) / 100 % 30 else nN (a (3644 + 2 * k)) % 100
theorem rn_of {r a : Nat → Int32} (h : RowOk r a) {k : Nat} (hk : k < nN (a 9)) : ∃ m p c w : Nat, m ≤ 9999 ∧ p < 5 ∧ c < 30 ∧ w < 10 ∧ k < 30 ∧ r (54 + k) = nI (((m * 5 + p) * 30 + c) * 10 + w) ∧ a (3643 + 2 * k) = nI m ∧ a (3644 + 2 * k) = nI ((p * 30 + c) * 100 + w) ∧ rnF a k 0 = m ∧ rnF a k 1 = p ∧ rnF a k 2 = c ∧ rnF a k 3 = w := by
  obtain ⟨n, hn, e1, e2, e3⟩ := rns h
  obtain ⟨m, p, c, w, hm, hp, hc, hw, f1, f2, f3⟩ := h.2.2.2.2.2.2.2.1 k (by omega) hk
  refine ⟨m, p, c, w, hm, hp, hc, hw, by omega, f1, f2, f3, ?_, ?_, ?_, ?_⟩
  · simp only [rnF, if_true]; rw [f2, nN_nI (by omega)]
  · simp only [rnF]; rw [if_neg (by decide), if_pos trivial, f3, nN_nI (by omega)]; omega
  · simp only [rnF]; rw [if_neg (by decide), if_neg (by decide), if_pos trivial, f3, nN_nI (by omega)]; omega
  · simp only [rnF]; rw [if_neg (by decide), if_neg (by decide), if_neg (by decide), f3, nN_nI (by omega)]; omega
theorem bookM {r : Nat → Int32} {u : PoS} (h : RowOk r (u.1 49)) {k what : Nat} (hk : k < nN (u.1 49 9)) (hw : what < 4) {post : Int32 → PoS → Prop} (K : post (nI (rnF (u.1 49) k what)) u) : wp_X12_book (nI k) (nI what) u post := by
  obtain ⟨n, hn, e1, e2, e3⟩ := rns h
  obtain ⟨m, p, c, w, hm, hp, hc, hw, h30, f1, f2, f3, g0, g1, g2, g3⟩ := rn_of h hk
  refine ⟨fun _ => ?_, fun q => ?_⟩
  · rw [gI_def, e1]
    refine inM1 (by omega) (fun p' hp' e => ?_) (fun q => ?_)
    · refine ⟨fun _ => ?_, fun q => absurd q (by decide)⟩
      simp (disch := omega) only [q_lit, nI_add, pk_mul, q_sub, q_rem, q_div, q_vp, q_cl, q_lt, q_le, q_eq, q_neg1, gI_def]
      refine ⟨by omega, fun x3 e => ?_⟩
      rw [show 3643 + 2 * k + 1 = 3644 + 2 * k by omega, f3] at e
      subst e
      rw [f2]
      refine ⟨fun q => ⟨fun q1 => ⟨fun q2 => ⟨fun q3 => by omega, fun q3 => ?_⟩, fun q2 => ?_⟩, fun q1 => ?_⟩, fun q => ⟨by omega, ?_⟩⟩
      · subst q3; rw [g3] at K; simp (disch := omega) only [q_lit, nI_add, pk_mul, q_sub, q_rem, q_div, q_vp, q_cl, q_lt, q_le, q_eq, q_neg1, gI_def]; rw [show ((p * 30 + c) * 100 + w) % 100 = w by omega]; exact K
      · subst q2; rw [g2] at K; simp (disch := omega) only [q_lit, nI_add, pk_mul, q_sub, q_rem, q_div, q_vp, q_cl, q_lt, q_le, q_eq, q_neg1, gI_def]; rw [show ((p * 30 + c) * 100 + w) / 100 % 30 = c by omega]; exact K
      · subst q1; rw [g1] at K; simp (disch := omega) only [q_lit, nI_add, pk_mul, q_sub, q_rem, q_div, q_vp, q_cl, q_lt, q_le, q_eq, q_neg1, gI_def]; rw [show ((p * 30 + c) * 100 + w) / 3000 = p by omega]; exact K
      · subst q; rw [g0] at K; exact K
    · rcases q with q | q
      · exact absurd q (nI_pos (by omega))
      · rw [q_le (by omega) (by omega)] at q; omega
  · rw [show (1 : Int32) = nI 1 from rfl, q_neg1 (by omega)] at q; exact q.elim
theorem ob_book (LT : Nat → PoS → Prop) (a1 a2 : Int32) : Ob32 (wp_X11_book a1 a2) (wp_X12_book a1 a2) (Inv LT) := by
  intro u hI
  obtain ⟨n, hn, e1, e2, e3⟩ := rns hI.1
  by_cases h1 : a1 = -1
  · exact ⟨fun r u1 => r = nI n ∧ u1 = u, fun K hK => ⟨fun q => absurd h1 q, fun _ => hK _ _ ⟨by rw [gI_def, e2], rfl⟩⟩, fun r u1 hr K hK => by obtain ⟨rfl, rfl⟩ := hr; exact ⟨fun q => absurd h1 q, fun _ => by rw [gI_def, e1]; exact hK _ hI⟩⟩
  by_cases hk : ∃ k, k < n ∧ a1 = nI k
  · obtain ⟨k, hk, rfl⟩ := hk
    obtain ⟨m, p, c, w, hm, hp, hc, hw, h30, f1, f2, f3, g0, g1, g2, g3⟩ := rn_of hI.1 (show k < nN (u.1 49 9) by omega)
    have hx : ∀ (K : Int32 → PoS → Prop), (∀ what, what < 4 → a2 = nI what → K (nI (rnF (u.1 49) k what)) u) → (¬ a2 = 0 → ¬ a2 = 1 → ¬ a2 = 2 → ¬ a2 = 3 → K (-2) u) → wp_X11_book (nI k) a2 u K := by
      intro K h4 h5
      refine ⟨fun _ => ?_, fun q => absurd q h1⟩
      rw [gI_def, e2]
      refine withinX1 (by omega) (fun p' hp' e => ⟨fun _ => ?_, fun q => absurd q (by decide)⟩) (fun q => ?_)
      · simp (disch := omega) only [q_lit, nI_add, pk_mul, q_sub, q_rem, q_div, q_vp, q_cl, q_lt, q_le, q_eq, q_neg1, gI_def]
        rw [f1]
        refine ⟨by omega, fun x3 e => ?_⟩
        subst e
        refine ⟨fun q => ?_, fun q => ?_, fun q => ?_, fun q => ?_, h5⟩
        · have := h4 0 (by decide) q; rw [g0] at this; unfold wp_X5_minuteIn; simp (disch := omega) only [q_lit, nI_add, pk_mul, q_sub, q_rem, q_div, q_vp, q_cl, q_lt, q_le, q_eq, q_neg1, gI_def]
          rw [show (((m * 5 + p) * 30 + c) * 10 + w) / 10 / 30 / 5 = m by omega]; exact this
        · have := h4 1 (by decide) q; rw [g1] at this; unfold wp_X5_personIn; simp (disch := omega) only [q_lit, nI_add, pk_mul, q_sub, q_rem, q_div, q_vp, q_cl, q_lt, q_le, q_eq, q_neg1, gI_def]
          rw [show (((m * 5 + p) * 30 + c) * 10 + w) / 10 / 30 % 5 = p by omega]; exact this
        · have := h4 2 (by decide) q; rw [g2] at this; unfold wp_X5_cellIn; simp (disch := omega) only [q_lit, nI_add, pk_mul, q_sub, q_rem, q_div, q_vp, q_cl, q_lt, q_le, q_eq, q_neg1, gI_def]
          rw [show (((m * 5 + p) * 30 + c) * 10 + w) / 10 % 30 = c by omega]; exact this
        · have := h4 3 (by decide) q; rw [g3] at this; unfold wp_X5_waterIn; simp (disch := omega) only [q_lit, nI_add, pk_mul, q_sub, q_rem, q_div, q_vp, q_cl, q_lt, q_le, q_eq, q_neg1, gI_def]
          rw [show (((m * 5 + p) * 30 + c) * 10 + w) % 10 = w by omega]; exact this
      · rcases q with q | q
        · exact absurd q (nI_pos (by omega))
        · rw [q_le (by omega) (by omega)] at q; omega
    rcases Classical.em (∃ what, what < 4 ∧ a2 = nI what) with ⟨what, h4, rfl⟩ | h4
    · refine ⟨fun r u1 => r = nI (rnF (u.1 49) k what) ∧ u1 = u, fun K hK => hx K (fun w' h4' e => ?_) (fun q0 q1 q2 q3 => ?_), fun r u1 hr K hK => by obtain ⟨rfl, rfl⟩ := hr; exact bookM hI.1 (by omega) h4 (hK _ hI)⟩
      · have := (nI_eq (by omega) (by omega)).mp e; subst this; exact hK _ _ ⟨rfl, rfl⟩
      · exfalso
        match what, h4 with
        | 0, _ => exact q0 rfl
        | 1, _ => exact q1 rfl
        | 2, _ => exact q2 rfl
        | 3, _ => exact q3 rfl
    · refine ⟨fun r u1 => r = -2 ∧ u1 = u, fun K hK => hx K (fun w' h4' e => absurd ⟨w', h4', e⟩ h4) (fun _ _ _ _ => hK _ _ ⟨rfl, rfl⟩), fun r u1 hr K hK => ?_⟩
      obtain ⟨rfl, rfl⟩ := hr
      refine ⟨fun _ => ?_, fun q => absurd q h1⟩
      rw [gI_def, e1]
      refine inM1 (by omega) (fun p' hp' e => ⟨fun _ => ?_, fun q => absurd q (by decide)⟩) (fun q => ?_)
      · rw [show (3643 : Int32) + 2 * nI k + 1 = nI (3643 + 2 * k + 1) by simp (disch := omega) only [q_lit, nI_add, pk_mul, q_sub, q_rem, q_div, q_vp, q_cl, q_lt, q_le, q_eq, q_neg1, gI_def], q_vp (by omega) (by omega)]
        refine ⟨by omega, fun x3 e => ⟨fun _ => ⟨fun _ => ⟨fun _ => ⟨fun _ => hK _ hI, fun q => absurd ⟨3, by decide, q⟩ h4⟩, fun q => absurd ⟨2, by decide, q⟩ h4⟩, fun q => absurd ⟨1, by decide, q⟩ h4⟩, fun q => absurd ⟨0, by decide, q⟩ h4⟩⟩
      · rcases q with q | q
        · exact absurd q (nI_pos (by omega))
        · rw [q_le (by omega) (by omega)] at q; omega
  · refine ⟨fun r u1 => r = -2 ∧ u1 = u, fun K hK => ⟨fun _ => ?_, fun q => absurd q h1⟩, fun r u1 hr K hK => ?_⟩
    · rw [gI_def, e2]
      exact withinX1 (by omega) (fun p' hp' e => absurd ⟨p', hp', e⟩ hk) (fun _ => ⟨fun q => absurd rfl q, fun _ => hK _ _ ⟨rfl, rfl⟩⟩)
    · obtain ⟨rfl, rfl⟩ := hr
      refine ⟨fun _ => ?_, fun q => absurd q h1⟩
      rw [gI_def, e1]
      exact inM1 (by omega) (fun p' hp' e => absurd ⟨p', hp', e⟩ hk) (fun _ => ⟨fun q => absurd rfl q, fun _ => hK _ hI⟩)
