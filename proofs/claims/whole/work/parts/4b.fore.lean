/-! WHAT COMES: foretold, when -/
section FORE
variable {w : Nat → (Nat → Int32) → Nat → Int32 → Int32} {q : Nat → (Nat → Int32) → Nat → Int32}
theorem Liv.cg {ρ ρ' a : Nat → Int32} (h : Liv ρ a) (hr : ∀ i, i < 117 → ρ' i = ρ i) : Liv ρ' a := by
  obtain ⟨⟨l0, l2, l6, l7, l8⟩, ⟨m0, m1, m2, m6, m7, m8, m9⟩, l3, l4⟩ := h
  exact ⟨⟨by rw [hr 84 (by omega)]; exact l0, by rw [hr 116 (by omega)]; exact l2, by rw [hr 51 (by omega)]; exact l6, by rw [hr 50 (by omega)]; exact l7, by rw [hr 52 (by omega)]; exact l8⟩, ⟨m0, m1, m2, m6, m7, m8, by rw [hr 53 (by omega)]; exact m9⟩, l3.congr (fun i hi => hr i (by omega)) rfl (fun _ _ _ => rfl), l4.congr (fun i _ hi => hr i (by omega)) (hr 85 (by omega)) (fun i _ hi => hr i (by omega)) (fun _ _ _ => rfl)⟩
def fwA (w : Nat → (Nat → Int32) → Nat → Int32 → Int32) (q : Nat → (Nat → Int32) → Nat → Int32) (a : Nat → Int32) : Nat → Nat → Int32
  | 0 => a
  | k + 1 => psA w q false (fwA w q a k)
def fwR (w : Nat → (Nat → Int32) → Nat → Int32 → Int32) (q : Nat → (Nat → Int32) → Nat → Int32) (ρ a : Nat → Int32) : Nat → Nat → Int32
  | 0 => ρ
  | k + 1 => prR w q (fwR w q ρ a k) (fwA w q a k)
theorem psA_hi {ρ a : Nat → Int32} (h : Liv ρ a) {i : Nat} (hi : 3643 ≤ i) : psA w q false a i = a i := by
  obtain ⟨n, hn, e1, e2, e3⟩ := h.ppl
  unfold psA
  rw [up_ne (by omega), dcA_out _ _ _ i (fun p hp => by omega)]
  unfold ps1
  by_cases z : gol w a = -1
  · rw [if_pos z]; simp (disch := omega) only [gI_def, pI_s, pI_o, cI_s, cI_o, pL_1, pR_1, up_eq, up_ne]
  · rw [if_neg z]
    by_cases y : a (10 + 6 * nN (gol w a)) = a 7
    · rw [if_pos y]
      obtain ⟨p, g1, g2, g3, g4, g5⟩ := gol_p h z
      obtain ⟨a1, a2, a3, a4⟩ := atF_of h g1
      rw [g3]; unfold rnA; rw [if_neg (by decide)]; exact rnB_lo a1 g4 (by omega)
    · rw [if_neg y]; simp (disch := omega) only [gI_def, pI_s, pI_o, cI_s, cI_o, pL_1, pR_1, up_eq, up_ne]
theorem fw_ok {u : PoS} {T : Nat} {ρ a : Nat → Int32} (h : Liv ρ a) (h9 : Sm 30 (a 9)) (hT : nN (a 1) = T) (hC : Ctx u T w q) : ∀ k, nN (a 6) + k ≤ 9999 → Liv (fwR w q ρ a k) (fwA w q a k) ∧ fwA w q a k 6 = nI (nN (a 6) + k) ∧ fwA w q a k 9 = a 9 ∧ ∀ i, i < 6 ∨ 70 ≤ i → fwA w q a k i = a i := by
  intro k
  induction k with
  | zero => intro _; exact ⟨h, h.min.2.1, rfl, fun _ _ => rfl⟩
  | succ k ih =>
    intro hk
    obtain ⟨i1, i2, i3, i4⟩ := ih (by omega)
    obtain ⟨k9, hk9, e9⟩ := h9
    have e9' : fwA w q a k 9 = nI k9 := by rw [i3]; exact e9
    have n6 : nN (fwA w q a k 6) = nN (a 6) + k := by rw [i2, nN_nI (by omega)]
    obtain ⟨l1, l2, l3, l4, l5⟩ := live_pass (w := w) (q := q) i1 (pvl_sm (T := T) hC (by
      have := i1.txt
      rw [i4 1 (by omega), hT] at this
      exact this)) hk9 e9' (by omega)
    obtain ⟨m53, hm53, em53⟩ := l1.2.1.2.2.2.2.2.2
    rw [fwR, fwA]
    refine ⟨l1.bk (fun _ _ => rfl) ⟨m53, hm53, em53⟩ (fun i j9 hi => psA_wr i1 hk9 e9' false hi j9), ?_, by rw [psA_9 i1]; exact i3, fun i hi => ?_⟩
    · rw [psA_wr i1 hk9 e9' false (by omega) (by omega), l4, n6, Nat.add_assoc]
    · rcases Nat.lt_or_ge i 3643 with z | z
      · rw [psA_wr i1 hk9 e9' false (by omega) (by omega), l3 i (by omega)]; exact i4 i hi
      · rw [psA_hi i1 z]; exact i4 i hi
theorem setAsideM {u : PoS} {post : PoS → Prop} (K : ∀ z, (∀ j, j ≠ 58 → j ≠ 48 → z.1 j = u.1 j) → (∀ i, 6 ≤ i → i < 70 → z.1 58 i = u.1 49 i) → z.1 48 = up (u.1 48) 24 0 → post z) : wp_X12_setAside u post := by
  refine ⟨65, ?_⟩
  have lp : ∀ m k, k + m = 70 → 6 ≤ k → ∀ z : PoS, (∀ j, j ≠ 58 → z.1 j = u.1 j) → (∀ i, 6 ≤ i → i < k → z.1 58 i = u.1 49 i) → wl_X12_setAside_3 (fun (u3 : PoS) => ∀ z4 : PoS, z4 = pI u3 48 24 0 → post z4) post (m + 1) (nI k) z := by
    intro m
    induction m with
    | zero =>
      intro k hk _ z f g
      obtain rfl : k = 70 := by omega
      rw [wl_X12_setAside_3]
      refine ⟨fun _ z4 e4 => K z4 (fun j h1 h2 => by rw [e4, pI_o h2]; exact f j h1) (fun i h1 h2 => by rw [e4, pI_o (by decide)]; exact g i h1 h2) (by rw [e4, pI_s, f 48 (by decide)]), fun h => absurd (by decide) h⟩
    | succ m ih =>
      intro k hk h6 z f g
      rw [wl_X12_setAside_3, q_vp (by omega) (by omega), q_vp (by omega) (by omega), q_cl (by omega), gI_def, f 49 (by decide)]
      refine ⟨fun h => absurd h (nI_ge (b := 70) (by omega) (by decide)), fun _ => ⟨by omega, by omega, fun z1 e1 => ?_⟩⟩
      rw [nI_1]
      refine ih (k + 1) (by omega) (by omega) z1 (fun j hj => by rw [e1, pI_o hj]; exact f j hj) (fun i h1 h2 => ?_)
      rw [e1, pI_s]
      by_cases e : i = k
      · rw [e, up_eq]
      · rw [up_ne e]; exact g i h1 (by omega)
  exact lp 64 6 rfl (by decide) u (fun _ _ => rfl) (fun i h1 h2 => by omega)
theorem putBackM {u : PoS} {post : PoS → Prop} (K : ∀ z, (∀ j, j ≠ 49 → j ≠ 48 → z.1 j = u.1 j) → (∀ i, z.1 49 i = if 6 ≤ i ∧ i < 70 then u.1 58 i else u.1 49 i) → z.1 48 = up (u.1 48) 24 1 → post z) : wp_X12_putBack u post := by
  refine ⟨65, ?_⟩
  have lp : ∀ m k, k + m = 70 → 6 ≤ k → ∀ z : PoS, (∀ j, j ≠ 49 → z.1 j = u.1 j) → (∀ i, z.1 49 i = if 6 ≤ i ∧ i < k then u.1 58 i else u.1 49 i) → wl_X12_putBack_3 (fun (u3 : PoS) => ∀ z4 : PoS, z4 = pI u3 48 24 1 → post z4) post (m + 1) (nI k) z := by
    intro m
    induction m with
    | zero =>
      intro k hk _ z f g
      obtain rfl : k = 70 := by omega
      rw [wl_X12_putBack_3]
      refine ⟨fun _ z4 e4 => K z4 (fun j h1 h2 => by rw [e4, pI_o h2]; exact f j h1) (fun i => by rw [e4, pI_o (by decide)]; exact g i) (by rw [e4, pI_s, f 48 (by decide)]), fun h => absurd (by decide) h⟩
    | succ m ih =>
      intro k hk h6 z f g
      rw [wl_X12_putBack_3, q_vp (by omega) (by omega), q_vp (by omega) (by omega), q_cl (by omega), gI_def, f 58 (by decide)]
      refine ⟨fun h => absurd h (nI_ge (b := 70) (by omega) (by decide)), fun _ => ⟨by omega, by omega, fun z1 e1 => ?_⟩⟩
      rw [nI_1]
      refine ih (k + 1) (by omega) (by omega) z1 (fun j hj => by rw [e1, pI_o hj]; exact f j hj) (fun i => ?_)
      rw [e1, pI_s]
      by_cases e : i = k
      · rw [e, up_eq, if_pos (by omega)]
      · rw [up_ne e, g i]
        by_cases y : 6 ≤ i ∧ i < k
        · rw [if_pos y, if_pos (by omega)]
        · rw [if_neg y, if_neg (by omega)]
  exact lp 64 6 rfl (by decide) u (fun _ _ => rfl) (fun i => by rw [if_neg (by omega)])
/-- behind setAside, MINUTES, putBack: all is as it was -/
theorem backI {u u1 z2 z3 z4 : PoS} {a : Nat → Int32} (hI : Inv LTx u) (ea : u.1 49 = a) (h1 : ∀ j, j ≠ 4 → j ≠ 47 → u1.1 j = u.1 j) (s1 : ∀ j, j ≠ 58 → j ≠ 48 → z2.1 j = u1.1 j) (s2 : ∀ i, 6 ≤ i → i < 70 → z2.1 58 i = u1.1 49 i) (s3 : z2.1 48 = up (u1.1 48) 24 0) (f3 : FrR z2 z3) (g3 : ∀ i, i < 6 ∨ 70 ≤ i → z3.1 49 i = a i) (b1 : ∀ j, j ≠ 49 → j ≠ 48 → z4.1 j = z3.1 j) (b2 : ∀ i, z4.1 49 i = if 6 ≤ i ∧ i < 70 then z3.1 58 i else z3.1 49 i) (b3 : z4.1 48 = up (z3.1 48) 24 1) : Inv LTx z4 := by
  refine inv_scr LTx_ok hI (fun j hj => ?_) (fun k hk => ?_)
  · by_cases e : j = 49
    · subst e
      funext i
      rw [b2 i]
      by_cases y : 6 ≤ i ∧ i < 70
      · rw [if_pos y, f3.1 58 (by decide) (by decide) (by decide) (by decide) (by decide), s2 i y.1 y.2, h1 49 (by decide) (by decide)]
      · rw [if_neg y, g3 i (by omega), ea]
    · rw [b1 j e (by omega), f3.1 j (by omega) (by omega) (by omega) (by omega) (by omega), s1 j (by omega) (by omega), h1 j (by omega) (by omega)]
  · rw [b3]
    by_cases e : k = 24
    · subst e; rw [up_eq]; exact hI.2.2.2.2.2.1.symm
    · rw [up_ne e, f3.2 k (by omega), s3, up_ne e, h1 48 (by decide) (by decide)]
theorem foreX {u : PoS} {T : Nat} {ρ a : Nat → Int32} (h : Liv ρ a) (h9 : Sm 30 (a 9)) (hT : nN (a 1) = T) (hC : Ctx u T w q) (e4 : u.1 4 = ρ) {n N : Nat} (hn : n ≤ 60) (hN : N = min n (9999 - nN (a 6))) {y x : Int32} {k104 : Int32 → Int32 → PoS → Prop} {post : Int32 → PoS → Prop} (K : ∀ z, FrB 1 u z → z.1 4 = fwR w q ρ a N → k104 y x z) : ∃ f, wl_X11_foretold_74 k104 post f (nI n) y x 0 u := by
  have m6 := h.min.1
  refine ⟨N + 1, ?_⟩
  have lp : ∀ m k, k + m = N → ∀ z, FrB 1 u z → z.1 4 = fwR w q ρ a k → wl_X11_foretold_74 k104 post (m + 1) (nI n) y x (nI k) z := by
    intro m
    induction m with
    | zero =>
      intro k hk z fz gz
      obtain rfl : k = N := by omega
      obtain ⟨i1, i2, i3, i4⟩ := fw_ok h h9 hT hC k (by omega)
      rw [wl_X11_foretold_74, q_le (by omega) (by omega)]
      refine ⟨fun _ => K z fz gz, fun hh => canX (b := 1) (a := fwA w q a k) (by rw [show z.1 (3 + 1) = fwR w q ρ a k from gz]; exact i1) (fun h6 => ?_) (fun _ => ⟨fun _ => K z fz gz, fun z => absurd rfl z⟩)⟩
      rw [i2, nN_nI (by omega)] at h6
      omega
    | succ m ih =>
      intro k hk z fz gz
      obtain ⟨i1, i2, i3, i4⟩ := fw_ok h h9 hT hC k (by omega)
      obtain ⟨k9, hk9, e9⟩ := h9
      have i1' : Liv (z.1 (3 + 1)) (fwA w q a k) := by rw [show z.1 (3 + 1) = fwR w q ρ a k from gz]; exact i1
      rw [wl_X11_foretold_74, q_le (by omega) (by omega)]
      refine ⟨fun hh => by omega, fun _ => canX (b := 1) (a := fwA w q a k) i1' (fun h6 => ⟨fun z => absurd z (by decide), fun _ => passX (b := 1) (by decide) (a := fwA w q a k) (w := w) (q := q) (by rw [i4 1 (by omega), hT]; exact hC.mv (fz.law (by decide))) i1' hk9 (by rw [i3]; exact e9) (fun z6 f6 g6 => ?_)⟩) (fun h6 => by rw [i2, nN_nI (by omega)] at h6; omega)⟩
      rw [nI_1]
      refine ih (k + 1) (by omega) z6 (fun j h1 h2 => by rw [f6 j h1 h2, fz j h1 h2]) ?_
      show z6.1 (3 + 1) = _
      rw [g6, show z.1 (3 + 1) = fwR w q ρ a k from gz]; rfl
  exact lp N 0 (Nat.zero_add N) u (fun _ _ _ => rfl) e4
theorem foreM {u : PoS} {T : Nat} {ρ a : Nat → Int32} (h : Liv ρ a) (h9 : Sm 30 (a 9)) (hT : nN (a 1) = T) (hC : Ctx u T w q) (e49 : u.1 49 = a) (hw : u.1 48 24 = 0) {n N : Nat} (hn : n ≤ 60) (hN : N = min n (9999 - nN (a 6))) {y x : Int32} {k82 : Int32 → Int32 → PoS → Prop} {post : Int32 → PoS → Prop} (K : ∀ z, FrR u z → z.1 49 = fwA w q a N → k82 y x z) : ∃ f, wl_X12_foretold_53 k82 post f (nI n) y x 0 u := by
  have m6 := h.min.1
  refine ⟨n + 1, ?_⟩
  have lp : ∀ m k, k + m = n → ∀ z, FrR u z → z.1 49 = fwA w q a (min k N) → wl_X12_foretold_53 k82 post (m + 1) (nI n) y x (nI k) z := by
    intro m
    induction m with
    | zero =>
      intro k hk z fz gz
      obtain rfl : k = n := by omega
      rw [wl_X12_foretold_53, q_le (by omega) (by omega)]
      exact ⟨fun _ => K z fz (by rw [gz]; congr 1; omega), fun hh => absurd (Nat.le_refl k) hh⟩
    | succ m ih =>
      intro k hk z fz gz
      obtain ⟨i1, i2, i3, i4⟩ := fw_ok h h9 hT hC (min k N) (by omega)
      obtain ⟨k9, hk9, e9⟩ := h9
      rw [wl_X12_foretold_53, q_le (by omega) (by omega), gI_def, gz, i2, show (9999 : Int32) = nI 9999 from rfl, q_le (by omega) (by omega)]
      refine ⟨fun hh => by omega, fun _ => ⟨fun h6 => ?_, fun h6 => passM (w := w) (q := q) (ρ := fwR w q ρ a (min k N)) (wr := false) (by rw [gz, i4 1 (by omega), hT]; exact hC.mv fz.law) (by rw [gz]; exact i1) hk9 (by rw [gz, i3]; exact e9) (by rw [fz.2 24 (by decide), hw]; rfl) (fun z5 f5 r5 g5 => ?_)⟩⟩
      · unfold wj_X12_foretold_76
        rw [nI_1]
        exact ih (k + 1) (by omega) z fz (by rw [gz]; congr 1; omega)
      · unfold wj_X12_foretold_76
        rw [nI_1]
        refine ih (k + 1) (by omega) z5 (fz.tr f5) ?_
        rw [g5, gz, show min (k + 1) N = min k N + 1 by omega]; rfl
  exact lp n 0 (Nat.zero_add n) u ⟨fun _ _ _ _ _ _ => rfl, fun _ _ => rfl⟩ (by rw [e49, Nat.zero_min]; rfl)
end FORE
def askF (a : Nat → Int32) (y x : Int32) : Prop := y = 0 ∨ (y = 1 ∧ ∃ p, p < nN (a 0) ∧ x = nI p) ∨ (y = 2 ∧ ∃ c, c < 30 ∧ x = nI c)
def ansF (a : Nat → Int32) (y x : Int32) : Int32 := if y = 0 then a 7 else if y = 1 then a (12 + 6 * nN x) else a (40 + nN x)
theorem out29 {x : Int32} (h : ¬ ∃ c, c < 30 ∧ x = nI c) : x < 0 ∨ nI 29 < x := by
  rcases rng 29 (by decide) x with ⟨c, hc, e⟩ | z
  · exact absurd ⟨c, by omega, e⟩ h
  · exact z
theorem ob_foretold (n y x : Int32) : Ob32 (wp_X11_foretold n y x) (wp_X12_foretold n y x) (Inv LTx) := by
  intro u hI
  obtain ⟨w, q, hC⟩ := ctx_of hI
  have hR := hI.1
  have hL := hR.liv
  obtain ⟨m1, m2, m3⟩ := hL.min
  have out : (n < 1 ∨ (60 : Int32) < n) ∨ ∃ k, 1 ≤ k ∧ k ≤ 60 ∧ n = nI k := by
    rcases rng 60 (by decide) n with ⟨j, hj, rfl⟩ | z | z
    · rcases Nat.eq_zero_or_pos j with e | e
      · left; left; rw [e]; decide
      · exact Or.inr ⟨j, e, hj, rfl⟩
    · left; left
      rw [Int32.lt_iff_toInt_lt] at z ⊢
      have e0 : (0 : Int32).toInt = 0 := rfl
      have e1 : (1 : Int32).toInt = 1 := rfl
      omega
    · exact Or.inl (Or.inr z)
  have xx : ∀ (v : PoS) (K : Int32 → PoS → Prop), v = u → (askF (u.1 49) y x → wj_X11_foretold_34 K n y x 1 v) → (¬ askF (u.1 49) y x → wj_X11_foretold_34 K n y x 0 v) → wp_X11_foretold n y x v K := by
    intro v K ev h1 h0
    subst ev
    refine ⟨fun e => h1 (Or.inl e), fun e => ⟨fun e1 => ⟨fun e2 => h0 ?_, fun e2 => ?_⟩, fun e1 => perX hR (fun p hp ep => ⟨fun _ => h1 (Or.inr (Or.inl ⟨e1, p, hp, ep⟩)), fun z => absurd z (by decide)⟩) (fun z => ⟨fun z => absurd rfl z, fun _ => ⟨fun e2 => h0 ?_, fun e2 => ?_⟩⟩)⟩⟩
    · rintro (z | ⟨z, -⟩ | ⟨z, -⟩)
      · exact e z
      · exact e1 z
      · exact e2 z
    · by_cases hc : ∃ c, c < 30 ∧ x = nI c
      · obtain ⟨c, hc, rfl⟩ := hc
        exact cellX_t hc ⟨fun z => absurd z (by decide), fun _ => h1 (Or.inr (Or.inr ⟨e2, c, hc, rfl⟩))⟩
      · refine cellX_f (out29 hc) ⟨fun _ => h0 ?_, fun z => absurd rfl z⟩
        rintro (z | ⟨z, -⟩ | ⟨-, z⟩)
        · exact e z
        · exact e1 z
        · exact hc z
    · rintro (y1 | ⟨-, p, hp, ep⟩ | ⟨y1, -⟩)
      · exact e y1
      · exact no_per hL z p hp ep
      · exact e2 y1
    · rw [e1] at e2; exact absurd e2 (by decide)
  by_cases ok : askF (u.1 49) y x ∧ ∃ k, 1 ≤ k ∧ k ≤ 60 ∧ n = nI k
  · obtain ⟨ask, k, hk1, hk2, rfl⟩ := ok
    have hi : ¬ nI k < 1 := nI_nlt (b := 1) (a := k) (by omega) (by omega)
    have hi' : ¬ (60 : Int32) < nI k := nI_nlt (b := k) (a := 60) (by omega) (by omega)
    have hN : ∃ N, N = min k (9999 - nN (u.1 49 6)) := ⟨_, rfl⟩
    obtain ⟨N, hN⟩ := hN
    have hL4 : Liv (va_cpy (u.1 3) (u.1 4) 0 0 117) (u.1 49) := hL.cg (fun i hi => by rw [pk_cpy_in (by omega) (by omega), show 0 + (i - 0) = i by omega])
    obtain ⟨i1, i2, i3, i4⟩ := fw_ok (w := w) (q := q) hL4 hR.nine rfl hC N (by omega)
    refine ⟨fun r u1 => r = ansF (fwA w q (u.1 49) N) y x ∧ ∀ j, j ≠ 4 → j ≠ 47 → u1.1 j = u.1 j, fun K hK => xx u K rfl (fun _ => ⟨fun z => absurd z (by decide), fun _ => within_t hi hi' ⟨fun _ => ⟨⟨by decide, by decide, by decide, by decide, by decide⟩, fun z3 e3 => ?_⟩, fun z => absurd z (by decide)⟩⟩) (fun z => absurd ask z), fun r u1 hr K hK => ?_⟩
    · rw [show Int32.toNatClampNeg 0 = 0 from rfl, show Int32.toNatClampNeg 117 = 117 from rfl] at e3
      have f3 : ∀ j, j ≠ 4 → z3.1 j = u.1 j := fun j hj => by rw [e3, cI_o hj]
      refine foreX (w := w) (q := q) hL4 hR.nine rfl (hC.mv ⟨fun j _ _ => f3 j (by omega), f3 51 (by decide)⟩) (by rw [e3, cI_s]) hk2 hN (fun z fz gz => ?_)
      have fin : ∀ v, v = ansF (fwA w q (u.1 49) N) y x → K v z := fun v hv => hK v z ⟨hv, fun j h1 h2 => by rw [fz j h1 h2, f3 j h1]⟩
      obtain ⟨s1, s2, s3⟩ := shw i1
      rcases ask with e | ⟨e, p, hp, rfl⟩ | ⟨e, c, hc, rfl⟩
      · refine ⟨fun z => absurd e z, fun _ => fin _ ?_⟩
        rw [gI_def, gz, s3, ← s2]; unfold ansF; rw [if_pos e]
      · refine ⟨fun _ => ⟨fun z => absurd e z, fun _ => ?_⟩, fun z => by rw [e] at z; exact absurd z (by decide)⟩
        obtain ⟨c, wi, t, b', hc, hw, ht, hb', h5, g1, g2, g3, g4, g5, g6, g7, g8⟩ := i1.per (p := p) (by rw [i4 0 (by omega)]; exact hp)
        rw [show (10 : Int32) + nI p = nI (10 + p) by simp (disch := omega) only [q_lit, nI_add, pk_mul, q_sub, q_rem, q_div, q_vp, q_cl, q_lt, q_le, q_eq, q_neg1, gI_def], q_vp (by omega) (by omega), q_cl (by omega), gI_def, gz, g6]
        refine ⟨by omega, fin _ ?_⟩
        unfold ansF; rw [if_neg (by rw [e]; decide), if_pos e, nN_nI (by omega), g5]
      · refine ⟨fun _ => ⟨fun _ => ?_, fun z => by rw [e] at z; exact absurd z (by decide)⟩, fun z => by rw [e] at z; exact absurd z (by decide)⟩
        obtain ⟨w1, w2, w3⟩ := wat_of i1 hc
        rw [show (20 : Int32) + nI c = nI (20 + c) by simp (disch := omega) only [q_lit, nI_add, pk_mul, q_sub, q_rem, q_div, q_vp, q_cl, q_lt, q_le, q_eq, q_neg1, gI_def], q_vp (by omega) (by omega), q_cl (by omega), gI_def, gz, w3]
        refine ⟨by omega, fin _ ?_⟩
        unfold ansF; rw [if_neg (by rw [e]; decide), if_neg (by rw [e]; decide), nN_nI (by omega), ← w2]
    · obtain ⟨rfl, f1⟩ := hr
      have e49 := f1 49 (by decide) (by decide)
      have main : wj_X12_foretold_46 K (nI k) y x u1 := by
        refine setAsideM (fun z2 s1 s2 s3 => foreM (w := w) (q := q) hL4 hR.nine rfl (hC.mv ⟨fun j _ _ => by rw [s1 j (by omega) (by omega), f1 j (by omega) (by omega)], by rw [s1 51 (by decide) (by decide), f1 51 (by decide) (by decide)]⟩) (by rw [s1 49 (by decide) (by decide), e49]) (by rw [s3, up_eq]) hk2 hN (fun z3 f3 g3 => ?_))
        have fin : ∀ v, v = ansF (fwA w q (u.1 49) N) y x → wj_X12_foretold_119 K v z3 := fun v hv => putBackM (fun z4 b1 b2 b3 => by
          rw [hv]; exact hK z4 (backI hI rfl f1 s1 s2 s3 f3 (fun i hi => by rw [g3]; exact i4 i hi) b1 b2 b3))
        rcases ask with e | ⟨e, p, hp, rfl⟩ | ⟨e, c, hc, rfl⟩
        · refine ⟨fun z => absurd e z, fun _ => fin _ ?_⟩
          rw [gI_def, g3]; unfold ansF; rw [if_pos e]
        · refine ⟨fun _ => ⟨fun z => absurd e z, fun _ => getM (o := 2) ?_ (by decide) (fin _ ?_)⟩, fun z => by rw [e] at z; exact absurd z (by decide)⟩
          · obtain ⟨n5, hn5, n1, n2, n3⟩ := hL.ppl; omega
          · obtain ⟨n5, hn5, n1, n2, n3⟩ := hL.ppl
            rw [g3]; unfold ansF; rw [if_neg (by rw [e]; decide), if_pos e, nN_nI (by omega), show 10 + 6 * p + 2 = 12 + 6 * p by omega]
        · refine ⟨fun _ => ⟨fun _ => ?_, fun z => by rw [e] at z; exact absurd z (by decide)⟩, fun z => by rw [e] at z; exact absurd z (by decide)⟩
          rw [show (40 : Int32) + nI c = nI (40 + c) by simp (disch := omega) only [q_lit, nI_add, pk_mul, q_sub, q_rem, q_div, q_vp, q_cl, q_lt, q_le, q_eq, q_neg1, gI_def], q_vp (by omega) (by omega), q_cl (by omega), gI_def, g3]
          refine ⟨by omega, fin _ ?_⟩
          unfold ansF; rw [if_neg (by rw [e]; decide), if_neg (by rw [e]; decide), nN_nI (by omega)]
      have hR1 : RowOk (u.1 3) (u1.1 49) := by rw [e49]; exact hR
      refine isIn_t hi hi' ⟨fun z => absurd z (by decide), fun _ => ?_⟩
      rcases id ask with e | ⟨e, p, hp, ex⟩ | ⟨e, c, hc, ex⟩
      · subst e
        exact isIn_t (by decide) (by decide) ⟨fun z => absurd z (by decide), fun _ => ⟨fun _ => ⟨fun _ => main, fun z => absurd z (by decide)⟩, fun z => absurd z (by decide)⟩⟩
      · subst e
        exact isIn_t (by decide) (by decide) ⟨fun z => absurd z (by decide), fun _ => ⟨fun z => absurd rfl z, fun _ => perM hR1 (fun _ _ _ => ⟨fun z => absurd z (by decide), fun _ => ⟨fun _ => main, fun z => absurd z (by decide)⟩⟩) (fun z => absurd ex (no_per (ρ := u.1 3) (by rw [e49]; exact hL) z p (by rw [e49]; exact hp)))⟩⟩
      · subst e
        refine isIn_t (by decide) (by decide) ⟨fun z => absurd z (by decide), fun _ => ⟨fun _ => ⟨fun z => absurd rfl z, fun _ => ?_⟩, fun z => absurd z (by decide)⟩⟩
        have m2 := main
        rw [ex] at m2 ⊢
        exact cellM_t hc ⟨fun _ => m2, fun z => absurd z (by decide)⟩
  · refine ⟨fun r u1 => r = -1 ∧ u1 = u, fun K hK => xx u K rfl (fun ask => ⟨fun z => absurd z (by decide), fun _ => ?_⟩) (fun _ => ⟨fun _ => hK _ _ ⟨rfl, rfl⟩, fun z => absurd rfl z⟩), fun r u1 hr K hK => ?_⟩
    · rcases out with z | z
      · exact within_f z ⟨fun z => absurd rfl z, fun _ => hK _ _ ⟨rfl, rfl⟩⟩
      · exact absurd ⟨ask, z⟩ ok
    · obtain ⟨rfl, rfl⟩ := hr
      have K0 := hK _ hI
      rcases out with z | ⟨k, hk1, hk2, rfl⟩
      · exact isIn_f z ⟨fun _ => K0, fun z => absurd rfl z⟩
      · have nask : ¬ askF (u1.1 49) y x := fun z => ok ⟨z, k, hk1, hk2, rfl⟩
        refine isIn_t (nI_nlt (b := 1) (a := k) (by omega) (by omega)) (nI_nlt (b := k) (a := 60) (by omega) (by omega)) ⟨fun z => absurd z (by decide), fun _ => ?_⟩
        rcases rng 2 (by decide) y with ⟨j, hj, e⟩ | z
        · refine isIn_t (by rw [e]; exact nI_pos (by omega)) (by rw [e]; exact nI_nlt (b := j) (a := 2) hj (by decide)) ⟨fun z => absurd z (by decide), fun _ => ?_⟩
          match j, hj with
          | 0, _ => exact absurd (Or.inl e) nask
          | 1, _ => exact ⟨fun z => absurd e z, fun _ => perM hR (fun p hp ep => absurd (Or.inr (Or.inl ⟨e, p, hp, ep⟩)) nask) (fun _ => ⟨fun _ => K0, fun z => absurd rfl z⟩)⟩
          | 2, _ =>
            refine ⟨fun _ => ⟨fun z => absurd e z, fun _ => cellM_f (out29 (fun ⟨c, hc, ec⟩ => nask (Or.inr (Or.inr ⟨e, c, hc, ec⟩)))) ⟨fun z => absurd rfl z, fun _ => K0⟩⟩, fun z => by rw [e] at z; exact absurd z (by decide)⟩
        · exact isIn_f z ⟨fun _ => K0, fun z => absurd rfl z⟩
/-! when -/
def whnF (w : Nat → (Nat → Int32) → Nat → Int32 → Int32) (q : Nat → (Nat → Int32) → Nat → Int32) (a : Nat → Int32) (p : Nat) : Nat → Nat → Int32
  | 0, _ => -1
  | f + 1, k => if wt w (fwA w q a k) = nI p then nI (k + 1) else whnF w q a p f (k + 1)
section WHEN
variable {w : Nat → (Nat → Int32) → Nat → Int32 → Int32} {q : Nat → (Nat → Int32) → Nat → Int32}
theorem whenX {u : PoS} {T p : Nat} {ρ a : Nat → Int32} (h : Liv ρ a) (h9 : Sm 30 (a 9)) (hT : nN (a 1) = T) (hC : Ctx u T w q) (e4 : u.1 4 = ρ) {N : Nat} (hN : N = min 60 (9999 - nN (a 6))) {post : Int32 → PoS → Prop} (K : ∀ z, FrB 1 u z → post (whnF w q a p N 0) z) : ∃ f, wl_X11_when_30 post f (nI p) 1 u := by
  have m6 := h.min.1
  refine ⟨N + 1, ?_⟩
  have lp : ∀ m k, k + m = N → (∀ z, FrB 1 u z → post (whnF w q a p m k) z) → ∀ z, FrB 1 u z → z.1 4 = fwR w q ρ a k → wl_X11_when_30 post (m + 1) (nI p) (nI (k + 1)) z := by
    intro m
    induction m with
    | zero =>
      intro k hk KK z fz gz
      obtain rfl : k = N := by omega
      obtain ⟨i1, i2, i3, i4⟩ := fw_ok h h9 hT hC k (by omega)
      rw [wl_X11_when_30, show (60 : Int32) = nI 60 from rfl, q_lt (by omega) (by omega)]
      refine ⟨fun _ => KK z fz, fun hh => canX (b := 1) (a := fwA w q a k) (by rw [show z.1 (3 + 1) = fwR w q ρ a k from gz]; exact i1) (fun h6 => ?_) (fun _ => ⟨fun _ => KK z fz, fun z => absurd rfl z⟩)⟩
      rw [i2, nN_nI (by omega)] at h6
      omega
    | succ m ih =>
      intro k hk K z fz gz
      obtain ⟨i1, i2, i3, i4⟩ := fw_ok h h9 hT hC k (by omega)
      obtain ⟨k9, hk9, e9⟩ := h9
      have i1' : Liv (z.1 (3 + 1)) (fwA w q a k) := by rw [show z.1 (3 + 1) = fwR w q ρ a k from gz]; exact i1
      rw [wl_X11_when_30, show (60 : Int32) = nI 60 from rfl, q_lt (by omega) (by omega)]
      refine ⟨fun hh => by omega, fun _ => canX (b := 1) (a := fwA w q a k) i1' (fun h6 => ⟨fun z => absurd z (by decide), fun _ => passX (b := 1) (by decide) (a := fwA w q a k) (w := w) (q := q) (by rw [i4 1 (by omega), hT]; exact hC.mv (fz.law (by decide))) i1' hk9 (by rw [i3]; exact e9) (fun z6 f6 g6 => ?_)⟩) (fun h6 => by rw [i2, nN_nI (by omega)] at h6; omega)⟩
      have f6' : FrB 1 u z6 := fun j h1 h2 => by rw [f6 j h1 h2, fz j h1 h2]
      rw [whnF] at K
      refine ⟨fun e => ?_, fun e => ?_⟩
      · rw [if_neg e] at K
        rw [nI_1]
        refine ih (k + 1) (by omega) K z6 f6' ?_
        show z6.1 (3 + 1) = _
        rw [g6, show z.1 (3 + 1) = fwR w q ρ a k from gz]; rfl
      · rw [if_pos e] at K
        exact K z6 f6'
  exact lp N 0 (Nat.zero_add N) K u (fun _ _ _ => rfl) e4
theorem rainOnM {u : PoS} {T p : Nat} {ρ a : Nat → Int32} (h : Liv ρ a) {k9 : Nat} (hk9 : k9 ≤ 30) (e9 : a 9 = nI k9) (hT : nN (a 1) = T) (hC : Ctx u T w q) (e49 : u.1 49 = a) (hw : u.1 48 24 = 0) (hp : p < nN (a 0)) {post : Int32 → PoS → Prop} (K : ∀ z, FrR u z → z.1 49 = psA w q false a → post (if wt w a = nI p then 1 else 0) z) : wp_X12_isRainOn (nI p) u post := by
  obtain ⟨a1, a2, a3, a4⟩ := atF_of h hp
  refine goalM (w := w) (q := q) (ρ := ρ) (by rw [e49, hT]; exact hC) (by rw [e49]; exact h) (fun z2 f2 => ?_)
  have g2 : z2.1 49 = a := by rw [f2 49 (by decide) (by decide) (by decide), e49]
  have fin : ∀ s : Int32, IsB s → s = (if wt w a = nI p then 1 else 0) → wj_X12_isRainOn_29 post s z2 := by
    intro s hs es
    refine passM (w := w) (q := q) (ρ := ρ) (wr := false) (by rw [g2, hT]; exact hC.mv f2.law) (by rw [g2]; exact h) hk9 (by rw [g2]; exact e9) (by rw [f2 48 (by decide) (by decide) (by decide), hw]; rfl) (fun z5 f5 r5 g5 => ⟨hs, ?_⟩)
    rw [es]; exact K z5 (f2.r.tr f5) (by rw [g5, g2])
  have ne : wt w a = -1 → ¬ wt w a = nI p := fun e z => by
    rw [e] at z
    have := z.symm
    rw [show (1 : Int32) = nI 1 from rfl, q_neg1 (by omega)] at this; exact this
  rw [e49]
  refine ⟨fun e => fin 0 (Or.inl rfl) ?_, fun e => getM (o := 0) a4 (by decide) ?_⟩
  · rw [if_neg]
    unfold wt
    by_cases z : gol w a = -1
    · rw [if_pos z]; intro y; have := y.symm; rw [show (1 : Int32) = nI 1 from rfl, q_neg1 (by omega)] at this; exact this
    · rw [if_neg z]
      by_cases y : a (10 + 6 * nN (gol w a)) = a 7
      · rw [if_pos y]; exact e
      · rw [if_neg y]; intro y; have := y.symm; rw [show (1 : Int32) = nI 1 from rfl, q_neg1 (by omega)] at this; exact this
  · rw [Nat.add_zero, gI_def, g2]
    refine ⟨fun y => fin 0 (Or.inl rfl) ?_, fun y => fin 1 (Or.inr rfl) ?_⟩
    · rw [if_neg (ne (wt_g a4 e y))]
    · rw [if_pos (wt_r a4 e y)]
theorem whenM {u : PoS} {T p : Nat} {ρ a : Nat → Int32} (h : Liv ρ a) (h9 : Sm 30 (a 9)) (hT : nN (a 1) = T) (hC : Ctx u T w q) (e49 : u.1 49 = a) (hw : u.1 48 24 = 0) (hp : p < nN (a 0)) {N : Nat} (hN : N = min 60 (9999 - nN (a 6))) {k58 : Int32 → PoS → Prop} {post : Int32 → PoS → Prop} (K : ∀ z, FrR u z → (∀ i, i < 6 ∨ 70 ≤ i → z.1 49 i = a i) → k58 (whnF w q a p N 0) z) : ∃ f, wl_X12_when_18 k58 post f (nI p) (-1) 1 u := by
  have m6 := h.min.1
  refine ⟨N + 2, ?_⟩
  have lp : ∀ m k, k + m = N → (∀ z, FrR u z → (∀ i, i < 6 ∨ 70 ≤ i → z.1 49 i = a i) → k58 (whnF w q a p m k) z) → ∀ z, FrR u z → z.1 49 = fwA w q a k → wl_X12_when_18 k58 post (m + 2) (nI p) (-1) (nI (k + 1)) z := by
    intro m
    induction m with
    | zero =>
      intro k hk KK z fz gz
      obtain rfl : k = N := by omega
      obtain ⟨i1, i2, i3, i4⟩ := fw_ok h h9 hT hC k (by omega)
      have KK := KK z fz (by rw [gz]; exact i4)
      rw [wl_X12_when_18, show (60 : Int32) = nI 60 from rfl, q_lt (by omega) (by omega), gI_def, gz, i2, show (9999 : Int32) = nI 9999 from rfl, q_le (by omega) (by omega)]
      exact ⟨fun _ => KK, fun hh => ⟨fun z => absurd rfl z, fun _ => ⟨fun _ => KK, fun h6 => by omega⟩⟩⟩
    | succ m ih =>
      intro k hk K z fz gz
      obtain ⟨i1, i2, i3, i4⟩ := fw_ok h h9 hT hC k (by omega)
      obtain ⟨k9, hk9, e9⟩ := id h9
      rw [wl_X12_when_18, show (60 : Int32) = nI 60 from rfl, q_lt (by omega) (by omega), gI_def, gz, i2, show (9999 : Int32) = nI 9999 from rfl, q_le (by omega) (by omega)]
      refine ⟨fun hh => by omega, fun _ => ⟨fun z => absurd rfl z, fun _ => ⟨fun h6 => by omega, fun _ => rainOnM (w := w) (q := q) (T := T) i1 hk9 (by rw [i3]; exact e9) (by rw [i4 1 (by omega)]; exact hT) (hC.mv fz.law) gz (by rw [fz.2 24 (by decide)]; exact hw) (by rw [i4 0 (by omega)]; exact hp) (fun z5 f5 g5 => ?_)⟩⟩⟩
      rw [whnF] at K
      by_cases e : wt w (fwA w q a k) = nI p
      · rw [if_pos e]
        rw [if_pos e] at K
        refine ⟨fun z => absurd z (by decide), fun _ => ?_⟩
        obtain ⟨j1, j2, j3, j4⟩ := fw_ok h h9 hT hC (k + 1) (by omega)
        have K := K z5 (fz.tr f5) (by rw [g5]; exact j4)
        unfold wj_X12_when_52
        rw [wl_X12_when_18]
        refine ⟨fun _ => K, fun _ => ⟨fun _ => K, fun z => ?_⟩⟩
        rw [show (1 : Int32) = nI 1 from rfl, q_neg1 (by omega)] at z; exact z.elim
      · rw [if_neg e]
        rw [if_neg e] at K
        refine ⟨fun _ => ?_, fun z => absurd rfl z⟩
        unfold wj_X12_when_52
        rw [nI_1]
        exact ih (k + 1) (by omega) K z5 (fz.tr f5) (by rw [g5]; rfl)
  exact lp N 0 (Nat.zero_add N) K u ⟨fun _ _ _ _ _ _ => rfl, fun _ _ => rfl⟩ e49
end WHEN
theorem ob_when (x : Int32) : Ob32 (wp_X11_when x) (wp_X12_when x) (Inv LTx) := by
  intro u hI
  obtain ⟨w, q, hC⟩ := ctx_of hI
  have hR := hI.1
  have hL := hR.liv
  obtain ⟨m1, m2, m3⟩ := hL.min
  by_cases hp : ∃ p, p < nN (u.1 49 0) ∧ x = nI p
  · obtain ⟨p, hp, rfl⟩ := hp
    have hN : ∃ N, N = min 60 (9999 - nN (u.1 49 6)) := ⟨_, rfl⟩
    obtain ⟨N, hN⟩ := hN
    have hL4 : Liv (va_cpy (u.1 3) (u.1 4) 0 0 117) (u.1 49) := hL.cg (fun i hi => by rw [pk_cpy_in (by omega) (by omega), show 0 + (i - 0) = i by omega])
    refine ⟨fun r u1 => r = whnF w q (u.1 49) p N 0 ∧ ∀ j, j ≠ 4 → j ≠ 47 → u1.1 j = u.1 j, fun K hK => perX hR (fun _ _ _ => ⟨fun _ => ⟨⟨by decide, by decide, by decide, by decide, by decide⟩, fun z3 e3 => ?_⟩, fun z => absurd z (by decide)⟩) (fun z => absurd rfl (no_per hL z p hp)), fun r u1 hr K hK => ?_⟩
    · rw [show Int32.toNatClampNeg 0 = 0 from rfl, show Int32.toNatClampNeg 117 = 117 from rfl] at e3
      have f3 : ∀ j, j ≠ 4 → z3.1 j = u.1 j := fun j hj => by rw [e3, cI_o hj]
      exact whenX (w := w) (q := q) hL4 hR.nine rfl (hC.mv ⟨fun j _ _ => f3 j (by omega), f3 51 (by decide)⟩) (by rw [e3, cI_s]) hN (fun z fz => hK _ z ⟨rfl, fun j h1 h2 => by rw [fz j h1 h2, f3 j h1]⟩)
    · obtain ⟨rfl, f1⟩ := hr
      have e49 := f1 49 (by decide) (by decide)
      refine perM (r := u.1 3) (by rw [e49]; exact hR) (fun _ _ _ => ⟨fun _ => setAsideM (fun z2 s1 s2 s3 => whenM (w := w) (q := q) hL4 hR.nine rfl (hC.mv ⟨fun j _ _ => by rw [s1 j (by omega) (by omega), f1 j (by omega) (by omega)], by rw [s1 51 (by decide) (by decide), f1 51 (by decide) (by decide)]⟩) (by rw [s1 49 (by decide) (by decide), e49]) (by rw [s3, up_eq]) hp hN (fun z3 f3 g3 => putBackM (fun z4 b1 b2 b3 => hK z4 (backI hI rfl f1 s1 s2 s3 f3 g3 b1 b2 b3)))), fun z => absurd z (by decide)⟩) (fun z => absurd rfl (no_per hL (by rw [e49] at z; exact z) p hp))
  · refine ⟨fun r u1 => r = -1 ∧ u1 = u, fun K hK => perX hR (fun p hp' e => absurd ⟨p, hp', e⟩ hp) (fun _ => ⟨fun z => absurd rfl z, fun _ => hK _ _ ⟨rfl, rfl⟩⟩), fun r u1 hr K hK => ?_⟩
    obtain ⟨rfl, rfl⟩ := hr
    exact perM hR (fun p hp' e => absurd ⟨p, hp', e⟩ hp) (fun _ => ⟨fun z => absurd rfl z, fun _ => hK _ hI⟩)
