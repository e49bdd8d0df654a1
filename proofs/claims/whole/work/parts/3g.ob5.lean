/-! OBLIGATIONS: ledger, end, seen, said, image, back -/
/-- the WATER of the first k rains on a PERSON (x = -1: on all) -/
def ldF (a : Nat → Int32) (x : Int32) : Nat → Nat
  | 0 => 0
  | k + 1 => ldF a x k + (if x = -1 ∨ nI (rnF a k 1) = x then rnF a k 3 else 0)
theorem ldX {a : Nat → Int32} {u : PoS} (h : RowOk (u.1 3) a) (x : Int32) (post : Int32 → PoS → Prop) (hK : post (nI (ldF a x (nN (a 9)))) u) : ∀ k c, c + k = nN (a 9) → wl_X11_ledger_20 post (k + 1) x (nI (ldF a x c)) (nI c) u := by
  intro k
  obtain ⟨n, hn, e1, e2, e3⟩ := rns h
  induction k with
  | zero => intro c hc; rw [show nN (a 9) = c by omega] at hK
            rw [wl_X11_ledger_20, gI_def, e2, show c = n by omega]; rw [show c = n by omega] at hK
            exact ⟨fun _ => hK, fun q => absurd (nI_le (Nat.le_refl n) (by omega)) q⟩
  | succ k ih =>
    intro c hc
    obtain ⟨m, p, d, w, hm, hp, hd, hw, h30, f1, f2, f3, g0, g1, g2, g3⟩ := rn_of h (show c < nN (a 9) by omega)
    have := ih (c + 1) (by omega)
    rw [ldF, g1, g3] at this
    have hw' : wj_X11_ledger_56 (wl_X11_ledger_20 post (k + 1)) post x (nI (ldF a x c)) (nI c) (nI (((m * 5 + p) * 30 + d) * 10 + w)) u ↔ wl_X11_ledger_20 post (k + 1) x (nI (ldF a x c + w)) (nI (c + 1)) u := by
      unfold wj_X11_ledger_56 wj_X11_ledger_64 wp_X5_waterIn
      simp (disch := omega) only [q_lit, nI_add, pk_mul, q_sub, q_rem, q_div, q_vp, q_cl, q_lt, q_le, q_eq, q_neg1, gI_def]
      rw [show (((m * 5 + p) * 30 + d) * 10 + w) % 10 = w by omega]
      exact ⟨fun h => h _ rfl, fun h x e => by rw [e]; exact h⟩
    rw [wl_X11_ledger_20, gI_def, e2, q_le (by omega) (by omega)]
    refine ⟨fun q => by omega, fun _ => ⟨by simp (disch := omega) only [q_lit, nI_add, pk_mul, q_sub, q_rem, q_div, q_vp, q_cl, q_lt, q_le, q_eq, q_neg1, gI_def]; omega, fun x1 ex => ?_⟩⟩
    rw [show Int32.toNatClampNeg (54 + nI c) = 54 + c by simp (disch := omega) only [q_lit, nI_add, pk_mul, q_sub, q_rem, q_div, q_vp, q_cl, q_lt, q_le, q_eq, q_neg1, gI_def], gI_def, f1] at ex
    subst ex
    refine ⟨fun q => ?_, fun q => ?_⟩
    · rw [hw']; rw [if_pos (Or.inl q)] at this; exact this
    · unfold wp_X5_personIn
      rw [show irem (nI (((m * 5 + p) * 30 + d) * 10 + w) / 10 / 30) 5 = nI p by
        simp (disch := omega) only [q_lit, nI_add, pk_mul, q_sub, q_rem, q_div, q_vp, q_cl, q_lt, q_le, q_eq, q_neg1, gI_def]
        rw [show (((m * 5 + p) * 30 + d) * 10 + w) / 10 / 30 % 5 = p by omega]]
      refine ⟨fun z => ?_, fun z => ?_⟩
      · rw [if_neg (fun t => t.elim q z)] at this
        unfold wj_X11_ledger_64; rw [nI_1]; exact this
      · rw [hw']; rw [if_pos (Or.inr z)] at this; exact this
theorem ldM {r : Nat → Int32} {u : PoS} (h : RowOk r (u.1 49)) (x : Int32) (post : Int32 → PoS → Prop) (hK : post (nI (ldF (u.1 49) x (nN (u.1 49 9)))) u) : ∀ k c, c + k = nN (u.1 49 9) → wl_X12_ledger_20 post (k + 1) x (nI (ldF (u.1 49) x c)) (nI c) u := by
  intro k
  obtain ⟨n, hn, e1, e2, e3⟩ := rns h
  induction k with
  | zero => intro c hc; rw [show nN (u.1 49 9) = c by omega] at hK
            rw [wl_X12_ledger_20, gI_def, e1, show c = n by omega]; rw [show c = n by omega] at hK
            exact ⟨fun _ => hK, fun q => absurd (nI_le (Nat.le_refl n) (by omega)) q⟩
  | succ k ih =>
    intro c hc
    have := ih (c + 1) (by omega)
    rw [ldF] at this
    rw [wl_X12_ledger_20, gI_def, e1, q_le (by omega) (by omega)]
    have hb : ∀ z : x = -1 ∨ nI (rnF (u.1 49) c 1) = x, wj_X12_ledger_47 (wl_X12_ledger_20 post (k + 1)) post x (nI c) (nI (ldF (u.1 49) x c)) u := fun z => by
      unfold wj_X12_ledger_47
      refine bookM (what := 3) h (by omega) (by decide) (fun x3 e => ?_)
      rw [e, nI_add, nI_1]; rw [if_pos z] at this; exact this
    refine ⟨fun q => by omega, fun _ => ⟨fun q => hb (Or.inl q), fun q => bookM (what := 1) h (by omega) (by decide) ⟨fun z => ?_, fun z => hb (Or.inr z)⟩⟩⟩
    intro x3 e
    rw [if_neg (fun t => t.elim q z)] at this
    rw [e, nI_1, show (0 : Int32) = nI 0 from rfl, nI_add]; exact this
theorem ob_ledger (LT : Nat → PoS → Prop) (x : Int32) : Ob32 (wp_X11_ledger x) (wp_X12_ledger x) (Inv LT) := by
  intro u hI
  have hxl : ∀ K : Int32 → PoS → Prop, K (nI (ldF (u.1 49) x (nN (u.1 49 9)))) u → wj_X11_ledger_16 K x u := fun K hK => ⟨_, ldX hI.1 x K hK _ 0 (Nat.zero_add _)⟩
  have hml : ∀ K : Int32 → PoS → Prop, K (nI (ldF (u.1 49) x (nN (u.1 49 9)))) u → wj_X12_ledger_16 K x u := fun K hK => ⟨_, ldM hI.1 x K hK _ 0 (Nat.zero_add _)⟩
  by_cases ok : x = -1 ∨ ∃ p, p < nN (u.1 49 0) ∧ x = nI p
  · refine ⟨fun r u1 => r = nI (ldF (u.1 49) x (nN (u.1 49 9))) ∧ u1 = u, fun K hK => ⟨fun _ => hxl K (hK _ _ ⟨rfl, rfl⟩), fun q => perX hI.1 (fun p hp e => ⟨fun _ => hxl K (hK _ _ ⟨rfl, rfl⟩), fun q => absurd q (by decide)⟩) (fun z => ?_)⟩, fun r u1 hr K hK => ?_⟩
    · exfalso
      rcases ok with o | ⟨p, hp, rfl⟩
      · exact q o
      · obtain ⟨n, hn, e1, e2, e3⟩ := ppl hI.1
        rcases z with z | z
        · exact absurd z (nI_pos (by omega))
        · rw [q_le (by omega) (by omega)] at z; omega
    · obtain ⟨rfl, rfl⟩ := hr
      refine ⟨fun _ => hml K (hK _ hI), fun q => perM hI.1 (fun p hp e => ⟨fun _ => hml K (hK _ hI), fun q => absurd q (by decide)⟩) (fun z => ?_)⟩
      exfalso
      rcases ok with o | ⟨p, hp, rfl⟩
      · exact q o
      · obtain ⟨n, hn, e1, e2, e3⟩ := ppl hI.1
        rcases z with z | z
        · exact absurd z (nI_pos (by omega))
        · rw [q_le (by omega) (by omega)] at z; omega
  · refine ⟨fun r u1 => r = -2 ∧ u1 = u, fun K hK => ⟨fun q => absurd (Or.inl q) ok, fun q => perX hI.1 (fun p hp e => absurd (Or.inr ⟨p, hp, e⟩) ok) (fun z => ⟨fun q => absurd rfl q, fun _ => hK _ _ ⟨rfl, rfl⟩⟩)⟩, fun r u1 hr K hK => ?_⟩
    obtain ⟨rfl, rfl⟩ := hr
    exact ⟨fun q => absurd (Or.inl q) ok, fun q => perM hI.1 (fun p hp e => absurd (Or.inr ⟨p, hp, e⟩) ok) (fun z => ⟨fun q => absurd rfl q, fun _ => hK _ hI⟩)⟩
theorem ob_end {LT : Nat → PoS → Prop} (hLT : LTok LT) (x : Int32) : Ob32 (wp_X11_end x) (wp_X12_end x) (Inv LT) := by
  intro u hI
  obtain ⟨h1, h2, h3, ⟨t1, ⟨n, hn, t2⟩, t3⟩, h5, h6, h7⟩ := id hI
  by_cases ok : ∃ k, k ≤ n ∧ x = nI k
  · obtain ⟨k, hk, rfl⟩ := ok
    refine ⟨fun r u1 => r = nI k ∧ u1 = pI u 0 7 (nI k), fun K hK => ?_, fun r u1 hr K hK => ?_⟩
    · unfold wp_X11_end; rw [gI_def, t1, t2]
      exact within_t (nI_pos (by omega)) (nI_nlt hk (by omega)) ⟨fun _ z hz => hK _ _ ⟨rfl, hz⟩, fun q => absurd q (by decide)⟩
    · obtain ⟨rfl, rfl⟩ := hr
      unfold wp_X12_end; rw [gI_def, pI_1, if_neg (by decide), t2]
      refine isIn_t (nI_pos (by omega)) (nI_nlt hk (by omega)) ⟨fun _ z hz => ?_, fun q => absurd q (by decide)⟩
      subst hz
      refine hK _ ⟨?_, ?_, ?_, ?_, ?_, ?_, fun t ht hn' => ?_⟩
      · simp only [pI_1]; exact h1
      · simp only [pI_1]; exact h2
      · simp only [pI_1]; exact h3
      · unfold Tape
        simp (disch := omega) only [gI_def, pI_s, pI_o, cI_s, cI_o, pL_1, pR_1, up_eq, up_ne]
        refine ⟨trivial, ⟨k, by omega, rfl⟩, fun j hj hjn => ?_⟩
        rw [nN_nI (by omega)] at hjn
        exact t3 j hj (by rw [t2, nN_nI (by omega)]; omega)
      · unfold Flt
        simp (disch := omega) only [gI_def, pI_s, pI_o, cI_s, cI_o, pL_1, pR_1, up_eq, up_ne]
        exact h5
      · simp (disch := omega) only [gI_def, pI_s, pI_o, cI_s, cI_o, pL_1, pR_1, up_eq, up_ne]; exact h6
      · simp (disch := omega) only [gI_def, pI_s, pI_o, cI_s, cI_o, pL_1, pR_1] at hn'
        exact hLT t u _ (fun j h1 h2 => by simp (disch := omega) only [gI_def, pI_s, pI_o, cI_s, cI_o, pL_1, pR_1]) (by simp (disch := omega) only [gI_def, pI_s, pI_o, cI_s, cI_o, pL_1, pR_1]) (h7 t ht hn')
  · have hb : x < 0 ∨ nI n < x := by
      by_cases h0 : x < 0
      · exact Or.inl h0
      · obtain ⟨j, hj, rfl⟩ := nI_of h0
        rcases Nat.lt_or_ge n j with q | q
        · exact Or.inr (nI_lt q hj)
        · exact absurd ⟨j, q, rfl⟩ ok
    refine ⟨fun r u1 => r = -1 ∧ u1 = u, fun K hK => ?_, fun r u1 hr K hK => ?_⟩
    · unfold wp_X11_end; rw [gI_def, t1, t2]
      exact within_f hb ⟨fun q => absurd rfl q, fun _ => hK _ _ ⟨rfl, rfl⟩⟩
    · obtain ⟨rfl, rfl⟩ := hr
      unfold wp_X12_end; rw [gI_def, t2]
      exact isIn_f hb ⟨fun q => absurd rfl q, fun _ => hK _ hI⟩
theorem row_seen {r a r' a' : Nat → Int32} (h : RowOk r a) (hr : ∀ i, ¬ (i = 153 ∨ (154 ≤ i ∧ i < 166)) → r' i = r i) (ha : ∀ i, ¬ (i = 4 ∨ (165 ≤ i ∧ i < 177)) → a' i = a i) (s4 : r' 153 = a' 4) (b4 : Sm 6 (a' 4)) (cSee : See r' a') : RowOk r' a' := by
  obtain ⟨h1, h2, h3, h4, h5, h6, h7, h8, h9, h10⟩ := h
  obtain ⟨e0, e1, e2, e3, e4, e5, e6, e7, e8, e9⟩ := h1
  obtain ⟨g0, g1, g2, g3, g4, g5, g6, g7, g8, g9, g10⟩ := h2
  exact ⟨⟨by rw [hr _ (by omega), ha _ (by omega)]; exact e0, by rw [hr _ (by omega), ha _ (by omega)]; exact e1, by rw [hr _ (by omega), ha _ (by omega)]; exact e2, by rw [hr _ (by omega), ha _ (by omega)]; exact e3, s4, by rw [hr _ (by omega), ha _ (by omega)]; exact e5, by rw [hr _ (by omega), ha _ (by omega)]; exact e6, by rw [hr _ (by omega), ha _ (by omega)]; exact e7, by rw [hr _ (by omega), ha _ (by omega)]; exact e8, by rw [hr _ (by omega), ha _ (by omega)]; exact e9⟩, ⟨by rw [ha _ (by omega)]; exact g0, by rw [ha _ (by omega)]; exact g1, by rw [ha _ (by omega), ha _ (by omega)]; exact g2, by rw [ha _ (by omega)]; exact g3, b4, by rw [ha _ (by omega)]; exact g5, by rw [ha _ (by omega)]; exact g6, by rw [ha _ (by omega)]; exact g7, by rw [ha _ (by omega)]; exact g8, by rw [ha _ (by omega)]; exact g9, by rw [hr _ (by omega)]; exact g10⟩, h3.congr (fun i hi => hr _ (by omega)) (ha _ (by omega)) (fun i _ hi => ha _ (by omega)), h4.congr (fun i _ hi => hr _ (by omega)) (hr _ (by omega)) (fun i _ hi => hr _ (by omega)) (fun i _ hi => ha _ (by omega)), h5.congr (fun i _ hi => hr _ (by omega)) (fun i _ hi => ha _ (by omega)), cSee, h7.congr (fun i _ hi => hr _ (by omega)) (by rw [ha _ (by omega)]; exact Nat.le_refl _) (ha _ (by omega)) (fun i _ hi => ha _ (by omega)), h8.congr (fun i _ hi => hr _ (by omega)) (ha _ (by omega)) (fun i _ hi => ha _ (by omega)), h9.congr (hr _ (by omega)) (by rw [ha _ (by omega)]; exact Nat.le_refl _) (ha _ (by omega)) (fun i _ hi => hr _ (by omega)) (fun i _ hi => ha _ (by omega)), h10.congr (ha _ (by omega)) (ha _ (by omega)) (fun i _ hi => ha _ (by omega)) (fun i _ hi => ha _ (by omega))⟩

theorem row_said {r a r' a' : Nat → Int32} (h : RowOk r a) (hr : ∀ i, ¬ (i = 166 ∨ (167 ≤ i ∧ i < 183)) → r' i = r i) (ha : ∀ i, ¬ (i = 5 ∨ (177 ≤ i ∧ i < 193)) → a' i = a i) (s5 : r' 166 = a' 5) (b5 : Sm 8 (a' 5)) (cSai : Sai r' a') : RowOk r' a' := by
  obtain ⟨h1, h2, h3, h4, h5, h6, h7, h8, h9, h10⟩ := h
  obtain ⟨e0, e1, e2, e3, e4, e5, e6, e7, e8, e9⟩ := h1
  obtain ⟨g0, g1, g2, g3, g4, g5, g6, g7, g8, g9, g10⟩ := h2
  exact ⟨⟨by rw [hr _ (by omega), ha _ (by omega)]; exact e0, by rw [hr _ (by omega), ha _ (by omega)]; exact e1, by rw [hr _ (by omega), ha _ (by omega)]; exact e2, by rw [hr _ (by omega), ha _ (by omega)]; exact e3, by rw [hr _ (by omega), ha _ (by omega)]; exact e4, s5, by rw [hr _ (by omega), ha _ (by omega)]; exact e6, by rw [hr _ (by omega), ha _ (by omega)]; exact e7, by rw [hr _ (by omega), ha _ (by omega)]; exact e8, by rw [hr _ (by omega), ha _ (by omega)]; exact e9⟩, ⟨by rw [ha _ (by omega)]; exact g0, by rw [ha _ (by omega)]; exact g1, by rw [ha _ (by omega), ha _ (by omega)]; exact g2, by rw [ha _ (by omega)]; exact g3, by rw [ha _ (by omega)]; exact g4, b5, by rw [ha _ (by omega)]; exact g6, by rw [ha _ (by omega)]; exact g7, by rw [ha _ (by omega)]; exact g8, by rw [ha _ (by omega)]; exact g9, by rw [hr _ (by omega)]; exact g10⟩, h3.congr (fun i hi => hr _ (by omega)) (ha _ (by omega)) (fun i _ hi => ha _ (by omega)), h4.congr (fun i _ hi => hr _ (by omega)) (hr _ (by omega)) (fun i _ hi => hr _ (by omega)) (fun i _ hi => ha _ (by omega)), h5.congr (fun i _ hi => hr _ (by omega)) (fun i _ hi => ha _ (by omega)), h6.congr (fun i _ hi => hr _ (by omega)) (ha _ (by omega)) (fun i _ hi => ha _ (by omega)), cSai, h8.congr (fun i _ hi => hr _ (by omega)) (ha _ (by omega)) (fun i _ hi => ha _ (by omega)), h9.congr (hr _ (by omega)) (by rw [ha _ (by omega)]; exact Nat.le_refl _) (ha _ (by omega)) (fun i _ hi => hr _ (by omega)) (fun i _ hi => ha _ (by omega)), h10.congr (ha _ (by omega)) (ha _ (by omega)) (fun i _ hi => ha _ (by omega)) (fun i _ hi => ha _ (by omega))⟩

theorem ob_seen {LT : Nat → PoS → Prop} (hLT : LTok LT) (x y : Int32) : Ob32 (wp_X11_seen x y) (wp_X12_seen x y) (Inv LT) := by
  intro u hI
  have hR := hI.1
  obtain ⟨n, hn, e1⟩ := hR.2.1.2.2.2.2.1
  have e2 : u.1 3 153 = nI n := by rw [hR.1.2.2.2.2.1, e1]
  have e3 : nN (u.1 49 4) = n := by rw [e1, nN_nI (by omega)]
  by_cases h1 : x = -1
  · refine ⟨fun r u1 => r = 0 ∧ u1 = pI u 3 153 0, fun K hK => fun x1 _ => ⟨fun q => absurd h1 q, fun _ z hz => hK _ _ ⟨rfl, hz⟩⟩, fun r u1 hr K hK => ?_⟩
    obtain ⟨rfl, rfl⟩ := hr
    refine ⟨fun q => absurd h1 q, fun _ z hz => ?_⟩
    subst hz
    refine hK _ (inv_row hLT hI ?_ (by simp (disch := omega) only [gI_def, pI_s, pI_o, cI_s, cI_o, pL_1, pR_1, up_eq, up_ne]) (fun j hj => by simp (disch := omega) only [gI_def, pI_s, pI_o, cI_s, cI_o, pL_1, pR_1, up_eq, up_ne]) (fun k hk => by simp (disch := omega) only [gI_def, pI_s, pI_o, cI_s, cI_o, pL_1, pR_1, up_eq, up_ne]))
    simp (disch := omega) only [gI_def, pI_s, pI_o, cI_s, cI_o, pL_1, pR_1]
    refine row_seen hR (fun i hi => by simp (disch := omega) only [gI_def, pI_s, pI_o, cI_s, cI_o, pL_1, pR_1, up_eq, up_ne]) (fun i hi => by simp (disch := omega) only [gI_def, pI_s, pI_o, cI_s, cI_o, pL_1, pR_1, up_eq, up_ne]) rfl ⟨0, by decide, rfl⟩ (fun k hk hk2 => ?_)
    rw [up_eq] at hk2
    rw [show nN 0 = 0 from rfl] at hk2; exact absurd hk2 (Nat.not_lt_zero k)
  rcases rng 29 (by decide) x with ⟨c, hc, rfl⟩ | hb
  · rcases rng 30 (by decide) y with ⟨m, hm, rfl⟩ | hb
    · by_cases h6 : n < 6
      · refine ⟨fun r u1 => r = nI (n + 1) ∧ u1 = pI (pI (pI u 3 (154 + n) (nI c)) 3 (160 + n) (nI m)) 3 153 (nI (n + 1)), fun K hK => ?_, fun r u1 hr K hK => ?_⟩
        · intro x1 ex
          rw [gI_def, e2] at ex
          subst ex
          refine ⟨fun _ => cellX_t (by omega) ⟨fun q => absurd q (by decide), fun _ => within_t (nI_pos (by omega)) (nI_nlt (a := 30) hm (by decide)) ⟨fun q => absurd q (by decide), fun _ => ⟨fun _ => ?_, fun q => absurd (nI_lt (b := 6) h6 (by decide)) q⟩⟩⟩, fun q => absurd q h1⟩
          simp (disch := omega) only [q_lit, nI_add, pk_mul, q_sub, q_rem, q_div, q_vp, q_cl, q_lt, q_le, q_eq, q_neg1, gI_def]
          refine ⟨by omega, fun z6 e6 => ⟨by omega, fun z7 e7 z8 e8 => ?_⟩⟩
          subst e6 e7 e8
          exact hK _ _ ⟨rfl, rfl⟩
        · obtain ⟨rfl, rfl⟩ := hr
          refine ⟨fun _ => cellM_t (by omega) ⟨fun q => absurd q (by decide), fun _ => isIn_t (nI_pos (by omega)) (nI_nlt (a := 30) hm (by decide)) ⟨fun q => absurd q (by decide), fun _ => ?_⟩⟩, fun q => absurd q h1⟩
          simp only [gI_def, pI_1]
          rw [if_neg (by decide), if_neg (by decide), if_neg (by decide), e1]
          simp (disch := omega) only [q_lit, nI_add, pk_mul, q_sub, q_rem, q_div, q_vp, q_cl, q_lt, q_le, q_eq, q_neg1, gI_def]
          refine ⟨fun _ => ⟨by omega, fun z5 e5 => ?_⟩, fun q => by omega⟩
          subst e5
          simp only [pI_1, if_true]
          rw [if_neg (by decide), if_neg (by decide), if_neg (by decide), up_ne (by omega), e1]
          simp (disch := omega) only [q_lit, nI_add, pk_mul, q_sub, q_rem, q_div, q_vp, q_cl, q_lt, q_le, q_eq, q_neg1, gI_def]
          refine ⟨by omega, fun z6 e6 z7 e7 => ?_⟩
          subst e6
          simp only [pI_1, if_true] at e7
          rw [if_neg (by decide), if_neg (by decide), if_neg (by decide), up_ne (by omega), up_ne (by omega), e1, nI_add] at e7
          subst e7
          simp only [pI_1, if_true, up_eq]
          refine hK _ (inv_row hLT hI ?_ ?_ ?_ ?_)
          · simp only [pI_1, if_true]
            rw [if_neg (by decide), if_neg (by decide), if_neg (by decide), if_neg (by decide), if_neg (by decide), if_neg (by decide)]
            refine row_seen hR (fun i hi => ?_) (fun i hi => ?_) ?_ ?_ ?_
            · rw [up_ne (by omega), up_ne (by omega), up_ne (by omega)]
            · rw [up_ne (by omega), up_ne (by omega), up_ne (by omega)]
            · rw [up_eq, up_eq]
            · rw [up_eq]; exact ⟨n + 1, by omega, rfl⟩
            · intro k hk hk2
              rw [up_eq, nN_nI (by omega)] at hk2
              rw [up_ne (show 154 + k ≠ 153 by omega), up_ne (show 154 + k ≠ 160 + n by omega), up_ne (show 165 + 2 * k ≠ 4 by omega), up_ne (show 165 + 2 * k ≠ 165 + 2 * n + 1 by omega), up_ne (show 160 + k ≠ 153 by omega), up_ne (show 166 + 2 * k ≠ 4 by omega)]
              by_cases hkn : k = n
              · subst hkn
                rw [up_eq, up_eq, up_eq, show 165 + 2 * k + 1 = 166 + 2 * k by omega, up_eq]
                exact ⟨rfl, ⟨c, hc, rfl⟩, rfl, ⟨m, hm, rfl⟩⟩
              · rw [up_ne (show 154 + k ≠ 154 + n by omega), up_ne (show 165 + 2 * k ≠ 165 + 2 * n by omega), up_ne (show 160 + k ≠ 160 + n by omega), up_ne (show 160 + k ≠ 154 + n by omega), up_ne (show 166 + 2 * k ≠ 165 + 2 * n + 1 by omega), up_ne (show 166 + 2 * k ≠ 165 + 2 * n by omega)]
                exact hR.2.2.2.2.2.1 k hk (by omega)
          · simp only [pI_1, if_true]
            rw [if_neg (by decide), if_neg (by decide), if_neg (by decide), up_ne (by omega), up_ne (by omega), up_ne (by omega)]
          · intro j hj
            simp only [pI_1]
            rw [if_neg (by omega), if_neg (by omega), if_neg (by omega), if_neg (by omega), if_neg (by omega), if_neg (by omega)]
          · intro k hk; simp only [pI_1]; rfl
      · refine ⟨fun r u1 => r = -2 ∧ u1 = u, fun K hK => ?_, fun r u1 hr K hK => ?_⟩
        · intro x1 ex
          rw [gI_def, e2] at ex
          subst ex
          exact ⟨fun _ => cellX_t (by omega) ⟨fun q => absurd q (by decide), fun _ => within_t (nI_pos (by omega)) (nI_nlt (a := 30) hm (by decide)) ⟨fun q => absurd q (by decide), fun _ => ⟨fun q => absurd q (nI_nlt (b := 6) (by omega) (by omega)), fun _ => hK _ _ ⟨rfl, rfl⟩⟩⟩⟩, fun q => absurd q h1⟩
        · obtain ⟨rfl, rfl⟩ := hr
          refine ⟨fun _ => cellM_t (by omega) ⟨fun q => absurd q (by decide), fun _ => isIn_t (nI_pos (by omega)) (nI_nlt (a := 30) hm (by decide)) ⟨fun q => absurd q (by decide), fun _ => ?_⟩⟩, fun q => absurd q h1⟩
          rw [gI_def, e1]
          exact ⟨fun q => absurd (show nI n = 6 by rw [show n = 6 by omega]; rfl) q, fun _ => hK _ hI⟩
    · refine ⟨fun r u1 => r = -2 ∧ u1 = u, fun K hK => fun x1 _ => ⟨fun _ => cellX_t (by omega) ⟨fun q => absurd q (by decide), fun _ => within_f hb ⟨fun _ => hK _ _ ⟨rfl, rfl⟩, fun q => absurd rfl q⟩⟩, fun q => absurd q h1⟩, fun r u1 hr K hK => ?_⟩
      obtain ⟨rfl, rfl⟩ := hr
      exact ⟨fun _ => cellM_t (by omega) ⟨fun q => absurd q (by decide), fun _ => isIn_f hb ⟨fun _ => hK _ hI, fun q => absurd rfl q⟩⟩, fun q => absurd q h1⟩
  · refine ⟨fun r u1 => r = -2 ∧ u1 = u, fun K hK => fun x1 _ => ⟨fun _ => cellX_f hb ⟨fun _ => hK _ _ ⟨rfl, rfl⟩, fun q => absurd rfl q⟩, fun q => absurd q h1⟩, fun r u1 hr K hK => ?_⟩
    obtain ⟨rfl, rfl⟩ := hr
    exact ⟨fun _ => cellM_f hb ⟨fun _ => hK _ hI, fun q => absurd rfl q⟩, fun q => absurd q h1⟩
theorem ob_said {LT : Nat → PoS → Prop} (hLT : LTok LT) (x y : Int32) : Ob32 (wp_X11_said x y) (wp_X12_said x y) (Inv LT) := by
  intro u hI
  have hR := hI.1
  obtain ⟨n, hn, e1⟩ := hR.2.1.2.2.2.2.2.1
  have e2 : u.1 3 166 = nI n := by rw [hR.1.2.2.2.2.2.1, e1]
  have e3 : nN (u.1 49 5) = n := by rw [e1, nN_nI (by omega)]
  by_cases h1 : x = -1
  · refine ⟨fun r u1 => r = 0 ∧ u1 = pI u 3 166 0, fun K hK => fun x1 _ => ⟨fun q => absurd h1 q, fun _ z hz => hK _ _ ⟨rfl, hz⟩⟩, fun r u1 hr K hK => ?_⟩
    obtain ⟨rfl, rfl⟩ := hr
    refine ⟨fun q => absurd h1 q, fun _ z hz => ?_⟩
    subst hz
    refine hK _ (inv_row hLT hI ?_ (by simp (disch := omega) only [gI_def, pI_s, pI_o, cI_s, cI_o, pL_1, pR_1, up_eq, up_ne]) (fun j hj => by simp (disch := omega) only [gI_def, pI_s, pI_o, cI_s, cI_o, pL_1, pR_1, up_eq, up_ne]) (fun k hk => by simp (disch := omega) only [gI_def, pI_s, pI_o, cI_s, cI_o, pL_1, pR_1, up_eq, up_ne]))
    simp (disch := omega) only [gI_def, pI_s, pI_o, cI_s, cI_o, pL_1, pR_1]
    refine row_said hR (fun i hi => by simp (disch := omega) only [gI_def, pI_s, pI_o, cI_s, cI_o, pL_1, pR_1, up_eq, up_ne]) (fun i hi => by simp (disch := omega) only [gI_def, pI_s, pI_o, cI_s, cI_o, pL_1, pR_1, up_eq, up_ne]) rfl ⟨0, by decide, rfl⟩ (fun k hk hk2 => ?_)
    rw [up_eq] at hk2
    rw [show nN 0 = 0 from rfl] at hk2; exact absurd hk2 (Nat.not_lt_zero k)
  by_cases hp : ∃ p, p < nN (u.1 49 0) ∧ x = nI p
  · obtain ⟨p, hp, rfl⟩ := hp
    obtain ⟨np, hnp, p1, p2, p3⟩ := ppl hR
    have hno : ¬ (nI p < 0 ∨ nI (nN (u.1 49 0)) ≤ nI p) := by
      rintro (q | q)
      · exact nI_pos (by omega) q
      · rw [q_le (by omega) (by omega)] at q; omega
    by_cases hy : y < -999 ∨ 999 < y
    · refine ⟨fun r u1 => r = -2 ∧ u1 = u, fun K hK => fun x1 _ => ⟨fun _ => perX hR (fun _ _ _ => ⟨fun q => absurd q (by decide), fun _ => within_f hy ⟨fun _ => hK _ _ ⟨rfl, rfl⟩, fun q => absurd rfl q⟩⟩) (fun q => absurd q hno), fun q => absurd q h1⟩, fun r u1 hr K hK => ?_⟩
      obtain ⟨rfl, rfl⟩ := hr
      exact ⟨fun _ => perM hR (fun _ _ _ => ⟨fun q => absurd q (by decide), fun _ => isIn_f hy ⟨fun _ => hK _ hI, fun q => absurd rfl q⟩⟩) (fun q => absurd q hno), fun q => absurd q h1⟩
    · have hy1 : ¬ y < -999 := fun q => hy (Or.inl q)
      have hy2 : ¬ 999 < y := fun q => hy (Or.inr q)
      by_cases h8 : n < 8
      · refine ⟨fun r u1 => r = nI (n + 1) ∧ u1 = pI (pI (pI u 3 (167 + n) (nI p)) 3 (175 + n) y) 3 166 (nI (n + 1)), fun K hK => ?_, fun r u1 hr K hK => ?_⟩
        · intro x1 ex
          rw [gI_def, e2] at ex
          subst ex
          refine ⟨fun _ => perX hR (fun _ _ _ => ⟨fun q => absurd q (by decide), fun _ => within_t hy1 hy2 ⟨fun q => absurd q (by decide), fun _ => ⟨fun _ => ?_, fun q => absurd (nI_lt (b := 8) h8 (by decide)) q⟩⟩⟩) (fun q => absurd q hno), fun q => absurd q h1⟩
          simp (disch := omega) only [q_lit, nI_add, pk_mul, q_sub, q_rem, q_div, q_vp, q_cl, q_lt, q_le, q_eq, q_neg1, gI_def]
          refine ⟨by omega, fun z6 e6 => ⟨by omega, fun z7 e7 z8 e8 => ?_⟩⟩
          subst e6 e7 e8
          exact hK _ _ ⟨rfl, rfl⟩
        · obtain ⟨rfl, rfl⟩ := hr
          have hR' : RowOk (u.1 3) ((pI (pI (pI u 3 (167 + n) (nI p)) 3 (175 + n) y) 3 166 (nI (n + 1))).1 49) := by simp (disch := omega) only [gI_def, pI_s, pI_o, cI_s, cI_o, pL_1, pR_1]; exact hR
          refine ⟨fun _ => perM hR' (fun _ _ _ => ⟨fun q => absurd q (by decide), fun _ => isIn_t hy1 hy2 ⟨fun q => absurd q (by decide), fun _ => ?_⟩⟩) (fun q => absurd (by simp (disch := omega) only [gI_def, pI_s, pI_o, cI_s, cI_o, pL_1, pR_1] at q; exact q) hno), fun q => absurd q h1⟩
          simp (disch := omega) only [gI_def, pI_s, pI_o, cI_s, cI_o, pL_1, pR_1]
          rw [e1]
          simp (disch := omega) only [q_lit, nI_add, pk_mul, q_sub, q_rem, q_div, q_vp, q_cl, q_lt, q_le, q_eq, q_neg1, gI_def]
          refine ⟨fun _ => ⟨by omega, fun z5 e5 => ?_⟩, fun q => by omega⟩
          subst e5
          simp (disch := omega) only [gI_def, pI_s, pI_o, cI_s, cI_o, pL_1, pR_1, up_eq, up_ne]
          rw [e1]
          simp (disch := omega) only [q_lit, nI_add, pk_mul, q_sub, q_rem, q_div, q_vp, q_cl, q_lt, q_le, q_eq, q_neg1, gI_def]
          refine ⟨by omega, fun z6 e6 z7 e7 => ?_⟩
          subst e6
          simp (disch := omega) only [gI_def, pI_s, pI_o, cI_s, cI_o, pL_1, pR_1, up_eq, up_ne] at e7
          rw [e1, nI_add] at e7
          subst e7
          simp (disch := omega) only [gI_def, pI_s, pI_o, cI_s, cI_o, pL_1, pR_1, up_eq, up_ne]
          refine hK _ (inv_row hLT hI ?_ (by simp (disch := omega) only [gI_def, pI_s, pI_o, cI_s, cI_o, pL_1, pR_1, up_eq, up_ne]) (fun j hj => by simp (disch := omega) only [gI_def, pI_s, pI_o, cI_s, cI_o, pL_1, pR_1, up_eq, up_ne]) (fun k hk => by simp (disch := omega) only [gI_def, pI_s, pI_o, cI_s, cI_o, pL_1, pR_1, up_eq, up_ne]))
          simp (disch := omega) only [gI_def, pI_s, pI_o, cI_s, cI_o, pL_1, pR_1]
          refine row_said hR (fun i hi => by simp (disch := omega) only [gI_def, pI_s, pI_o, cI_s, cI_o, pL_1, pR_1, up_eq, up_ne]) (fun i hi => by simp (disch := omega) only [gI_def, pI_s, pI_o, cI_s, cI_o, pL_1, pR_1, up_eq, up_ne]) (by simp (disch := omega) only [gI_def, pI_s, pI_o, cI_s, cI_o, pL_1, pR_1, up_eq, up_ne]) (by simp (disch := omega) only [gI_def, pI_s, pI_o, cI_s, cI_o, pL_1, pR_1, up_eq, up_ne]; exact ⟨n + 1, by omega, rfl⟩) (fun k hk hk2 => ?_)
          simp (disch := omega) only [gI_def, pI_s, pI_o, cI_s, cI_o, pL_1, pR_1, up_eq, up_ne] at hk2
          rw [nN_nI (by omega)] at hk2
          by_cases hkn : k = n
          · subst hkn
            rw [show 177 + 2 * k + 1 = 178 + 2 * k by omega]
            simp (disch := omega) only [gI_def, pI_s, pI_o, cI_s, cI_o, pL_1, pR_1, up_eq, up_ne]
            exact ⟨trivial, ⟨p, hp, rfl⟩, trivial⟩
          · simp (disch := omega) only [gI_def, pI_s, pI_o, cI_s, cI_o, pL_1, pR_1, up_eq, up_ne]
            exact hR.2.2.2.2.2.2.1 k hk (by omega)
      · refine ⟨fun r u1 => r = -2 ∧ u1 = u, fun K hK => ?_, fun r u1 hr K hK => ?_⟩
        · intro x1 ex
          rw [gI_def, e2] at ex
          subst ex
          exact ⟨fun _ => perX hR (fun _ _ _ => ⟨fun q => absurd q (by decide), fun _ => within_t hy1 hy2 ⟨fun q => absurd q (by decide), fun _ => ⟨fun q => absurd q (nI_nlt (b := 8) (by omega) (by omega)), fun _ => hK _ _ ⟨rfl, rfl⟩⟩⟩⟩) (fun q => absurd q hno), fun q => absurd q h1⟩
        · obtain ⟨rfl, rfl⟩ := hr
          refine ⟨fun _ => perM hR (fun _ _ _ => ⟨fun q => absurd q (by decide), fun _ => isIn_t hy1 hy2 ⟨fun q => absurd q (by decide), fun _ => ?_⟩⟩) (fun q => absurd q hno), fun q => absurd q h1⟩
          rw [gI_def, e1]
          exact ⟨fun q => absurd (show nI n = 8 by rw [show n = 8 by omega]; rfl) q, fun _ => hK _ hI⟩
  · refine ⟨fun r u1 => r = -2 ∧ u1 = u, fun K hK => fun x1 _ => ⟨fun _ => perX hR (fun p hp' e => absurd ⟨p, hp', e⟩ hp) (fun _ => ⟨fun _ => hK _ _ ⟨rfl, rfl⟩, fun q => absurd rfl q⟩), fun q => absurd q h1⟩, fun r u1 hr K hK => ?_⟩
    obtain ⟨rfl, rfl⟩ := hr
    exact ⟨fun _ => perM hR (fun p hp' e => absurd ⟨p, hp', e⟩ hp) (fun _ => ⟨fun _ => hK _ hI, fun q => absurd rfl q⟩), fun q => absurd q h1⟩
/-! image, back -/
theorem rowK {r a r' a' : Nat → Int32} (h : RowOk r a) (hr : ∀ i, i < 2735 → r' i = r i) (ha : ∀ i, i < 3703 → a' i = a i) : RowOk r' a' := h.congr hr ha
theorem cpA {u : PoS} (post : PoS → Prop) (hK : ∀ z : PoS, (∀ i, i ≠ 50 → z.1 i = u.1 i) → (∀ i, i < 3703 → z.1 50 i = u.1 49 i) → post z) : ∀ k c, c + k = 3703 → ∀ z : PoS, (∀ i, i ≠ 50 → z.1 i = u.1 i) → (∀ i, i < c → z.1 50 i = u.1 49 i) → wl_X12_copyA_2 post (k + 1) (nI c) z := by
  intro k
  induction k with
  | zero => intro c hc z h1 h2; obtain rfl : c = 3703 := by omega
            rw [wl_X12_copyA_2]; exact ⟨fun _ => hK z h1 h2, fun q => absurd (by decide) q⟩
  | succ k ih =>
    intro c hc z h1 h2
    rw [wl_X12_copyA_2]
    simp (disch := omega) only [q_lit, nI_add, pk_mul, q_sub, q_rem, q_div, q_vp, q_cl, q_lt, q_le, q_eq, q_neg1, gI_def]
    refine ⟨fun q => by omega, fun _ => ⟨by omega, by omega, fun z1 e => ih (c + 1) (by omega) z1 (fun i hi => ?_) (fun i hi => ?_)⟩⟩
    · subst e; simp (disch := omega) only [gI_def, pI_s, pI_o, cI_s, cI_o, pL_1, pR_1]; exact h1 i hi
    · subst e
      simp (disch := omega) only [gI_def, pI_s, pI_o, cI_s, cI_o, pL_1, pR_1]
      by_cases hic : i = c
      · subst hic; rw [up_eq, h1 49 (by decide)]
      · rw [up_ne hic]; exact h2 i (by omega)
theorem cpB {u : PoS} (post : PoS → Prop) (hK : ∀ z : PoS, (∀ i, i ≠ 49 → z.1 i = u.1 i) → (∀ i, i < 3703 → z.1 49 i = u.1 50 i) → post z) : ∀ k c, c + k = 3703 → ∀ z : PoS, (∀ i, i ≠ 49 → z.1 i = u.1 i) → (∀ i, i < c → z.1 49 i = u.1 50 i) → wl_X12_copyB_2 post (k + 1) (nI c) z := by
  intro k
  induction k with
  | zero => intro c hc z h1 h2; obtain rfl : c = 3703 := by omega
            rw [wl_X12_copyB_2]; exact ⟨fun _ => hK z h1 h2, fun q => absurd (by decide) q⟩
  | succ k ih =>
    intro c hc z h1 h2
    rw [wl_X12_copyB_2]
    simp (disch := omega) only [q_lit, nI_add, pk_mul, q_sub, q_rem, q_div, q_vp, q_cl, q_lt, q_le, q_eq, q_neg1, gI_def]
    refine ⟨fun q => by omega, fun _ => ⟨by omega, by omega, fun z1 e => ih (c + 1) (by omega) z1 (fun i hi => ?_) (fun i hi => ?_)⟩⟩
    · subst e; simp (disch := omega) only [gI_def, pI_s, pI_o, cI_s, cI_o, pL_1, pR_1]; exact h1 i hi
    · subst e
      simp (disch := omega) only [gI_def, pI_s, pI_o, cI_s, cI_o, pL_1, pR_1]
      by_cases hic : i = c
      · subst hic; rw [up_eq, h1 50 (by decide)]
      · rw [up_ne hic]; exact h2 i (by omega)
theorem ob_image {LT : Nat → PoS → Prop} (hLT : LTok LT) : Ob32 wp_X11_image wp_X12_image (Inv LT) := by
  intro u hI
  refine ⟨fun r u1 => r = u.1 49 6 ∧ u1 = cI u 3 5 0 0 2735, fun K hK => ⟨by decide, fun z hz => hK _ _ ⟨?_, hz⟩⟩, fun r u1 hr K hK => ?_⟩
  · subst hz; simp (disch := omega) only [gI_def, pI_s, pI_o, cI_s, cI_o, pL_1, pR_1]; exact hI.1.1.2.2.2.2.2.2.1
  · obtain ⟨rfl, rfl⟩ := hr
    refine ⟨_, cpA _ (fun z h1 h2 => ?_) 3703 0 rfl _ (fun i hi => rfl) (fun i hi => absurd hi (Nat.not_lt_zero i))⟩
    have e49 : z.1 49 = u.1 49 := by rw [h1 49 (by decide)]; simp (disch := omega) only [gI_def, pI_s, pI_o, cI_s, cI_o, pL_1, pR_1]
    rw [gI_def, e49]
    have hj : ∀ j, j ≠ 50 → j ≠ 5 → z.1 j = u.1 j := fun j h5 h6 => by rw [h1 j h5]; simp (disch := omega) only [gI_def, pI_s, pI_o, cI_s, cI_o, pL_1, pR_1]
    obtain ⟨g1, g2, g3, g4, g5, g6, g7⟩ := hI
    refine hK _ ⟨?_, ?_, ?_, ?_, ?_, ?_, fun t ht hn => ?_⟩
    · rw [hj 3 (by decide) (by decide), e49]; exact g1
    · refine g1.congr (fun i hi => ?_) (fun i hi => ?_)
      · rw [h1 5 (by decide)]; simp (disch := omega) only [gI_def, pI_s, pI_o, cI_s, cI_o, pL_1, pR_1]; rw [pk_cpy_in (by omega) (by omega), show 0 + (i - 0) = i by omega]
      · rw [h2 i hi]; simp (disch := omega) only [gI_def, pI_s, pI_o, cI_s, cI_o, pL_1, pR_1]
    · rw [e49, h2 1 (by decide)]; simp (disch := omega) only [gI_def, pI_s, pI_o, cI_s, cI_o, pL_1, pR_1]; exact Nat.le_refl _
    · unfold Tape; rw [hj 0 (by decide) (by decide), hj 48 (by decide) (by decide), hj 31 (by decide) (by decide), hj 52 (by decide) (by decide)]; exact g4
    · unfold Flt; rw [hj 0 (by decide) (by decide), hj 48 (by decide) (by decide), hj 27 (by decide) (by decide)]; exact g5
    · rw [hj 48 (by decide) (by decide)]; exact g6
    · rw [e49] at hn
      exact hLT t u _ (fun j a1 a2 => hj j (by omega) (by omega)) (hj 51 (by decide) (by decide)) (g7 t ht hn)
theorem ob_back {LT : Nat → PoS → Prop} (hLT : LTok LT) : Ob32 wp_X11_back wp_X12_back (Inv LT) := by
  intro u hI
  refine ⟨fun r u1 => r = u.1 50 6 ∧ u1 = cI u 5 3 0 0 2735, fun K hK => ⟨by decide, fun z hz => hK _ _ ⟨?_, hz⟩⟩, fun r u1 hr K hK => ?_⟩
  · subst hz; simp (disch := omega) only [gI_def, pI_s, pI_o, cI_s, cI_o, pL_1, pR_1]
    rw [show Int32.toNatClampNeg 0 = 0 from rfl, show Int32.toNatClampNeg 2735 = 2735 from rfl, pk_cpy_in (by omega) (by omega)]; exact hI.2.1.1.2.2.2.2.2.2.1
  · obtain ⟨rfl, rfl⟩ := hr
    refine ⟨_, cpB _ (fun z h1 h2 => ?_) 3703 0 rfl _ (fun i hi => rfl) (fun i hi => absurd hi (Nat.not_lt_zero i))⟩
    have e50 : z.1 50 = u.1 50 := by rw [h1 50 (by decide)]; simp (disch := omega) only [gI_def, pI_s, pI_o, cI_s, cI_o, pL_1, pR_1]
    have h2' : ∀ i, i < 3703 → z.1 49 i = u.1 50 i := fun i hi => by rw [h2 i hi]; simp (disch := omega) only [gI_def, pI_s, pI_o, cI_s, cI_o, pL_1, pR_1]
    rw [gI_def, h2' 6 (by decide)]
    have hj : ∀ j, j ≠ 49 → j ≠ 3 → z.1 j = u.1 j := fun j h5 h6 => by rw [h1 j h5]; simp (disch := omega) only [gI_def, pI_s, pI_o, cI_s, cI_o, pL_1, pR_1]
    obtain ⟨g1, g2, g3, g4, g5, g6, g7⟩ := hI
    refine hK _ ⟨?_, ?_, ?_, ?_, ?_, ?_, fun t ht hn => ?_⟩
    · refine g2.congr (fun i hi => ?_) (fun i hi => h2' i hi)
      rw [h1 3 (by decide)]; simp (disch := omega) only [gI_def, pI_s, pI_o, cI_s, cI_o, pL_1, pR_1]; rw [pk_cpy_in (by omega) (by omega), show 0 + (i - 0) = i by omega]
    · rw [e50, hj 5 (by decide) (by decide)]; exact g2
    · rw [e50, h2' 1 (by decide)]; exact Nat.le_refl _
    · unfold Tape; rw [hj 0 (by decide) (by decide), hj 48 (by decide) (by decide), hj 31 (by decide) (by decide), hj 52 (by decide) (by decide)]; exact g4
    · unfold Flt; rw [hj 0 (by decide) (by decide), hj 48 (by decide) (by decide), hj 27 (by decide) (by decide)]; exact g5
    · rw [hj 48 (by decide) (by decide)]; exact g6
    · rw [h2' 1 (by decide)] at hn
      exact hLT t u _ (fun j a1 a2 => hj j (by omega) (by omega)) (hj 51 (by decide) (by decide)) (g7 t ht (by omega))
