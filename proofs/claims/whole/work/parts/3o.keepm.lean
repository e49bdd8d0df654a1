/-! keep, as the reference does it -/
def FrA (u z : PoS) : Prop := ∀ j, j ≠ 49 → z.1 j = u.1 j
theorem FrA.put {u z : PoS} (h : FrA u z) (k : Nat) (v : Int32) : FrA u (pI z 49 k v) := fun j hj => by simp (disch := omega) only [gI_def, pI_s, pI_o, cI_s, cI_o, pL_1, pR_1]; exact h j hj
theorem cpy_grow {f : Nat → Int32} {src dp n : Nat} (hd : src + n < dp ∨ dp + n ≤ src + n) : up (va_cpy f f src dp n) (dp + n) (f (src + n)) = va_cpy f f src dp (n + 1) := by
  funext i
  by_cases e : i = dp + n
  · rw [e, up_eq, pk_cpy_in (by omega) (by omega)]; congr 1; omega
  · rw [up_ne e]
    by_cases q : dp ≤ i ∧ i < dp + n
    · rw [pk_cpy_in q.1 q.2, pk_cpy_in q.1 (by omega)]
    · rw [pk_cpy_out (by omega), pk_cpy_out (by omega)]
theorem cpy_0 {f : Nat → Int32} {src dp : Nat} : va_cpy f f src dp 0 = f := by
  funext i; exact pk_cpy_out (by omega)
/-- a loop that copies n in a, one by one -/
theorem cpy_loop (W : Nat → Nat → PoS → Prop) (u : PoS) (src dp N : Nat) (hd : src + N ≤ dp ∨ dp ≤ src) (hx : ∀ n z, FrA u z → z.1 49 = va_cpy (u.1 49) (u.1 49) src dp N → W (n + 1) N z) (hs : ∀ n k z, k < N → (∀ z1, z1 = pI z 49 (dp + k) (z.1 49 (src + k)) → W n (k + 1) z1) → W (n + 1) k z) : ∀ m k, k + m = N → ∀ z, FrA u z → z.1 49 = va_cpy (u.1 49) (u.1 49) src dp k → W (m + 1) k z := by
  intro m
  induction m with
  | zero => intro k hk z h1 h2; obtain rfl : k = N := by omega
            exact hx 0 z h1 h2
  | succ m ih =>
    intro k hk z h1 h2
    refine hs (m + 1) k z (by omega) (fun z1 e => ih (k + 1) (by omega) z1 ?_ ?_)
    · rw [e]; exact h1.put _ _
    · rw [e]
      simp (disch := omega) only [gI_def, pI_s, pI_o, cI_s, cI_o, pL_1, pR_1]
      rw [h2, pk_cpy_out (by omega), cpy_grow (by omega)]
theorem keepM {u : PoS} {s : Nat} (hs : s ≤ 30) (es : u.1 49 3 = nI s) {post : PoS → Prop} (K : ∀ z, FrA u z → z.1 49 = keepA (u.1 49) → post z) : wp_X12_keep u post := by
  have hx := kx_is hs es
  have hx1 : 193 ≤ kx (u.1 49) ∧ kx (u.1 49) + 115 ≤ 3643 := by rw [hx]; split <;> omega
  have main : ∀ z, FrA u z → z.1 49 = k0 (u.1 49) → wj_X12_keep_56 post z := by
    intro z h1 h2 x1 ex
    have ex1 : x1 = nI (kx (u.1 49)) := by
      rw [ex, gI_def, h2, k0_3 hs es, hx]
      simp (disch := omega) only [q_lit, nI_add, pk_mul, q_sub, q_rem, q_div, q_vp, q_cl, q_lt, q_le, q_eq, q_neg1, gI_def]
    subst ex1
    generalize hX : kx (u.1 49) = X at *
    rw [q_vp (by omega) (by omega), q_cl (by omega)]
    refine ⟨by omega, fun z2 e2 => ?_⟩
    have g2 : z2.1 49 = k1 (u.1 49) := by rw [e2]; simp (disch := omega) only [gI_def, pI_s, pI_o, cI_s, cI_o, pL_1, pR_1]; rw [h2]; unfold k1; rw [hX]
    have f2 : FrA u z2 := by rw [e2]; exact h1.put _ _
    refine ⟨5, cpy_loop (fun n k z => wl_X12_keep_84 _ post n (nI X) (nI k) z) z2 6 (X + 1) 4 (by omega) (fun n z3 h3 h4 => ?_) (fun n k z hk H => ?_) 4 0 rfl z2 (fun _ _ => rfl) cpy_0.symm⟩
    · simp only [wl_X12_keep_84]
      refine ⟨fun _ => ?_, fun q => absurd (by decide) q⟩
      have g3 : z3.1 49 = k2 (u.1 49) := by rw [h4, g2]; unfold k2; rw [hX]
      have f3 : FrA u z3 := fun j hj => by rw [h3 j hj, f2 j hj]
      -- the PEOPLE
      have outer : ∀ m p, p + m = 5 → ∀ z, FrA u z → z.1 49 = (fun i => if X + 5 ≤ i ∧ i < X + 5 + 4 * p then k2 (u.1 49) (10 + 6 * ((i - (X + 5)) / 4) + (i - (X + 5)) % 4) else k2 (u.1 49) i) → wl_X12_keep_116 (fun (v112 : Int32) (u12 : PoS) => (∃ n162, wl_X12_keep_162 (fun (v115 : Int32) (u15 : PoS) => (∃ n196, wl_X12_keep_196 (fun (u18 : PoS) => ∀ z19 : PoS, z19 = pI u18 49 3 ((gI u18 49 3) + 1) → post z19) post n196 v115 0 u15)) post n162 v112 0 u12)) post (m + 1) (nI X) (nI p) z := by
        intro m
        induction m with
        | zero =>
          intro p hp z f4 g4
          obtain rfl : p = 5 := by omega
          simp only [wl_X12_keep_116]
          refine ⟨fun _ => ?_, fun q => absurd (by decide) q⟩
          have g4' : z.1 49 = k3 (u.1 49) := by rw [g4]; unfold k3; rw [hX]
          refine ⟨31, cpy_loop (fun n k z => wl_X12_keep_162 _ post n (nI X) (nI k) z) z 40 (X + 25) 30 (by omega) (fun n z5 h5 h6 => ?_) (fun n k z hk H => ?_) 30 0 rfl z (fun _ _ => rfl) cpy_0.symm⟩
          · simp only [wl_X12_keep_162]
            refine ⟨fun _ => ?_, fun q => absurd (by decide) q⟩
            have g5 : z5.1 49 = k4 (u.1 49) := by rw [h6, g4']; unfold k4; rw [hX]
            have f5 : FrA u z5 := fun j hj => by rw [h5 j hj, f4 j hj]
            refine ⟨61, cpy_loop (fun n k z => wl_X12_keep_196 _ post n (nI X) (nI k) z) z5 3643 (X + 55) 60 (by omega) (fun n z6 h7 h8 => ?_) (fun n k z hk H => ?_) 60 0 rfl z5 (fun _ _ => rfl) cpy_0.symm⟩
            · simp only [wl_X12_keep_196]
              refine ⟨fun _ z19 e19 => ?_, fun q => absurd (by decide) q⟩
              have g6 : z6.1 49 = k5 (u.1 49) := by rw [h8, g5]; unfold k5; rw [hX]
              have f6 : FrA u z6 := fun j hj => by rw [h7 j hj, f5 j hj]
              refine K z19 (by rw [e19]; exact f6.put _ _) ?_
              rw [e19]; simp (disch := omega) only [gI_def, pI_s, pI_o, cI_s, cI_o, pL_1, pR_1]; rw [g6]; rfl
            · simp only [wl_X12_keep_196]
              simp (disch := omega) only [q_lit, nI_add, pk_mul, q_sub, q_rem, q_div, q_vp, q_cl, q_lt, q_le, q_eq, q_neg1, gI_def]
              exact ⟨fun q => by omega, fun _ => ⟨by omega, by omega, fun z1 e => H z1 e⟩⟩
          · simp only [wl_X12_keep_162]
            simp (disch := omega) only [q_lit, nI_add, pk_mul, q_sub, q_rem, q_div, q_vp, q_cl, q_lt, q_le, q_eq, q_neg1, gI_def]
            exact ⟨fun q => by omega, fun _ => ⟨by omega, by omega, fun z1 e => H z1 e⟩⟩
        | succ m ih =>
          intro p hp z f4 g4
          simp only [wl_X12_keep_116]
          refine ⟨fun q => absurd q (nI_ge (b := 5) (by omega) (by decide)), fun _ => ⟨5, ?_⟩⟩
          have inner : ∀ m' k, k + m' = 4 → ∀ z', FrA u z' → z'.1 49 = (fun i => if X + 5 ≤ i ∧ i < X + 5 + 4 * p + k then k2 (u.1 49) (10 + 6 * ((i - (X + 5)) / 4) + (i - (X + 5)) % 4) else k2 (u.1 49) i) → wl_X12_keep_123 (fun (v110 : Int32) (v210 : Int32) (u10 : PoS) => wl_X12_keep_116 (fun (v112 : Int32) (u12 : PoS) => (∃ n162, wl_X12_keep_162 (fun (v115 : Int32) (u15 : PoS) => (∃ n196, wl_X12_keep_196 (fun (u18 : PoS) => ∀ z19 : PoS, z19 = pI u18 49 3 ((gI u18 49 3) + 1) → post z19) post n196 v115 0 u15)) post n162 v112 0 u12)) post (m + 1) v110 (v210 + 1) u10) post (m' + 1) (nI X) (nI p) (nI k) z' := by
            intro m'
            induction m' with
            | zero =>
              intro k hk z' f5 g5
              obtain rfl : k = 4 := by omega
              simp only [wl_X12_keep_123]
              refine ⟨fun _ => ?_, fun q => absurd (by decide) q⟩
              rw [nI_1]
              exact ih (p + 1) (by omega) z' f5 (by rw [g5, show X + 5 + 4 * p + 4 = X + 5 + 4 * (p + 1) by omega])
            | succ m' ih' =>
              intro k hk z' f5 g5
              simp only [wl_X12_keep_123]
              refine ⟨fun q => absurd q (nI_ge (b := 4) (by omega) (by decide)), fun _ => getM (by omega) (by omega) ?_⟩
              rw [show nI X + 5 + 4 * nI p + nI k = nI (X + 5 + 4 * p + k) by simp (disch := omega) only [q_lit, nI_add, pk_mul, q_sub, q_rem, q_div, q_vp, q_cl, q_lt, q_le, q_eq, q_neg1, gI_def], q_vp (by omega) (by omega), q_cl (by omega), nI_1]
              refine ⟨by omega, fun z8 e8 => ih' (k + 1) (by omega) z8 (by rw [e8]; exact f5.put _ _) ?_⟩
              rw [e8]
              simp (disch := omega) only [gI_def, pI_s, pI_o, cI_s, cI_o, pL_1, pR_1]
              rw [g5]
              funext i
              by_cases e : i = X + 5 + 4 * p + k
              · rw [e, up_eq, if_pos (by omega)]
                show (if X + 5 ≤ 10 + 6 * p + k ∧ 10 + 6 * p + k < X + 5 + 4 * p + k then _ else _) = _
                rw [if_neg (by omega), show 10 + 6 * ((X + 5 + 4 * p + k - (X + 5)) / 4) + (X + 5 + 4 * p + k - (X + 5)) % 4 = 10 + 6 * p + k by omega]
              · rw [up_ne e]
                by_cases q : X + 5 ≤ i ∧ i < X + 5 + 4 * p + k
                · rw [if_pos q, if_pos (by omega)]
                · rw [if_neg q, if_neg (by omega)]
          exact inner 4 0 rfl z f4 (by rw [g4]; rfl)
      refine ⟨6, outer 5 0 rfl z3 f3 ?_⟩
      rw [g3]
      funext i
      rw [if_neg (by omega)]
    · simp only [wl_X12_keep_84]
      simp (disch := omega) only [q_lit, nI_add, pk_mul, q_sub, q_rem, q_div, q_vp, q_cl, q_lt, q_le, q_eq, q_neg1, gI_def]
      exact ⟨fun q => by omega, fun _ => ⟨by omega, by omega, fun z1 e => H z1 e⟩⟩
  unfold wp_X12_keep
  rw [gI_def, es, show (30 : Int32) = nI 30 from rfl, q_eq (by omega) (by omega)]
  refine ⟨fun q => main u (fun _ _ => rfl) (by rw [k0_eq hs es, if_neg q]), fun q => ⟨3336, cpy_loop (fun n k z => wl_X12_keep_13 _ post n (nI k) z) u 308 193 3335 (by omega) (fun n z h1 h2 => ?_) (fun n k z hk H => ?_) 3335 0 rfl u (fun _ _ => rfl) cpy_0.symm⟩⟩
  · simp only [wl_X12_keep_13]
    refine ⟨fun _ z23 e23 => main z23 (by rw [e23]; exact h1.put _ _) ?_, fun q => absurd (by decide) q⟩
    rw [e23, k0_eq hs es, if_pos q]
    simp (disch := omega) only [gI_def, pI_s, pI_o, cI_s, cI_o, pL_1, pR_1]
    rw [h2, pk_cpy_out (by omega), es, q]
    rfl
  · simp only [wl_X12_keep_13]
    simp (disch := omega) only [q_lit, nI_add, pk_mul, q_sub, q_rem, q_div, q_vp, q_cl, q_lt, q_le, q_eq, q_neg1, gI_def]
    exact ⟨fun q => by omega, fun _ => ⟨by omega, by omega, fun z1 e => H z1 e⟩⟩
/-- a change of the living part, behind a STEP that was kept -/
theorem row_live {r a r' a' : Nat → Int32} (h : RowOk r a) (hF : Fresh a) (hr : ∀ i, 84 ≤ i → r' i = r i) (ha : ∀ i, i < 6 ∨ (10 ≤ i ∧ i < 40 ∧ 4 ≤ (i - 10) % 6) ∨ (70 ≤ i ∧ i < 3643) → a' i = a i) (hl : Liv r' a') (h53 : r' 53 = a' 9) (hB : Boo r' a') : RowOk r' a' ∧ Fresh a' := by
  obtain ⟨h1, h2, h3, h4, h5, h6, h7, h8, h9, ⟨t1, t2, t3⟩⟩ := h
  obtain ⟨e0, e1, e2, e3, e4, e5, e6, e7, e8, e9⟩ := h1
  obtain ⟨g0, g1, g2, g3, g4, g5, g6, g7, g8, g9, g10⟩ := h2
  obtain ⟨⟨l0, l2, l6, l7, l8⟩, ⟨m0, m1, m2, m6, m7, m8, m9⟩, l3, l4⟩ := hl
  obtain ⟨s, hs, f1, f2⟩ := hF
  have A : ∀ i, i < 6 → a' i = a i := fun i hi => ha i (Or.inl hi)
  have B : ∀ i, 70 ≤ i → i < 3643 → a' i = a i := fun i h1 h2 => ha i (Or.inr (Or.inr ⟨h1, h2⟩))
  refine ⟨⟨⟨l0, ?_, l2, ?_, ?_, ?_, l6, l7, l8, h53⟩, ⟨m0, m1, m2, ?_, ?_, ?_, m6, m7, m8, ?_, ?_⟩, l3, l4, ?_, ?_, ?_, hB, ?_, ?_⟩, s, hs, ?_, ?_⟩
  · rw [hr _ (by omega), A 1 (by omega)]; exact e1
  · rw [hr _ (by omega), A 3 (by omega)]; exact e3
  · rw [hr _ (by omega), A 4 (by omega)]; exact e4
  · rw [hr _ (by omega), A 5 (by omega)]; exact e5
  · rw [A 3 (by omega)]; exact g3
  · rw [A 4 (by omega)]; exact g4
  · rw [A 5 (by omega)]; exact g5
  · rw [← h53]; exact m9
  · rw [hr _ (by omega)]; exact g10
  · exact h5.congr (fun i hi _ => hr i (by omega)) (fun i h1 h2 => B i (by omega) (by omega))
  · exact h6.congr (fun i hi _ => hr i (by omega)) (A 4 (by omega)) (fun i h1 h2 => B i (by omega) (by omega))
  · exact h7.congr (fun i hi _ => hr i (by omega)) (by rw [A 0 (by omega)]; exact Nat.le_refl _) (A 5 (by omega)) (fun i h1 h2 => B i (by omega) (by omega))
  · exact h9.congr (hr 184 (by omega)) (by rw [A 0 (by omega)]; exact Nat.le_refl _) (A 3 (by omega)) (fun i hi _ => hr i (by omega)) (fun i h1 h2 => B i (by omega) (by omega))
  · refine ⟨fun i p hi hn hp hx hy => ?_, fun i p hi hn hp hx hy => ?_, fun i hi hn => ?_⟩
    · rw [A 3 (by omega)] at hn
      rw [B (193 + 115 * i) (by omega) (by omega)] at hx
      rw [B (308 + 115 * i) (by omega) (by omega)] at hy
      rw [B (308 + 115 * i + 5 + 4 * p) (by omega) (by omega), B (308 + 115 * i + 6 + 4 * p) (by omega) (by omega), B (308 + 115 * i + 7 + 4 * p) (by omega) (by omega), B (308 + 115 * i + 8 + 4 * p) (by omega) (by omega), ha (14 + 6 * p) (by omega), ha (15 + 6 * p) (by omega)]
      exact t1 i p hi hn hp hx hy
    · rw [A 3 (by omega)] at hn
      rw [B (193 + 115 * i) (by omega) (by omega)] at hx
      rw [A 0 (by omega)] at hy
      exfalso
      obtain rfl : i = s := by omega
      omega
    · rw [A 3 (by omega)] at hn
      rw [B (193 + 115 * i) (by omega) (by omega), B (308 + 115 * i) (by omega) (by omega)]
      exact t3 i hi hn
  · rw [A 3 (by omega)]; exact f1
  · rw [A 0 (by omega), B _ (by omega) (by omega)]; exact f2
