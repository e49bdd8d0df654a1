/-! CLAUSES: the class -/
abbrev Rc := Nat × Nat × Nat × Cd
def figF (K N : Nat → Nat) (lo hi : Nat) (p : Nat × Nat) : Nat × Nat := if p.1 ≠ 0 then p else if K p.2 ≠ 41 then (1, p.2) else if N p.2 < lo ∨ hi < N p.2 then (2, p.2) else (0, p.2 + 1)
def expF (K : Nat → Nat) (w : Nat) (p : Nat × Nat) : Nat × Nat := if p.1 ≠ 0 then p else if K p.2 = w then (0, p.2 + 1) else (1, p.2)
def dedP (K N : Nat → Nat) (κ k : Nat) : Nat × Nat := if κ = 3 then figF K N 0 29 (expF K 21 (figF K N 0 99 (0, k + 1))) else if κ = 5 then figF K N 0 29 (expF K 22 (figF K N 0 4 (0, k + 1))) else if κ = 2 ∨ κ = 4 then figF K N 0 29 (0, k + 1) else if κ = 6 ∨ κ = 7 then figF K N 0 4 (0, k + 1) else if κ = 9 then figF K N 1 60 (0, k + 1) else (0, k + 1)
def ClR (K N : Nat → Nat) (κ k f k' x y : Nat) (r : Cd) : Prop := κ = K k ∧ ((κ ≤ 1 ∧ (∃ f1 k1, f1 ≤ 6 ∧ MSum K N (decide (κ = 1)) (k + 1) 0 f1 k1 r ∧ (f1 = 0 → ¬ (32 ≤ K k1 ∧ K k1 ≤ 35) ∧ r.length + (k + 1) ≤ k1) ∧ (f, k') = expF K 38 (f1, k1)) ∧ x = 0 ∧ y = 0) ∨ (2 ≤ κ ∧ κ ≤ 9 ∧ (f, k') = expF K 38 (dedP K N κ k) ∧ (f = 0 → (κ ≠ 8 → x = N (k + 1)) ∧ (κ = 3 ∨ κ = 5 → y = N (k + 3)))))
def NewOk (D : List Rc) (κ : Nat) : Prop := D.length < 24 ∧ (κ ≤ 1 → ∀ (i : Nat) (c : Rc), D[i]? = some c → c.1 ≠ κ)
def ClB (K N : Nat → Nat) (D : List Rc) (k f kf : Nat) : Prop := (9 < K k ∧ f = 1 ∧ kf = k) ∨ (K k ≤ 1 ∧ (∃ (i : Nat) (c : Rc), D[i]? = some c ∧ c.1 = K k) ∧ f = 4 ∧ kf = k) ∨ (K k ≤ 9 ∧ (K k ≤ 1 → ∀ (i : Nat) (c : Rc), D[i]? = some c → c.1 ≠ K k) ∧ D.length = 24 ∧ f = 6 ∧ kf = k) ∨ (K k ≤ 9 ∧ NewOk D (K k) ∧ f ≠ 0 ∧ ∃ x y r, ClR K N (K k) k f kf x y r)
def FrW (t : Nat) (u z : PoS) : Prop := (∀ j, j ≠ 27 → j ≠ 7 + t → ¬ (11 + 4 * t ≤ j ∧ j ≤ 14 + 4 * t) → z.1 j = u.1 j) ∧ z.2 = u.2
theorem FrW.t {t : Nat} {u v z : PoS} (h : FrW t u v) (h2 : FrW t v z) : FrW t u z := ⟨fun j a b c => by rw [h2.1 j a b c, h.1 j a b c], by rw [h2.2, h.2]⟩
theorem FrW.x {t : Nat} {u z : PoS} {s : Nat} (h : FrX t u z s) : FrW t u z := ⟨fun j a b c => h.1 j a b (by omega), h.2.2.2⟩
theorem FrW.p {t : Nat} {u : PoS} {j a : Nat} {v : Int32} (h : j = 27 ∨ j = 7 + t ∨ (11 + 4 * t ≤ j ∧ j ≤ 14 + 4 * t)) : FrW t u (pI u j a v) := ⟨fun i q1 q2 q3 => pI_o (by omega), rfl⟩
def LC (t : Nat) (u : PoS) (D : List Rc) (s σ : Nat) : Prop := (u.1 (7 + t) (6 + σ) = -1 ∧ ∀ (i : Nat) (c : Rc), D[i]? = some c → c.1 ≠ σ) ∨ (∃ (i : Nat) (c : Rc) (s0 j : Nat) (F : (Nat → Int) → Int), D[i]? = some c ∧ c.1 = σ ∧ (∀ (i' : Nat) (c' : Rc), D[i']? = some c' → c'.1 = σ → i' = i) ∧ u.1 (7 + t) (6 + σ) = nI s0 ∧ s0 ≤ 300 ∧ Frg (decide (σ = 1)) false 43 (cdA t u) s0 j c.2.2.2 F ∧ (cdA t u j).1 = 48 ∧ j < s)
def CI (t : Nat) (u : PoS) (D : List Rc) (s X : Nat) : Prop := u.1 (7 + t) 4 = nI D.length ∧ D.length ≤ 24 ∧ (∀ (i : Nat) (c : Rc), D[i]? = some c → u.1 (11 + 4 * t) i = nI c.1 ∧ u.1 (12 + 4 * t) i = nI c.2.1 ∧ u.1 (13 + 4 * t) i = nI c.2.2.1) ∧ ∀ σ, σ ≤ 1 → σ ≠ X → LC t u D s σ
theorem ci_fr {t : Nat} {u z : PoS} {D : List Rc} {s s' X : Nat} (ht : t < 4) (h : CI t u D s X) (hf : FrX t u z s) (hs : s ≤ s') : CI t z D s' X := by
  obtain ⟨h1, h2, h3, h4⟩ := h
  refine ⟨by rw [hf.2.1 4 (by decide)]; exact h1, h2, fun i c hc => ?_, fun σ hσ hX => ?_⟩
  · rw [hf.1 (11 + 4 * t) (by omega) (by omega) (by omega), hf.1 (12 + 4 * t) (by omega) (by omega) (by omega), hf.1 (13 + 4 * t) (by omega) (by omega) (by omega)]
    exact h3 i c hc
  · unfold LC
    rw [hf.2.1 (6 + σ) (by omega)]
    rcases h4 σ hσ hX with g | ⟨i, c, s0, j, F, g1, g2, g3, g4, g5, g6, g7, g8⟩
    · exact Or.inl g
    · refine Or.inr ⟨i, c, s0, j, F, g1, g2, g3, g4, g5, frg_A g6 (fun p q1 q2 => cdA_fr hf (by omega)), ?_, by omega⟩
      rw [cdA_fr hf (by omega)]; exact g7
theorem get_snoc {D : List Rc} {c x : Rc} {i : Nat} (h : (D ++ [c])[i]? = some x) : (i < D.length ∧ D[i]? = some x) ∨ (i = D.length ∧ x = c) := by
  by_cases q : i < D.length
  · rw [List.getElem?_append_left q] at h; exact Or.inl ⟨q, h⟩
  · rw [List.getElem?_append_right (by omega)] at h
    obtain ⟨w, -⟩ := List.getElem?_eq_some_iff.mp h
    simp only [List.length_cons, List.length_nil] at w
    have e : i - D.length = 0 := by omega
    rw [e] at h
    exact Or.inr ⟨by omega, (Option.some.inj h).symm⟩
theorem get_old {D : List Rc} {c x : Rc} {i : Nat} (h : D[i]? = some x) : (D ++ [c])[i]? = some x := by
  obtain ⟨w, -⟩ := List.getElem?_eq_some_iff.mp h
  rw [List.getElem?_append_left w]; exact h
theorem get_new {D : List Rc} {c : Rc} : (D ++ [c])[D.length]? = some c := by
  rw [List.getElem?_append_right (Nat.le_refl _), Nat.sub_self]; rfl
section
variable {K N ST : Nat → Nat} {M t : Nat} {pr : Bool} {u : PoS} {k s : Nat} {D : List Rc}
def RS (K N ST : Nat → Nat) (M t : Nat) (pr : Bool) (u : PoS) (p : Nat × Nat) (s : Nat) : Prop := (p.1 = 0 → RX K N ST M t pr u p.2 0 s) ∧ (p.1 ≠ 0 → RB K N ST M t pr u p.1 p.2 0)
theorem rs_rdr {p : Nat × Nat} (h : RS K N ST M t pr u p s) : Rdr K N ST M t pr u := by
  by_cases q : p.1 = 0
  · exact (h.1 q).1
  · exact (h.2 q).1
theorem rs_put {p : Nat × Nat} {j a : Nat} {v : Int32} (h : RS K N ST M t pr u p s) (hj : j < 27) (ha : j = 7 + t → a ≠ 5) : RS K N ST M t pr (pI u j a v) p s := by
  have e27 : (pI u j a v).1 27 = u.1 27 := pI_o (by omega)
  have e5 : (pI u j a v).1 (7 + t) 5 = u.1 (7 + t) 5 := by
    by_cases q : 7 + t = j
    · subst q; rw [pI_s, up_ne (fun w => ha rfl w.symm)]
    · rw [pI_o q]
  refine ⟨fun q => ?_, fun q => ?_⟩
  · obtain ⟨h1, h2, h3, h4, h5, h6, h7, h8⟩ := h.1 q
    exact ⟨rxL h1 hj, h2, h3, by rw [e27]; exact h4, by rw [e27]; exact h5, by rw [e27]; exact h6, by rw [e27]; exact h7, by rw [e5]; exact h8⟩
  · obtain ⟨h1, h2, h3, h4, h5, h6, h7, h8⟩ := h.2 q
    exact ⟨rxL h1 hj, h2, by rw [e27]; exact h3, by rw [e27]; exact h4, by rw [e27]; exact h5, by rw [e27]; exact h6, by rw [e27]; exact h7, by rw [e5]; exact h8⟩
theorem figX {lo hi : Nat} {p : Nat × Nat} {post : Int32 → PoS → Prop} (h : RS K N ST M t pr u p s) (hl : lo < 2 ^ 31) (hh : hi < 2 ^ 31) (H : ∀ z n, RS K N ST M t pr z (figF K N lo hi p) s → FrX t u z s → (p.1 = 0 → n = N p.2) → post (nI n) z) : wp_X6_numberWithin (nI lo) (nI hi) u post := by
  obtain ⟨f, k⟩ := p
  by_cases q : f = 0
  · subst q
    have hx : RX K N ST M t pr u k 0 s := h.1 rfl
    unfold figF at H
    rw [if_neg (fun w => w rfl)] at H
    by_cases k41 : K k = 41
    · rw [if_neg (fun w => w k41)] at H
      by_cases r : N k < lo ∨ hi < N k
      · rw [if_pos r] at H
        exact num_no2 hx k41 r hl hh (fun z hz hf => H z (N k) ⟨fun w => absurd (show (2 : Nat) = 0 from w) (by decide), fun _ => hz⟩ hf (fun _ => rfl))
      · rw [if_neg r] at H
        have r : ¬ (N k < lo ∨ hi < N k) := r
        exact num_ok hx k41 (by omega) (by omega) hh (fun z hz hf => H z (N k) ⟨fun _ => hz, fun w => absurd rfl w⟩ hf (fun _ => rfl))
    · rw [if_pos k41] at H
      exact num_no1 hx k41 (fun z hz hf => H z (N k) ⟨fun w => absurd (show (1 : Nat) = 0 from w) (by decide), fun _ => hz⟩ hf (fun _ => rfl))
  · unfold figF at H
    rw [if_pos q] at H
    exact num_bad (h.2 q) (fun n _ => H u n h (FrX_r t u s) (fun w => absurd w q))
theorem expX {w : Nat} {p : Nat × Nat} {post : PoS → Prop} (h : RS K N ST M t pr u p s) (hw : w < 43) (H : ∀ z, RS K N ST M t pr z (expF K w p) s → FrX t u z s → post z) : wp_X6_expect (nI w) u post := by
  obtain ⟨f, k⟩ := p
  by_cases q : f = 0
  · subst q
    have hx : RX K N ST M t pr u k 0 s := h.1 rfl
    unfold expF at H
    rw [if_neg (fun w => w rfl)] at H
    by_cases e : K k = w
    · rw [if_pos e] at H
      exact exp_ok hx e (by omega) (fun z hz hf => H z ⟨fun _ => hz, fun w => absurd rfl w⟩ hf)
    · rw [if_neg e] at H
      exact exp_no hx e (by omega) (fun z hz hf => H z ⟨fun w => absurd (show (1 : Nat) = 0 from w) (by decide), fun _ => hz⟩ hf)
  · unfold expF at H
    rw [if_pos q] at H
    exact exp_bad (h.2 q) (by omega) (H u h (FrX_r t u s))
/-- the clause κ x y is added -/
theorem addCX {κ x y X : Nat} {p : Nat × Nat} {post : PoS → Prop} (ht : t < 4) (h : RS K N ST M t pr u p s) (hC : CI t u D s X) (hD : D.length < 24) (hX : κ ≤ 1 → κ = X) (H : ∀ z, RS K N ST M t pr z p s → (∀ r, CI t z (D ++ [(κ, x, y, r)]) s X) → FrW t u z → z.1 (14 + 4 * t) = u.1 (14 + 4 * t) → (∀ i, i ≠ 4 → z.1 (7 + t) i = u.1 (7 + t) i) → z.1 27 = u.1 27 → post z) : wp_X3_addClause t (nI κ) (nI x) (nI y) u post := by
  obtain ⟨h1, h2, h3, h4⟩ := hC
  unfold wp_X3_addClause
  rw [gI_def, h1, q_cl (by omega)]
  refine ⟨fun q => absurd q (by simp (disch := omega) only [q_lit, nI_add, pk_mul, q_sub, q_rem, q_div, q_vp, q_cl, q_lt, q_le, q_eq, q_neg1, gI_def]; omega), fun _ => ⟨by simp (disch := omega) only [q_lit, nI_add, pk_mul, q_sub, q_rem, q_div, q_vp, q_cl, q_lt, q_le, q_eq, q_neg1, gI_def]; omega, fun z1 e1 => ?_⟩⟩
  have g1 : gI z1 (7 + t) 4 = nI D.length := by rw [e1, gI_def, pI_o (by omega)]; exact h1
  rw [g1, q_cl (by omega)]
  refine ⟨by simp (disch := omega) only [q_lit, nI_add, pk_mul, q_sub, q_rem, q_div, q_vp, q_cl, q_lt, q_le, q_eq, q_neg1, gI_def]; omega, fun z2 e2 => ?_⟩
  have g2 : gI z2 (7 + t) 4 = nI D.length := by rw [e2, gI_def, pI_o (by omega)]; exact g1
  rw [g2, q_cl (by omega)]
  refine ⟨by simp (disch := omega) only [q_lit, nI_add, pk_mul, q_sub, q_rem, q_div, q_vp, q_cl, q_lt, q_le, q_eq, q_neg1, gI_def]; omega, fun z3 e3 z4 e4 => ?_⟩
  have g3 : gI z3 (7 + t) 4 = nI D.length := by rw [e3, gI_def, pI_o (by omega)]; exact g2
  rw [g3, nI_1] at e4
  have r1 : RS K N ST M t pr z4 p s := by
    rw [e4, e3, e2, e1]
    exact rs_put (rs_put (rs_put (rs_put h (by omega) (by omega)) (by omega) (by omega)) (by omega) (by omega)) (by omega) (fun _ => by decide)
  have a1 : FrW t u z4 := by
    rw [e4, e3, e2, e1]
    exact (FrW.p (by omega)).t ((FrW.p (by omega)).t ((FrW.p (by omega)).t (FrW.p (by omega))))
  have c14 : z4.1 (14 + 4 * t) = u.1 (14 + 4 * t) := by rw [e4, e3, e2, e1, pI_o (by omega), pI_o (by omega), pI_o (by omega), pI_o (by omega)]
  have c11 : z4.1 (11 + 4 * t) = up (u.1 (11 + 4 * t)) D.length (nI κ) := by rw [e4, e3, e2, e1, pI_o (by omega), pI_o (by omega), pI_o (by omega), pI_s]
  have c12 : z4.1 (12 + 4 * t) = up (u.1 (12 + 4 * t)) D.length (nI x) := by rw [e4, e3, e2, e1, pI_o (by omega), pI_o (by omega), pI_s, pI_o (by omega)]
  have c13 : z4.1 (13 + 4 * t) = up (u.1 (13 + 4 * t)) D.length (nI y) := by rw [e4, e3, e2, e1, pI_o (by omega), pI_s, pI_o (by omega), pI_o (by omega)]
  have c7 : z4.1 (7 + t) = up (u.1 (7 + t)) 4 (nI (D.length + 1)) := by rw [e4, pI_s, e3, e2, e1, pI_o (by omega), pI_o (by omega), pI_o (by omega)]
  have c27 : z4.1 27 = u.1 27 := by rw [e4, e3, e2, e1, pI_o (by omega), pI_o (by omega), pI_o (by omega), pI_o (by omega)]
  refine H z4 r1 (fun r => ⟨?_, ?_, fun i c hc => ?_, fun σ hσ hσX => ?_⟩) a1 c14 (fun i hi => by rw [c7, up_ne hi]) c27
  · rw [c7, up_eq, List.length_append]; rfl
  · rw [List.length_append]; show D.length + 1 ≤ 24; omega
  · rw [c11, c12, c13]
    rcases get_snoc hc with ⟨q, g⟩ | ⟨q, g⟩
    · rw [up_ne (by omega), up_ne (by omega), up_ne (by omega)]; exact h3 i c g
    · subst q; subst g
      rw [up_eq, up_eq, up_eq]; exact ⟨rfl, rfl, rfl⟩
  · unfold LC
    rw [c7, up_ne (by omega)]
    have nκ : κ ≠ σ := fun w => by
      have := hX (by omega)
      omega
    rcases h4 σ hσ hσX with ⟨g, gn⟩ | ⟨i, c, s0, j, F, g1, g2, g3, g4, g5, g6, g7, g8⟩
    · refine Or.inl ⟨g, fun i c hc => ?_⟩
      rcases get_snoc hc with ⟨q, w⟩ | ⟨q, w⟩
      · exact gn i c w
      · rw [w]; exact nκ
    · refine Or.inr ⟨i, c, s0, j, F, get_old g1, g2, fun i' c' hc' e' => ?_, g4, g5, frg_A g6 (fun p _ _ => cdA_raw (by rw [c14])), by rw [show cdA t z4 j = cdA t u j from cdA_raw (by rw [c14])]; exact g7, g8⟩
      rcases get_snoc hc' with ⟨q, w⟩ | ⟨q, w⟩
      · exact g3 i' c' w e'
      · rw [w] at e'; exact absurd e' nκ
theorem dedX {post : PoS → Prop} (hx : RX K N ST M t pr u k 0 s) (h2 : 2 ≤ K k) (h9 : K k ≤ 9) (hD : D.length < 24) (hC : CI t u D s 2) (H : ∀ z x y, RS K N ST M t pr z (dedP K N (K k) k) s → CI t z (D ++ [(K k, x, y, [])]) s 2 → FrW t u z → ((dedP K N (K k) k).1 = 0 → (K k ≠ 8 → x = N (k + 1)) ∧ (K k = 3 ∨ K k = 5 → y = N (k + 3))) → post z) : wp_X6_readDeed (nI (K k)) u post := by
  have ht := hx.1.1
  refine adv_ok hx (by omega) (fun u2 hx2 hf2 => ?_)
  have hC2 := ci_fr ht hC hf2 (Nat.le_refl s)
  have r2 : RS K N ST M t pr u2 (0, k + 1) s := ⟨fun _ => hx2, fun w => absurd rfl w⟩
  have add : ∀ z x y, RS K N ST M t pr z (dedP K N (K k) k) s → FrX t u2 z s → ((dedP K N (K k) k).1 = 0 → (K k ≠ 8 → x = N (k + 1)) ∧ (K k = 3 ∨ K k = 5 → y = N (k + 3))) → wj_X6_readDeed_124 post (nI (K k)) (nI x) (nI y) z := by
    intro z x y hz hf hxy
    exact ⟨t, ht, (rs_rdr hz).2.2.2.2.2.1, addCX ht hz (ci_fr ht hC2 hf (Nat.le_refl s)) hD (by omega) (fun w a b c _ _ _ => H w x y a (b []) ((FrW.x hf2).t ((FrW.x hf).t c)) hxy)⟩
  have pair : ∀ (lo wd : Nat) (post' : Int32 → PoS → Prop), lo < 2 ^ 31 → wd < 43 → dedP K N (K k) k = figF K N 0 29 (expF K wd (figF K N 0 lo (0, k + 1))) → K k ≠ 8 → wp_X6_numberWithin (nI 0) (nI lo) u2 (fun r17 u18 => wp_X6_expect (nI wd) u18 (fun u20 => wp_X6_numberWithin (nI 0) (nI 29) u20 (fun r21 u22 => wj_X6_readDeed_124 post (nI (K k)) r17 r21 u22))) := by
    intro lo wd _ hlo hwd hd h8
    refine figX r2 (by decide) hlo (fun z1 n1 a1 a2 a3 => expX a1 hwd (fun z2 b1 b2 => figX b1 (by decide) (by decide) (fun z3 n3 c1 c2 c3 => add z3 n1 n3 (by rw [hd]; exact c1) (FrX_t (FrX_t a2 b2 (Nat.le_refl s)) c2 (Nat.le_refl s)) (fun w => ⟨fun _ => a3 rfl, fun _ => ?_⟩))))
    rw [hd] at w
    by_cases q : (expF K wd (figF K N 0 lo (0, k + 1))).1 = 0
    · rw [c3 q]
      congr 1
      unfold expF at q ⊢
      by_cases q2 : (figF K N 0 lo (0, k + 1)).1 ≠ 0
      · rw [if_pos q2] at q; exact absurd q q2
      · rw [if_neg q2] at q ⊢
        by_cases q3 : K (figF K N 0 lo (0, k + 1)).2 = wd
        · rw [if_pos q3]
          unfold figF at q2 ⊢
          rw [if_neg (fun w => w rfl)] at q2 ⊢
          by_cases q4 : K (k + 1) ≠ 41
          · rw [if_pos q4] at q2; exact absurd (show (1 : Nat) ≠ 0 by decide) q2
          · rw [if_neg q4] at q2 ⊢
            by_cases q5 : N (k + 1) < 0 ∨ lo < N (k + 1)
            · rw [if_pos q5] at q2; exact absurd (show (2 : Nat) ≠ 0 by decide) q2
            · rw [if_neg q5]
        · rw [if_neg q3] at q; exact absurd (show (1 : Nat) = 0 from q) (by decide)
    · rw [figF, if_pos q] at w; exact absurd w q
  have one : ∀ (lo hi : Nat), lo < 2 ^ 31 → hi < 2 ^ 31 → dedP K N (K k) k = figF K N lo hi (0, k + 1) → K k ≠ 3 → K k ≠ 5 → wp_X6_numberWithin (nI lo) (nI hi) u2 (fun r3 u4 => wj_X6_readDeed_124 post (nI (K k)) r3 0 u4) := by
    intro lo hi h1 h2 hd n3 n5
    exact figX r2 h1 h2 (fun z n a1 a2 a3 => add z n 0 (by rw [hd]; exact a1) a2 (fun _ => ⟨fun _ => a3 rfl, fun w => by omega⟩))
  have hk : K k = 2 ∨ K k = 3 ∨ K k = 4 ∨ K k = 5 ∨ K k = 6 ∨ K k = 7 ∨ K k = 8 ∨ K k = 9 := by omega
  rcases hk with e | e | e | e | e | e | e | e
  · have := one 0 29 (by decide) (by decide) (by rw [e]; rfl) (by omega) (by omega)
    rw [e] at this ⊢
    exact ⟨fun _ => ⟨fun _ => ⟨fun _ => this, fun q => absurd rfl q⟩, fun q => absurd q (by decide)⟩, fun q => absurd q (by decide)⟩
  · have := pair 99 21 (fun _ _ => True) (by decide) (by decide) (by rw [e]; rfl) (by omega)
    rw [e] at this ⊢
    exact ⟨fun q => absurd rfl q, fun _ => this⟩
  · have := one 0 29 (by decide) (by decide) (by rw [e]; rfl) (by omega) (by omega)
    rw [e] at this ⊢
    exact ⟨fun _ => ⟨fun _ => ⟨fun q => absurd q (by decide), fun _ => ⟨fun q => absurd rfl q, fun _ => this⟩⟩, fun q => absurd q (by decide)⟩, fun q => absurd q (by decide)⟩
  · have := pair 4 22 (fun _ _ => True) (by decide) (by decide) (by rw [e]; rfl) (by omega)
    rw [e] at this ⊢
    exact ⟨fun _ => ⟨fun q => absurd rfl q, fun _ => this⟩, fun q => absurd q (by decide)⟩
  · have := one 0 4 (by decide) (by decide) (by rw [e]; rfl) (by omega) (by omega)
    rw [e] at this ⊢
    exact ⟨fun _ => ⟨fun _ => ⟨fun q => absurd q (by decide), fun _ => ⟨fun _ => ⟨fun _ => this, fun q => absurd rfl q⟩, fun q => absurd q (by decide)⟩⟩, fun q => absurd q (by decide)⟩, fun q => absurd q (by decide)⟩
  · have := one 0 4 (by decide) (by decide) (by rw [e]; rfl) (by omega) (by omega)
    rw [e] at this ⊢
    exact ⟨fun _ => ⟨fun _ => ⟨fun q => absurd q (by decide), fun _ => ⟨fun _ => ⟨fun q => absurd q (by decide), fun _ => ⟨fun q => absurd rfl q, fun _ => this⟩⟩, fun q => absurd q (by decide)⟩⟩, fun q => absurd q (by decide)⟩, fun q => absurd q (by decide)⟩
  · have := add u2 0 0 (by rw [e]; exact r2) (FrX_r t u2 s) (fun _ => ⟨fun w => absurd e w, fun w => by omega⟩)
    rw [e] at this ⊢
    exact ⟨fun _ => ⟨fun _ => ⟨fun q => absurd q (by decide), fun _ => ⟨fun _ => ⟨fun q => absurd q (by decide), fun _ => ⟨fun _ => ⟨fun _ => this, fun q => absurd q (by decide)⟩, fun q => absurd q (by decide)⟩⟩, fun q => absurd q (by decide)⟩⟩, fun q => absurd q (by decide)⟩, fun q => absurd q (by decide)⟩
  · have := one 1 60 (by decide) (by decide) (by rw [e]; rfl) (by omega) (by omega)
    rw [e] at this ⊢
    exact ⟨fun _ => ⟨fun _ => ⟨fun q => absurd q (by decide), fun _ => ⟨fun _ => ⟨fun q => absurd q (by decide), fun _ => ⟨fun _ => ⟨fun q => absurd rfl q, fun _ => this⟩, fun q => absurd q (by decide)⟩⟩, fun q => absurd q (by decide)⟩⟩, fun q => absurd q (by decide)⟩, fun q => absurd q (by decide)⟩
end
