/-! CLAUSES: the class, laws and the whole text -/
section
variable {K N ST : Nat → Nat} {M t : Nat} {pr : Bool} {u : PoS} {k s : Nat} {D : List Rc}
theorem law52 {pr' : Bool} {post : PoS → Prop} {v : PoS} (h1 : K k ≤ 1) (hx : RX K N ST M t pr' v k 0 s) (hp : pr' = decide (K k = 1)) (hs : s ≤ k) (hC : CI t v D s (K k)) (hN : NewOk D (K k)) (hf : v.1 (7 + t) (6 + K k) = nI s) (H : ∀ z p s' r, RS K N ST M t pr' z p s' → (p.1 = 0 → s' ≤ p.2 ∧ k < p.2 ∧ CI t z (D ++ [(K k, 0, 0, r)]) s' 2) → FrW t v z → p.1 ≤ 6 → MSum K N pr' (k + 1) 0 p.1 p.2 r → (p.1 = 0 → ¬ (32 ≤ K p.2 ∧ K p.2 ≤ 35) ∧ r.length + (k + 1) ≤ p.2) → post z) : wj_X6_readLaw_52 post (nI (K k)) v := by
  have ht := hx.1.1
  have hM := hx.1.2.1
  refine ⟨t, ht, hx.1.2.2.2.2.2.1, ?_⟩
  refine addCX (κ := K k) (x := 0) (y := 0) (X := K k) (p := (0, k)) ht ⟨fun _ => hx, fun w => absurd rfl w⟩ hC hN.1 (fun _ => rfl) (fun z1 a1 a2 a3 a4 a5 a6 => ?_)
  have hf1 : z1.1 (7 + t) (6 + K k) = nI s := by rw [a5 _ (by omega)]; exact hf
  refine adv_ok (k := k) (a1.1 rfl) (by omega) (fun z2 b1 b2 => ?_)
  refine rd_sum z2 (k + 1) s _ b1 (by omega) ⟨fun z3 k' s' r F c1 c2 c3 c4 c5 c6 c7 c8 => ?_, fun z3 f kf r c1 c2 c3 => ?_⟩
  · have hkM := c1.2.1
    refine ⟨t, ht, c1.1.2.2.2.2.2.1, cod_ok (w := 48) (a := 0) c1 (by omega) (by decide) (by decide) (fun z4 d1 d2 d3 _ => ?_)⟩
    have f14 : FrX t z1 z4 s := FrX_t (FrX_t b2 c2 (Nat.le_refl s)) d2 (by omega)
    refine H z4 (0, k') (s' + 1) r ⟨fun _ => d1, fun w => absurd rfl w⟩ (fun _ => ⟨by show s' + 1 ≤ k'; omega, by show k < k'; omega, ?_⟩) (a3.t (FrW.x f14)) (Nat.zero_le _) c6 (fun _ => ⟨c8, by have := c7.2.2.1; show r.length + (k + 1) ≤ k'; omega⟩)
    have ci := ci_fr (s' := s' + 1) ht (a2 r) f14 (by omega)
    refine ⟨ci.1, ci.2.1, ci.2.2.1, fun σ hσ _ => ?_⟩
    by_cases q : σ = K k
    · subst q
      refine Or.inr ⟨D.length, (K k, 0, 0, r), s, s', F, get_new, rfl, fun i' c' hc' e' => ?_, ?_, by omega, ?_, by rw [d3], by omega⟩
      · rcases get_snoc hc' with ⟨q1, w⟩ | ⟨q1, w⟩
        · exact absurd e' (hN.2 h1 i' c' w)
        · exact q1
      · rw [f14.2.1 _ (by omega)]; exact hf1
      · rw [← hp]
        exact frg_A c7 (fun p _ q2 => cdA_fr d2 (by omega))
    · exact ci.2.2.2 σ hσ q
  · refine ⟨t, ht, c1.1.2.2.2.2.2.1, cod_bad c1 (fun z4 d1 d2 => ?_)⟩
    have hf0 := c1.2.1
    exact H z4 (f, kf) 0 r ⟨fun w => absurd w hf0.1, fun _ => d1⟩ (fun w => absurd w hf0.1) (a3.t ((FrW.x b2).t ((FrW.x c2).t (FrW.x d2)))) hf0.2.1 c3 (fun w => absurd w hf0.1)
theorem lawX {post : PoS → Prop} (h1 : K k ≤ 1) (hx : RX K N ST M t pr u k 0 s) (hs : s ≤ k) (hC : CI t u D s 2) (hN : NewOk D (K k)) (H : ∀ z p s' r, RS K N ST M t (decide (K k = 1)) z p s' → (p.1 = 0 → s' ≤ p.2 ∧ k < p.2 ∧ CI t z (D ++ [(K k, 0, 0, r)]) s' 2) → FrW t u z → p.1 ≤ 6 → MSum K N (decide (K k = 1)) (k + 1) 0 p.1 p.2 r → (p.1 = 0 → ¬ (32 ≤ K p.2 ∧ K p.2 ≤ 35) ∧ r.length + (k + 1) ≤ p.2) → post z) : wp_X6_readLaw (nI (K k)) u post := by
  have ht := hx.1.1
  have s300 := hx.2.2.1
  have core : ∀ z1 z4 : PoS, z1 = pI u 27 10 (nI (K k)) → z4 = pI z1 (7 + t) (6 + K k) (gI z1 (7 + t) 5) → wj_X6_readLaw_52 post (nI (K k)) z4 := by
    intro z1 z4 e1 e4
    obtain ⟨hr, hkM, hs3, h0, h6, h7, h9, h5⟩ := hx
    obtain ⟨r1, r2, r3, r4, r5, r6, r7, r8⟩ := hr
    have g5 : gI z1 (7 + t) 5 = nI s := by rw [e1, gI_def, pI_o (by omega)]; exact h5
    rw [g5] at e4
    have c27 : ∀ i, i ≠ 10 → z4.1 27 i = u.1 27 i := fun i hi => by rw [e4, pI_o (by omega), e1, pI_s, up_ne hi]
    have cj : ∀ j, j ≠ 27 → j ≠ 7 + t → z4.1 j = u.1 j := fun j a b => by rw [e4, pI_o b, e1, pI_o a]
    have c7 : z4.1 (7 + t) = up (u.1 (7 + t)) (6 + K k) (nI s) := by rw [e4, pI_s, e1, pI_o (by omega)]
    have hx4 : RX K N ST M t (decide (K k = 1)) z4 k 0 s := by
      refine ⟨⟨r1, r2, r3, r4, fun i hi => ?_, ?_, ?_, ?_⟩, hkM, hs3, ⟨?_, ?_⟩, ?_, ?_, ?_, ?_⟩
      · rw [cj 28 (by decide) (by omega), cj 29 (by decide) (by omega), cj 30 (by decide) (by omega)]; exact r5 i hi
      · rw [e4, e1]; exact r6
      · rw [c27 5 (by decide)]; exact r7
      · rw [e4, pI_o (by omega), e1, pI_s, up_eq]
        have : K k = 0 ∨ K k = 1 := by omega
        rcases this with q | q
        · rw [q]; exact ⟨fun _ => rfl, fun _ => rfl⟩
        · rw [q]; exact ⟨fun w => absurd w (by decide), fun w => absurd w (by decide)⟩
      · rw [c27 0 (by decide)]; exact h0.1
      · rw [c27 1 (by decide)]; exact h0.2
      · rw [c27 6 (by decide)]; exact h6
      · rw [c27 7 (by decide)]; exact h7
      · rw [c27 9 (by decide)]; exact h9
      · rw [c7, up_ne (by omega)]; exact h5
    have hW : FrW t u z4 := ⟨fun j a b _ => cj j a b, by rw [e4, e1]; rfl⟩
    refine law52 h1 hx4 rfl hs ?_ hN (by rw [c7, up_eq]) (fun z p s' r a1 a2 a3 a4 a5 a6 => H z p s' r a1 a2 (hW.t a3) a4 a5 a6)
    obtain ⟨k1, k2, k3, k4⟩ := hC
    refine ⟨by rw [c7, up_ne (by omega)]; exact k1, k2, fun i c hc => ?_, fun σ hσ hX => ?_⟩
    · rw [cj (11 + 4 * t) (by omega) (by omega), cj (12 + 4 * t) (by omega) (by omega), cj (13 + 4 * t) (by omega) (by omega)]; exact k3 i c hc
    · have c14 : z4.1 (14 + 4 * t) = u.1 (14 + 4 * t) := cj _ (by omega) (by omega)
      unfold LC
      rw [c7, up_ne (by omega)]
      rcases k4 σ hσ (by omega) with g | ⟨i, c, s0, j, F, g1, g2, g3, g4, g5, g6, g7, g8⟩
      · exact Or.inl g
      · exact Or.inr ⟨i, c, s0, j, F, g1, g2, g3, g4, g5, frg_A g6 (fun p _ _ => cdA_raw (by rw [c14])), by rw [show cdA t z4 j = cdA t u j from cdA_raw (by rw [c14])]; exact g7, g8⟩
  have gr : ∀ z1 : PoS, z1 = pI u 27 10 (nI (K k)) → gR z1 27 8 = 7 + t := fun z1 e1 => by rw [e1]; exact hx.1.2.2.2.2.2.1
  have hk : K k = 0 ∨ K k = 1 := by omega
  rcases hk with e | e
  · rw [e] at core gr ⊢
    refine ⟨fun _ => ⟨Or.inl rfl, fun z1 e1 => ⟨fun _ => ⟨t, ht, gr z1 e1, t, ht, gr z1 e1, fun z4 e4 => core z1 z4 e1 e4⟩, fun q => absurd (by rw [e1, gI_def, pI_s, up_eq]) q⟩⟩, fun q => absurd q (by decide)⟩
  · rw [e] at core gr ⊢
    refine ⟨fun q => absurd rfl q, fun _ => ⟨Or.inr rfl, fun z1 e1 => ⟨fun q => absurd q (by rw [e1, gI_def, pI_s, up_eq]; decide), fun _ => ⟨t, ht, gr z1 e1, t, ht, gr z1 e1, fun z4 e4 => core z1 z4 e1 e4⟩⟩⟩⟩
theorem expF_0 {w : Nat} {p : Nat × Nat} (h : (expF K w p).1 = 0) : p.1 = 0 ∧ K p.2 = w ∧ expF K w p = (0, p.2 + 1) := by
  unfold expF at h ⊢
  by_cases q : p.1 = 0
  · rw [if_neg (fun z => z q)] at h ⊢
    by_cases q2 : K p.2 = w
    · rw [if_pos q2]; exact ⟨q, q2, rfl⟩
    · rw [if_neg q2] at h; exact absurd (show (1 : Nat) = 0 from h) (by decide)
  · rw [if_pos q] at h; exact absurd h q
theorem figF_0 {lo hi : Nat} {p : Nat × Nat} (h : (figF K N lo hi p).1 = 0) : p.1 = 0 ∧ K p.2 = 41 ∧ lo ≤ N p.2 ∧ N p.2 ≤ hi ∧ figF K N lo hi p = (0, p.2 + 1) := by
  unfold figF at h ⊢
  by_cases q : p.1 = 0
  · rw [if_neg (fun z => z q)] at h ⊢
    by_cases q2 : K p.2 = 41
    · rw [if_neg (fun z => z q2)] at h ⊢
      by_cases q3 : N p.2 < lo ∨ hi < N p.2
      · rw [if_pos q3] at h; exact absurd (show (2 : Nat) = 0 from h) (by decide)
      · rw [if_neg q3]; exact ⟨q, q2, by omega, by omega, rfl⟩
    · rw [if_pos q2] at h; exact absurd (show (1 : Nat) = 0 from h) (by decide)
  · rw [if_pos q] at h; exact absurd h q
theorem dedP_lt {κ : Nat} (h : (dedP K N κ k).1 = 0) : k < (dedP K N κ k).2 := by
  have pr1 : ∀ lo w, (figF K N 0 29 (expF K w (figF K N 0 lo (0, k + 1)))).1 = 0 → k < (figF K N 0 29 (expF K w (figF K N 0 lo (0, k + 1)))).2 := by
    intro lo w h
    obtain ⟨h1, -, -, -, e1⟩ := figF_0 h
    obtain ⟨h2, -, e2⟩ := expF_0 h1
    obtain ⟨-, -, -, -, e3⟩ := figF_0 h2
    rw [e1, e2, e3]; show k < k + 1 + 1 + 1 + 1; omega
  have on1 : ∀ lo hi, (figF K N lo hi (0, k + 1)).1 = 0 → k < (figF K N lo hi (0, k + 1)).2 := by
    intro lo hi h
    obtain ⟨-, -, -, -, e3⟩ := figF_0 h
    rw [e3]; show k < k + 1 + 1; omega
  unfold dedP at h ⊢
  by_cases q3 : κ = 3
  · rw [if_pos q3] at h ⊢; exact pr1 _ _ h
  rw [if_neg q3] at h ⊢
  by_cases q5 : κ = 5
  · rw [if_pos q5] at h ⊢; exact pr1 _ _ h
  rw [if_neg q5] at h ⊢
  by_cases q2 : κ = 2 ∨ κ = 4
  · rw [if_pos q2] at h ⊢; exact on1 _ _ h
  rw [if_neg q2] at h ⊢
  by_cases q6 : κ = 6 ∨ κ = 7
  · rw [if_pos q6] at h ⊢; exact on1 _ _ h
  rw [if_neg q6] at h ⊢
  by_cases q9 : κ = 9
  · rw [if_pos q9] at h ⊢; exact on1 _ _ h
  rw [if_neg q9]; show k < k + 1; omega
theorem clsX {post : PoS → Prop} (hx : RX K N ST M t pr u k 0 s) (hs : s ≤ k) (hC : CI t u D s 2) (H1 : ∀ z pr' k' s' c, RX K N ST M t pr' z k' 0 s' → s' ≤ k' → k < k' → CI t z (D ++ [c]) s' 2 → FrW t u z → NewOk D c.1 → ClR K N c.1 k 0 k' c.2.1 c.2.2.1 c.2.2.2 → post z) (H2 : ∀ z pr' f kf, RB K N ST M t pr' z f kf 0 → FrW t u z → ClB K N D k f kf → post z) : wp_X6_readClause u post := by
  have ht := hx.1.1
  have k43 := (hx.1.2.2.2.2.1 k hx.2.1).1
  have gr := hx.1.2.2.2.2.2.1
  have bad : ∀ f, f ≠ 0 → f ≤ 6 → ClB K N D k f k → wp_X6_blame (nI f) u (fun z => wj_X6_readClause_112 post z) := by
    intro f f0 f6 hB
    refine blm_ok hx f0 f6 (fun z h1 h2 => ?_)
    refine expX (w := 38) (p := (f, k)) (s := s) ⟨fun w => absurd w f0, fun _ => h1⟩ (by decide) (fun z2 a1 a2 => ?_)
    have e : expF K 38 (f, k) = (f, k) := by unfold expF; rw [if_pos f0]
    rw [e] at a1
    exact H2 z2 pr f k (a1.2 f0) ((FrW.x h2).t (FrW.x a2)) hB
  have fin : ∀ z pr' p s' x y r, RS K N ST M t pr' z p s' → (p.1 = 0 → s' ≤ p.2 ∧ k < p.2 ∧ CI t z (D ++ [(K k, x, y, r)]) s' 2) → FrW t u z → NewOk D (K k) → K k ≤ 9 → (∀ f k', (f, k') = expF K 38 p → ClR K N (K k) k f k' x y r) → wj_X6_readClause_112 post z := by
    intro z pr' p s' x y r hz hok hW hN h9 hR
    refine expX (w := 38) hz (by decide) (fun z2 a1 a2 => ?_)
    by_cases q : (expF K 38 p).1 = 0
    · obtain ⟨p0, -, e⟩ := expF_0 q
      obtain ⟨b1, b2, b3⟩ := hok p0
      have r1 := a1.1 q
      rw [e] at r1
      exact H1 z2 pr' (p.2 + 1) s' (K k, x, y, r) r1 (by omega) (by omega) (ci_fr ht b3 a2 (Nat.le_refl _)) (hW.t (FrW.x a2)) hN (hR 0 (p.2 + 1) e.symm)
    · exact H2 z2 pr' _ _ (a1.2 q) (hW.t (FrW.x a2)) (Or.inr (Or.inr (Or.inr ⟨h9, hN, q, x, y, r, hR _ _ rfl⟩)))
  have law : K k ≤ 1 → NewOk D (K k) → wj_X6_readClause_99 post (nI (K k)) u := fun h1 hN =>
    lawX h1 hx hs hC hN (fun z p s' r a1 a2 a3 a4 a5 a6 => fin z _ p s' 0 0 r a1 a2 a3 hN (by omega) (fun f k' e => ⟨rfl, Or.inl ⟨h1, ⟨p.1, p.2, a4, a5, a6, e⟩, rfl, rfl⟩⟩))
  have go0 : (K k ≤ 1 → ∀ (i : Nat) (c : Rc), D[i]? = some c → c.1 ≠ K k) → wj_X6_readClause_40 post (nI (K k)) u := by
    intro hno
    unfold wj_X6_readClause_40 wj_X6_readClause_41 wp_X9_isHead
    have l4 := hC.1
    have l24 := hC.2.1
    refine ⟨fun q => absurd q (by simp (disch := omega) only [q_lit, nI_add, pk_mul, q_sub, q_rem, q_div, q_vp, q_cl, q_lt, q_le, q_eq, q_neg1, gI_def]; omega), fun _ => ⟨fun q => ⟨fun w => absurd rfl w, fun _ => bad 1 (by decide) (by decide) (Or.inl ⟨?_, rfl, rfl⟩)⟩, fun q => ⟨fun _ => ⟨fun _ => ⟨t, ht, gr, ?_⟩, fun w => absurd rfl w⟩, fun w => absurd w (by decide)⟩⟩⟩
    · simp (disch := omega) only [q_lit, q_lt] at q; exact q
    · simp (disch := omega) only [q_lit, q_lt] at q
      rw [gI_def, l4, show (24 : Int32) = nI 24 from rfl, q_lt (by omega) (by omega)]
      refine ⟨fun h24 => ⟨fun e => law ?_ ⟨h24, hno⟩, fun n0 => ⟨fun n1 => ?_, fun e => law ?_ ⟨h24, hno⟩⟩⟩, fun h24 => bad 6 (by decide) (by decide) (Or.inr (Or.inr (Or.inl ⟨by omega, hno, by omega, rfl, rfl⟩)))⟩
      · simp (disch := omega) only [q_lit, q_eq] at e; omega
      · simp (disch := omega) only [q_lit, q_eq] at n0 n1
        refine dedX hx (by omega) (by omega) h24 hC (fun z x y a1 a2 a3 a4 => fin z pr _ s x y [] a1 (fun p0 => ⟨?_, dedP_lt p0, a2⟩) a3 ⟨h24, hno⟩ (by omega) (fun f k' e => ⟨rfl, Or.inr ⟨by omega, by omega, e, fun f0 => a4 ?_⟩⟩))
        · have := dedP_lt p0; omega
        · have : (expF K 38 (dedP K N (K k) k)).1 = 0 := by rw [← e]; exact f0
          exact (expF_0 this).1
      · simp (disch := omega) only [q_lit, q_eq] at e; omega
  have go1 : K k ≤ 1 → (∃ (i : Nat) (c : Rc), D[i]? = some c ∧ c.1 = K k) → wj_X6_readClause_36 post (nI (K k)) u := by
    intro h1 hy
    unfold wj_X6_readClause_36 wj_X6_readClause_41 wp_X9_isHead
    exact ⟨fun q => absurd q (by simp (disch := omega) only [q_lit, nI_add, pk_mul, q_sub, q_rem, q_div, q_vp, q_cl, q_lt, q_le, q_eq, q_neg1, gI_def]; omega), fun _ => ⟨fun q => absurd q (by simp (disch := omega) only [q_lit, nI_add, pk_mul, q_sub, q_rem, q_div, q_vp, q_cl, q_lt, q_le, q_eq, q_neg1, gI_def]; omega), fun _ => ⟨fun _ => ⟨fun w => absurd w (by decide), fun _ => bad 4 (by decide) (by decide) (Or.inr (Or.inl ⟨h1, hy, rfl, rfl⟩))⟩, fun w => absurd w (by decide)⟩⟩⟩
  have lc : ∀ σ, σ ≤ 1 → K k = σ → (u.1 (7 + t) (6 + σ) = -1 → wj_X6_readClause_40 post (nI (K k)) u) ∧ (¬ u.1 (7 + t) (6 + σ) = -1 → wj_X6_readClause_36 post (nI (K k)) u) := by
    intro σ hσ e
    rcases hC.2.2.2 σ hσ (by omega) with ⟨g, gn⟩ | ⟨i, c, s0, j, F, g1, g2, g3, g4, g5, g6, g7, g8⟩
    · exact ⟨fun _ => go0 (fun _ i c hc => by rw [e]; exact gn i c hc), fun q => absurd g q⟩
    · exact ⟨fun q => absurd (g4.symm.trans q) (nI_m1 (by omega)), fun _ => go1 (by omega) ⟨i, c, g1, by rw [g2, e]⟩⟩
  intro x1 e1
  rw [gI_def, hx.2.2.2.2.2.1] at e1
  subst e1
  have w20 : (K k = 0 → wj_X6_readClause_40 post (nI (K k)) u) → wj_X6_readClause_20 post (nI (K k)) u := by
    intro h0
    refine ⟨fun n1 => ?_, fun e => ⟨t, ht, gr, ?_⟩⟩
    · simp (disch := omega) only [q_lit, q_eq] at n1
      by_cases q : K k = 0
      · exact h0 q
      · exact go0 (fun w => by omega)
    · simp (disch := omega) only [q_lit, q_eq] at e
      rw [gI_def]
      exact lc 1 (by decide) e
  refine ⟨fun n0 => w20 (fun q => absurd (by rw [q]; rfl) n0), fun e => ⟨t, ht, gr, ?_⟩⟩
  simp (disch := omega) only [q_lit, q_eq] at e
  rw [gI_def]
  have l0 := lc 0 (by decide) e
  exact ⟨l0.2, fun q => w20 (fun _ => l0.1 q)⟩
def TrC (K N : Nat → Nat) : List Rc → List Rc → Nat → Nat → Prop
  | _, [], k, e => e = k
  | D, c :: cs, k, e => NewOk D c.1 ∧ K k ≠ 43 ∧ ∃ k', k < k' ∧ ClR K N c.1 k 0 k' c.2.1 c.2.2.1 c.2.2.2 ∧ TrC K N (D ++ [c]) cs k' e
theorem lpX {post : PoS → Prop} : ∀ (m v : Nat) (u : PoS) (pr : Bool) (k s : Nat) (D : List Rc), v + m = 300 → v ≤ k → RX K N ST M t pr u k 0 s → s ≤ k → CI t u D s 2 → (∀ z pr' e s' Cs, RX K N ST M t pr' z e 0 s' → K e = 43 → CI t z (D ++ Cs) s' 2 → FrW t u z → TrC K N D Cs k e → post z) → (∀ z pr' e f kf Cs, RB K N ST M t pr' z f kf 0 → FrW t u z → TrC K N D Cs k e → K e ≠ 43 → ClB K N (D ++ Cs) e f kf → post z) → wl_X6_read_62 t post (m + 1) (nI v) u := by
  intro m
  induction m with
  | zero =>
    intro v u pr k s D hv hk hx hs hC H1 H2
    have hM := hx.1.2.1
    have hkM := hx.2.1
    have e43 := hx.1.2.2.2.1
    rw [wl_X6_read_62]
    refine ⟨fun _ => H1 u pr k s [] hx ?_ (by rw [List.append_nil]; exact hC) ⟨fun _ _ _ _ => rfl, rfl⟩ rfl, fun q => absurd (by simp (disch := omega) only [q_lit, nI_add, pk_mul, q_sub, q_rem, q_div, q_vp, q_cl, q_lt, q_le, q_eq, q_neg1, gI_def]; omega) q⟩
    rw [show k = M - 1 by omega]; exact e43
  | succ m ih =>
    intro v u pr k s D hv hk hx hs hC H1 H2
    have hkM := hx.2.1
    have k43 := (hx.1.2.2.2.2.1 k hkM).1
    rw [wl_X6_read_62, gI_def, gI_def, hx.2.2.2.2.2.1, hx.2.2.2.1.1]
    refine ⟨fun q => absurd q (by simp (disch := omega) only [q_lit, nI_add, pk_mul, q_sub, q_rem, q_div, q_vp, q_cl, q_lt, q_le, q_eq, q_neg1, gI_def]; omega), fun _ => ⟨fun e => ?_, fun n => ⟨fun q => absurd rfl q, fun _ => ?_⟩⟩⟩
    · simp (disch := omega) only [q_lit, q_eq] at e
      exact H1 u pr k s [] hx e (by rw [List.append_nil]; exact hC) ⟨fun _ _ _ _ => rfl, rfl⟩ rfl
    · have n43 : K k ≠ 43 := fun q => n (by rw [q]; rfl)
      rw [nI_1]
      refine clsX hx hs hC (fun z pr' k' s' c a1 a2 a3 a4 a5 a6 a7 => ?_) (fun z pr' f kf a1 a2 a3 => ?_)
      · refine ih (v + 1) z pr' k' s' (D ++ [c]) (by omega) (by omega) a1 a2 a4 (fun y p2 e s2 Cs b1 b2 b3 b4 b5 => H1 y p2 e s2 (c :: Cs) b1 b2 ?_ (a5.t b4) ⟨a6, n43, k', a3, a7, b5⟩) (fun y p2 e f kf Cs b1 b2 b3 b4 b5 => H2 y p2 e f kf (c :: Cs) b1 (a5.t b2) ⟨a6, n43, k', a3, a7, b3⟩ b4 ?_)
        · rw [List.append_assoc] at b3; exact b3
        · rw [List.append_assoc] at b5; exact b5
      · have done : post z := H2 z pr' k f kf [] a1 a2 rfl n43 (by rw [List.append_nil]; exact a3)
        have f0 := a1.2.1
        rw [wl_X6_read_62, gI_def, gI_def, a1.2.2.2.2.1, a1.2.2.1]
        exact ⟨fun _ => done, fun _ => ⟨fun _ => done, fun _ => ⟨fun _ => done, fun q => absurd q (by simp (disch := omega) only [q_lit, nI_add, pk_mul, q_sub, q_rem, q_div, q_vp, q_cl, q_lt, q_le, q_eq, q_neg1, gI_def]; omega)⟩⟩⟩
end
def kK (T : List Tk) (k : Nat) : Nat := (T.getD k (43, 0, 0, 0)).1
def kN (T : List Tk) (k : Nat) : Nat := (T.getD k (43, 0, 0, 0)).2.1
def kS (T : List Tk) (k : Nat) : Nat := (T.getD k (43, 0, 0, 0)).2.2.1
def kE (T : List Tk) (k : Nat) : Nat := (T.getD k (43, 0, 0, 0)).2.2.2
theorem kG {T : List Tk} {k : Nat} (h : k < T.length) : T[k]? = some (kK T k, kN T k, kS T k, kE T k) := by
  unfold kK kN kS kE
  rw [List.getElem?_eq_getElem h, List.getD_eq_getElem?_getD, List.getElem?_eq_getElem h]; rfl
theorem imin300 {L : Nat} (h : L ≤ 300) : imin (nI L) (imin 300 300) = nI L := by
  rw [show imin 300 300 = nI 300 by decide]
  unfold imin
  rw [if_neg (by rw [q_lt (by omega) (by omega)]; omega)]
theorem readX {b : Nat → Nat} {L t : Nat} {u : PoS} {T : List Tk} {post : PoS → Prop} (ht : t < 4) (hL : L ≤ 300) (hb : ∀ i, i < L → b i ≤ 255) (htp : ∀ i, i < L → u.1 31 i = nI (b i)) (hT : T = toks b L (L + 1) 0) (H1 : ∀ z pr e s' Cs, RX (kK T) (kN T) (kS T) T.length t pr z e 0 s' → kK T e = 43 → CI t z Cs s' 2 → (∀ j, ¬ (27 ≤ j ∧ j ≤ 30) → j ≠ 7 + t → ¬ (11 + 4 * t ≤ j ∧ j ≤ 14 + 4 * t) → z.1 j = u.1 j) → TrC (kK T) (kN T) [] Cs 0 e → post z) (H2 : ∀ z pr e f kf Cs, RB (kK T) (kN T) (kS T) T.length t pr z f kf 0 → (∀ j, ¬ (27 ≤ j ∧ j ≤ 30) → j ≠ 7 + t → ¬ (11 + 4 * t ≤ j ∧ j ≤ 14 + 4 * t) → z.1 j = u.1 j) → TrC (kK T) (kN T) [] Cs 0 e → kK T e ≠ 43 → ClB (kK T) (kN T) Cs e f kf → post z) : wp_X6_read t (nI L) u post := by
  intro z1 e1
  refine ⟨t, ht, by rw [e1, gR_pR, if_pos ⟨rfl, rfl⟩], ?_⟩
  intro y1 d1 y2 d2 y3 d3 y4 d4 z5 e5 z6 e6 z7 e7
  rw [imin300 hL]
  have o7 : ∀ j, j ≠ 27 → j ≠ 7 + t → z7.1 j = u.1 j := fun j a c => by rw [e7, pI_o a, e6, pI_o a, e5, pI_o a, d4, pI_o c, d3, pI_o c, d2, pI_o c, d1, pI_o c, e1, pR_1]
  have l7 : z7.1 (7 + t) = up (up (up (up (u.1 (7 + t)) 4 0) 5 0) 6 (-1)) 7 (-1) := by rw [e7, pI_o (by omega), e6, pI_o (by omega), e5, pI_o (by omega), d4, pI_s, d3, pI_s, d2, pI_s, d1, pI_s, e1, pR_1]
  have g7 : gR z7 27 8 = 7 + t := by rw [e7, e6, e5, d4, d3, d2, d1, e1, gR_pI, gR_pI, gR_pI, gR_pI, gR_pI, gR_pI, gR_pI, gR_pR, if_pos ⟨rfl, rfl⟩]
  have a0 : z7.1 27 0 = nI 0 := by rw [e7, pI_s, up_ne (by decide), e6, pI_s, up_ne (by decide), e5, pI_s, up_eq]; rfl
  have a1 : z7.1 27 1 = -1 := by rw [e7, pI_s, up_ne (by decide), e6, pI_s, up_eq]
  have a9 : z7.1 27 9 = nI 0 := by rw [e7, pI_s, up_eq]; rfl
  refine cutX hL hb (fun i hi => by rw [o7 31 (by decide) (by omega)]; exact htp i hi) (fun z9 c1 c2 => ?_)
  rw [← hT] at c1
  intro z10 e10 z11 e11
  have len := toks_len (b := b) (L := L) (L + 1) 0 (Nat.zero_le _)
  rw [← hT] at len
  obtain ⟨T0, hT0⟩ := toks_last (b := b) (L := L) (L + 1) 0
  rw [← hT] at hT0
  have l1 : T.length = T0.length + 1 := by rw [hT0, List.length_append]; rfl
  have cell : ∀ k, k < T.length → z9.1 28 k = nI (kK T k) ∧ z9.1 29 k = nI (kS T k) ∧ z9.1 30 k = nI (kN T k) := fun k hk => c1.2 k _ (kG hk)
  have last : kK T (T.length - 1) = 43 := by
    have g := kG (T := T) (k := T.length - 1) (by omega)
    rw [hT0, List.getElem?_append_right (by rw [List.length_append]; simp only [List.length_cons, List.length_nil]; omega)] at g
    rw [List.length_append] at g
    simp only [List.length_cons, List.length_nil] at g
    rw [show T0.length + (0 + 1) - 1 - T0.length = 0 by omega] at g
    have := Option.some.inj g
    rw [← hT0] at this
    have e := congrArg (fun x : Tk => x.1) this
    rw [show T.length - 1 = T0.length + (0 + 1) - 1 by omega]
    exact e.symm
  have o11 : ∀ j, j ≠ 27 → z11.1 j = z9.1 j := fun j a => by rw [e11, pI_o a, e10, pI_o a]
  have p11 : ∀ i, i ≠ 6 → i ≠ 7 → i ≠ 5 → z11.1 27 i = z7.1 27 i := fun i a c d => by rw [e11, pI_s, up_ne c, e10, pI_s, up_ne a]; exact c2.2.1 i d
  have l11 : z11.1 (7 + t) = z7.1 (7 + t) := by rw [o11 _ (by omega)]; exact c2.1 _ (by omega) (by omega) (by omega) (by omega)
  have hx : RX (kK T) (kN T) (kS T) T.length t (decide (¬ z7.1 27 10 = 0)) z11 0 0 0 := by
    refine ⟨⟨ht, by omega, by omega, last, fun k hk => ?_, ?_, ?_, ?_⟩, by omega, by omega, ⟨?_, ?_⟩, ?_, ?_, ?_, ?_⟩
    · have bd := toks_bd (b := b) (L := L) (L + 1) 0 k _ (Nat.zero_le _) (by rw [← hT]; exact kG hk)
      rw [o11 28 (by decide), o11 29 (by decide), o11 30 (by decide)]
      exact ⟨bd.1, bd.2.1, by have := bd.2.2.1; simp only at this; omega, cell k hk⟩
    · rw [e11, e10]; show gR z9 27 8 = 7 + t; rw [show gR z9 27 8 = gR z7 27 8 by unfold gR; rw [c2.2.2]]; exact g7
    · rw [e11, pI_s, up_ne (by decide), e10, pI_s, up_ne (by decide)]; exact c1.1
    · rw [p11 10 (by decide) (by decide) (by decide)]
      exact ⟨fun q => decide_eq_false (fun w => w q), fun q => Decidable.byContradiction (fun w => of_decide_eq_false q w)⟩
    · rw [p11 0 (by decide) (by decide) (by decide)]; exact a0
    · rw [p11 1 (by decide) (by decide) (by decide)]; exact a1
    · rw [e11, pI_s, up_ne (by decide), e10, pI_s, up_eq]; rfl
    · rw [e11, pI_s, up_eq, gI_def, e10, pI_o (by decide)]; exact (cell 0 (by omega)).1
    · rw [p11 9 (by decide) (by decide) (by decide)]; exact a9
    · rw [l11, l7, up_ne (by decide), up_ne (by decide), up_eq]; rfl
  have hC : CI t z11 [] 0 2 := by
    refine ⟨?_, by decide, fun i c h => absurd h (by simp), fun σ hσ _ => Or.inl ⟨?_, fun i c h => absurd h (by simp)⟩⟩
    · rw [l11, l7, up_ne (by decide), up_ne (by decide), up_ne (by decide), up_eq]; rfl
    · have : σ = 0 ∨ σ = 1 := by omega
      rcases this with q | q
      · rw [q, l11, l7, up_ne (by decide), up_eq]
      · rw [q, l11, l7, up_eq]
  have outer : ∀ z, FrW t z11 z → ∀ j, ¬ (27 ≤ j ∧ j ≤ 30) → j ≠ 7 + t → ¬ (11 + 4 * t ≤ j ∧ j ≤ 14 + 4 * t) → z.1 j = u.1 j := fun z hz j q1 q2 q3 => by
    rw [hz.1 j (by omega) q2 q3, o11 j (by omega), c2.1 j (by omega) (by omega) (by omega) (by omega), o7 j (by omega) q2]
  exact ⟨301, lpX 300 0 z11 _ 0 0 [] rfl (Nat.le_refl _) hx (Nat.le_refl _) hC (fun z pr' e s' Cs a1 a2 a3 a4 a5 => H1 z pr' e s' Cs a1 a2 a3 (outer z a4) a5) (fun z pr' e f kf Cs a1 a2 a3 a4 a5 => H2 z pr' e f kf Cs a1 (outer z a2) a3 a4 a5)⟩
