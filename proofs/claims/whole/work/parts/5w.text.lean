/-! text: the obligation -/
theorem ob_text : Ob32 wp_X11_text wp_X12_text (Inv LTx) := by
  intro u hI
  obtain ⟨hR, hR5, h50, ⟨t1, t2, t3⟩, hF, h24, hLT⟩ := id hI
  obtain ⟨n, hn4, en⟩ := hR.2.1.2.1
  have e117 : u.1 3 117 = nI n := by rw [hR.1.2.1, en]
  have enN : nN (u.1 49 1) = n := by rw [en, nN_nI (by omega)]
  by_cases q4 : n = 4
  · subst q4
    refine ⟨fun r u1 => r = -1 ∧ u1 = u, fun K hK x1 e1 => ?_, fun r u1 hm K hK => ?_⟩
    · rw [gI_def, e117] at e1
      subst e1
      exact ⟨fun q => absurd q (by decide), fun _ => hK _ _ ⟨rfl, rfl⟩⟩
    · obtain ⟨e1, e2⟩ := hm
      subst e1; subst e2
      unfold wp_X12_text
      rw [gI_def, en]
      exact ⟨fun q => absurd rfl q, fun _ => hK _ hI⟩
  have hn : n < 4 := by omega
  obtain ⟨L, hL, eL⟩ := t2
  have eLN : nN (u.1 48 4) = L := by rw [eL, nN_nI (by omega)]
  have hb : ∀ i, i < L → u.1 31 i = nI (nN (u.1 52 i)) ∧ u.1 52 i = nI (nN (u.1 52 i)) ∧ nN (u.1 52 i) ≤ 255 := fun i hi => by
    obtain ⟨a, c⟩ := t3 i (by omega) (by omega)
    have := c.eq (by decide)
    exact ⟨by rw [a]; exact this.1, this.1, this.2⟩
  obtain ⟨T, hT⟩ : ∃ T, T = toks (fun i => nN (u.1 52 i)) L (L + 1) 0 := ⟨_, rfl⟩
  refine ⟨fun r u1 => ∃ z : PoS, (∀ j, ¬ (27 ≤ j ∧ j ≤ 30) → j ≠ 7 + n → ¬ (11 + 4 * n ≤ j ∧ j ≤ 14 + 4 * n) → z.1 j = u.1 j) ∧ ∃ e Cs, TrC (kK T) (kN T) [] Cs 0 e ∧ ((∃ pr s', RX (kK T) (kN T) (kS T) T.length n pr z e 0 s' ∧ kK T e = 43 ∧ CI n z Cs s' 2 ∧ r = nI n ∧ u1 = pI (pI (pI z 0 8 1) 0 7 0) 3 117 (nI (n + 1))) ∨ (∃ pr f kf, RB (kK T) (kN T) (kS T) T.length n pr z f kf 0 ∧ kK T e ≠ 43 ∧ ClB (kK T) (kN T) Cs e f kf ∧ r = -1 ∧ u1 = pI (pI z 0 8 1) 0 7 0)), fun K hK x1 e1 => ?_, fun r u1 hm K hK => ?_⟩
  · rw [gI_def, e117] at e1
    subst e1
    refine ⟨fun _ => ⟨by simp (disch := omega) only [q_lit, nI_add, pk_mul, q_sub, q_rem, q_div, q_vp, q_cl, q_lt, q_le, q_eq, q_neg1, gI_def]; omega, ?_⟩, fun q => absurd (by simp (disch := omega) only [q_lit, nI_add, pk_mul, q_sub, q_rem, q_div, q_vp, q_cl, q_lt, q_le, q_eq, q_neg1, gI_def]; omega) q⟩
    rw [q_cl (by omega), gI_def, t1, eL]
    refine readX hn hL (fun i hi => (hb i hi).2.2) (fun i hi => (hb i hi).1) hT (fun z pr e s' Cs a1 a2 a3 a4 a5 z5 e5 z6 e6 => ?_) (fun z pr e f kf Cs a1 a2 a3 a4 a5 z5 e5 z6 e6 => ?_)
    · have g0 : gI z6 27 0 = 0 := by rw [gI_def, e6, pI_o (by decide), e5, pI_o (by decide)]; exact a1.2.2.2.1.1
      exact ⟨fun _ z7 e7 => hK _ _ ⟨z, a4, e, Cs, a5, Or.inl ⟨pr, s', a1, a2, a3, rfl, by rw [e7, e6, e5, nI_1]⟩⟩, fun q => absurd g0 q⟩
    · have f0 := a1.2.1
      have g0 : ¬ gI z6 27 0 = 0 := by
        rw [gI_def, e6, pI_o (by decide), e5, pI_o (by decide), a1.2.2.1, show (0 : Int32) = nI 0 from rfl, nI_eq (by omega) (by decide)]; exact f0.1
      exact ⟨fun q => absurd q g0, fun _ => hK _ _ ⟨z, a2, e, Cs, a3, Or.inr ⟨pr, f, kf, a1, a4, a5, rfl, by rw [e6, e5]⟩⟩⟩
  · obtain ⟨z, hz, e, Cs, hTr, hm⟩ := hm
    have recs := tr_ok Cs [] 0 hTr
    rcases hm with ⟨pr, s', hx, e43, hC, er, eu⟩ | ⟨pr, f, kf, hx, n43, hB, er, eu⟩
    · have uj : ∀ j, j ≠ 0 → j ≠ 3 → u1.1 j = z.1 j := fun j a c => by rw [eu, pI_o c, pI_o a, pI_o a]
      have u3 : u1.1 3 = up (u.1 3) 117 (nI (n + 1)) := by rw [eu, pI_s, pI_o (by decide), pI_o (by decide), hz 3 (by omega) (by omega) (by omega)]
      have u0' : u1.1 0 = up (up (u.1 0) 8 1) 7 0 := by rw [eu, pI_o (by decide), pI_s, pI_s, hz 0 (by omega) (by omega) (by omega)]
      have ub : ∀ j, 31 ≤ j → u1.1 j = u.1 j := fun j hj => by rw [uj j (by omega) (by omega), hz j (by omega) (by omega) (by omega)]
      unfold wp_X12_text
      rw [gI_def, ub 49 (by decide), en]
      refine ⟨fun _ => rtxM (b := fun i => nN (u.1 52 i)) (L := L) hn (by rw [ub 49 (by decide)]; exact en) ⟨by rw [ub 48 (by decide)]; exact eL, hL, fun i hi => by rw [ub 52 (by decide)]; exact (hb i hi).2⟩ hT hTr (f := 0) (kf := e) (Or.inl ⟨e43, rfl, rfl⟩) (fun y b1 b2 b3 b4 b5 z3 e3 => ?_), fun q => absurd q (by simp (disch := omega) only [q_lit, nI_add, pk_mul, q_sub, q_rem, q_div, q_vp, q_cl, q_lt, q_le, q_eq, q_neg1, gI_def]; omega)⟩
      have y5 : gI z3 48 5 = 0 := by rw [e3, gI_def, pI_s, up_eq]; rfl
      refine ⟨fun q => absurd y5 q, fun _ z4 e4 z5 e5 => ?_⟩
      have y55 : gI z5 48 5 = 0 := by rw [e5, gI_def, pI_s, up_ne (by decide), e4, pI_s, up_ne (by decide)]; exact y5
      refine ⟨fun _ z6 e6 => ?_, fun q => absurd y55 q⟩
      have yj : ∀ j, j ≠ 48 → j ≠ 49 → j ≠ 51 → j ≠ 53 → z6.1 j = u1.1 j := fun j a c d g => by rw [e6, pI_o c, e5, pI_o a, e4, pI_o a, e3, pI_o a, b2 j a d g]
      have y49 : z6.1 49 = up (u.1 49) 1 (nI (n + 1)) := by
        rw [e6, pI_s, gI_def, e5, pI_o (by decide), e4, pI_o (by decide), e3, pI_o (by decide), b2 49 (by decide) (by decide) (by decide), ub 49 (by decide), en, nI_1]
      have y51 : z6.1 51 = y.1 51 := by rw [e6, pI_o (by decide), e5, pI_o (by decide), e4, pI_o (by decide), e3, pI_o (by decide)]
      have y48 : ∀ i, i ≠ 4 → i ≠ 5 → i ≠ 6 → z6.1 48 i = y.1 48 i := fun i a c d => by rw [e6, pI_o (by decide), e5, pI_s, up_ne a, e4, pI_s, up_ne d, e3, pI_s, up_ne c]
      rw [show gI z6 49 1 - 1 = r by rw [gI_def, y49, up_eq, nI_pred, er]]
      refine hK z6 ⟨?_, ?_, ?_, ⟨?_, ?_, fun j _ hj => ?_⟩, Or.inr ⟨?_, ?_, ?_⟩, ?_, fun t ht4 ht => ?_⟩
      · refine rowTxt hR hn en (fun i hi => ?_) (fun i hi => by rw [y49, up_ne hi]) ?_ (by rw [y49, up_eq])
        · rw [yj 3 (by decide) (by decide) (by decide) (by decide), u3, up_ne hi]
        · rw [yj 3 (by decide) (by decide) (by decide) (by decide), u3, up_eq]
      · rw [yj 5 (by decide) (by decide) (by decide) (by decide), yj 50 (by decide) (by decide) (by decide) (by decide), ub 50 (by decide), uj 5 (by decide) (by decide), hz 5 (by omega) (by omega) (by omega)]; exact hR5
      · rw [yj 50 (by decide) (by decide) (by decide) (by decide), ub 50 (by decide), y49, up_eq, nN_nI (by omega)]; omega
      · rw [yj 0 (by decide) (by decide) (by decide) (by decide), u0', up_eq, e6, pI_o (by decide), e5, pI_s, up_eq]
      · rw [e6, pI_o (by decide), e5, pI_s, up_eq]; exact ⟨0, by decide, rfl⟩
      · rw [e6, pI_o (by decide), e5, pI_s, up_eq] at hj
        exact absurd hj (Nat.not_lt_zero j)
      · rw [yj 0 (by decide) (by decide) (by decide) (by decide), u0', up_ne (by decide), up_eq]
      · rw [yj 27 (by decide) (by decide) (by decide) (by decide), uj 27 (by decide) (by decide), hx.2.2.2.1.1, e6, pI_o (by decide)]; exact y55.symm
      · rw [yj 27 (by decide) (by decide) (by decide) (by decide), uj 27 (by decide) (by decide), hx.2.2.2.1.2, e6, pI_o (by decide), e5, pI_s, up_ne (by decide), e4, pI_s, up_eq]
      · rw [y48 24 (by decide) (by decide) (by decide), b4 24 (by omega), ub 48 (by decide)]; exact h24
      · rw [y49, up_eq, nN_nI (by omega)] at ht
        by_cases qt : t = n
        · subst qt
          obtain ⟨n', c1, c2⟩ := b5 rfl
          refine ltx_of (s := s') (n' := n') hn (ci_co hC ?_ (fun i hi => ?_)) ?_ hx.2.2.1 ?_ (fun i c hc => ?_) c1 recs
          · rw [yj _ (by omega) (by omega) (by omega) (by omega), uj _ (by omega) (by omega)]
          · rw [yj _ (by omega) (by omega) (by omega) (by omega), uj _ (by omega) (by omega)]
          · rw [yj _ (by omega) (by omega) (by omega) (by omega), uj _ (by omega) (by omega)]; exact hx.2.2.2.2.2.2.2
          · rw [y51]; exact c2.2.2.2.1
          · have hi : i < 24 := by
              obtain ⟨w, -⟩ := List.getElem?_eq_some_iff.mp hc
              have := c2.2.2.2.2.1
              omega
            exact rcm_fr (c2.2.2.2.2.2 i c hc) hi (Nat.le_refl _) (fun j _ => by rw [y51])
        · refine LTx_fr ?_ (fun i hi => ?_) (fun i hi => ?_) (hLT t ht4 (by omega))
          · rw [yj _ (by omega) (by omega) (by omega) (by omega), uj _ (by omega) (by omega), hz _ (by omega) (by omega) (by omega)]
          · rw [yj _ (by omega) (by omega) (by omega) (by omega), uj _ (by omega) (by omega), hz _ (by omega) (by omega) (by omega)]
          · rw [y51, b3 _ (by omega), ub 51 (by decide)]
    · have uj : ∀ j, j ≠ 0 → u1.1 j = z.1 j := fun j a => by rw [eu, pI_o a, pI_o a]
      have u0' : u1.1 0 = up (up (u.1 0) 8 1) 7 0 := by rw [eu, pI_s, pI_s, hz 0 (by omega) (by omega) (by omega)]
      have ub : ∀ j, 31 ≤ j → u1.1 j = u.1 j := fun j hj => by rw [uj j (by omega), hz j (by omega) (by omega) (by omega)]
      have f0 := hx.2.1
      unfold wp_X12_text
      rw [gI_def, ub 49 (by decide), en]
      refine ⟨fun _ => rtxM (b := fun i => nN (u.1 52 i)) (L := L) hn (by rw [ub 49 (by decide)]; exact en) ⟨by rw [ub 48 (by decide)]; exact eL, hL, fun i hi => by rw [ub 52 (by decide)]; exact (hb i hi).2⟩ hT hTr (f := f) (kf := kf) (Or.inr ⟨n43, f0.1, f0.2.1, hB⟩) (fun y b1 b2 b3 b4 b5 z3 e3 => ?_), fun q => absurd q (by simp (disch := omega) only [q_lit, nI_add, pk_mul, q_sub, q_rem, q_div, q_vp, q_cl, q_lt, q_le, q_eq, q_neg1, gI_def]; omega)⟩
      have y5 : gI z3 48 5 = nI f := by rw [e3, gI_def, pI_s, up_eq]
      have nf : ¬ nI f = 0 := by rw [show (0 : Int32) = nI 0 from rfl, nI_eq (by omega) (by decide)]; exact f0.1
      refine ⟨fun _ z4 e4 z5 e5 => ?_, fun q => absurd (y5.symm.trans q) nf⟩
      have y55 : gI z5 48 5 = nI f := by rw [e5, gI_def, pI_s, up_ne (by decide), e4, pI_s, up_ne (by decide)]; exact y5
      refine ⟨fun q => absurd (y55.symm.trans q) nf, fun _ => ?_⟩
      have yj : ∀ j, j ≠ 48 → j ≠ 51 → j ≠ 53 → z5.1 j = u1.1 j := fun j a d g => by rw [e5, pI_o a, e4, pI_o a, e3, pI_o a, b2 j a d g]
      have y51 : z5.1 51 = y.1 51 := by rw [e5, pI_o (by decide), e4, pI_o (by decide), e3, pI_o (by decide)]
      have y48 : ∀ i, i ≠ 4 → i ≠ 5 → i ≠ 6 → z5.1 48 i = y.1 48 i := fun i a c d => by rw [e5, pI_s, up_ne a, e4, pI_s, up_ne d, e3, pI_s, up_ne c]
      rw [← er]
      refine hK z5 ⟨?_, ?_, ?_, ⟨?_, ?_, fun j _ hj => ?_⟩, Or.inr ⟨?_, ?_, ?_⟩, ?_, fun t ht4 ht => ?_⟩
      · rw [yj 3 (by decide) (by decide) (by decide), yj 49 (by decide) (by decide) (by decide), ub 49 (by decide), uj 3 (by decide), hz 3 (by omega) (by omega) (by omega)]; exact hR
      · rw [yj 5 (by decide) (by decide) (by decide), yj 50 (by decide) (by decide) (by decide), ub 50 (by decide), uj 5 (by decide), hz 5 (by omega) (by omega) (by omega)]; exact hR5
      · rw [yj 50 (by decide) (by decide) (by decide), ub 50 (by decide), yj 49 (by decide) (by decide) (by decide), ub 49 (by decide)]; exact h50
      · rw [yj 0 (by decide) (by decide) (by decide), u0', up_eq, e5, pI_s, up_eq]
      · rw [e5, pI_s, up_eq]; exact ⟨0, by decide, rfl⟩
      · rw [e5, pI_s, up_eq] at hj
        exact absurd hj (Nat.not_lt_zero j)
      · rw [yj 0 (by decide) (by decide) (by decide), u0', up_ne (by decide), up_eq]
      · rw [yj 27 (by decide) (by decide) (by decide), uj 27 (by decide), hx.2.2.1]; exact y55.symm
      · rw [yj 27 (by decide) (by decide) (by decide), uj 27 (by decide), hx.2.2.2.1, e5, pI_s, up_ne (by decide), e4, pI_s, up_eq, e3, gI_def, pI_s, up_ne (by decide)]; exact b1.2.1.symm
      · rw [y48 24 (by decide) (by decide) (by decide), b4 24 (by omega), ub 48 (by decide)]; exact h24
      · rw [yj 49 (by decide) (by decide) (by decide), ub 49 (by decide)] at ht
        refine LTx_fr ?_ (fun i hi => ?_) (fun i hi => ?_) (hLT t ht4 ht)
        · rw [yj _ (by omega) (by omega) (by omega), uj _ (by omega), hz _ (by omega) (by omega) (by omega)]
        · rw [yj _ (by omega) (by omega) (by omega), uj _ (by omega), hz _ (by omega) (by omega) (by omega)]
        · rw [y51, b3 _ (by omega), ub 51 (by decide)]
