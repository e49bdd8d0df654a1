/-! text -/
theorem rowTxt {r a r' a' : Nat → Int32} {n : Nat} (h : RowOk r a) (hn : n < 4) (e : a 1 = nI n) (hr : ∀ i, i ≠ 117 → r' i = r i) (ha : ∀ i, i ≠ 1 → a' i = a i) (er : r' 117 = nI (n + 1)) (ea : a' 1 = nI (n + 1)) : RowOk r' a' := by
  obtain ⟨⟨e0, e1, e2, e3, e4, e5, e6, e7, e8, e9⟩, ⟨b0, b1, b2, b3, b4, b5, b6, b7, b8, b9, b10⟩, h3, h4, h5, h6, h7, h8, h9, h10⟩ := h
  refine ⟨⟨?_, ?_, ?_, ?_, ?_, ?_, ?_, ?_, ?_, ?_⟩, ⟨?_, ?_, ?_, ?_, ?_, ?_, ?_, ?_, ?_, ?_, ?_⟩, h3.congr (fun i hi => hr i (by omega)) (ha 0 (by decide)) (fun i q _ => ha i (by omega)), h4.congr (fun i q1 q2 => hr i (by omega)) (hr 85 (by decide)) (fun i q1 q2 => hr i (by omega)) (fun i q1 q2 => ha i (by omega)), h5.congr (fun i q1 q2 => hr i (by omega)) (fun i q1 q2 => ha i (by omega)), h6.congr (fun i q1 q2 => hr i (by omega)) (ha 4 (by decide)) (fun i q1 q2 => ha i (by omega)), h7.congr (fun i q1 q2 => hr i (by omega)) (by rw [ha 0 (by decide)]; exact Nat.le_refl _) (ha 5 (by decide)) (fun i q1 q2 => ha i (by omega)), h8.congr (fun i q1 q2 => hr i (by omega)) (ha 9 (by decide)) (fun i q1 q2 => ha i (by omega)), h9.congr (hr 184 (by decide)) (by rw [ha 0 (by decide)]; exact Nat.le_refl _) (ha 3 (by decide)) (fun i q1 q2 => hr i (by omega)) (fun i q1 q2 => ha i (by omega)), h10.congr (ha 0 (by decide)) (ha 3 (by decide)) (fun i q1 q2 => ha i (by omega)) (fun i q1 q2 => ha i (by omega))⟩
  · rw [hr 84 (by decide), ha 0 (by decide)]; exact e0
  · rw [er, ea]
  · rw [hr 116 (by decide), ha 2 (by decide)]; exact e2
  · rw [hr 183 (by decide), ha 3 (by decide)]; exact e3
  · rw [hr 153 (by decide), ha 4 (by decide)]; exact e4
  · rw [hr 166 (by decide), ha 5 (by decide)]; exact e5
  · rw [hr 51 (by decide), ha 6 (by decide)]; exact e6
  · rw [hr 50 (by decide), ha 7 (by decide)]; exact e7
  · rw [hr 52 (by decide), ha 8 (by decide)]; exact e8
  · rw [hr 53 (by decide), ha 9 (by decide)]; exact e9
  · rw [ha 0 (by decide)]; exact b0
  · rw [ea]; exact ⟨n + 1, by omega, rfl⟩
  · rw [ha 2 (by decide), ea, nN_nI (by omega)]
    rcases b2 with q | ⟨t, q1, q2⟩
    · exact Or.inl q
    · rw [e, nN_nI (by omega)] at q1
      exact Or.inr ⟨t, by omega, q2⟩
  · rw [ha 3 (by decide)]; exact b3
  · rw [ha 4 (by decide)]; exact b4
  · rw [ha 5 (by decide)]; exact b5
  · rw [ha 6 (by decide)]; exact b6
  · rw [ha 7 (by decide)]; exact b7
  · rw [ha 8 (by decide)]; exact b8
  · rw [ha 9 (by decide)]; exact b9
  · rw [hr 184 (by decide)]; exact b10
theorem NTok_of {b : Nat → Nat} {L : Nat} {B : Nat → Int32} {T : List Tk} (hL : L ≤ 300) (hB : ∀ i, i < L → B i = nI (b i) ∧ b i ≤ 255) (hT : T = toks b L (L + 1) 0) : NTok (kK T) (kN T) (kS T) (kE T) T.length L B := by
  intro u k post h n43 H
  have hk := h.1
  have g := kG hk
  have g' := g
  rw [hT] at g'
  rw [← hT] at g'
  have bd := toks_bd (b := b) (L := L) (L + 1) 0 k _ (Nat.zero_le _) (by rw [← hT]; exact g)
  obtain ⟨f', hf', hd⟩ := toks_tl (b := b) (L := L) (L + 1) 0 k _ (Nat.zero_le _) (by omega) (by rw [← hT]; exact g) n43
  rw [← hT] at hd
  refine nxtM (b := b) (L := L) (f := f') (p := kE T k) bd.2.2.2 hf' ⟨h.2.2.2.2.2, hL, fun i hi => by rw [h.2.2.2.2.1]; exact hB i hi⟩ h.2.2.1 (fun z x hx hz z8 z7 zt => H z ?_ hz)
  rw [show toks b L f' (kE T k) = T.drop (k + 1) from hd.symm, List.getElem?_drop] at hx
  have hx : T[k + 1]? = some x := hx
  obtain ⟨hk1, -⟩ := List.getElem?_eq_some_iff.mp hx
  have e := Option.some.inj ((kG hk1).symm.trans hx)
  rw [← e] at z8 z7 zt
  refine ⟨hk1, z8, z7, zt, ?_, ?_⟩
  · rw [hz.1 52 (by decide)]; exact h.2.2.2.2.1
  · rw [hz.2.1 4 (by decide) (by decide) (by decide) (by decide)]; exact h.2.2.2.2.2
theorem rtxM {b : Nat → Nat} {L t : Nat} {u : PoS} {T : List Tk} {Cs : List Rc} {e f kf : Nat} {post : Int32 → PoS → Prop} (ht : t < 4) (h49 : u.1 49 1 = nI t) (htp : TpB b L u) (hT : T = toks b L (L + 1) 0) (hTr : TrC (kK T) (kN T) [] Cs 0 e) (hE : (kK T e = 43 ∧ f = 0 ∧ kf = e) ∨ (kK T e ≠ 43 ∧ f ≠ 0 ∧ f ≤ 6 ∧ ClB (kK T) (kN T) Cs e f kf)) (H : ∀ z, RT (kK T) (kN T) (kS T) (kE T) T.length L (u.1 52) z kf → (∀ j, j ≠ 48 → j ≠ 51 → j ≠ 53 → z.1 j = u.1 j) → (∀ i, i < 681 * t ∨ 681 * t + 681 ≤ i → z.1 51 i = u.1 51 i) → (∀ i, i = 4 ∨ i = 5 ∨ i = 6 ∨ i = 24 → z.1 48 i = u.1 48 i) → (f = 0 → ∃ n', n' ≤ 300 ∧ MI t z Cs n') → post (nI f) z) : wp_X12_readText u post := by
  have hL := htp.2.1
  have hNT := NTok_of (B := u.1 52) hL (fun i hi => htp.2.2 i hi) hT
  intro z1 e1
  rw [gI_def, h49, show (681 : Int32) * nI t = nI (681 * t) by simp (disch := omega) only [q_lit, nI_add, pk_mul, q_sub, q_rem, q_div, q_vp, q_cl, q_lt, q_le, q_eq, q_neg1, gI_def]] at e1
  have g12 : gI z1 48 12 = nI (681 * t) := by rw [e1, gI_def, pI_s, up_eq]
  rw [g12, q_cl (by omega)]
  refine ⟨by simp (disch := omega) only [q_lit, nI_add, pk_mul, q_sub, q_rem, q_div, q_vp, q_cl, q_lt, q_le, q_eq, q_neg1, gI_def]; omega, ?_⟩
  intro z2 e2 z3 e3 z4 e4 z5 e5
  have c51 : z5.1 51 = up (u.1 51) (681 * t) 0 := by rw [e5, pI_o (by decide), e4, pI_o (by decide), e3, pI_o (by decide), e2, pI_s, e1, pI_o (by decide)]
  have cj : ∀ j, j ≠ 48 → j ≠ 51 → z5.1 j = u.1 j := fun j a c => by rw [e5, pI_o a, e4, pI_o a, e3, pI_o a, e2, pI_o c, e1, pI_o a]
  have c48 : ∀ i, i ≠ 7 → i ≠ 19 → i ≠ 13 → i ≠ 12 → z5.1 48 i = u.1 48 i := fun i a c d g => by rw [e5, pI_s, up_ne a, e4, pI_s, up_ne c, e3, pI_s, up_ne d, e2, pI_o (by decide), e1, pI_s, up_ne g]
  have c7 : z5.1 48 7 = nI 0 := by rw [e5, pI_s, up_eq]; rfl
  have c19 : z5.1 48 19 = nI 0 := by rw [e5, pI_s, up_ne (by decide), e4, pI_s, up_eq]; rfl
  have c13 : z5.1 48 13 = nI 0 := by rw [e5, pI_s, up_ne (by decide), e4, pI_s, up_ne (by decide), e3, pI_s, up_eq]; rfl
  have c12 : z5.1 48 12 = nI (681 * t) := by rw [e5, pI_s, up_ne (by decide), e4, pI_s, up_ne (by decide), e3, pI_s, up_ne (by decide), e2, pI_o (by decide)]; exact g12
  have tp5 : TpB b L z5 := ⟨by rw [c48 4 (by decide) (by decide) (by decide) (by decide)]; exact htp.1, hL, fun i hi => by rw [cj 52 (by decide) (by decide)]; exact htp.2.2 i hi⟩
  refine nxtM (b := b) (L := L) (f := L + 1) (p := 0) (Nat.zero_le _) (by omega) tp5 c7 (fun z x hx hz z8 z7 zt => ?_)
  rw [← hT] at hx
  obtain ⟨h0, -⟩ := List.getElem?_eq_some_iff.mp hx
  have ee := Option.some.inj ((kG h0).symm.trans hx)
  rw [← ee] at z8 z7 zt
  have len := toks_len (b := b) (L := L) (L + 1) 0 (Nat.zero_le _)
  rw [← hT] at len
  have hRT : RT (kK T) (kN T) (kS T) (kE T) T.length L (u.1 52) z 0 := ⟨h0, z8, z7, zt, by rw [hz.1 52 (by decide)]; exact cj 52 (by decide) (by decide), by rw [hz.2.1 4 (by decide) (by decide) (by decide) (by decide)]; exact tp5.1⟩
  have k48 : ∀ i, i ≠ 7 → i ≠ 8 → i ≠ 9 → i ≠ 10 → z.1 48 i = z5.1 48 i := fun i a c d g => hz.2.1 i a c d g
  refine ⟨Cs.length + 1, lpM hNT ht (by omega) Cs [] 0 0 z hTr hRT ⟨?_, ?_, ?_, ?_, by decide, fun i c h => absurd h (by simp)⟩ (Nat.le_refl _) hE (fun y a1 a2 a3 => H y a1 (fun j q1 q2 q3 => ?_) (fun i q => ?_) (fun i q => ?_) a3)⟩
  · rw [k48 12 (by decide) (by decide) (by decide) (by decide)]; exact c12
  · rw [k48 13 (by decide) (by decide) (by decide) (by decide)]; exact c13
  · rw [k48 19 (by decide) (by decide) (by decide) (by decide)]; exact c19
  · rw [hz.1 51 (by decide), c51, up_eq]; rfl
  · rw [a2.1 j q1 q2 q3, hz.1 j q1, cj j q1 q2]
  · rw [a2.2.1 i q, hz.1 51 (by decide), c51, up_ne (by omega)]
  · rw [a2.2.2 i (by omega), k48 i (by omega) (by omega) (by omega) (by omega), c48 i (by omega) (by omega) (by omega) (by omega)]
theorem tr_ok {K N : Nat → Nat} {e : Nat} : ∀ (Cs D : List Rc) (k : Nat), TrC K N D Cs k e → ∀ (i : Nat) (c : Rc), Cs[i]? = some c → c.1 ≤ 9 ∧ (c.1 = 9 → c.2.1 ≤ 60) := by
  intro Cs
  induction Cs with
  | nil => intro D k _ i c h; exact absurd h (by simp)
  | cons d Cs ih =>
    intro D k hT i c h
    obtain ⟨-, -, k', -, hR, hT'⟩ := hT
    cases i with
    | succ i => exact ih _ k' hT' i c (by simpa using h)
    | zero =>
      obtain rfl := Option.some.inj h
      rcases hR.2 with ⟨q, _⟩ | ⟨q2, q9, q3, q4⟩
      · exact ⟨by omega, fun w => by omega⟩
      · refine ⟨q9, fun w => ?_⟩
        have e0 : (expF K 38 (dedP K N d.1 k)).1 = 0 := by rw [← q3]
        have d0 := (expF_0 e0).1
        rw [w] at d0
        have f0 : (figF K N 1 60 (0, k + 1)).1 = 0 := d0
        have := (figF_0 f0).2.2.2.1
        rw [(q4 rfl).1 (by omega)]; exact this
theorem ltx_of {t : Nat} {v : PoS} {Cs : List Rc} {s n' : Nat} (ht : t < 4) (hC : CI t v Cs s 2) (h5 : v.1 (7 + t) 5 = nI s) (hs : s ≤ 300) (hM : v.1 51 (681 * t) = nI Cs.length) (hR : ∀ (i : Nat) (c : Rc), Cs[i]? = some c → RcM t v i c n') (hn' : n' ≤ 300) (hok : ∀ (i : Nat) (c : Rc), Cs[i]? = some c → c.1 ≤ 9 ∧ (c.1 = 9 → c.2.1 ≤ 60)) : LTx t v := by
  obtain ⟨c1, c2, c3, c4⟩ := hC
  have get : ∀ k, k < Cs.length → ∃ c, Cs[k]? = some c := fun k hk => ⟨Cs[k], List.getElem?_eq_getElem hk⟩
  have cell : ∀ k c, Cs[k]? = some c → v.1 51 (681 * t + 1 + 3 * k) = nI c.1 := fun k c hc => (hR k c hc).1
  have law : ∀ σ, σ ≤ 1 → LawOf t Cs.length v (6 + σ) σ := by
    intro σ hσ
    rcases c4 σ hσ (by omega) with ⟨g, gn⟩ | ⟨i, c, s0, j, F, g1, g2, g3, g4, g5, g6, g7, g8⟩
    · refine Or.inl ⟨g, fun k hk q => ?_⟩
      obtain ⟨c, hc⟩ := get k hk
      have b9 := (hok k c hc).1
      rw [cell k c hc, nI_eq (by omega) (by omega)] at q
      exact gn k c hc q
    · obtain ⟨hi, -⟩ := List.getElem?_eq_some_iff.mp g1
      obtain ⟨r1, r2, r3, r4⟩ := hR i c g1
      obtain ⟨i0, m1, m2, m3, m4⟩ := r4 (by omega)
      refine Or.inr ⟨by rw [g4]; exact nI_m1 (by omega), i, hi, by rw [r1, g2], fun k hk q => ?_, F, sayX_of ht g6 (by decide) g7 g8 hs h5 g4, sayM_of (i0 := i0) ht (by omega) g6 (fun w => decide_eq_true (by omega)) ?_ ?_ (by omega) m4, fun w e e' he => g6.2.2.2.2.2.1 (decide_eq_true w) e e' he⟩
      · obtain ⟨c', hc'⟩ := get k (by omega)
        have b9 := (hok k c' hc').1
        rw [cell k c' hc', nI_eq (by omega) (by omega)] at q
        have := g3 k c' hc' q
        omega
      · rw [show 681 * t + 1 + 3 * i + 1 = 681 * t + 2 + 3 * i by omega]; exact m1
      · rw [show 681 * t + 1 + 3 * i + 2 = 681 * t + 3 + 3 * i by omega]; exact m2
  refine ⟨ht, Cs.length, c2, c1, hM, fun k hk => ?_, law 0 (by decide), law 1 (by decide)⟩
  obtain ⟨c, hc⟩ := get k hk
  obtain ⟨b9, b60⟩ := hok k c hc
  obtain ⟨r1, r2, r3, r4⟩ := hR k c hc
  obtain ⟨d1, d2, d3⟩ := c3 k c hc
  refine ⟨c.1, b9, d1, r1, fun q1 q2 => by rw [d2, r2 q1 q2], fun q => by rw [d3, r3 q], fun q => ?_⟩
  rw [r2 (by omega) (by omega)]
  exact ⟨c.2.1, b60 q, rfl⟩
theorem ci_co {t : Nat} {u v : PoS} {D : List Rc} {s X : Nat} (h : CI t u D s X) (h1 : v.1 (7 + t) = u.1 (7 + t)) (h2 : ∀ i, i < 4 → v.1 (11 + 4 * t + i) = u.1 (11 + 4 * t + i)) : CI t v D s X := by
  have e11 : v.1 (11 + 4 * t) = u.1 (11 + 4 * t) := h2 0 (by decide)
  have e12 : v.1 (12 + 4 * t) = u.1 (12 + 4 * t) := by rw [show 12 + 4 * t = 11 + 4 * t + 1 by omega]; exact h2 1 (by decide)
  have e13 : v.1 (13 + 4 * t) = u.1 (13 + 4 * t) := by rw [show 13 + 4 * t = 11 + 4 * t + 2 by omega]; exact h2 2 (by decide)
  have e14 : v.1 (14 + 4 * t) = u.1 (14 + 4 * t) := by rw [show 14 + 4 * t = 11 + 4 * t + 3 by omega]; exact h2 3 (by decide)
  have ea : cdA t v = cdA t u := by funext p; exact cdA_raw (by rw [e14])
  obtain ⟨k1, k2, k3, k4⟩ := h
  unfold CI LC
  rw [h1, e11, e12, e13, ea]
  exact ⟨k1, k2, k3, k4⟩
