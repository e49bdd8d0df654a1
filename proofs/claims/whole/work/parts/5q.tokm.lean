/-! the reference's nextToken -/
theorem figM {c : Nat} {u : PoS} {post : Int32 → PoS → Prop} (hc : c ≤ 255) (h1 : isD c = true → post 1 u) (h0 : isD c = false → post 0 u) : wp_X12_isFigure (nI c) u post := by
  unfold wp_X12_isFigure
  simp (disch := omega) only [q_lit, q_lt]
  unfold isD at h1 h0
  exact ⟨fun q => h0 (decide_eq_false (by omega)), fun q => ⟨fun q2 => h0 (decide_eq_false (by omega)), fun q2 => h1 (decide_eq_true (by omega))⟩⟩
theorem letM {c : Nat} {u : PoS} {post : Int32 → PoS → Prop} (hc : c ≤ 255) (h1 : isL c = true → post 1 u) (h0 : isL c = false → post 0 u) : wp_X12_isLetterByte (nI c) u post := by
  unfold wp_X12_isLetterByte wj_X12_isLetterByte_12
  simp (disch := omega) only [q_lit, q_lt, q_le]
  unfold isL at h1 h0
  exact ⟨fun q => ⟨fun a => h0 (decide_eq_false (by omega)), fun a => ⟨fun b => h0 (decide_eq_false (by omega)), fun b => h1 (decide_eq_true (by omega))⟩⟩, fun q => ⟨fun q2 => h1 (decide_eq_true (by omega)), fun q2 => ⟨fun a => h0 (decide_eq_false (by omega)), fun a => ⟨fun b => h0 (decide_eq_false (by omega)), fun b => h1 (decide_eq_true (by omega))⟩⟩⟩⟩
theorem figM1 {u : PoS} {post : Int32 → PoS → Prop} (h0 : post 0 u) : wp_X12_isFigure (-1) u post := ⟨fun _ => h0, fun q => absurd (by decide) q⟩
theorem letM1 {u : PoS} {post : Int32 → PoS → Prop} (h0 : post 0 u) : wp_X12_isLetterByte (-1) u post := ⟨fun _ => ⟨fun _ => h0, fun q => absurd (by decide) q⟩, fun q => absurd (by decide) q⟩
def TpB (b : Nat → Nat) (L : Nat) (u : PoS) : Prop := u.1 48 4 = nI L ∧ L ≤ 300 ∧ ∀ i, i < L → u.1 52 i = nI (b i) ∧ b i ≤ 255
theorem TpB.fr {b : Nat → Nat} {L : Nat} {u z : PoS} (h : TpB b L u) (hf : FrK u z) : TpB b L z := ⟨by rw [hf.2.1 4 (by decide) (by decide) (by decide) (by decide)]; exact h.1, h.2.1, fun i hi => by rw [hf.1 52 (by decide)]; exact h.2.2 i hi⟩
theorem bytM {b : Nat → Nat} {L p : Nat} {u : PoS} {post : Int32 → PoS → Prop} (h : TpB b L u) (hp : p ≤ L) (h1 : p < L → post (nI (b p)) u) (h0 : p = L → post (-1) u) : wp_X12_byteAt (nI p) u post := by
  obtain ⟨a, hL, c⟩ := h
  unfold wp_X12_byteAt
  rw [gI_def, a, q_le (by omega) (by omega), q_cl (by omega)]
  refine ⟨fun q => h0 (by omega), fun q => ⟨by simp (disch := omega) only [q_lit, nI_add, pk_mul, q_sub, q_rem, q_div, q_vp, q_cl, q_lt, q_le, q_eq, q_neg1, gI_def]; omega, ?_⟩⟩
  rw [gI_def, (c p (by omega)).1]; exact h1 (by omega)
theorem FrK.r {u : PoS} : FrK u u := ⟨fun _ _ => rfl, fun _ _ _ _ _ => rfl, fun _ _ _ => rfl, rfl⟩
theorem FrK.t {u v z : PoS} (h : FrK u v) (h2 : FrK v z) : FrK u z := ⟨fun j q => by rw [h2.1 j q, h.1 j q], fun i a b c d => by rw [h2.2.1 i a b c d, h.2.1 i a b c d], fun j i q => by rw [h2.2.2.1 j i q, h.2.2.1 j i q], by rw [h2.2.2.2, h.2.2.2]⟩
theorem FrK.p {u : PoS} {i : Nat} {v : Int32} (h : i = 7 ∨ i = 8 ∨ i = 9 ∨ i = 10) : FrK u (pI u 48 i v) := ⟨fun j q => pI_o q, fun k a b c d => by rw [pI_s, up_ne (by omega)], fun _ _ _ => rfl, rfl⟩
theorem FrK.l {u : PoS} {v : Int64} : FrK u (pL u 48 11 v) := ⟨fun j q => rfl, fun k a b c d => rfl, fun j i q => if_neg q, rfl⟩
theorem numM {b : Nat → Nat} {L e : Nat} {post : PoS → Prop} (he : e ≤ L) : ∀ c p m u, p + c = e → TpB b L u → u.1 48 7 = nI p → u.1 48 10 = nI m → m ≤ 999999 → (∀ i, p ≤ i → i < e → isD (b i) = true) → (e < L → isD (b e) = false) → (∀ z, FrK u z → z.1 48 7 = nI e → z.1 48 10 = nI (nmM b c p m) → z.1 48 8 = u.1 48 8 → z.1 48 9 = u.1 48 9 → z.2 = u.2 → post z) → wl_X12_nextToken_85 post (c + 1) u := by
  intro c
  induction c with
  | zero =>
    intro p m u hp ht h7 h10 hm hd hn H
    rw [wl_X12_nextToken_85, gI_def, h7]
    obtain rfl : p = e := by omega
    refine bytM ht he (fun q => figM (ht.2.2 p q).2 (fun d => by rw [hn q] at d; exact absurd d (by decide)) (fun _ => ⟨fun _ => H u FrK.r h7 h10 rfl rfl rfl, fun q => absurd rfl q⟩)) (fun q => figM1 ⟨fun _ => H u FrK.r h7 h10 rfl rfl rfl, fun q => absurd rfl q⟩)
  | succ c ih =>
    intro p m u hp ht h7 h10 hm hd hn H
    have hL := ht.2.1
    rw [wl_X12_nextToken_85, gI_def, h7]
    have hD := hd p (Nat.le_refl _) (by omega)
    have hd2 : 48 ≤ b p ∧ b p ≤ 57 := by
      unfold isD at hD
      exact of_decide_eq_true hD
    refine bytM ht (by omega) (fun q => figM (ht.2.2 p q).2 (fun _ => ⟨fun q => absurd q (by decide), fun _ => ?_⟩) (fun d => by rw [hD] at d; exact absurd d (by decide))) (fun q => by omega)
    have step : ∀ v, v ≤ 999999 → nmM b c (p + 1) v = nmM b (c + 1) p m → wj_X12_nextToken_135 (wl_X12_nextToken_85 post (c + 1)) post (nI v) u := by
      intro v hv hm2 z50 e50 z51 e51
      subst e50
      rw [gI_def, pI_s, up_ne (by decide), h7, nI_1] at e51
      subst e51
      have f1 : FrK u (pI (pI u 48 10 (nI v)) 48 7 (nI (p + 1))) := (FrK.p (i := 10) (by decide)).t (FrK.p (i := 7) (by decide))
      refine ih (p + 1) v _ (by omega) (ht.fr f1) (by rw [pI_s, up_eq]) (by rw [pI_s, up_ne (by decide), pI_s, up_eq]) hv (fun i q1 q2 => hd i (by omega) q2) hn (fun z hz z7 z10 z8 z9 z2 => H z (f1.t hz) z7 (by rw [z10, hm2]) (by rw [z8, pI_s, up_ne (by decide), pI_s, up_ne (by decide)]) (by rw [z9, pI_s, up_ne (by decide), pI_s, up_ne (by decide)]) (by rw [z2]; rfl))
    rw [gI_def, h10, show (99999 : Int32) = nI 99999 from rfl, q_le (by omega) (by omega)]
    refine ⟨fun q => ?_, fun q => step m hm (by rw [nmM, if_neg q])⟩
    rw [gI_def, h7]
    refine bytM ht (by omega) (fun q2 => ?_) (fun q2 => by omega)
    rw [show (10 : Int32) * nI m + nI (b p) - 48 = nI (10 * m + b p - 48) by simp (disch := omega) only [q_lit, nI_add, pk_mul, q_sub, q_rem, q_div, q_vp, q_cl, q_lt, q_le, q_eq, q_neg1, gI_def]]
    exact step _ (by omega) (by rw [nmM, if_pos q])
theorem rn_end {P : Nat → Bool} {b : Nat → Nat} {L : Nat} : ∀ {f q : Nat}, L - q ≤ f → rnE P b L f q < L → P (b (rnE P b L f q)) = false := by
  intro f
  induction f with
  | zero => intro q h h2; rw [rnE] at h2; omega
  | succ f ih =>
    intro q h h2
    rw [rnE] at h2 ⊢
    by_cases c : q < L ∧ P (b q) = true
    · rw [if_pos c] at h2 ⊢
      exact ih (by omega) h2
    · rw [if_neg c] at h2 ⊢
      cases e : P (b q)
      · rfl
      · exact absurd ⟨h2, e⟩ c
theorem cv_lo {g : Nat → Nat} (h : 1 ≤ g 0) : ∀ c, 256 ^ c ≤ cvF g (c + 1) := by
  intro c
  induction c with
  | zero => show 1 ≤ 0 * 256 + g 0; omega
  | succ c ih =>
    rw [cvF, Nat.pow_succ]
    omega
theorem w64 {n : Nat} (h : n ≤ 255) : Int32.toInt64 (nI n) = Int64.ofNat n := Int64.toInt_inj.mp (by rw [Int32.toInt_toInt64, nI_toInt (by omega), Int64.toInt_ofNat_of_lt (by omega)])
theorem wdM {b : Nat → Nat} {L s e : Nat} {post : PoS → Prop} (hse : s ≤ e) (he : e ≤ L) : ∀ c p u, p + c = e → s ≤ p → TpB b L u → u.1 48 7 = nI p → (p - s ≤ 7 → u.2.1 48 11 = Int64.ofNat (cvF (fun i => b (s + i)) (p - s))) → (7 < p - s → u.2.1 48 11 = 1152921504606846976) → (∀ i, s ≤ i → i < e → isL (b i) = true) → (e < L → isL (b e) = false) → (∀ z, FrK u z → z.1 = (pI u 48 7 (nI e)).1 → (e - s ≤ 7 → z.2.1 48 11 = Int64.ofNat (cvF (fun i => b (s + i)) (e - s))) → (7 < e - s → z.2.1 48 11 = 1152921504606846976) → post z) → wl_X12_nextToken_168 post (c + 1) u := by
  intro c
  induction c with
  | zero =>
    intro p u hp hs ht h7 hw hw2 hd hn H
    rw [wl_X12_nextToken_168, gI_def, h7]
    obtain rfl : p = e := by omega
    have same : u.1 = (pI u 48 7 (nI p)).1 := by
      funext j i
      show u.1 j i = if j = 48 ∧ i = 7 then nI p else u.1 j i
      split
      · next h => rw [h.1, h.2, h7]
      · rfl
    refine bytM ht he (fun q => letM (ht.2.2 p q).2 (fun d => by rw [hn q] at d; exact absurd d (by decide)) (fun _ => ⟨fun _ => H u FrK.r same hw hw2, fun q => absurd rfl q⟩)) (fun q => letM1 ⟨fun _ => H u FrK.r same hw hw2, fun q => absurd rfl q⟩)
  | succ c ih =>
    intro p u hp hs ht h7 hw hw2 hd hn H
    have hL := ht.2.1
    rw [wl_X12_nextToken_168, gI_def, h7]
    have hD := hd p hs (by omega)
    have hlt := fun i (q1 : s ≤ i) (q2 : i < e) => (ht.2.2 i (by omega)).2
    refine bytM ht (by omega) (fun q => letM (ht.2.2 p q).2 (fun _ => ⟨fun q => absurd q (by decide), fun _ => ?_⟩) (fun d => by rw [hD] at d; exact absurd d (by decide))) (fun q => by omega)
    have step : ∀ v : Int64, (p + 1 - s ≤ 7 → v = Int64.ofNat (cvF (fun i => b (s + i)) (p + 1 - s))) → (7 < p + 1 - s → v = 1152921504606846976) → wj_X12_nextToken_218 (wl_X12_nextToken_168 post (c + 1)) post v u := by
      intro v hv hv2 z37 e37 z38 e38
      subst e37
      rw [gI_def, pL_1, h7, nI_1] at e38
      subst e38
      have f1 : FrK u (pI (pL u 48 11 v) 48 7 (nI (p + 1))) := FrK.l.t (FrK.p (i := 7) (by decide))
      refine ih (p + 1) _ (by omega) (by omega) (ht.fr f1) (by rw [pI_s, up_eq]) (fun q => by rw [pI_2, pL_s, upL_eq]; exact hv q) (fun q => by rw [pI_2, pL_s, upL_eq]; exact hv2 q) hd hn (fun z hz z1 zw zw2 => H z (f1.t hz) ?_ zw zw2)
      rw [z1]
      funext j i
      show (if j = 48 ∧ i = 7 then nI e else if j = 48 ∧ i = 7 then nI (p + 1) else u.1 j i) = if j = 48 ∧ i = 7 then nI e else u.1 j i
      split
      · rfl
      · rfl
    have bd : ∀ i, i < p - s → (fun i => b (s + i)) i ≤ 255 := fun i hi => (ht.2.2 (s + i) (by omega)).2
    by_cases h6 : p - s ≤ 6
    · have cb := cv_b (g := fun i => b (s + i)) (p - s) bd
      have c48 : 256 ^ (p - s) ≤ 256 ^ 6 := Nat.pow_le_pow_right (by decide) h6
      have e48 : (256 : Nat) ^ 6 = 2 ^ 48 := by decide
      have gw : gL u 48 11 = Int64.ofNat (cvF (fun i => b (s + i)) (p - s)) := hw (by omega)
      rw [gw, shr48 _ (by omega), Nat.div_eq_of_lt (by omega)]
      refine ⟨fun _ => ?_, fun q => absurd (by decide) q⟩
      rw [gI_def, h7]
      refine bytM ht (by omega) (fun q2 => step _ (fun _ => ?_) (fun q => by omega)) (fun q2 => by omega)
      have hb := (ht.2.2 p q2).2
      rw [w64 hb, shl8 _ _ (by omega) (by omega), show p + 1 - s = (p - s) + 1 by omega]
      show _ = Int64.ofNat (cvF _ (p - s) * 256 + b (s + (p - s)))
      rw [show s + (p - s) = p by omega]
    · have ne : ¬ lg_cmp (gL u 48 11 >>> (Int32.toInt64 48 &&& 63)) 0 = 0 := by
        by_cases h8 : p - s = 7
        · have cb := cv_b (g := fun i => b (s + i)) (p - s) bd
          have lo : 256 ^ 6 ≤ cvF (fun i => b (s + i)) 7 := cv_lo (g := fun i => b (s + i)) (show 1 ≤ b (s + 0) by
            have hl := hd s (Nat.le_refl _) (by omega)
            unfold isL at hl
            have := of_decide_eq_true hl
            rw [Nat.add_zero]; omega) 6
          rw [h8] at cb
          have gw : gL u 48 11 = Int64.ofNat (cvF (fun i => b (s + i)) 7) := by
            have := hw (by omega)
            rw [h8] at this; exact this
          have c7 : (256 : Nat) ^ 7 = 2 ^ 56 := by decide
          have c6 : (256 : Nat) ^ 6 = 2 ^ 48 := by decide
          rw [gw, shr48 _ (by omega), lgz, Int64.toInt_ofNat_of_lt (by omega)]
          omega
        · have gw : gL u 48 11 = 1152921504606846976 := hw2 (by omega)
          rw [gw]; decide
      refine ⟨fun q => absurd q ne, fun _ => step _ (fun q => by omega) (fun _ => rfl)⟩
theorem skipM {b : Nat → Nat} {L : Nat} {k39 post : PoS → Prop} : ∀ f p u, p ≤ L → L - p < f → TpB b L u → u.1 48 7 = nI p → (∀ z p' f', FrK u z → z.1 48 7 = nI p' → p' ≤ L → L - p' < f' → (p' < L → ¬ (b p' = 32 ∨ b p' = 10)) → toks b L f p = toks b L f' p' → k39 z) → wl_X12_nextToken_0 k39 post f u := by
  intro f
  induction f with
  | zero => intro p u _ h; omega
  | succ f ih =>
    intro p u hp hf ht h7 H
    have hL := ht.2.1
    rw [wl_X12_nextToken_0, gI_def, h7]
    have adv : p < L → (b p = 32 ∨ b p = 10) → wj_X12_nextToken_26 (wl_X12_nextToken_0 k39 post f) post u := fun q hb z3 e3 => by
      rw [gI_def, h7, nI_1] at e3
      subst e3
      have f1 : FrK u (pI u 48 7 (nI (p + 1))) := FrK.p (by decide)
      refine ih (p + 1) _ (by omega) (by omega) (ht.fr f1) (by rw [pI_s, up_eq]) (fun z p' f' hz z7 a c d et => H z p' f' (f1.t hz) z7 a c d ?_)
      rw [toks, if_neg (by omega), if_pos hb]; exact et
    have no : (p < L → ¬ (b p = 32 ∨ b p = 10)) → k39 u := fun h => H u p (f + 1) FrK.r h7 hp hf h rfl
    refine bytM ht hp (fun q => ?_) (fun q => ?_)
    · have hb := (ht.2.2 p q).2
      refine ⟨fun c => adv q (Or.inl (by simp (disch := omega) only [q_lit, q_eq] at c; exact c)), fun c => ?_⟩
      rw [gI_def, h7]
      refine bytM ht hp (fun q => ⟨fun c2 => no (fun _ h => ?_), fun c2 => adv q (Or.inr (by simp (disch := omega) only [q_lit, q_eq] at c2; exact c2))⟩) (fun q => by omega)
      simp (disch := omega) only [q_lit, q_eq] at c c2
      omega
    · refine ⟨fun c => absurd c (by decide), fun c => ?_⟩
      rw [gI_def, h7]
      exact bytM ht hp (fun q => by omega) (fun q => ⟨fun _ => no (fun h => by omega), fun c => absurd c (by decide)⟩)
def sgnB (c : Nat) : Bool := decide (c = 35 ∨ c = 40 ∨ c = 41 ∨ c = 42 ∨ c = 43 ∨ c = 45 ∨ c = 47 ∨ c = 58 ∨ c = 59 ∨ c = 60 ∨ c = 61 ∨ c = 62)
theorem signM {c : Nat} {u : PoS} {post : Int32 → PoS → Prop} (hc : c ≤ 255) (h1 : sgnB c = true → post 1 u) (h0 : sgnB c = false → post 0 u) : wp_X12_isSign (nI c) u post := by
  unfold wp_X12_isSign
  simp (disch := omega) only [q_lit, q_eq]
  exact ⟨fun q => h1 (by rw [q]; rfl), fun q => h0 (by rw [q]; rfl), fun q => h0 (by rw [q]; rfl), fun q => h0 (by rw [q]; rfl), fun q => h0 (by rw [q]; rfl), fun q => h1 (by rw [q]; rfl), fun q => h1 (by rw [q]; rfl), fun q => h1 (by rw [q]; rfl), fun q => h1 (by rw [q]; rfl), fun q => h0 (by rw [q]; rfl), fun q => h1 (by rw [q]; rfl), fun q => h0 (by rw [q]; rfl), fun q => h1 (by rw [q]; rfl), fun q => h0 (by rw [q]; rfl), fun q => h0 (by rw [q]; rfl), fun q => h0 (by rw [q]; rfl), fun q => h0 (by rw [q]; rfl), fun q => h0 (by rw [q]; rfl), fun q => h0 (by rw [q]; rfl), fun q => h0 (by rw [q]; rfl), fun q => h0 (by rw [q]; rfl), fun q => h0 (by rw [q]; rfl), fun q => h0 (by rw [q]; rfl), fun q => h1 (by rw [q]; rfl), fun q => h1 (by rw [q]; rfl), fun q => h1 (by rw [q]; rfl), fun q => h1 (by rw [q]; rfl), fun q => h1 (by rw [q]; rfl), fun n35 _ _ _ _ n40 n41 n42 n43 _ n45 _ n47 _ _ _ _ _ _ _ _ _ _ n58 n59 n60 n61 n62 => h0 (decide_eq_false (by omega))⟩
theorem sgnT : ∀ c, c < 256 → (sgnB c = true → (sgS c ≤ 38 ∧ sgO (sgS c) = c) ∨ (sgS c = 42 ∧ c = 58)) ∧ (sgnB c = false → sgS c = 42) := by decide +kernel
theorem wd60 : ∀ j, j < 28 → ¬ (1152921504606846976 : Int64) = WD j := by decide +kernel
theorem nxtM {b : Nat → Nat} {L f p : Nat} {u : PoS} {post : PoS → Prop} (hp : p ≤ L) (hf : L - p < f) (ht : TpB b L u) (h7 : u.1 48 7 = nI p) (H : ∀ z x, (toks b L f p)[0]? = some x → FrK u z → z.1 48 8 = nI x.2.2.1 → z.1 48 7 = nI x.2.2.2 → TokM x.1 x.2.1 (z.1 48 9) (z.1 48 10) (z.2.1 48 11) → post z) : wp_X12_nextToken u post := by
  refine ⟨f, skipM f p u hp hf ht h7 (fun v q g hv v7 hq hg hbl et => ?_)⟩
  rw [et] at H
  obtain ⟨g, rfl⟩ : ∃ g', g = g' + 1 := ⟨g - 1, by omega⟩
  intro z9 e9
  rw [gI_def, v7] at e9
  have f9 : FrK u z9 := by rw [e9]; exact hv.t (FrK.p (by decide))
  have t9 : TpB b L z9 := ht.fr f9
  have a7 : z9.1 48 7 = nI q := by rw [e9, pI_s, up_ne (by decide)]; exact v7
  have a8 : z9.1 48 8 = nI q := by rw [e9, pI_s, up_eq]
  have hL := ht.2.1
  rw [gI_def, a7]
  refine bytM t9 hq (fun hlt => ?_) (fun hl => ⟨fun c => absurd c (by decide), fun _ z55 e55 => ?_⟩)
  · have hc := (t9.2.2 q hlt).2
    have te := tkE_b (b := b) hlt
    rw [toks, if_neg (by omega), if_neg (hbl hlt)] at H
    have H' : ∀ z : PoS, FrK z9 z → z.1 48 8 = nI q → z.1 48 7 = nI (tkE b L q) → TokM (tkK b L q) (tkN b L q) (z.1 48 9) (z.1 48 10) (z.2.1 48 11) → post z := fun z hz z8 z7 zt => H z (tkK b L q, tkN b L q, q, tkE b L q) rfl (f9.t hz) z8 z7 zt
    refine ⟨fun _ => figM hc (fun d => ⟨fun c => absurd c (by decide), fun _ z42 e42 z43 e43 => ?_⟩) (fun d => ⟨fun _ => letM hc (fun l => ⟨fun c => absurd c (by decide), fun _ z29 e29 z30 e30 => ?_⟩) (fun l => ⟨fun _ => ?_, fun c => absurd rfl c⟩), fun c => absurd rfl c⟩), fun c => absurd (by simp (disch := omega) only [q_lit, nI_add, pk_mul, q_sub, q_rem, q_div, q_vp, q_cl, q_lt, q_le, q_eq, q_neg1, gI_def]; exact Nat.zero_le _) c⟩
    · have ek : tkE b L q = rnE isD b L L (q + 1) := by rw [tkE, if_pos d]
      have en : tkN b L q = nmC b (tkE b L q - q) q 0 := by rw [tkN, if_pos d]
      have eK : tkK b L q = 41 := by rw [tkK, if_pos d]
      have fig : ∀ i, q ≤ i → i < tkE b L q → isD (b i) = true := fun i q1 q2 => by
        by_cases w : i = q
        · rw [w]; exact d
        · exact rn_in (P := isD) (b := b) (L := L) (f := L) (q := q + 1) (by omega) (by rw [← ek]; omega)
      have f43 : FrK z9 z43 := by rw [e43, e42]; exact (FrK.p (i := 9) (by decide)).t (FrK.p (i := 10) (by decide))
      have rel := nm_rel b (tkE b L q - q) q 0 0 (fun i q1 q2 => by
        have := fig i q1 (by omega)
        unfold isD at this
        exact of_decide_eq_true this) (by omega) (by omega) (Or.inl rfl)
      refine ⟨_, numM (e := tkE b L q) te.2 (tkE b L q - q) q 0 z43 (by omega) (t9.fr f43) (by rw [e43, e42, pI_s, up_ne (by decide), pI_s, up_ne (by decide)]; exact a7) (by rw [e43, pI_s, up_eq]; rfl) (by omega) fig (fun w => ?_) (fun z hz z7 z10 z8 z9' z2 => H' z (f43.t hz) ?_ z7 ?_)⟩
      · rw [ek] at w ⊢
        exact rn_end (by omega) w
      · rw [z8, e43, e42, pI_s, up_ne (by decide), pI_s, up_ne (by decide)]; exact a8
      · rw [eK, en]
        refine Or.inr (Or.inr (Or.inl ⟨rfl, ?_, _, z10, by omega, rel.2⟩))
        rw [z9', e43, e42, pI_s, up_ne (by decide), pI_s, up_eq]; rfl
    · have d' : ¬ isD (b q) = true := by rw [d]; decide
      have ek : tkE b L q = rnE isL b L L (q + 1) := by rw [tkE, if_neg d', if_pos l]
      have eK : tkK b L q = wkW b q (tkE b L q) 136 0 true := by rw [tkK, if_neg d', if_pos l]
      have lets : ∀ i, q ≤ i → i < tkE b L q → isL (b i) = true := fun i q1 q2 => by
        by_cases w : i = q
        · rw [w]; exact l
        · exact rn_in (P := isL) (b := b) (L := L) (f := L) (q := q + 1) (by omega) (by rw [← ek]; omega)
      have mean := wd_mean (b := b) (p := q) (e := tkE b L q) (by omega) (fun i q1 q2 => by
        have := lets i q1 q2
        unfold isL at this
        have := of_decide_eq_true this
        omega)
      have f30 : FrK z9 z30 := by rw [e30, e29]; exact (FrK.p (i := 9) (by decide)).t FrK.l
      have w0 : z30.2.1 48 11 = 0 := by rw [e30, pL_s, upL_eq]
      have one : z30.1 = (pI z9 48 9 2).1 := by rw [e30, e29]; rfl
      refine ⟨_, wdM (s := q) (e := tkE b L q) (by omega) te.2 (tkE b L q - q) q z30 (by omega) (Nat.le_refl _) (t9.fr f30) (by rw [one, pI_s, up_ne (by decide)]; exact a7) (fun _ => by rw [w0, Nat.sub_self]; rfl) (fun w => by omega) lets (fun w => ?_) (fun z hz z1 zw zw2 => H' z (f30.t hz) ?_ ?_ ?_)⟩
      · rw [ek] at w ⊢
        exact rn_end (by omega) w
      · rw [z1, pI_s, up_ne (by decide), one, pI_s, up_ne (by decide)]; exact a8
      · rw [z1, pI_s, up_eq]
      · have z9' : z.1 48 9 = nI 2 := by rw [z1, pI_s, up_ne (by decide), one, pI_s, up_eq]; rfl
        rw [eK]
        rcases mean with ⟨m1, m2, m3⟩ | ⟨m1, m2⟩
        · exact Or.inl ⟨m1, z9', by rw [zw (by omega)]; exact m3⟩
        · refine Or.inr (Or.inr (Or.inr (Or.inl ⟨m1, Or.inl ⟨z9', fun j hj => ?_⟩⟩)))
          by_cases w : tkE b L q - q ≤ 7
          · rw [zw w]; exact m2 w j hj
          · rw [zw2 (by omega)]; exact wd60 j (by omega)
    · have d' : ¬ isD (b q) = true := by rw [d]; decide
      have l' : ¬ isL (b q) = true := by rw [l]; decide
      have en : tkN b L q = 0 := by rw [tkN, if_neg d']
      have eK : tkK b L q = sgK (b q) (nbE b L q) := by rw [tkK, if_neg d', if_neg l']
      have eE : tkE b L q = if 39 ≤ sgK (b q) (nbE b L q) ∧ sgK (b q) (nbE b L q) ≤ 40 then q + 2 else q + 1 := by rw [tkE, if_neg d', if_neg l']
      have ss := sgS_b (b q)
      have go : ∀ s0 : Nat, (sgS (b q) ≤ 38 ∧ s0 = sgO (sgS (b q)) ∨ (sgS (b q) = 42 ∧ (s0 = 3 ∨ s0 = 58))) → wj_X12_nextToken_247 post (nI (b q)) (nI s0) z9 := by
        intro s0 hs z18 e18 z19 e19
        subst e18
        rw [gI_def, pI_s, up_ne (by decide), a7, nI_1] at e19
        have f19 : FrK z9 z19 := by rw [e19]; exact (FrK.p (i := 9) (by decide)).t (FrK.p (i := 7) (by decide))
        have b7 : z19.1 48 7 = nI (q + 1) := by rw [e19, pI_s, up_eq]
        have b8 : z19.1 48 8 = nI q := by rw [e19, pI_s, up_ne (by decide), pI_s, up_ne (by decide)]; exact a8
        have b9 : z19.1 48 9 = nI s0 := by rw [e19, pI_s, up_ne (by decide), pI_s, up_eq]
        have one : sgK (b q) (nbE b L q) = sgS (b q) → post z19 := fun hk => by
          rw [hk, if_neg (by omega)] at eE
          refine H' z19 f19 b8 (by rw [eE]; exact b7) ?_
          rw [eK, en, hk]
          rcases hs with ⟨h1, h2⟩ | ⟨h1, h2⟩
          · exact Or.inr (Or.inl ⟨ss.1, by omega, by rw [b9, h2]⟩)
          · refine Or.inr (Or.inr (Or.inr (Or.inl ⟨h1, Or.inr ?_⟩)))
            rcases h2 with h2 | h2
            · exact Or.inl (by rw [b9, h2])
            · exact Or.inr (by rw [b9, h2])
        have two : ∀ κ, sgK (b q) (nbE b L q) = κ → (κ = 39 ∨ κ = 40) → wj_X12_nextToken_297 post (nI (sgO κ)) z19 := fun κ hk h2 z22 e22 z23 e23 => by
          subst e22
          rw [gI_def, pI_s, up_ne (by decide), b7, nI_1] at e23
          have f23 : FrK z19 z23 := by rw [e23]; exact (FrK.p (i := 9) (by decide)).t (FrK.p (i := 7) (by decide))
          rw [hk, if_pos (by omega)] at eE
          refine H' z23 (f19.t f23) (by rw [e23, pI_s, up_ne (by decide), pI_s, up_ne (by decide)]; exact b8) (by rw [eE, e23, pI_s, up_eq]) ?_
          rw [eK, en, hk]
          exact Or.inr (Or.inl ⟨by omega, by omega, by rw [e23, pI_s, up_ne (by decide), pI_s, up_eq]⟩)
        have w272 : (b q = 60 ∨ b q = 62) → wj_X12_nextToken_272 post (nI (b q)) z19 := fun h62 => by
          unfold wj_X12_nextToken_272
          rw [gI_def, b7]
          refine bytM (t9.fr f19) (by omega) (fun w => ?_) (fun w => ⟨fun _ => one ?_, fun c => absurd c (by decide)⟩)
          · have hb1 := (t9.2.2 (q + 1) w).2
            have nbq : nbE b L q = b (q + 1) := by rw [nbE, if_pos w]
            refine ⟨fun c => one ?_, fun c => ?_⟩
            · have : ¬ b (q + 1) = 61 := fun h => c (by rw [h]; rfl)
              rw [nbq, sgK, if_neg (fun h => this h.1), if_neg (fun h => this h.1)]
            · have h61 : b (q + 1) = 61 := by simp (disch := omega) only [q_lit, q_eq] at c; exact c
              refine ⟨fun c2 => two 40 ?_ (Or.inr rfl), fun c2 => two 39 ?_ (Or.inl rfl)⟩
              · have : ¬ b q = 60 := fun h => c2 (by rw [h]; rfl)
                rw [nbq, sgK, if_neg (fun h => this h.2), if_pos ⟨h61, by omega⟩]
              · have : b q = 60 := by simp (disch := omega) only [q_lit, q_eq] at c2; exact c2
                rw [nbq, sgK, if_pos ⟨h61, this⟩]
          · have nbq : nbE b L q = 0 := by rw [nbE, if_neg (by omega)]
            rw [nbq, sgK, if_neg (fun h => absurd h.1 (by decide)), if_neg (fun h => absurd h.1 (by decide))]
        refine ⟨fun c => w272 (Or.inl (by simp (disch := omega) only [q_lit, q_eq] at c; exact c)), fun c => ⟨fun c2 => one ?_, fun c2 => w272 (Or.inr (by simp (disch := omega) only [q_lit, q_eq] at c2; exact c2))⟩⟩
        simp (disch := omega) only [q_lit, q_eq] at c c2
        rw [sgK, if_neg (fun h => c h.2), if_neg (fun h => c2 h.2)]
      have T := sgnT (b q) (by omega)
      refine signM hc (fun s1 => ⟨fun c => absurd c (by decide), fun _ => go (b q) ?_⟩) (fun s1 => ⟨fun _ => go 3 (Or.inr ⟨T.2 s1, Or.inl rfl⟩), fun c => absurd rfl c⟩)
      rcases T.1 s1 with ⟨h1, h2⟩ | ⟨h1, h2⟩
      · exact Or.inl ⟨h1, h2.symm⟩
      · exact Or.inr ⟨h1, Or.inr h2⟩
  · rw [toks, if_pos (by omega)] at H
    have f55 : FrK z9 z55 := by rw [e55]; exact FrK.p (by decide)
    refine H z55 _ rfl (f9.t f55) ?_ ?_ (Or.inr (Or.inr (Or.inr (Or.inr ⟨rfl, ?_⟩))))
    · rw [e55, pI_s, up_ne (by decide), a8, hl]
    · rw [e55, pI_s, up_ne (by decide), a7, hl]
    · rw [e55, pI_s, up_eq]; rfl
