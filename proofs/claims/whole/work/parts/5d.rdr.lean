/-! the class's reader of a SUM: its state, and what its small methods do -/
def Rdr (K N ST : Nat → Nat) (M t : Nat) (pr : Bool) (u : PoS) : Prop := t < 4 ∧ M ≤ 301 ∧ 1 ≤ M ∧ K (M - 1) = 43 ∧ (∀ k, k < M → K k ≤ 43 ∧ N k ≤ 10000 ∧ ST k ≤ 300 ∧ u.1 28 k = nI (K k) ∧ u.1 29 k = nI (ST k) ∧ u.1 30 k = nI (N k)) ∧ gR u 27 8 = 7 + t ∧ u.1 27 5 = nI M ∧ (u.1 27 10 = 0 ↔ pr = false)
def RX (K N ST : Nat → Nat) (M t : Nat) (pr : Bool) (u : PoS) (k d s : Nat) : Prop := Rdr K N ST M t pr u ∧ k < M ∧ s ≤ 300 ∧ (u.1 27 0 = nI 0 ∧ u.1 27 1 = -1) ∧ u.1 27 6 = nI k ∧ u.1 27 7 = nI (K k) ∧ u.1 27 9 = nI d ∧ u.1 (7 + t) 5 = nI s
def RB (K N ST : Nat → Nat) (M t : Nat) (pr : Bool) (u : PoS) (f kf d : Nat) : Prop := Rdr K N ST M t pr u ∧ (f ≠ 0 ∧ f ≤ 6 ∧ kf < M) ∧ u.1 27 0 = nI f ∧ u.1 27 1 = nI (ST kf) ∧ u.1 27 7 = nI 44 ∧ u.1 27 9 = nI d ∧ (∃ k, k < M ∧ u.1 27 6 = nI k) ∧ ∃ s, s ≤ 300 ∧ u.1 (7 + t) 5 = nI s
def FrX (t : Nat) (u z : PoS) (s : Nat) : Prop := (∀ j, j ≠ 27 → j ≠ 7 + t → j ≠ 14 + 4 * t → z.1 j = u.1 j) ∧ (∀ i, i ≠ 5 → z.1 (7 + t) i = u.1 (7 + t) i) ∧ (∀ i, i < s → z.1 (14 + 4 * t) i = u.1 (14 + 4 * t) i) ∧ z.2 = u.2
def cdA (t : Nat) (u : PoS) (p : Nat) : Nat × Nat := (nN (u.1 (14 + 4 * t) p) % 64, nN (u.1 (14 + 4 * t) p) / 64)
theorem FrX_r (t : Nat) (u : PoS) (s : Nat) : FrX t u u s := ⟨fun _ _ _ _ => rfl, fun _ _ => rfl, fun _ _ => rfl, rfl⟩
theorem FrX_t {t : Nat} {u v z : PoS} {s s' : Nat} (h1 : FrX t u v s) (h2 : FrX t v z s') (h : s ≤ s') : FrX t u z s := by
  obtain ⟨a1, a2, a3, a4⟩ := h1
  obtain ⟨b1, b2, b3, b4⟩ := h2
  exact ⟨fun j q1 q2 q3 => by rw [b1 j q1 q2 q3, a1 j q1 q2 q3], fun i q => by rw [b2 i q, a2 i q], fun i q => by rw [b3 i (by omega), a3 i q], by rw [b4, a4]⟩
theorem FrX_w {t : Nat} {u z : PoS} {s s' : Nat} (h : FrX t u z s') (hs : s ≤ s') : FrX t u z s := ⟨h.1, h.2.1, fun i q => h.2.2.1 i (by omega), h.2.2.2⟩
theorem cdA_fr {t : Nat} {u z : PoS} {s : Nat} (h : FrX t u z s) {p : Nat} (hp : p < s) : cdA t z p = cdA t u p := by
  unfold cdA; rw [h.2.2.1 p hp]
theorem cdA_raw {t : Nat} {u z : PoS} {p : Nat} (h : z.1 (14 + 4 * t) p = u.1 (14 + 4 * t) p) : cdA t z p = cdA t u p := by
  unfold cdA; rw [h]
section
variable {K N ST : Nat → Nat} {M t : Nat} {pr : Bool} {u : PoS} {k d s f kf : Nat} {post : PoS → Prop}
theorem rdr_i {z : PoS} (h : Rdr K N ST M t pr u) (h28 : z.1 28 = u.1 28) (h29 : z.1 29 = u.1 29) (h30 : z.1 30 = u.1 30) (h2 : z.2 = u.2) (h5 : z.1 27 5 = u.1 27 5) (h10 : z.1 27 10 = u.1 27 10) : Rdr K N ST M t pr z := by
  unfold Rdr gR at *
  rw [h28, h29, h30, h2, h5, h10]
  exact h
/-- reader's own places -/
theorem rx27 {a : Nat} {v : Int32} (h : Rdr K N ST M t pr u) (h1 : a ≠ 5) (h2 : a ≠ 10) : Rdr K N ST M t pr (pI u 27 a v) :=
  rdr_i h (pI_o (by decide)) (pI_o (by decide)) (pI_o (by decide)) rfl (by rw [pI_s, up_ne (by omega)]) (by rw [pI_s, up_ne (by omega)])
theorem rxL {j a : Nat} {v : Int32} (h : Rdr K N ST M t pr u) (hj : j < 27) : Rdr K N ST M t pr (pI u j a v) :=
  rdr_i h (pI_o (by omega)) (pI_o (by omega)) (pI_o (by omega)) rfl (by rw [pI_o (by omega)]) (by rw [pI_o (by omega)])
theorem fr27 {a : Nat} {v : Int32} (ht : t < 4) : FrX t u (pI u 27 a v) s :=
  ⟨fun j q _ _ => pI_o q, fun i _ => by rw [pI_o (by omega)], fun i _ => by rw [pI_o (by omega)], rfl⟩
theorem k_lt (h : Rdr K N ST M t pr u) (hk : k < M) (h43 : K k ≠ 43) : k + 1 < M := by
  obtain ⟨_, _, hM, hE, _⟩ := h
  rcases Nat.lt_or_ge (k + 1) M with q | q
  · exact q
  · exact absurd (show K k = 43 by rw [← hE, show M - 1 = k by omega]) h43
theorem adv_ok (h : RX K N ST M t pr u k d s) (hk : K k ≠ 43) (H : ∀ z, RX K N ST M t pr z (k + 1) d s → FrX t u z s → post z) : wp_X6_advance u post := by
  obtain ⟨hr, hkM, hs, h0, h6, h7, h9, h5⟩ := h
  have hk1 := k_lt hr hkM hk
  obtain ⟨ht, hM, hM1, hE, hT, hR, hm, hp⟩ := id hr
  have t1 := (hT k hkM).1
  have t2 := (hT (k + 1) hk1).2.2.2.1
  unfold wp_X6_advance
  simp only [gI_def]
  rw [h7, h6, hm]
  refine ⟨fun q => absurd q (by simp (disch := omega) only [q_lit, nI_add, pk_mul, q_sub, q_rem, q_div, q_vp, q_cl, q_lt, q_le, q_eq, q_neg1, gI_def]; omega), fun _ => ⟨fun q => absurd q (by simp (disch := omega) only [q_lit, nI_add, pk_mul, q_sub, q_rem, q_div, q_vp, q_cl, q_lt, q_le, q_eq, q_neg1, gI_def]; omega), fun _ z1 e1 => ?_⟩⟩
  subst e1
  rw [nI_1, pI_s, up_eq, pI_o (show 28 ≠ 27 by decide), q_cl (by omega), t2, q_vp (by omega) (by omega)]
  refine ⟨by omega, fun z2 e2 => ?_⟩
  subst e2
  refine H _ ⟨rx27 (rx27 hr (by decide) (by decide)) (by decide) (by decide), hk1, hs, ?_, ?_, ?_, ?_, ?_⟩ (FrX_t (fr27 ht) (fr27 ht) (Nat.le_refl s))
  · exact ⟨by rw [pI_s, up_ne (by decide), pI_s, up_ne (by decide)]; exact h0.1, by rw [pI_s, up_ne (by decide), pI_s, up_ne (by decide)]; exact h0.2⟩
  · rw [pI_s, up_ne (by decide), pI_s, up_eq]
  · rw [pI_s, up_eq]
  · rw [pI_s, up_ne (by decide), pI_s, up_ne (by decide)]; exact h9
  · rw [pI_o (by omega), pI_o (by omega)]; exact h5
theorem adv_bad (h : RB K N ST M t pr u f kf d) (H : post u) : wp_X6_advance u post := by
  obtain ⟨hr, hf, h0, h1, h7, _⟩ := h
  unfold wp_X6_advance
  rw [gI_def, h7]
  exact ⟨fun _ => H, fun q => absurd rfl q⟩
theorem blm_ok (h : RX K N ST M t pr u k d s) (hf : f ≠ 0) (hf6 : f ≤ 6) (H : ∀ z, RB K N ST M t pr z f k d → FrX t u z s → post z) : wp_X6_blame (nI f) u post := by
  obtain ⟨hr, hkM, hs, h0, h6, h7, h9, h5⟩ := h
  obtain ⟨ht, hM, hM1, hE, hT, hR, hm, hp⟩ := id hr
  unfold wp_X6_blame
  simp only [gI_def]
  rw [h0.1]
  refine ⟨fun q => absurd rfl q, fun _ z1 e1 => ?_⟩
  subst e1
  rw [pI_s, up_ne (show 6 ≠ 0 by decide), h6, q_vp (by omega) (by omega), pI_o (show 29 ≠ 27 by decide), q_cl (by omega), (hT k hkM).2.2.2.2.1]
  refine ⟨by omega, fun z2 e2 z3 e3 => ?_⟩
  subst e2; subst e3
  refine H _ ⟨rx27 (rx27 (rx27 hr (by decide) (by decide)) (by decide) (by decide)) (by decide) (by decide), ⟨hf, hf6, hkM⟩, ?_, ?_, ?_, ?_, ⟨k, hkM, ?_⟩, s, hs, ?_⟩ (FrX_t (FrX_t (fr27 ht) (fr27 ht) (Nat.le_refl s)) (fr27 ht) (Nat.le_refl s))
  · rw [pI_s, up_ne (by decide), pI_s, up_ne (by decide), pI_s, up_eq]
  · rw [pI_s, up_ne (by decide), pI_s, up_eq]
  · rw [pI_s, up_eq]; rfl
  · rw [pI_s, up_ne (by decide), pI_s, up_ne (by decide), pI_s, up_ne (by decide)]; exact h9
  · rw [pI_s, up_ne (by decide), pI_s, up_ne (by decide), pI_s, up_ne (by decide)]; exact h6
  · rw [pI_o (by omega), pI_o (by omega), pI_o (by omega)]; exact h5
theorem blm_bad {g : Int32} (h : RB K N ST M t pr u f kf d) (H : post u) : wp_X6_blame g u post := by
  obtain ⟨hr, hf, h0, _⟩ := h
  unfold wp_X6_blame
  rw [gI_def, h0]
  refine ⟨fun _ => H, fun q => absurd q ?_⟩
  rw [show (0 : Int32) = nI 0 from rfl, q_eq (by omega) (by omega)]; exact hf.1
theorem frC {a b : Nat} {v w : Int32} (ht : t < 4) (ha : s ≤ a) (hb : b = 5) : FrX t u (pI (pI u (14 + 4 * t) a v) (7 + t) b w) s := by
  subst hb
  refine ⟨fun j q1 q2 q3 => by rw [pI_o q2, pI_o q3], fun i q => by rw [pI_s, up_ne q, pI_o (by omega)], fun i q => by rw [pI_o (by omega), pI_s, up_ne (by omega)], rfl⟩
theorem cod_ok {w a : Nat} (h : RX K N ST M t pr u k d s) (hs : s < 300) (hw : w < 64) (ha : a ≤ 9999) (H : ∀ z, RX K N ST M t pr z k d (s + 1) → FrX t u z s → cdA t z s = (w, a) → z.1 (14 + 4 * t) s = nI (a * 64 + w) → post z) : wp_X3_addCode t (nI w) (nI a) u post := by
  obtain ⟨hr, hkM, _, h0, h6, h7, h9, h5⟩ := h
  obtain ⟨ht, hM, hM1, hE, hT, hR, hm, hp⟩ := id hr
  unfold wp_X3_addCode
  simp only [gI_def]
  rw [h5]
  refine ⟨fun q => absurd q (by simp (disch := omega) only [q_lit, nI_add, pk_mul, q_sub, q_rem, q_div, q_vp, q_cl, q_lt, q_le, q_eq, q_neg1, gI_def]; omega), fun _ => ⟨by simp (disch := omega) only [q_lit, nI_add, pk_mul, q_sub, q_rem, q_div, q_vp, q_cl, q_lt, q_le, q_eq, q_neg1, gI_def]; omega, fun z1 e1 z2 e2 => ?_⟩⟩
  subst e1; subst e2
  rw [pI_o (show 7 + t ≠ 14 + 4 * t by omega), h5, nI_1, q_cl (by omega), show nI a * 64 + nI w = nI (a * 64 + w) by simp (disch := omega) only [q_lit, nI_add, pk_mul, q_sub, q_rem, q_div, q_vp, q_cl, q_lt, q_le, q_eq, q_neg1, gI_def]]
  refine H _ ⟨rxL (rxL hr (by omega)) (by omega), hkM, by omega, ?_, ?_, ?_, ?_, ?_⟩ (frC ht (Nat.le_refl s) rfl) ?_ ?_
  · exact ⟨by rw [pI_o (by omega), pI_o (by omega)]; exact h0.1, by rw [pI_o (by omega), pI_o (by omega)]; exact h0.2⟩
  · rw [pI_o (by omega), pI_o (by omega)]; exact h6
  · rw [pI_o (by omega), pI_o (by omega)]; exact h7
  · rw [pI_o (by omega), pI_o (by omega)]; exact h9
  · rw [pI_s, up_eq]
  · unfold cdA
    rw [pI_o (by omega), pI_s, up_eq, nN_nI (by omega)]
    exact Prod.ext (by show (a * 64 + w) % 64 = w; omega) (by show (a * 64 + w) / 64 = a; omega)
  · rw [pI_o (by omega), pI_s, up_eq]
theorem cod_bad {w a : Int32} (h : RB K N ST M t pr u f kf d) (H : ∀ z, RB K N ST M t pr z f kf d → FrX t u z 0 → post z) : wp_X3_addCode t w a u post := by
  obtain ⟨hr, hf, h0, h1, h7, h9, ⟨k, hk, h6⟩, s, hs, h5⟩ := h
  obtain ⟨ht, hM, hM1, hE, hT, hR, hm, hp⟩ := id hr
  unfold wp_X3_addCode
  simp only [gI_def]
  rw [h5]
  refine ⟨fun q => H u ⟨hr, hf, h0, h1, h7, h9, ⟨k, hk, h6⟩, s, hs, h5⟩ (FrX_r t u 0), fun q => ?_⟩
  have hs3 : s < 300 := by
    rcases Nat.lt_or_ge s 300 with g | g
    · exact g
    · exact absurd (show (300 : Int32) ≤ nI s by simp (disch := omega) only [q_lit, nI_add, pk_mul, q_sub, q_rem, q_div, q_vp, q_cl, q_lt, q_le, q_eq, q_neg1, gI_def]; omega) q
  refine ⟨by simp (disch := omega) only [q_lit, nI_add, pk_mul, q_sub, q_rem, q_div, q_vp, q_cl, q_lt, q_le, q_eq, q_neg1, gI_def]; omega, fun z1 e1 z2 e2 => ?_⟩
  subst e1; subst e2
  rw [pI_o (show 7 + t ≠ 14 + 4 * t by omega), h5, nI_1]
  refine H _ ⟨rxL (rxL hr (by omega)) (by omega), hf, ?_, ?_, ?_, ?_, ⟨k, hk, ?_⟩, s + 1, by omega, ?_⟩ (frC ht (Nat.zero_le _) rfl)
  · rw [pI_o (by omega), pI_o (by omega)]; exact h0
  · rw [pI_o (by omega), pI_o (by omega)]; exact h1
  · rw [pI_o (by omega), pI_o (by omega)]; exact h7
  · rw [pI_o (by omega), pI_o (by omega)]; exact h9
  · rw [pI_o (by omega), pI_o (by omega)]; exact h6
  · rw [pI_s, up_eq]
theorem exp_ok {w : Nat} (h : RX K N ST M t pr u k d s) (hw : K k = w) (h43 : w ≠ 43) (H : ∀ z, RX K N ST M t pr z (k + 1) d s → FrX t u z s → post z) : wp_X6_expect (nI w) u post := by
  unfold wp_X6_expect
  rw [gI_def, h.2.2.2.2.2.1, hw]
  exact ⟨fun _ => adv_ok h (by omega) H, fun q => absurd rfl q⟩
theorem exp_no {w : Nat} (h : RX K N ST M t pr u k d s) (hw : K k ≠ w) (h43 : w < 50) (H : ∀ z, RB K N ST M t pr z 1 k d → FrX t u z s → post z) : wp_X6_expect (nI w) u post := by
  have hk := (h.1.2.2.2.2.1 k h.2.1).1
  unfold wp_X6_expect
  rw [gI_def, h.2.2.2.2.2.1, q_eq (by omega) (by omega)]
  exact ⟨fun q => absurd q hw, fun _ => blm_ok h (by decide) (by decide) (fun z h1 h2 => adv_bad h1 (H z h1 h2))⟩
theorem exp_bad {w : Nat} (h : RB K N ST M t pr u f kf d) (hw : w < 44) (H : post u) : wp_X6_expect (nI w) u post := by
  unfold wp_X6_expect
  rw [gI_def, h.2.2.2.2.1, q_eq (by omega) (by omega)]
  exact ⟨fun q => absurd q (by omega), fun _ => blm_bad h (adv_bad h H)⟩
theorem skp_ok {p w : Nat} (h : RX K N ST M t pr u k d s) (hp : p < s) (hn : u.1 (14 + 4 * t) p = nI w) (hw : w < 64) (H : ∀ z, RX K N ST M t pr z k d s → FrX t u z p → cdA t z p = (w, s) → (∀ i, p < i → z.1 (14 + 4 * t) i = u.1 (14 + 4 * t) i) → post z) : wp_X3_skipToHere t (nI p) u post := by
  obtain ⟨hr, hkM, hs, h0, h6, h7, h9, h5⟩ := h
  obtain ⟨ht, hM, hM1, hE, hT, hR, hm, hp2⟩ := id hr
  unfold wp_X3_skipToHere
  simp only [gI_def]
  rw [h5]
  refine ⟨fun q => absurd q (by simp (disch := omega) only [q_lit, nI_add, pk_mul, q_sub, q_rem, q_div, q_vp, q_cl, q_lt, q_le, q_eq, q_neg1, gI_def]; omega), fun _ => ⟨fun q => absurd q (by simp (disch := omega) only [q_lit, nI_add, pk_mul, q_sub, q_rem, q_div, q_vp, q_cl, q_lt, q_le, q_eq, q_neg1, gI_def]; omega), fun _ => ⟨by simp (disch := omega) only [q_lit, nI_add, pk_mul, q_sub, q_rem, q_div, q_vp, q_cl, q_lt, q_le, q_eq, q_neg1, gI_def]; omega, by simp (disch := omega) only [q_lit, nI_add, pk_mul, q_sub, q_rem, q_div, q_vp, q_cl, q_lt, q_le, q_eq, q_neg1, gI_def]; omega, fun z1 e1 => ?_⟩⟩⟩
  subst e1
  rw [q_cl (by omega), hn, show nI s * 64 + irem (nI w) 64 = nI (s * 64 + w) by simp (disch := omega) only [q_lit, nI_add, pk_mul, q_sub, q_rem, q_div, q_vp, q_cl, q_lt, q_le, q_eq, q_neg1, gI_def]; omega]
  refine H _ ⟨rxL hr (by omega), hkM, hs, ?_, ?_, ?_, ?_, ?_⟩ ⟨fun j q1 q2 q3 => by rw [pI_o q3], fun i q => by rw [pI_o (by omega)], fun i q => by rw [pI_s, up_ne (by omega)], rfl⟩ ?_ ?_
  · exact ⟨by rw [pI_o (by omega)]; exact h0.1, by rw [pI_o (by omega)]; exact h0.2⟩
  · rw [pI_o (by omega)]; exact h6
  · rw [pI_o (by omega)]; exact h7
  · rw [pI_o (by omega)]; exact h9
  · rw [pI_o (by omega)]; exact h5
  · unfold cdA
    rw [pI_s, up_eq, nN_nI (by omega)]
    exact Prod.ext (by show (s * 64 + w) % 64 = w; omega) (by show (s * 64 + w) / 64 = s; omega)
  · intro i hi
    rw [pI_s, up_ne (by omega)]
theorem skp_bad {p : Nat} (hp3 : p ≤ 300) (h : RB K N ST M t pr u f kf d) (H : ∀ z, RB K N ST M t pr z f kf d → FrX t u z 0 → post z) : wp_X3_skipToHere t (nI p) u post := by
  obtain ⟨hr, hf, h0, h1, h7, h9, ⟨k, hk, h6⟩, s, hs, h5⟩ := h
  obtain ⟨ht, hM, hM1, hE, hT, hR, hm, hp⟩ := id hr
  have hu : RB K N ST M t pr u f kf d := ⟨hr, hf, h0, h1, h7, h9, ⟨k, hk, h6⟩, s, hs, h5⟩
  unfold wp_X3_skipToHere
  simp only [gI_def]
  rw [h5]
  refine ⟨fun _ => H u hu (FrX_r t u 0), fun q1 => ⟨fun _ => H u hu (FrX_r t u 0), fun q2 => ?_⟩⟩
  have hb : vp_in (nI p) 300 := by
    rw [q_le (by omega) (by omega)] at q2
    simp (disch := omega) only [q_lit, nI_add, pk_mul, q_sub, q_rem, q_div, q_vp, q_cl, q_lt, q_le, q_eq, q_neg1, gI_def]; omega
  refine ⟨hb, hb, fun z1 e1 => ?_⟩
  subst e1
  refine H _ ⟨rxL hr (by omega), hf, ?_, ?_, ?_, ?_, ⟨k, hk, ?_⟩, s, hs, ?_⟩ ⟨fun j q1 q2 q3 => by rw [pI_o q3], fun i q => by rw [pI_o (by omega)], fun i q => absurd q (by omega), rfl⟩
  · rw [pI_o (by omega)]; exact h0
  · rw [pI_o (by omega)]; exact h1
  · rw [pI_o (by omega)]; exact h7
  · rw [pI_o (by omega)]; exact h9
  · rw [pI_o (by omega)]; exact h6
  · rw [pI_o (by omega)]; exact h5
end
