/-! the class's reader of a SUM: a ONE, a choice, an ASK; all of it -/
def chC (post : PoS → Prop) (x15 : Int32) (u23 : PoS) : Prop := wp_X6_expect 25 u23 (fun (u25 : PoS) => ∃ i26, i26 < 4 ∧ gR u25 27 8 = 7 + i26 ∧ wp_X3_skipToHere i26 x15 u25 (fun (u28 : PoS) => post u28))
def chB (rS : PoS → (PoS → Prop) → Prop) (post : PoS → Prop) (x6 : Int32) (u11 : PoS) : Prop := wp_X6_expect 24 u11 (fun (u13 : PoS) => ∃ i14, i14 < 4 ∧ gR u13 27 8 = 7 + i14 ∧ ∀ x15 : Int32, x15 = (gI u13 (7 + i14) 5) → ∃ i16, i16 < 4 ∧ gR u13 27 8 = 7 + i16 ∧ wp_X3_addCode i16 46 0 u13 (fun (u18 : PoS) => ∃ i19, i19 < 4 ∧ gR u18 27 8 = 7 + i19 ∧ wp_X3_skipToHere i19 x6 u18 (fun (u21 : PoS) => rS u21 (fun (u23 : PoS) => chC post x15 u23))))
def chA (rS : PoS → (PoS → Prop) → Prop) (post : PoS → Prop) (u2 : PoS) : Prop := wp_X6_expect 23 u2 (fun (u4 : PoS) => ∃ i5, i5 < 4 ∧ gR u4 27 8 = 7 + i5 ∧ ∀ x6 : Int32, x6 = (gI u4 (7 + i5) 5) → ∃ i7, i7 < 4 ∧ gR u4 27 8 = 7 + i7 ∧ wp_X3_addCode i7 47 0 u4 (fun (u9 : PoS) => rS u9 (fun (u11 : PoS) => chB rS post x6 u11)))
section
variable {K N ST : Nat → Nat} {M t : Nat} {pr : Bool} {d : Nat} {rS rO rA : PoS → (PoS → Prop) → Prop}
theorem chC_bad {u : PoS} {f kf : Nat} {post : PoS → Prop} {p : Nat} (hp : p ≤ 300) (h : RB K N ST M t pr u f kf d) (H : ∀ z, RB K N ST M t pr z f kf d → FrX t u z 0 → post z) : chC post (nI p) u :=
  exp_bad (w := 25) h (by decide) ⟨t, h.1.1, h.1.2.2.2.2.2.1, skp_bad hp h H⟩
theorem FrX_0 {u v z : PoS} (h1 : FrX t u v 0) (h2 : FrX t v z 0) : FrX t u z 0 := FrX_t h1 h2 (Nat.le_refl 0)
theorem chB_bad (bS : BadP K N ST M t pr rS) {u : PoS} {f kf : Nat} {post : PoS → Prop} {p : Nat} (hp : p ≤ 300) (h : RB K N ST M t pr u f kf d) (H : ∀ z, RB K N ST M t pr z f kf d → FrX t u z 0 → post z) : chB rS post (nI p) u := by
  obtain ⟨s, hs, h5⟩ := h.2.2.2.2.2.2.2
  refine exp_bad (w := 24) h (by decide) ⟨t, h.1.1, h.1.2.2.2.2.2.1, fun x15 e15 => ⟨t, h.1.1, h.1.2.2.2.2.2.1, ?_⟩⟩
  rw [gI_def, h5] at e15
  subst e15
  exact cod_bad h (fun z1 h1 f1 => ⟨t, h1.1.1, h1.1.2.2.2.2.2.1, skp_bad hp h1 (fun z2 h2 f2 => bS z2 f kf d _ h2 (fun z3 h3 f3 => chC_bad hs h3 (fun z4 h4 f4 => H z4 h4 (FrX_0 f1 (FrX_0 f2 (FrX_0 f3 f4))))))⟩)
theorem chA_bad (bS : BadP K N ST M t pr rS) {u : PoS} {f kf : Nat} {post : PoS → Prop} (h : RB K N ST M t pr u f kf d) (H : ∀ z, RB K N ST M t pr z f kf d → FrX t u z 0 → post z) : chA rS post u := by
  obtain ⟨s, hs, h5⟩ := h.2.2.2.2.2.2.2
  refine exp_bad (w := 23) h (by decide) ⟨t, h.1.1, h.1.2.2.2.2.2.1, fun x15 e15 => ⟨t, h.1.1, h.1.2.2.2.2.2.1, ?_⟩⟩
  rw [gI_def, h5] at e15
  subst e15
  exact cod_bad h (fun z1 h1 f1 => bS z1 f kf d _ h1 (fun z2 h2 f2 => chB_bad bS hs h2 (fun z3 h3 f3 => H z3 h3 (FrX_0 f1 (FrX_0 f2 f3)))))
/-- what a ONE that holds others leaves, still one deeper -/
def OutI (K N ST : Nat → Nat) (M t : Nat) (pr : Bool) (u : PoS) (k d s : Nat) (post : PoS → Prop) : Prop :=
  (∀ z k' s' r F, RX K N ST M t pr z k' (d + 1) s' → FrX t u z s → k < k' → s < s' → s' + k ≤ s + k' → MOne K N pr k d 0 k' r → Frg pr false (1 + 5 * (8 - d)) (cdA t z) s s' r F → post z) ∧ (∀ z f kf r, RB K N ST M t pr z f kf (d + 1) → FrX t u z 0 → MOne K N pr k d f kf r → post z)
theorem okChoice (hE : OkP K N ST M t pr (MEith K N pr) true (6 + 5 * (8 - (d + 1))) (fun κ => κ ≠ 26 ∧ κ ≠ 27) (d + 1) (wp_X6_readEither rS rO rA)) (hS : OkP K N ST M t pr (MSum K N pr) false (3 + 5 * (8 - (d + 1))) (fun κ => ¬ (32 ≤ κ ∧ κ ≤ 35)) (d + 1) rS) (bS : BadP K N ST M t pr rS) (hd : d < 8) {u : PoS} {k s : Nat} {post : PoS → Prop} (hk : K k = 19) (hx : RX K N ST M t pr u (k + 1) (d + 1) s) (hs : s ≤ k) (H : OutI K N ST M t pr u k d s post) : wp_X6_readChoice rS rO rA u post := by
  have hM := hx.1.2.1
  refine hE u (k + 1) s (fun u2 => chA rS post u2) hx (by omega) ⟨fun z1 k1 s1 r1 C a1 a2 a3 a4 a5 a6 a7 a8 => ?_, fun z1 f kf r a1 a2 a3 => chA_bad bS a1 (fun z h f1 => H.2 z f kf _ h (FrX_0 a2 f1) ((if_then hk hd a3 (fun q => absurd q a1.2.1.1)).1 a1.2.1.1))⟩
  have it := if_then hk hd a6 (fun _ => a8)
  by_cases q1 : K k1 = 23
  case neg =>
    unfold chA
    refine exp_no (w := 23) a1 q1 (by decide) (fun z2 b1 b2 => ?_)
    obtain ⟨sx, hsx, h5x⟩ := b1.2.2.2.2.2.2.2
    refine ⟨t, b1.1.1, b1.1.2.2.2.2.2.1, fun x6 e6 => ⟨t, b1.1.1, b1.1.2.2.2.2.2.1, ?_⟩⟩
    rw [gI_def, h5x] at e6
    subst e6
    exact cod_bad b1 (fun z3 h3 f3 => bS z3 1 k1 _ _ h3 (fun z4 h4 f4 => chB_bad bS hsx h4 (fun z5 h5 f5 => H.2 z5 1 k1 _ h5 (FrX_b a2 (FrX_b b2 (FrX_0 f3 (FrX_0 f4 f5)))) (it.2.1 rfl q1))))
  have hk1 := a1.2.1
  refine exp_ok (w := 23) a1 q1 (by decide) (fun z2 b1 b2 => ⟨t, b1.1.1, b1.1.2.2.2.2.2.1, fun x6 e6 => ⟨t, b1.1.1, b1.1.2.2.2.2.2.1, ?_⟩⟩)
  rw [gI_def, b1.2.2.2.2.2.2.2] at e6
  subst e6
  refine cod_ok (w := 47) (a := 0) b1 (by omega) (by decide) (by decide) (fun z3 c1 c2 c3 c4 => ?_)
  refine hS z3 (k1 + 1) (s1 + 1) _ c1 (by omega) ⟨fun z4 k2 s2 ra Fa d1 d2 d3 d4 d5 d6 d7 d8 => ?_, fun z4 f kf r d1 d2 d3 => chB_bad bS (by omega) d1 (fun z h f1 => H.2 z f kf [] h (FrX_b a2 (FrX_b b2 (FrX_b c2 (FrX_b d2 f1)))) ?_)⟩
  case refine_2 =>
    intro π c R hl ha hc
    refine it.2.2 rfl q1 π c R hl (if_part (Or.inl rfl) hd d3 (fun q => absurd q d1.2.1.1) hl (fun q => hc.2 q) (fun q => absurd q d1.2.1.1) (fun q => absurd q d1.2.1.1) (fun q => absurd q d1.2.1.1))
  have hk2 := d1.2.1
  by_cases q2 : K k2 = 24
  case neg =>
    unfold chB
    refine exp_no (w := 24) d1 q2 (by decide) (fun z5 b1 b2' => ?_)
    obtain ⟨sx, hsx, h5x⟩ := b1.2.2.2.2.2.2.2
    refine ⟨t, b1.1.1, b1.1.2.2.2.2.2.1, fun x6 e6 => ⟨t, b1.1.1, b1.1.2.2.2.2.2.1, ?_⟩⟩
    rw [gI_def, h5x] at e6
    subst e6
    refine cod_bad b1 (fun z6 h6 f6 => ⟨t, h6.1.1, h6.1.2.2.2.2.2.1, skp_bad (by omega) h6 (fun z7 h7 f7 => bS z7 1 k2 _ _ h7 (fun z8 h8 f8 => chC_bad hsx h8 (fun z9 h9 f9 => H.2 z9 1 k2 [] h9 (FrX_b a2 (FrX_b b2 (FrX_b c2 (FrX_b d2 (FrX_b b2' (FrX_0 f6 (FrX_0 f7 (FrX_0 f8 f9)))))))) ?_)))⟩)
    intro π c R hl ha hc
    refine it.2.2 rfl q1 π c R hl (if_part (Or.inl rfl) hd d6 (fun _ => d8) hl (fun q => absurd rfl q) (fun _ _ => hc.2 (by decide)) (fun _ _ q => absurd q q2) (fun _ q => absurd q (by decide)))
  refine exp_ok (w := 24) d1 q2 (by decide) (fun z5 e1 e2 => ⟨t, e1.1.1, e1.1.2.2.2.2.2.1, fun x15 e15 => ⟨t, e1.1.1, e1.1.2.2.2.2.2.1, ?_⟩⟩)
  rw [gI_def, e1.2.2.2.2.2.2.2] at e15
  subst e15
  refine cod_ok (w := 46) (a := 0) e1 (by omega) (by decide) (by decide) (fun z6 g1 g2 g3 g4 => ⟨t, g1.1.1, g1.1.2.2.2.2.2.1, ?_⟩)
  refine skp_ok (w := 47) g1 (by omega) ?_ (by decide) (fun z7 i1 i2 i3 i4 => ?_)
  · rw [g2.2.2.1 s1 (by omega), e2.2.2.1 s1 (by omega), d2.2.2.1 s1 (by omega)]; exact c4
  refine hS z7 (k2 + 1) (s2 + 1) _ i1 (by omega) ⟨fun z8 k3 s3 rb Fb j1 j2 j3 j4 j5 j6 j7 j8 => ?_, fun z8 f kf r j1 j2 j3 => chC_bad (by omega) j1 (fun z h f1 => H.2 z f kf [] h (FrX_b a2 (FrX_b b2 (FrX_b c2 (FrX_b d2 (FrX_b e2 (FrX_b g2 (FrX_b i2 (FrX_b j2 f1)))))))) ?_)⟩
  case refine_2 =>
    intro π c R hl ha hc
    refine it.2.2 rfl q1 π c R hl (if_part (Or.inl rfl) hd d6 (fun _ => d8) hl (fun q => absurd rfl q) (fun _ q => absurd q2 q) (fun _ _ _ => if_part (Or.inr rfl) hd j3 (fun q => absurd q j1.2.1.1) hl (fun q => hc.2 q) (fun q => absurd q j1.2.1.1) (fun q => absurd q j1.2.1.1) (fun q => absurd q j1.2.1.1)) (fun _ q => absurd q (by decide)))
  have hk3 := j1.2.1
  by_cases q3 : K k3 = 25
  case neg =>
    unfold chC
    refine exp_no (w := 25) j1 q3 (by decide) (fun z9 b1 b2' => ⟨t, b1.1.1, b1.1.2.2.2.2.2.1, skp_bad (by omega) b1 (fun z h f1 => H.2 z 1 k3 [] h (FrX_b a2 (FrX_b b2 (FrX_b c2 (FrX_b d2 (FrX_b e2 (FrX_b g2 (FrX_b i2 (FrX_b j2 (FrX_b b2' f1))))))))) ?_)⟩)
    intro π c R hl ha hc
    refine it.2.2 rfl q1 π c R hl (if_part (Or.inl rfl) hd d6 (fun _ => d8) hl (fun q => absurd rfl q) (fun _ q => absurd q2 q) (fun _ _ _ => if_part (Or.inr rfl) hd j6 (fun _ => j8) hl (fun q => absurd rfl q) (fun _ _ => hc.2 (by decide)) (fun _ q => absurd q (by decide)) (fun _ _ q => absurd q q3)) (fun _ q => absurd q (by decide)))
  refine exp_ok (w := 25) j1 q3 (by decide) (fun z9 l1 l2 => ⟨t, l1.1.1, l1.1.2.2.2.2.2.1, ?_⟩)
  have w1 := a7.1
  have w2 := d7.1
  have w3 := j7.1
  refine skp_ok (w := 46) l1 (by omega) ?_ (by decide) (fun z10 m1 m2 m3 m4 => ?_)
  · rw [l2.2.2.1 s2 (by omega), j2.2.2.1 s2 (by omega)]
    rw [i4 s2 (by omega)]
    exact g4
  have f10 : ∀ p, p < s1 → cdA t z10 p = cdA t z1 p := fun p hp => by rw [cdA_fr m2 (by omega), cdA_fr l2 (by omega), cdA_fr j2 (by omega), cdA_fr i2 (by omega), cdA_fr g2 (by omega), cdA_fr e2 (by omega), cdA_fr d2 (by omega), cdA_fr c2 (by omega), cdA_fr b2 (by omega)]
  have f7 : ∀ p, s1 < p → p < s2 → cdA t z10 p = cdA t z4 p := fun p h1 h2 => by rw [cdA_fr m2 (by omega), cdA_fr l2 (by omega), cdA_fr j2 (by omega), cdA_raw (i4 p h1), cdA_fr g2 (by omega), cdA_fr e2 (by omega)]
  have f3 : cdA t z10 s1 = (47, s2 + 1) := by rw [cdA_fr m2 (by omega), cdA_fr l2 (by omega), cdA_fr j2 (by omega)]; exact i3
  have f8 : ∀ p, s2 < p → p < s3 → cdA t z10 p = cdA t z8 p := fun p h1 h2 => by rw [cdA_raw (m4 p h1), cdA_fr l2 (by omega)]
  refine H.1 z10 (k3 + 1) s3 (r1 ++ ra ++ rb ++ [(3, 0)]) (fun e => if C e = 0 then Fb e else Fa e) m1 ?_ (by omega) (by omega) (by omega) ?_ ?_
  · exact FrX_t (FrX_t (FrX_t (FrX_t (FrX_t (FrX_t (FrX_t (FrX_t (FrX_t a2 b2 (by omega)) c2 (by omega)) d2 (by omega)) e2 (by omega)) g2 (by omega)) i2 (by omega)) j2 (by omega)) l2 (by omega)) m2 (by omega)
  · intro π c R hl ha hc
    refine it.2.2 rfl q1 π c R hl (if_part (Or.inl rfl) hd d6 (fun _ => d8) hl (fun q => absurd rfl q) (fun _ q => absurd q2 q) (fun _ _ _ => if_part (Or.inr rfl) hd j6 (fun _ => j8) hl (fun q => absurd rfl q) (fun _ q => absurd q3 q) (fun _ q => absurd q (by decide)) (fun _ _ _ => ?_)) (fun _ q => absurd q (by decide)))
    have := hc.1 rfl
    rw [← List.append_assoc, ← List.append_assoc, ← List.append_assoc] at this
    exact this
  · exact frg_sel (m := s2) (frg_w (frg_A a7 (fun p _ q => f10 p q)) (by omega)) f3 (by omega) (frg_w (frg_A d7 (fun p q1 q2 => f7 p (by omega) q2)) (by omega)) m3 (by omega) (frg_w (frg_A j7 (fun p q1 q2 => f8 p (by omega) q2)) (by omega))
theorem dep_ok {z : PoS} {k s d' : Nat} (h : RX K N ST M t pr z k d' s) {v : Int32} (hv : v = nI d) : RX K N ST M t pr (pI z 27 9 v) k d s ∧ (∀ s', FrX t z (pI z 27 9 v) s') ∧ cdA t (pI z 27 9 v) = cdA t z := by
  obtain ⟨hr, hkM, hs, h0, h6, h7, h9, h5⟩ := h
  have ht := hr.1
  refine ⟨⟨rx27 hr (by decide) (by decide), hkM, hs, ?_, ?_, ?_, ?_, ?_⟩, fun s' => fr27 ht, ?_⟩
  · exact ⟨by rw [pI_s, up_ne (by decide)]; exact h0.1, by rw [pI_s, up_ne (by decide)]; exact h0.2⟩
  · rw [pI_s, up_ne (by decide)]; exact h6
  · rw [pI_s, up_ne (by decide)]; exact h7
  · rw [pI_s, up_eq]; exact hv
  · rw [pI_o (by omega)]; exact h5
  · funext p; exact cdA_raw (by rw [pI_o (by omega)])
theorem dep_bad {z : PoS} {f kf d' : Nat} (h : RB K N ST M t pr z f kf d') {v : Int32} (hv : v = nI d) : RB K N ST M t pr (pI z 27 9 v) f kf d ∧ FrX t z (pI z 27 9 v) 0 := by
  obtain ⟨hr, hf, h0, h1, h7, h9, ⟨k, hk, h6⟩, s, hs, h5⟩ := h
  have ht := hr.1
  refine ⟨⟨rx27 hr (by decide) (by decide), hf, ?_, ?_, ?_, ?_, ⟨k, hk, ?_⟩, s, hs, ?_⟩, fr27 ht⟩
  · rw [pI_s, up_ne (by decide)]; exact h0
  · rw [pI_s, up_ne (by decide)]; exact h1
  · rw [pI_s, up_ne (by decide)]; exact h7
  · rw [pI_s, up_eq]; exact hv
  · rw [pI_s, up_ne (by decide)]; exact h6
  · rw [pI_o (by omega)]; exact h5
/-- a ONE that holds others -/
theorem okInner (hE : d < 8 → OkP K N ST M t pr (MEith K N pr) true (6 + 5 * (8 - (d + 1))) (fun κ => κ ≠ 26 ∧ κ ≠ 27) (d + 1) (wp_X6_readEither rS rO rA)) (hS : d < 8 → OkP K N ST M t pr (MSum K N pr) false (3 + 5 * (8 - (d + 1))) (fun κ => ¬ (32 ≤ κ ∧ κ ≤ 35)) (d + 1) rS) (hO : d < 8 → OkP K N ST M t pr (MOne K N pr) false (1 + 5 * (8 - (d + 1))) (fun _ => True) (d + 1) rO) (bS : d < 8 → BadP K N ST M t pr rS) (bO : d < 8 → BadP K N ST M t pr rO) (hd : d ≤ 8) {u : PoS} {k s : Nat} {post : PoS → Prop} (hk : K k = 36 ∨ K k = 33 ∨ K k = 17 ∨ K k = 18 ∨ K k = 19) (hx : RX K N ST M t pr u k d s) (hs : s ≤ k) (H : Out K N ST M t pr (MOne K N pr) false (1 + 5 * (8 - d)) (fun _ => True) u k d s post) : wp_X6_readInner rS rO rA u post := by
  have hM := hx.1.2.1
  have e7 : gI u 27 7 = nI (K k) := hx.2.2.2.2.2.1
  have e9 : gI u 27 9 = nI d := hx.2.2.2.2.2.2.1
  have k43 := (hx.1.2.2.2.2.1 k hx.2.1).1
  unfold wp_X6_readInner
  rw [e7, e9]
  intro x1 ex1
  subst ex1
  refine ⟨fun q => ?_, fun q => ?_⟩
  case refine_2 =>
    rw [show (8 : Int32) = nI 8 from rfl, q_lt (by omega) (by omega)] at q
    exact blm_ok (f := 3) hx (by decide) (by decide) (fun z h1 h2 => H.2 z 3 k [] h1 (FrX_w h2 (Nat.zero_le s)) (one_deep hk (by omega)))
  rw [show (8 : Int32) = nI 8 from rfl, q_lt (by omega) (by omega)] at q
  intro z2 ez2
  subst ez2
  obtain ⟨g1, g2, g3⟩ := dep_ok (d := d + 1) hx (v := nI d + 1) (by rw [nI_1])
  refine adv_ok g1 (by omega) (fun u4 h1 h2 => ?_)
  have fr : FrX t u u4 s := FrX_t (g2 s) h2 (Nat.le_refl s)
  -- the end of it
  have fin : ∀ z k' s' r F, RX K N ST M t pr z k' (d + 1) s' → FrX t u4 z s → k < k' → s < s' → s' + k ≤ s + k' → MOne K N pr k d 0 k' r → Frg pr false (1 + 5 * (8 - d)) (cdA t z) s s' r F → wj_X6_readInner_136 rS rO rA post z := by
    intro z k' s' r F a1 a2 a3 a4 a5 a6 a7 z7 e7'
    subst e7'
    have e9' : gI z 27 9 = nI (d + 1) := a1.2.2.2.2.2.2.1
    obtain ⟨b1, b2, b3⟩ := dep_ok (d := d) a1 (v := gI z 27 9 - 1) (by rw [e9']; simp (disch := omega) only [q_lit, nI_add, pk_mul, q_sub, q_rem, q_div, q_vp, q_cl, q_lt, q_le, q_eq, q_neg1, gI_def]; omega)
    exact H.1 _ k' s' r F b1 (FrX_t (FrX_t fr a2 (Nat.le_refl s)) (b2 s) (Nat.le_refl s)) a3 a4 a5 a6 (by rw [b3]; exact a7) trivial
  have bad : ∀ z f kf r, RB K N ST M t pr z f kf (d + 1) → FrX t u4 z 0 → MOne K N pr k d f kf r → wj_X6_readInner_136 rS rO rA post z := by
    intro z f kf r a1 a2 a3 z7 e7'
    subst e7'
    have e9' : gI z 27 9 = nI (d + 1) := a1.2.2.2.2.2.1
    obtain ⟨b1, b2⟩ := dep_bad (d := d) a1 (v := gI z 27 9 - 1) (by rw [e9']; simp (disch := omega) only [q_lit, nI_add, pk_mul, q_sub, q_rem, q_div, q_vp, q_cl, q_lt, q_le, q_eq, q_neg1, gI_def]; omega)
    exact H.2 _ f kf r b1 (FrX_b fr (FrX_0 a2 b2)) a3
  have ne : ∀ a : Nat, a < 50 → K k ≠ a → ¬ nI (K k) = nI a := fun a ha q => by rw [q_eq (by omega) (by omega)]; exact q
  refine ⟨fun n36 => ⟨fun n33 => ⟨fun n18 => ⟨fun n17 => ?_, fun e17 => ?_⟩, fun e18 => ?_⟩, fun e33 => ?_⟩, fun e36 => ?_⟩
  · have hk19 : K k = 19 := by
      rcases hk with q | q | q | q | q
      · exact absurd (show nI (K k) = 36 by rw [q]; rfl) n36
      · exact absurd (show nI (K k) = 33 by rw [q]; rfl) n33
      · exact absurd (show nI (K k) = 17 by rw [q]; rfl) n17
      · exact absurd (show nI (K k) = 18 by rw [q]; rfl) n18
      · exact q
    exact okChoice (hE q) (hS q) (bS q) q hk19 h1 hs ⟨fin, bad⟩
  · have hk17 : K k = 17 := (nI_eq (b := 17) (by omega) (by omega)).mp e17
    refine hO q u4 (k + 1) s _ h1 (by omega) ⟨fun z1 k1 s1 r1 F1 a1 a2 a3 a4 a5 a6 a7 a8 => ?_, fun z1 f kf r a1 a2 a3 => exp_bad (w := 21) a1 (by decide) (bO q z1 f kf _ _ a1 (fun z2 b1 b2 => ⟨t, b1.1.1, b1.1.2.2.2.2.2.1, cod_bad b1 (fun z3 c1 c2 => bad z3 f kf [] c1 (FrX_0 a2 (FrX_0 b2 c2)) ((one_shr hk17 q a3).1 a1.2.1.1))⟩))⟩
    have sh := one_shr hk17 q a6
    have hk1 := a1.2.1
    by_cases q1 : K k1 = 21
    · refine exp_ok (w := 21) a1 q1 (by decide) (fun z2 b1 b2 => hO q z2 (k1 + 1) s1 _ b1 (by omega) ⟨fun z3 k3 s3 r3 F3 c1 c2 c3 c4 c5 c6 c7 c8 => ⟨t, c1.1.1, c1.1.2.2.2.2.2.1, ?_⟩, fun z3 f kf r c1 c2 c3 => ⟨t, c1.1.1, c1.1.2.2.2.2.2.1, cod_bad c1 (fun z4 d1 d2 => bad z4 f kf _ d1 (FrX_b a2 (FrX_b b2 (FrX_0 c2 d2))) (sh.2.2 rfl q1 f kf r c3))⟩⟩)
      have hk3 := c1.2.1
      refine cod_ok (w := 17) (a := 0) c1 (by omega) (by decide) (by decide) (fun z4 d1 d2 d3 d4 => ?_)
      refine fin z4 k3 (s3 + 1) (r1 ++ r3 ++ [(4, 0)]) (fun e => binE 4 (F1 e) (F3 e)) d1 (FrX_t (FrX_t (FrX_t a2 b2 (by omega)) c2 (by omega)) d2 (by omega)) (by omega) (by omega) (by omega) (sh.2.2 rfl q1 0 k3 r3 c6) ?_
      exact frg_bin (v := 0) (frg_A a7 (fun p _ hp => by rw [cdA_fr d2 (by omega), cdA_fr c2 hp, cdA_fr b2 hp])) (frg_A c7 (fun p _ hp => cdA_fr d2 hp)) (by rw [d3]; rfl) (by omega) (by omega) (Or.inl ⟨Or.inl rfl, rfl, rfl⟩)
    · exact exp_no (w := 21) a1 q1 (by decide) (fun z2 b1 b2 => bO q z2 1 k1 _ _ b1 (fun z3 c1 c2 => ⟨t, c1.1.1, c1.1.2.2.2.2.2.1, cod_bad c1 (fun z4 d1 d2 => bad z4 1 k1 [] d1 (FrX_b a2 (FrX_b b2 (FrX_0 c2 d2))) (sh.2.1 rfl q1))⟩))
  · have hk18 : K k = 18 := (nI_eq (b := 18) (by omega) (by omega)).mp e18
    refine hO q u4 (k + 1) s _ h1 (by omega) ⟨fun z1 k1 s1 r1 F1 a1 a2 a3 a4 a5 a6 a7 a8 => ⟨t, a1.1.1, a1.1.2.2.2.2.2.1, ?_⟩, fun z1 f kf r a1 a2 a3 => ⟨t, a1.1.1, a1.1.2.2.2.2.2.1, cod_bad a1 (fun z2 b1 b2 => bad z2 f kf _ b1 (FrX_0 a2 b2) (one_neg (Or.inr ⟨hk18, rfl⟩) q a3))⟩⟩
    have hk1 := a1.2.1
    refine cod_ok (w := 18) (a := 0) a1 (by omega) (by decide) (by decide) (fun z2 b1 b2 b3 b4 => ?_)
    exact fin z2 k1 (s1 + 1) _ _ b1 (FrX_t a2 b2 (by omega)) (by omega) (by omega) (by omega) (one_neg (Or.inr ⟨hk18, rfl⟩) q a6) (frg_w (frg_wat (v := 0) (frg_A a7 (fun p _ hp => cdA_fr b2 hp)) b3) (by omega))
  · have hk33 : K k = 33 := (nI_eq (b := 33) (by omega) (by omega)).mp e33
    refine hO q u4 (k + 1) s _ h1 (by omega) ⟨fun z1 k1 s1 r1 F1 a1 a2 a3 a4 a5 a6 a7 a8 => ⟨t, a1.1.1, a1.1.2.2.2.2.2.1, ?_⟩, fun z1 f kf r a1 a2 a3 => ⟨t, a1.1.1, a1.1.2.2.2.2.2.1, cod_bad a1 (fun z2 b1 b2 => bad z2 f kf _ b1 (FrX_0 a2 b2) (one_neg (Or.inl ⟨hk33, rfl⟩) q a3))⟩⟩
    have hk1 := a1.2.1
    refine cod_ok (w := 45) (a := 0) a1 (by omega) (by decide) (by decide) (fun z2 b1 b2 b3 b4 => ?_)
    exact fin z2 k1 (s1 + 1) _ _ b1 (FrX_t a2 b2 (by omega)) (by omega) (by omega) (by omega) (one_neg (Or.inl ⟨hk33, rfl⟩) q a6) (frg_w (frg_neg (v := 0) (frg_A a7 (fun p _ hp => cdA_fr b2 hp)) b3) (by omega))
  · have hk36 : K k = 36 := (nI_eq (b := 36) (by omega) (by omega)).mp e36
    refine hS q u4 (k + 1) s _ h1 (by omega) ⟨fun z1 k1 s1 r1 F1 a1 a2 a3 a4 a5 a6 a7 a8 => ?_, fun z1 f kf r a1 a2 a3 => exp_bad (w := 37) a1 (by decide) (bad z1 f kf [] a1 a2 ((one_par hk36 q a3 (fun w => absurd w a1.2.1.1)).1 a1.2.1.1))⟩
    have pa := one_par hk36 q a6 (fun _ => a8)
    by_cases q1 : K k1 = 37
    · exact exp_ok (w := 37) a1 q1 (by decide) (fun z2 b1 b2 => fin z2 (k1 + 1) s1 r1 F1 b1 (FrX_t a2 b2 (by omega)) (by omega) (by omega) (by omega) (pa.2.2 rfl q1) (frg_w (frg_A a7 (fun p _ hp => cdA_fr b2 hp)) (by omega)))
    · exact exp_no (w := 37) a1 q1 (by decide) (fun z2 b1 b2 => bad z2 1 k1 [] b1 (FrX_b a2 (FrX_w b2 (Nat.zero_le _))) (pa.2.1 rfl q1))
end
