/-! the class's reader of a SUM: numbers, products, sums, asks -/
section
variable {K N ST : Nat → Nat} {M t : Nat} {pr : Bool} {u : PoS} {k d s f kf : Nat} {post : PoS → Prop}
theorem num_ok {lo hi : Nat} {p : Int32 → PoS → Prop} (h : RX K N ST M t pr u k d s) (hk : K k = 41) (h1 : lo ≤ N k) (h2 : N k ≤ hi) (hh : hi < 2 ^ 31) (H : ∀ z, RX K N ST M t pr z (k + 1) d s → FrX t u z s → p (nI (N k)) z) : wp_X6_numberWithin (nI lo) (nI hi) u p := by
  have e := h.1.2.2.2.2.1 k h.2.1
  have hM := h.1.2.1
  have hkM := h.2.1
  unfold wp_X6_numberWithin
  rw [gI_def, h.2.2.2.2.1, q_vp (by omega) (by omega), q_cl (by omega), gI_def, e.2.2.2.2.2, gI_def, h.2.2.2.2.2.1, hk]
  refine ⟨by omega, fun x1 e1 => ⟨fun _ => ?_, fun q => absurd rfl q⟩⟩
  subst e1
  unfold wp_X11_isWithin
  rw [q_lt (by omega) (by omega), q_lt (by omega) (by omega)]
  exact ⟨fun q => absurd q (by omega), fun _ => ⟨fun q => absurd q (by omega), fun _ => ⟨fun _ => adv_ok h (by omega) H, fun q => absurd q (by decide)⟩⟩⟩
theorem num_no1 {lo hi : Int32} {p : Int32 → PoS → Prop} (h : RX K N ST M t pr u k d s) (hk : K k ≠ 41) (H : ∀ z, RB K N ST M t pr z 1 k d → FrX t u z s → p (nI (N k)) z) : wp_X6_numberWithin lo hi u p := by
  have e := h.1.2.2.2.2.1 k h.2.1
  have hM := h.1.2.1
  have hkM := h.2.1
  unfold wp_X6_numberWithin
  rw [gI_def, h.2.2.2.2.1, q_vp (by omega) (by omega), q_cl (by omega), gI_def, e.2.2.2.2.2, gI_def, h.2.2.2.2.2.1]
  refine ⟨by omega, fun x1 e1 => ⟨fun q => absurd ((nI_eq (b := 41) (by omega) (by omega)).mp q) hk, fun _ => ?_⟩⟩
  subst e1
  exact blm_ok h (by decide) (by decide) (fun z g1 g2 => adv_bad g1 (H z g1 g2))
theorem num_no2 {lo hi : Nat} {p : Int32 → PoS → Prop} (h : RX K N ST M t pr u k d s) (hk : K k = 41) (hr : N k < lo ∨ hi < N k) (hl : lo < 2 ^ 31) (hh : hi < 2 ^ 31) (H : ∀ z, RB K N ST M t pr z 2 k d → FrX t u z s → p (nI (N k)) z) : wp_X6_numberWithin (nI lo) (nI hi) u p := by
  have e := h.1.2.2.2.2.1 k h.2.1
  have hM := h.1.2.1
  have hkM := h.2.1
  unfold wp_X6_numberWithin
  rw [gI_def, h.2.2.2.2.1, q_vp (by omega) (by omega), q_cl (by omega), gI_def, e.2.2.2.2.2, gI_def, h.2.2.2.2.2.1, hk]
  refine ⟨by omega, fun x1 e1 => ⟨fun _ => ?_, fun q => absurd rfl q⟩⟩
  subst e1
  have fin : wp_X6_blame 2 u (fun u7 => wj_X6_numberWithin_41 p (nI (N k)) u7) := blm_ok (f := 2) h (by decide) (by decide) (fun z g1 g2 => adv_bad g1 (H z g1 g2))
  unfold wp_X11_isWithin
  rw [q_lt (by omega) (by omega), q_lt (by omega) (by omega)]
  exact ⟨fun q => ⟨fun q => absurd rfl q, fun _ => fin⟩, fun _ => ⟨fun q => ⟨fun q => absurd rfl q, fun _ => fin⟩, fun q => absurd hr (by omega)⟩⟩
theorem num_bad {lo hi : Int32} {p : Int32 → PoS → Prop} (h : RB K N ST M t pr u f kf d) (H : ∀ n, n ≤ 10000 → p (nI n) u) : wp_X6_numberWithin lo hi u p := by
  obtain ⟨k, hk, h6⟩ := h.2.2.2.2.2.2.1
  have e := h.1.2.2.2.2.1 k hk
  have hM := h.1.2.1
  unfold wp_X6_numberWithin
  rw [gI_def, h6, q_vp (by omega) (by omega), q_cl (by omega), gI_def, e.2.2.2.2.2, gI_def, h.2.2.2.2.1]
  refine ⟨by omega, fun x1 e1 => ⟨fun q => absurd q (by first | decide | (simp (disch := omega) only [q_lit, q_eq]; omega)), fun _ => ?_⟩⟩
  subst e1
  exact blm_bad h (adv_bad h (H _ e.2.1))
end
def BadP (K N ST : Nat → Nat) (M t : Nat) (pr : Bool) (rc : PoS → (PoS → Prop) → Prop) : Prop := ∀ u f kf d post, RB K N ST M t pr u f kf d → (∀ z, RB K N ST M t pr z f kf d → FrX t u z 0 → post z) → rc u post
def Out (K N ST : Nat → Nat) (M t : Nat) (pr : Bool) (MX : Nat → Nat → Nat → Nat → Cd → Prop) (b : Bool) (nd : Nat) (fol : Nat → Prop) (u : PoS) (k d s : Nat) (post : PoS → Prop) : Prop :=
  (∀ z k' s' r F, RX K N ST M t pr z k' d s' → FrX t u z s → k < k' → s < s' → s' + k ≤ s + k' → MX k d 0 k' r → Frg pr b nd (cdA t z) s s' r F → fol (K k') → post z) ∧ (∀ z f kf r, RB K N ST M t pr z f kf d → FrX t u z 0 → MX k d f kf r → post z)
def OkP (K N ST : Nat → Nat) (M t : Nat) (pr : Bool) (MX : Nat → Nat → Nat → Nat → Cd → Prop) (b : Bool) (nd : Nat) (fol : Nat → Prop) (d : Nat) (rc : PoS → (PoS → Prop) → Prop) : Prop := ∀ u k s post, RX K N ST M t pr u k d s → s ≤ k → Out K N ST M t pr MX b nd fol u k d s post → rc u post
section
variable {K N ST : Nat → Nat} {M t : Nat} {pr : Bool} {d : Nat} {rS rO rA : PoS → (PoS → Prop) → Prop}
theorem FrX_b {u v z : PoS} {s : Nat} (h1 : FrX t u v s) (h2 : FrX t v z 0) : FrX t u z 0 := FrX_t (FrX_w h1 (Nat.zero_le s)) h2 (Nat.le_refl 0)

theorem bad_lpProduct {u : PoS} {f kf : Nat} {post : PoS → Prop} {n : Nat} {i : Int32} (h : RB K N ST M t pr u f kf d) (H : post u) : wl_X6_readProduct_6 rS rO rA post (n + 1) i u := by
  have e : gI u 27 7 = nI 44 := h.2.2.2.2.1
  rw [wl_X6_readProduct_6, e]
  exact ⟨fun _ => H, fun _ => ⟨fun q => absurd q (by first | decide | (simp (disch := omega) only [q_lit, q_eq]; omega)), fun _ => ⟨fun _ => H, fun q => absurd q (by first | decide | (simp (disch := omega) only [q_lit, q_eq]; omega))⟩⟩⟩
theorem lpProduct (hsub : OkP K N ST M t pr (MOne K N pr) false (1 + 5 * (8 - d)) (fun _ => True) d (rO)) (hd : d ≤ 8) {u0 : PoS} {k s : Nat} {post : PoS → Prop} (H : Out K N ST M t pr (MProd K N pr) false (2 + 5 * (8 - d)) (fun κ => ¬ (34 ≤ κ ∧ κ ≤ 35)) u0 k d s post) : ∀ n u i kk ss r F, M ≤ kk + n → RX K N ST M t pr u kk d ss → ss ≤ kk → i ≤ kk → k < kk → s < ss → ss + k ≤ s + kk → FrX t u0 u s → MProd K N pr k d 0 kk r → Frg pr false (2 + 5 * (8 - d)) (cdA t u) s ss r F → wl_X6_readProduct_6 rS rO rA post (n + 1) (nI i) u := by
  intro n
  induction n with
  | zero => intro u i kk ss r F hn hx; exact absurd hx.2.1 (by omega)
  | succ n ih =>
    intro u i kk ss r F hn hx h1 h2 h3 h4 h5 hf hm hg
    have hM := hx.1.2.1
    have hkM := hx.2.1
    have e7 : gI u 27 7 = nI (K kk) := hx.2.2.2.2.2.1
    have k43 := (hx.1.2.2.2.2.1 kk hkM).1
    have hE := hx.1.2.2.2.1
    have fin : (fun κ => ¬ (34 ≤ κ ∧ κ ≤ 35)) (K kk) → post u := fun q => H.1 u kk ss r F hx hf h3 h4 h5 hm hg q
    have stp : (K kk = 34 ∨ K kk = 35) → wj_X6_readProduct_31 rS rO rA (wl_X6_readProduct_6 rS rO rA post (n + 1)) post (nI i) u := by
      intro hk x3 e3
      rw [e7] at e3
      subst e3
      refine adv_ok hx (by omega) (fun z1 g1 g2 => hsub z1 (kk + 1) ss _ g1 (by omega) ⟨fun z2 k2 s2 r2 F2 c1 c2 c3 c4 c5 c6 c7 c8 => ⟨t, hx.1.1, c1.1.2.2.2.2.2.1, ?_⟩, fun z2 f2 kf2 r2 c1 c2 c3 => ⟨t, hx.1.1, c1.1.2.2.2.2.2.1, ?_⟩⟩)
      · have c9 := c1.2.1
        refine cod_ok (a := 0) c1 (by omega) (by omega) (by omega) (fun z3 d1 d2 d3 _ => ?_)
        rw [nI_1]
        have fr : FrX t u z3 ss := FrX_t g2 (FrX_t c2 d2 (by omega)) (Nat.le_refl ss)
        refine ih z3 (i + 1) k2 (s2 + 1) (r ++ r2 ++ [(K kk - 26, 0)]) (fun e => binE (K kk - 26) (F e) (F2 e)) (by omega) d1 (by omega) (by omega) (by omega) (by omega) (by omega) (FrX_t hf fr (by omega)) (prod2 hm hd hk c6 rfl) (frg_bin (v := 0) (frg_A hg (fun p _ q => cdA_fr fr q)) (frg_A c7 (fun p _ q => cdA_fr d2 q)) (by rw [d3]; rcases hk with q | q <;> rw [q] <;> rfl) (Nat.le_refl _) (by omega) (Or.inl ⟨by unfold isTwo; omega, rfl, rfl⟩))
      · exact cod_bad c1 (fun z3 d1 d2 => bad_lpProduct d1 (H.2 z3 f2 kf2 _ d1 (FrX_b hf (FrX_b g2 (FrX_b c2 d2))) (prod2 hm hd hk c3 rfl)))
    rw [wl_X6_readProduct_6, e7]
    refine ⟨fun q => fin ?_, fun _ => ⟨fun q => stp (Or.inl ((nI_eq (b := 34) (by omega) (by omega)).mp q)), fun q1 => ⟨fun q2 => fin ?_, fun q => stp (Or.inr ((nI_eq (b := 35) (by omega) (by omega)).mp q))⟩⟩⟩
    · rw [show (300 : Int32) = nI 300 from rfl, q_le (by omega) (by omega)] at q
      rw [show M - 1 = kk by omega] at hE
      show ¬ _
      omega
    · rw [show (34 : Int32) = nI 34 from rfl, q_eq (by omega) (by omega)] at q1
      rw [show (35 : Int32) = nI 35 from rfl, q_eq (by omega) (by omega)] at q2
      show ¬ _
      omega

theorem badProduct (hb : BadP K N ST M t pr (rO)) : BadP K N ST M t pr (wp_X6_readProduct rS rO rA) := by
  intro u f kf d post h H
  exact hb u f kf d _ h (fun z hz fz => ⟨1, bad_lpProduct hz (H z hz fz)⟩)
theorem okProduct (hsub : OkP K N ST M t pr (MOne K N pr) false (1 + 5 * (8 - d)) (fun _ => True) d (rO)) (hd : d ≤ 8) : OkP K N ST M t pr (MProd K N pr) false (2 + 5 * (8 - d)) (fun κ => ¬ (34 ≤ κ ∧ κ ≤ 35)) d (wp_X6_readProduct rS rO rA) := by
  intro u k s post hx hs H
  refine hsub u k s _ hx hs ⟨fun z k' s' r F c1 c2 c3 c4 c5 c6 c7 c8 => ⟨M + 1, lpProduct hsub hd H M z 0 k' s' r F (by omega) c1 (by omega) (Nat.zero_le _) c3 c4 c5 c2 (prod1 c6) (frg_w c7 (by omega))⟩, fun z f kf r c1 c2 c3 => ⟨1, bad_lpProduct c1 (H.2 z f kf r c1 c2 (prod1 c3))⟩⟩

theorem bad_lpSum {u : PoS} {f kf : Nat} {post : PoS → Prop} {n : Nat} {i : Int32} (h : RB K N ST M t pr u f kf d) (H : post u) : wl_X6_readSum_6 rS rO rA post (n + 1) i u := by
  have e : gI u 27 7 = nI 44 := h.2.2.2.2.1
  rw [wl_X6_readSum_6, e]
  exact ⟨fun _ => H, fun _ => ⟨fun q => absurd q (by first | decide | (simp (disch := omega) only [q_lit, q_eq]; omega)), fun _ => ⟨fun _ => H, fun q => absurd q (by first | decide | (simp (disch := omega) only [q_lit, q_eq]; omega))⟩⟩⟩
theorem lpSum (hsub : OkP K N ST M t pr (MProd K N pr) false (2 + 5 * (8 - d)) (fun κ => ¬ (34 ≤ κ ∧ κ ≤ 35)) d (wp_X6_readProduct rS rO rA)) (hd : d ≤ 8) {u0 : PoS} {k s : Nat} {post : PoS → Prop} (H : Out K N ST M t pr (MSum K N pr) false (3 + 5 * (8 - d)) (fun κ => ¬ (32 ≤ κ ∧ κ ≤ 35)) u0 k d s post) : ∀ n u i kk ss r F, M ≤ kk + n → RX K N ST M t pr u kk d ss → ss ≤ kk → i ≤ kk → k < kk → s < ss → ss + k ≤ s + kk → FrX t u0 u s → MSum K N pr k d 0 kk r → Frg pr false (3 + 5 * (8 - d)) (cdA t u) s ss r F → ¬ (34 ≤ K kk ∧ K kk ≤ 35) → wl_X6_readSum_6 rS rO rA post (n + 1) (nI i) u := by
  intro n
  induction n with
  | zero => intro u i kk ss r F hn hx; exact absurd hx.2.1 (by omega)
  | succ n ih =>
    intro u i kk ss r F hn hx h1 h2 h3 h4 h5 hf hm hg hex
    have hM := hx.1.2.1
    have hkM := hx.2.1
    have e7 : gI u 27 7 = nI (K kk) := hx.2.2.2.2.2.1
    have k43 := (hx.1.2.2.2.2.1 kk hkM).1
    have hE := hx.1.2.2.2.1
    have fin : (fun κ => ¬ (32 ≤ κ ∧ κ ≤ 35)) (K kk) → post u := fun q => H.1 u kk ss r F hx hf h3 h4 h5 hm hg q
    have stp : (K kk = 32 ∨ K kk = 33) → wj_X6_readSum_31 rS rO rA (wl_X6_readSum_6 rS rO rA post (n + 1)) post (nI i) u := by
      intro hk x3 e3
      rw [e7] at e3
      subst e3
      refine adv_ok hx (by omega) (fun z1 g1 g2 => hsub z1 (kk + 1) ss _ g1 (by omega) ⟨fun z2 k2 s2 r2 F2 c1 c2 c3 c4 c5 c6 c7 c8 => ⟨t, hx.1.1, c1.1.2.2.2.2.2.1, ?_⟩, fun z2 f2 kf2 r2 c1 c2 c3 => ⟨t, hx.1.1, c1.1.2.2.2.2.2.1, ?_⟩⟩)
      · have c9 := c1.2.1
        refine cod_ok (a := 0) c1 (by omega) (by omega) (by omega) (fun z3 d1 d2 d3 _ => ?_)
        rw [nI_1]
        have fr : FrX t u z3 ss := FrX_t g2 (FrX_t c2 d2 (by omega)) (Nat.le_refl ss)
        refine ih z3 (i + 1) k2 (s2 + 1) (r ++ r2 ++ [(K kk - 26, 0)]) (fun e => binE (K kk - 26) (F e) (F2 e)) (by omega) d1 (by omega) (by omega) (by omega) (by omega) (by omega) (FrX_t hf fr (by omega)) (sum2 hm hd hk c6 (fun _ => c8) rfl) (frg_bin (v := 0) (frg_A hg (fun p _ q => cdA_fr fr q)) (frg_A c7 (fun p _ q => cdA_fr d2 q)) (by rw [d3]; rcases hk with q | q <;> rw [q] <;> rfl) (Nat.le_refl _) (by omega) (Or.inl ⟨by unfold isTwo; omega, rfl, rfl⟩)) c8
      · exact cod_bad c1 (fun z3 d1 d2 => bad_lpSum d1 (H.2 z3 f2 kf2 _ d1 (FrX_b hf (FrX_b g2 (FrX_b c2 d2))) (sum2 hm hd hk c3 (fun q => absurd q c1.2.1.1) rfl)))
    rw [wl_X6_readSum_6, e7]
    refine ⟨fun q => fin ?_, fun _ => ⟨fun q => stp (Or.inl ((nI_eq (b := 32) (by omega) (by omega)).mp q)), fun q1 => ⟨fun q2 => fin ?_, fun q => stp (Or.inr ((nI_eq (b := 33) (by omega) (by omega)).mp q))⟩⟩⟩
    · rw [show (300 : Int32) = nI 300 from rfl, q_le (by omega) (by omega)] at q
      rw [show M - 1 = kk by omega] at hE
      show ¬ _
      omega
    · rw [show (32 : Int32) = nI 32 from rfl, q_eq (by omega) (by omega)] at q1
      rw [show (33 : Int32) = nI 33 from rfl, q_eq (by omega) (by omega)] at q2
      show ¬ _
      omega

theorem badSum (hb : BadP K N ST M t pr (wp_X6_readProduct rS rO rA)) : BadP K N ST M t pr (wb_X6_readSum rS rO rA) := by
  intro u f kf d post h H
  exact hb u f kf d _ h (fun z hz fz => ⟨1, bad_lpSum hz (H z hz fz)⟩)
theorem okSum (hsub : OkP K N ST M t pr (MProd K N pr) false (2 + 5 * (8 - d)) (fun κ => ¬ (34 ≤ κ ∧ κ ≤ 35)) d (wp_X6_readProduct rS rO rA)) (hd : d ≤ 8) : OkP K N ST M t pr (MSum K N pr) false (3 + 5 * (8 - d)) (fun κ => ¬ (32 ≤ κ ∧ κ ≤ 35)) d (wb_X6_readSum rS rO rA) := by
  intro u k s post hx hs H
  refine hsub u k s _ hx hs ⟨fun z k' s' r F c1 c2 c3 c4 c5 c6 c7 c8 => ⟨M + 1, lpSum hsub hd H M z 0 k' s' r F (by omega) c1 (by omega) (Nat.zero_le _) c3 c4 c5 c2 (sum1 c6) (frg_w c7 (by omega)) c8⟩, fun z f kf r c1 c2 c3 => ⟨1, bad_lpSum c1 (H.2 z f kf r c1 c2 (sum1 c3))⟩⟩

theorem bad_lpBoth {u : PoS} {f kf : Nat} {post : PoS → Prop} {n : Nat} {i : Int32} (h : RB K N ST M t pr u f kf d) (H : post u) : wl_X6_readBoth_6 rS rO rA post (n + 1) i u := by
  have e : gI u 27 7 = nI 44 := h.2.2.2.2.1
  rw [wl_X6_readBoth_6, e]
  exact ⟨fun _ => H, fun _ => ⟨fun _ => H, fun q => absurd q (by first | decide | (simp (disch := omega) only [q_lit, q_eq]; omega))⟩⟩
theorem lpBoth (hsub : OkP K N ST M t pr (MAsk K N pr) true (4 + 5 * (8 - d)) (fun _ => True) d (rA)) (hd : d ≤ 8) {u0 : PoS} {k s : Nat} {post : PoS → Prop} (H : Out K N ST M t pr (MBoth K N pr) true (5 + 5 * (8 - d)) (fun κ => κ ≠ 27) u0 k d s post) : ∀ n u i kk ss r F, M ≤ kk + n → RX K N ST M t pr u kk d ss → ss ≤ kk → i ≤ kk → k < kk → s < ss → ss + k ≤ s + kk → FrX t u0 u s → MBoth K N pr k d 0 kk r → Frg pr true (5 + 5 * (8 - d)) (cdA t u) s ss r F → wl_X6_readBoth_6 rS rO rA post (n + 1) (nI i) u := by
  intro n
  induction n with
  | zero => intro u i kk ss r F hn hx; exact absurd hx.2.1 (by omega)
  | succ n ih =>
    intro u i kk ss r F hn hx h1 h2 h3 h4 h5 hf hm hg
    have hM := hx.1.2.1
    have hkM := hx.2.1
    have e7 : gI u 27 7 = nI (K kk) := hx.2.2.2.2.2.1
    have k43 := (hx.1.2.2.2.2.1 kk hkM).1
    have hE := hx.1.2.2.2.1
    have fin : (fun κ => κ ≠ 27) (K kk) → post u := fun q => H.1 u kk ss r F hx hf h3 h4 h5 hm hg q
    rw [wl_X6_readBoth_6, e7]
    refine ⟨fun q => fin ?_, fun _ => ⟨fun q => fin ?_, fun q => ?_⟩⟩
    · rw [show (300 : Int32) = nI 300 from rfl, q_le (by omega) (by omega)] at q
      rw [show M - 1 = kk by omega] at hE
      rw [hE]; decide
    · rw [show (27 : Int32) = nI 27 from rfl, q_eq (by omega) (by omega)] at q
      exact q
    · have hk : K kk = 27 := (nI_eq (b := 27) (by omega) (by omega)).mp q
      refine adv_ok hx (by omega) (fun z1 g1 g2 => hsub z1 (kk + 1) ss _ g1 (by omega) ⟨fun z2 k2 s2 r2 F2 c1 c2 c3 c4 c5 c6 c7 c8 => ⟨t, hx.1.1, c1.1.2.2.2.2.2.1, ?_⟩, fun z2 f2 kf2 r2 c1 c2 c3 => ⟨t, hx.1.1, c1.1.2.2.2.2.2.1, ?_⟩⟩)
      · have c9 := c1.2.1
        refine cod_ok (w := 27) (a := 0) c1 (by omega) (by omega) (by omega) (fun z3 d1 d2 d3 _ => ?_)
        rw [nI_1]
        have fr : FrX t u z3 ss := FrX_t g2 (FrX_t c2 d2 (by omega)) (Nat.le_refl ss)
        refine ih z3 (i + 1) k2 (s2 + 1) (r ++ r2 ++ [(21, 0)]) (fun e => binE 21 (F e) (F2 e)) (by omega) d1 (by omega) (by omega) (by omega) (by omega) (by omega) (FrX_t hf fr (by omega)) (both2 hm hd hk c6) (frg_bin (v := 0) (frg_A hg (fun p _ q => cdA_fr fr q)) (frg_A c7 (fun p _ q => cdA_fr d2 q)) (by rw [d3]; rfl) (Nat.le_refl _) (by omega) (Or.inr (Or.inr ⟨by unfold isJn; decide, rfl, rfl⟩)))
      · exact cod_bad c1 (fun z3 d1 d2 => bad_lpBoth d1 (H.2 z3 f2 kf2 _ d1 (FrX_b hf (FrX_b g2 (FrX_b c2 d2))) (both2 hm hd hk c3)))

theorem badBoth (hb : BadP K N ST M t pr (rA)) : BadP K N ST M t pr (wp_X6_readBoth rS rO rA) := by
  intro u f kf d post h H
  exact hb u f kf d _ h (fun z hz fz => ⟨1, bad_lpBoth hz (H z hz fz)⟩)
theorem okBoth (hsub : OkP K N ST M t pr (MAsk K N pr) true (4 + 5 * (8 - d)) (fun _ => True) d (rA)) (hd : d ≤ 8) : OkP K N ST M t pr (MBoth K N pr) true (5 + 5 * (8 - d)) (fun κ => κ ≠ 27) d (wp_X6_readBoth rS rO rA) := by
  intro u k s post hx hs H
  refine hsub u k s _ hx hs ⟨fun z k' s' r F c1 c2 c3 c4 c5 c6 c7 c8 => ⟨M + 1, lpBoth hsub hd H M z 0 k' s' r F (by omega) c1 (by omega) (Nat.zero_le _) c3 c4 c5 c2 (both1 c6) (frg_w c7 (by omega))⟩, fun z f kf r c1 c2 c3 => ⟨1, bad_lpBoth c1 (H.2 z f kf r c1 c2 (both1 c3))⟩⟩

theorem bad_lpEither {u : PoS} {f kf : Nat} {post : PoS → Prop} {n : Nat} {i : Int32} (h : RB K N ST M t pr u f kf d) (H : post u) : wl_X6_readEither_6 rS rO rA post (n + 1) i u := by
  have e : gI u 27 7 = nI 44 := h.2.2.2.2.1
  rw [wl_X6_readEither_6, e]
  exact ⟨fun _ => H, fun _ => ⟨fun _ => H, fun q => absurd q (by first | decide | (simp (disch := omega) only [q_lit, q_eq]; omega))⟩⟩
theorem lpEither (hsub : OkP K N ST M t pr (MBoth K N pr) true (5 + 5 * (8 - d)) (fun κ => κ ≠ 27) d (wp_X6_readBoth rS rO rA)) (hd : d ≤ 8) {u0 : PoS} {k s : Nat} {post : PoS → Prop} (H : Out K N ST M t pr (MEith K N pr) true (6 + 5 * (8 - d)) (fun κ => κ ≠ 26 ∧ κ ≠ 27) u0 k d s post) : ∀ n u i kk ss r F, M ≤ kk + n → RX K N ST M t pr u kk d ss → ss ≤ kk → i ≤ kk → k < kk → s < ss → ss + k ≤ s + kk → FrX t u0 u s → MEith K N pr k d 0 kk r → Frg pr true (6 + 5 * (8 - d)) (cdA t u) s ss r F → K kk ≠ 27 → wl_X6_readEither_6 rS rO rA post (n + 1) (nI i) u := by
  intro n
  induction n with
  | zero => intro u i kk ss r F hn hx; exact absurd hx.2.1 (by omega)
  | succ n ih =>
    intro u i kk ss r F hn hx h1 h2 h3 h4 h5 hf hm hg hex
    have hM := hx.1.2.1
    have hkM := hx.2.1
    have e7 : gI u 27 7 = nI (K kk) := hx.2.2.2.2.2.1
    have k43 := (hx.1.2.2.2.2.1 kk hkM).1
    have hE := hx.1.2.2.2.1
    have fin : (fun κ => κ ≠ 26 ∧ κ ≠ 27) (K kk) → post u := fun q => H.1 u kk ss r F hx hf h3 h4 h5 hm hg q
    rw [wl_X6_readEither_6, e7]
    refine ⟨fun q => fin ?_, fun _ => ⟨fun q => fin ?_, fun q => ?_⟩⟩
    · rw [show (300 : Int32) = nI 300 from rfl, q_le (by omega) (by omega)] at q
      rw [show M - 1 = kk by omega] at hE
      rw [hE]; decide
    · rw [show (26 : Int32) = nI 26 from rfl, q_eq (by omega) (by omega)] at q
      exact ⟨q, hex⟩
    · have hk : K kk = 26 := (nI_eq (b := 26) (by omega) (by omega)).mp q
      refine adv_ok hx (by omega) (fun z1 g1 g2 => hsub z1 (kk + 1) ss _ g1 (by omega) ⟨fun z2 k2 s2 r2 F2 c1 c2 c3 c4 c5 c6 c7 c8 => ⟨t, hx.1.1, c1.1.2.2.2.2.2.1, ?_⟩, fun z2 f2 kf2 r2 c1 c2 c3 => ⟨t, hx.1.1, c1.1.2.2.2.2.2.1, ?_⟩⟩)
      · have c9 := c1.2.1
        refine cod_ok (w := 26) (a := 0) c1 (by omega) (by omega) (by omega) (fun z3 d1 d2 d3 _ => ?_)
        rw [nI_1]
        have fr : FrX t u z3 ss := FrX_t g2 (FrX_t c2 d2 (by omega)) (Nat.le_refl ss)
        refine ih z3 (i + 1) k2 (s2 + 1) (r ++ r2 ++ [(22, 0)]) (fun e => binE 22 (F e) (F2 e)) (by omega) d1 (by omega) (by omega) (by omega) (by omega) (by omega) (FrX_t hf fr (by omega)) (eith2 hm hd hk c6 (fun _ => c8)) (frg_bin (v := 0) (frg_A hg (fun p _ q => cdA_fr fr q)) (frg_A c7 (fun p _ q => cdA_fr d2 q)) (by rw [d3]; rfl) (Nat.le_refl _) (by omega) (Or.inr (Or.inr ⟨by unfold isJn; decide, rfl, rfl⟩))) c8
      · exact cod_bad c1 (fun z3 d1 d2 => bad_lpEither d1 (H.2 z3 f2 kf2 _ d1 (FrX_b hf (FrX_b g2 (FrX_b c2 d2))) (eith2 hm hd hk c3 (fun q => absurd q c1.2.1.1))))

theorem badEither (hb : BadP K N ST M t pr (wp_X6_readBoth rS rO rA)) : BadP K N ST M t pr (wp_X6_readEither rS rO rA) := by
  intro u f kf d post h H
  exact hb u f kf d _ h (fun z hz fz => ⟨1, bad_lpEither hz (H z hz fz)⟩)
theorem okEither (hsub : OkP K N ST M t pr (MBoth K N pr) true (5 + 5 * (8 - d)) (fun κ => κ ≠ 27) d (wp_X6_readBoth rS rO rA)) (hd : d ≤ 8) : OkP K N ST M t pr (MEith K N pr) true (6 + 5 * (8 - d)) (fun κ => κ ≠ 26 ∧ κ ≠ 27) d (wp_X6_readEither rS rO rA) := by
  intro u k s post hx hs H
  refine hsub u k s _ hx hs ⟨fun z k' s' r F c1 c2 c3 c4 c5 c6 c7 c8 => ⟨M + 1, lpEither hsub hd H M z 0 k' s' r F (by omega) c1 (by omega) (Nat.zero_le _) c3 c4 c5 c2 (eith1 c6) (frg_w c7 (by omega)) c8⟩, fun z f kf r c1 c2 c3 => ⟨1, bad_lpEither c1 (H.2 z f kf r c1 c2 (eith1 c3))⟩⟩
end
