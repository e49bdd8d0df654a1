/-! the class's reader of a SUM, all of it -/
section
variable {K N ST : Nat → Nat} {M t : Nat} {pr : Bool} {d : Nat} {rS rO rA : PoS → (PoS → Prop) → Prop}
theorem okOne (hE : d < 8 → OkP K N ST M t pr (MEith K N pr) true (6 + 5 * (8 - (d + 1))) (fun κ => κ ≠ 26 ∧ κ ≠ 27) (d + 1) (wp_X6_readEither rS rO rA)) (hS : d < 8 → OkP K N ST M t pr (MSum K N pr) false (3 + 5 * (8 - (d + 1))) (fun κ => ¬ (32 ≤ κ ∧ κ ≤ 35)) (d + 1) rS) (hO : d < 8 → OkP K N ST M t pr (MOne K N pr) false (1 + 5 * (8 - (d + 1))) (fun _ => True) (d + 1) rO) (bS : d < 8 → BadP K N ST M t pr rS) (bO : d < 8 → BadP K N ST M t pr rO) (hd : d ≤ 8) : OkP K N ST M t pr (MOne K N pr) false (1 + 5 * (8 - d)) (fun _ => True) d (wb_X6_readOne rS rO rA) := by
  intro u k s post hx hs H
  have hM := hx.1.2.1
  have hkM := hx.2.1
  have e7 : gI u 27 7 = nI (K k) := hx.2.2.2.2.2.1
  have e10 : gI u 27 10 = 0 ↔ pr = false := hx.1.2.2.2.2.2.2.2
  have k43 := (hx.1.2.2.2.2.1 k hx.2.1).1
  have hN := (hx.1.2.2.2.2.1 k hx.2.1).2.1
  unfold wb_X6_readOne
  rw [e7]
  refine ⟨fun n41 => ?_, fun e41 => ⟨t, hx.1.1, hx.1.2.2.2.2.2.1, ?_⟩⟩
  · have h41 : K k ≠ 41 := fun q => n41 (by rw [q]; rfl)
    have nn : ¬ (9 ≤ K k ∧ K k ≤ 16) → wp_X6_opensOne u (fun r3 u4 => ((r3 = 0 → wp_X6_blame 1 u4 (fun u6 => post u6)) ∧ (¬ r3 = 0 → wp_X6_readInner rS rO rA u4 (fun u8 => post u8)))) := by
      intro hn
      have yes : (K k = 36 ∨ K k = 33 ∨ K k = 17 ∨ K k = 18 ∨ K k = 19) → (((1 : Int32) = 0 → wp_X6_blame 1 u (fun u6 => post u6)) ∧ (¬ (1 : Int32) = 0 → wp_X6_readInner rS rO rA u (fun u8 => post u8))) := fun hk => ⟨fun q => absurd q (by decide), fun _ => okInner hE hS hO bS bO hd hk hx hs H⟩
      unfold wp_X6_opensOne
      rw [e7]
      refine ⟨fun q => yes (Or.inl ((nI_eq (b := 36) (by omega) (by omega)).mp q)), fun n36 => ⟨fun q => yes (Or.inr (Or.inl ((nI_eq (b := 33) (by omega) (by omega)).mp q))), fun n33 => ⟨fun q => yes (Or.inr (Or.inr (Or.inl ((nI_eq (b := 17) (by omega) (by omega)).mp q)))), fun n17 => ⟨fun q => yes (Or.inr (Or.inr (Or.inr (Or.inl ((nI_eq (b := 18) (by omega) (by omega)).mp q))))), fun n18 => ⟨fun n19 => ⟨fun _ => ?_, fun q => absurd rfl q⟩, fun q => yes (Or.inr (Or.inr (Or.inr (Or.inr ((nI_eq (b := 19) (by omega) (by omega)).mp q)))))⟩⟩⟩⟩⟩
      exact blm_ok (f := 1) hx (by decide) (by decide) (fun z h1 h2 => H.2 z 1 k [] h1 (FrX_w h2 (Nat.zero_le s)) (one_none h41 hn (fun q => n36 (by rw [q]; rfl)) (fun q => n33 (by rw [q]; rfl)) (fun q => n17 (by rw [q]; rfl)) (fun q => n18 (by rw [q]; rfl)) (fun q => n19 (by rw [q]; rfl))))
    unfold wp_X9_isName
    rw [show (9 : Int32) = nI 9 from rfl, show (16 : Int32) = nI 16 from rfl, q_lt (by omega) (by omega), q_lt (by omega) (by omega)]
    refine ⟨fun q => ⟨fun _ => nn (by omega), fun q => absurd rfl q⟩, fun q => ⟨fun q' => ⟨fun _ => nn (by omega), fun q => absurd rfl q⟩, fun q' => ⟨fun q => absurd q (by decide), fun _ => ?_⟩⟩⟩
    have hk1 := k_lt hx.1 hkM (by omega)
    have okN : ¬ (K k = 16 ∧ pr = true) → wj_X6_readName_21 post u := by
      intro hn
      refine ⟨t, hx.1.1, hx.1.2.2.2.2.2.1, ?_⟩
      rw [e7]
      refine cod_ok (a := 0) hx (by omega) (by omega) (by decide) (fun z1 a1 a2 a3 _ => adv_ok a1 (by omega) (fun z2 b1 b2 => H.1 z2 (k + 1) (s + 1) [(1, K k - 9)] _ b1 (FrX_t a2 b2 (by omega)) (by omega) (by omega) (by omega) (one_nam (by omega) (by omega) hn) (frg_w (frg_nam (v := 0) ?_ (by omega) (fun hp q => hn ⟨by omega, hp⟩)) (by omega)) trivial))
      rw [cdA_fr b2 (by omega), a3, show 9 + (K k - 9) = K k by omega]
    unfold wp_X6_readName
    rw [e7, e10]
    refine ⟨fun n16 => okN (fun q => n16 (by rw [q.1]; rfl)), fun e16 => ⟨fun q => okN (fun w => ?_), fun q => ?_⟩⟩
    · rw [w.2] at q; exact absurd q (by decide)
    · have hp : pr = true := by
        cases hpr : pr
        · rw [hpr] at q; exact absurd rfl q
        · rfl
      exact blm_ok (f := 5) hx (by decide) (by decide) (fun z1 a1 a2 => ⟨t, a1.1.1, a1.1.2.2.2.2.2.1, cod_bad a1 (fun z2 b1 b2 => adv_bad b1 (H.2 z2 5 k [] b1 (FrX_b a2 b2) (one_nam5 ((nI_eq (b := 16) (by omega) (by omega)).mp e16) hp)))⟩)
  · have h41 : K k = 41 := (nI_eq (b := 41) (by omega) (by omega)).mp e41
    have hk1 := k_lt hx.1 hkM (by omega)
    rcases Nat.lt_or_ge 9999 (N k) with q | q
    · exact num_no2 (lo := 0) (hi := 9999) hx h41 (Or.inr q) (by decide) (by decide) (fun z1 a1 a2 => cod_bad a1 (fun z2 b1 b2 => H.2 z2 2 k [] b1 (FrX_b a2 b2) (one_num2 h41 q)))
    · refine num_ok (lo := 0) (hi := 9999) hx h41 (Nat.zero_le _) q (by decide) (fun z1 a1 a2 => cod_ok (w := 41) a1 (by omega) (by decide) q (fun z2 b1 b2 b3 _ => H.1 z2 (k + 1) (s + 1) [(0, N k)] _ b1 (FrX_t a2 b2 (by omega)) (by omega) (by omega) (by omega) (one_num h41 q) (frg_w (frg_num b3 q) (by omega)) trivial))
theorem badOne : BadP K N ST M t pr (wb_X6_readOne rS rO rA) := by
  intro u f kf d post h H
  have e7 : gI u 27 7 = nI 44 := h.2.2.2.2.1
  unfold wb_X6_readOne
  rw [e7]
  refine ⟨fun _ => ?_, fun q => absurd q (by first | decide | (simp (disch := omega) only [q_lit, q_eq]; omega))⟩
  unfold wp_X9_isName
  refine ⟨fun q => absurd q (by decide), fun _ => ⟨fun _ => ⟨fun _ => ?_, fun q => absurd rfl q⟩, fun q => absurd (show (16 : Int32) < nI 44 by decide) q⟩⟩
  unfold wp_X6_opensOne
  rw [e7]
  exact ⟨fun q => absurd q (by first | decide | (simp (disch := omega) only [q_lit, q_eq]; omega)), fun _ => ⟨fun q => absurd q (by first | decide | (simp (disch := omega) only [q_lit, q_eq]; omega)), fun _ => ⟨fun q => absurd q (by first | decide | (simp (disch := omega) only [q_lit, q_eq]; omega)), fun _ => ⟨fun q => absurd q (by first | decide | (simp (disch := omega) only [q_lit, q_eq]; omega)), fun _ => ⟨fun _ => ⟨fun _ => blm_bad h (H u h (FrX_r t u 0)), fun q => absurd rfl q⟩, fun q => absurd q (by first | decide | (simp (disch := omega) only [q_lit, q_eq]; omega))⟩⟩⟩⟩⟩
theorem cmpX {κ : Nat} (hκ : κ ≤ 44) {u : PoS} {p : Int32 → PoS → Prop} (h1 : cmpO κ ≠ 0 → p 1 u) (h0 : cmpO κ = 0 → p 0 u) : wp_X9_isCompare (nI κ) u p := by
  have c : cmpO κ ≠ 0 ↔ (28 ≤ κ ∧ κ ≤ 31) ∨ κ = 39 ∨ κ = 40 := by
    unfold cmpO
    repeat' split
    all_goals omega
  unfold wp_X9_isCompare wj_X9_isCompare_12
  simp (disch := omega) only [q_lit, q_lt, q_le, q_eq]
  refine ⟨fun q => ⟨fun q' => h1 (c.mpr (by omega)), fun q' => ⟨fun q2 => h0 (Decidable.byContradiction fun w => absurd (c.mp w) (by omega)), fun q2 => h1 (c.mpr (by omega))⟩⟩, fun q => ⟨fun q' => h1 (c.mpr (by omega)), fun q' => ⟨fun q2 => h1 (c.mpr (by omega)), fun q3 => ⟨fun q2 => h0 (Decidable.byContradiction fun w => absurd (c.mp w) (by omega)), fun q2 => h1 (c.mpr (by omega))⟩⟩⟩⟩
theorem opw_cmp {κ : Nat} (h : cmpO κ ≠ 0) : opw (cmpO κ) = κ ∧ isCmp (cmpO κ) := by
  unfold cmpO at *
  unfold isCmp
  repeat' split at h
  all_goals first | (exfalso; exact h rfl) | skip
  all_goals (simp_all [opw])
theorem ask84_bad (bS : BadP K N ST M t pr rS) {u : PoS} {f kf : Nat} {post : PoS → Prop} {v : Int32} (h : RB K N ST M t pr u f kf d) (H : ∀ z, RB K N ST M t pr z f kf d → FrX t u z 0 → post z) : wj_X6_readAsk_84 rS rO rA post v u :=
  adv_bad h (bS u f kf d _ h (fun z1 h1 f1 => ⟨t, h1.1.1, h1.1.2.2.2.2.2.1, cod_bad h1 (fun z2 h2 f2 => H z2 h2 (FrX_0 f1 f2))⟩))
theorem badAsk (bS : BadP K N ST M t pr rS) : BadP K N ST M t pr (wb_X6_readAsk rS rO rA) := by
  intro u f kf d post h H
  have e7 : gI u 27 7 = nI 44 := h.2.2.2.2.1
  unfold wb_X6_readAsk
  rw [e7]
  refine ⟨fun _ => bS u f kf d _ h (fun z h1 f1 x3 e3 => ?_), fun q => absurd q (by first | decide | (simp (disch := omega) only [q_lit, q_eq]; omega))⟩
  rw [show gI z 27 7 = nI 44 from h1.2.2.2.2.1] at e3
  subst e3
  exact cmpX (by decide) (fun q => absurd rfl q) (fun _ => ⟨fun q => absurd rfl q, fun _ => blm_bad h1 (ask84_bad bS h1 (fun z2 h2 f2 => H z2 h2 (FrX_0 f1 f2)))⟩)
theorem okAsk (hS : OkP K N ST M t pr (MSum K N pr) false (3 + 5 * (8 - d)) (fun κ => ¬ (32 ≤ κ ∧ κ ≤ 35)) d rS) (hA : d < 8 → OkP K N ST M t pr (MAsk K N pr) true (4 + 5 * (8 - (d + 1))) (fun _ => True) (d + 1) rA) (bS : BadP K N ST M t pr rS) (hd : d ≤ 8) : OkP K N ST M t pr (MAsk K N pr) true (4 + 5 * (8 - d)) (fun _ => True) d (wb_X6_readAsk rS rO rA) := by
  intro u k s post hx hs H
  have hM := hx.1.2.1
  have hkM := hx.2.1
  have e7 : gI u 27 7 = nI (K k) := hx.2.2.2.2.2.1
  have e9 : gI u 27 9 = nI d := hx.2.2.2.2.2.2.1
  have k43 := (hx.1.2.2.2.2.1 k hx.2.1).1
  unfold wb_X6_readAsk
  rw [e7, e9]
  refine ⟨fun n20 => ?_, fun e20 => ⟨fun q => ?_, fun q => ?_⟩⟩
  · have h20 : K k ≠ 20 := fun q => n20 (by rw [q]; rfl)
    refine hS u k s _ hx hs ⟨fun z1 k1 s1 r1 F1 a1 a2 a3 a4 a5 a6 a7 a8 x3 e3 => ?_, fun z1 f kf r a1 a2 a3 x3 e3 => ?_⟩
    · rw [show gI z1 27 7 = nI (K k1) from a1.2.2.2.2.2.1] at e3
      subst e3
      have k143 := (a1.1.2.2.2.2.1 k1 a1.2.1).1
      have ac := ask_cmp a6 hd h20 (fun _ => a8)
      refine cmpX (by omega) (fun q => ⟨fun _ => ?_, fun q => absurd q (by decide)⟩) (fun q => ⟨fun q => absurd rfl q, fun _ => ?_⟩)
      · obtain ⟨o1, o2⟩ := opw_cmp q
        refine adv_ok a1 (fun w => by rw [w] at q; exact q rfl) (fun z2 b1 b2 => hS z2 (k1 + 1) s1 _ b1 (by omega) ⟨fun z3 k3 s3 r3 F3 c1 c2 c3 c4 c5 c6 c7 c8 => ⟨t, c1.1.1, c1.1.2.2.2.2.2.1, ?_⟩, fun z3 f kf r c1 c2 c3 => ⟨t, c1.1.1, c1.1.2.2.2.2.2.1, cod_bad c1 (fun z4 d1 d2 => H.2 z4 f kf _ d1 (FrX_b a2 (FrX_b b2 (FrX_0 c2 d2))) (ac.2.2 rfl q f kf r c3 (fun w => absurd w c1.2.1.1)))⟩⟩)
        have hk3 := c1.2.1
        refine cod_ok (a := 0) c1 (by omega) (by omega) (by decide) (fun z4 d1 d2 d3 d4 => ?_)
        refine H.1 z4 k3 (s3 + 1) _ (fun e => binE (cmpO (K k1)) (F1 e) (F3 e)) d1 (FrX_t (FrX_t (FrX_t a2 b2 (by omega)) c2 (by omega)) d2 (by omega)) (by omega) (by omega) (by omega) (ac.2.2 rfl q 0 k3 r3 c6 (fun _ => c8)) ?_ trivial
        exact frg_bin (v := 0) (frg_A a7 (fun p _ hp => by rw [cdA_fr d2 (by omega), cdA_fr c2 hp, cdA_fr b2 hp])) (frg_A c7 (fun p _ hp => cdA_fr d2 hp)) (by rw [d3, o1]) (by omega) (by omega) (Or.inr (Or.inl ⟨o2, rfl, rfl⟩))
      · exact blm_ok (f := 1) a1 (by decide) (by decide) (fun z2 b1 b2 => ask84_bad bS b1 (fun z3 c1 c2 => H.2 z3 1 k1 [] c1 (FrX_b a2 (FrX_b b2 c2)) (ac.2.1 rfl q)))
    · rw [show gI z1 27 7 = nI 44 from a1.2.2.2.2.1] at e3
      subst e3
      exact cmpX (by decide) (fun q => absurd rfl q) (fun _ => ⟨fun q => absurd rfl q, fun _ => blm_bad a1 (ask84_bad bS a1 (fun z2 h2 f2 => H.2 z2 f kf [] h2 (FrX_0 a2 f2) ((ask_cmp a3 hd h20 (fun w => absurd w a1.2.1.1)).1 a1.2.1.1)))⟩)
  · have h20 : K k = 20 := (nI_eq (b := 20) (by omega) (by omega)).mp e20
    rw [show (8 : Int32) = nI 8 from rfl, q_lt (by omega) (by omega)] at q
    intro z16 e16
    subst e16
    obtain ⟨g1, g2, g3⟩ := dep_ok (d := d + 1) hx (v := nI d + 1) (by rw [nI_1])
    refine adv_ok g1 (by omega) (fun u4 h1 h2 => hA q u4 (k + 1) s _ h1 (by omega) ⟨fun z1 k1 s1 r1 F1 a1 a2 a3 a4 a5 a6 a7 a8 => ⟨t, a1.1.1, a1.1.2.2.2.2.2.1, ?_⟩, fun z1 f kf r a1 a2 a3 => ⟨t, a1.1.1, a1.1.2.2.2.2.2.1, cod_bad a1 (fun z2 b1 b2 z3 ez3 => ?_)⟩⟩)
    · have hk1 := a1.2.1
      refine cod_ok (w := 20) (a := 0) a1 (by omega) (by decide) (by decide) (fun z2 b1 b2 b3 b4 z3 ez3 => ?_)
      subst ez3
      have e9' : gI z2 27 9 = nI (d + 1) := b1.2.2.2.2.2.2.1
      obtain ⟨c1, c2, c3⟩ := dep_ok (d := d) b1 (v := gI z2 27 9 - 1) (by rw [e9']; simp (disch := omega) only [q_lit, nI_add, pk_mul, q_sub, q_rem, q_div, q_vp, q_cl, q_lt, q_le, q_eq, q_neg1, gI_def]; omega)
      refine H.1 _ k1 (s1 + 1) _ (fun e => 1 - F1 e) c1 (FrX_t (FrX_t (FrX_t (FrX_t (g2 s) h2 (by omega)) a2 (by omega)) b2 (by omega)) (c2 s) (by omega)) (by omega) (by omega) (by omega) (ask_not h20 q a6) ?_ trivial
      rw [c3]
      exact frg_w (frg_not (v := 0) (frg_A a7 (fun p _ hp => cdA_fr b2 hp)) b3) (by omega)
    · subst ez3
      have e9' : gI z2 27 9 = nI (d + 1) := b1.2.2.2.2.2.1
      obtain ⟨c1, c2⟩ := dep_bad (d := d) b1 (v := gI z2 27 9 - 1) (by rw [e9']; simp (disch := omega) only [q_lit, nI_add, pk_mul, q_sub, q_rem, q_div, q_vp, q_cl, q_lt, q_le, q_eq, q_neg1, gI_def]; omega)
      exact H.2 _ f kf _ c1 (FrX_b (g2 s) (FrX_b h2 (FrX_0 a2 (FrX_0 b2 c2)))) (ask_not h20 q a3)
  · rw [show (8 : Int32) = nI 8 from rfl, q_lt (by omega) (by omega)] at q
    exact blm_ok (f := 3) hx (by decide) (by decide) (fun z h1 h2 => H.2 z 3 k [] h1 (FrX_w h2 (Nat.zero_le s)) (ask_deep ((nI_eq (b := 20) (by omega) (by omega)).mp e20) (by omega)))
theorem rd_bad : ∀ q, (1 ≤ q → BadP K N ST M t pr (wR_reader q).2.1) ∧ (2 ≤ q → BadP K N ST M t pr (wR_reader q).1) ∧ (3 ≤ q → BadP K N ST M t pr (wR_reader q).2.2) := by
  intro q
  induction q with
  | zero => exact ⟨fun q => absurd q (by decide), fun q => absurd q (by decide), fun q => absurd q (by decide)⟩
  | succ q ih =>
    rw [wR_reader]
    exact ⟨fun _ => badOne, fun h => badSum (badProduct (ih.1 (by omega))), fun h => badAsk (ih.2.1 (by omega))⟩
theorem rd_ok : ∀ q d, d ≤ 8 → (1 + 3 * (8 - d) ≤ q → OkP K N ST M t pr (MOne K N pr) false (1 + 5 * (8 - d)) (fun _ => True) d (wR_reader q).2.1) ∧ (2 + 3 * (8 - d) ≤ q → OkP K N ST M t pr (MSum K N pr) false (3 + 5 * (8 - d)) (fun κ => ¬ (32 ≤ κ ∧ κ ≤ 35)) d (wR_reader q).1) ∧ (3 + 3 * (8 - d) ≤ q → OkP K N ST M t pr (MAsk K N pr) true (4 + 5 * (8 - d)) (fun _ => True) d (wR_reader q).2.2) := by
  intro q
  induction q with
  | zero => intro d _; exact ⟨fun q => absurd q (by omega), fun q => absurd q (by omega), fun q => absurd q (by omega)⟩
  | succ q ih =>
    intro d hd
    have bd := rd_bad (K := K) (N := N) (ST := ST) (M := M) (t := t) (pr := pr) q
    rw [wR_reader]
    refine ⟨fun h => okOne (fun w => okEither (okBoth ((ih (d + 1) (by omega)).2.2 (by omega)) (by omega)) (by omega)) (fun w => (ih (d + 1) (by omega)).2.1 (by omega)) (fun w => (ih (d + 1) (by omega)).1 (by omega)) (fun w => bd.2.1 (by omega)) (fun w => bd.1 (by omega)) hd, fun h => okSum (okProduct ((ih d hd).1 (by omega)) hd) hd, fun h => okAsk ((ih d hd).2.1 (by omega)) (fun w => (ih (d + 1) (by omega)).2.2 (by omega)) (bd.2.1 (by omega)) hd⟩
theorem rd_sum : OkP K N ST M t pr (MSum K N pr) false 43 (fun κ => ¬ (32 ≤ κ ∧ κ ≤ 35)) 0 (wp_X6_readSum 27) := (rd_ok 27 0 (by decide)).2.1 (by decide)
theorem rd_sumB : BadP K N ST M t pr (wp_X6_readSum 27) := (rd_bad 27).2.1 (by decide)
end
