/-! THE STEPS as runs of them need them -/
theorem FrB.refl (b : Nat) (u : PoS) : FrB b u u := fun _ _ _ => rfl
theorem FrR.refl (u : PoS) : FrR u u := ⟨fun _ _ _ _ _ _ => rfl, fun _ _ => rfl⟩
def ActP (P : Int32 → Prop) (T : Nat) (w : Nat → (Nat → Int32) → Nat → Int32 → Int32) (q : Nat → (Nat → Int32) → Nat → Int32) (wx wm : PoS → (Int32 → PoS → Prop) → Prop) : Prop :=
  ∀ r a, RowOk r a → nN (a 1) = T → (∃ u0, Ctx u0 T w q) → ∃ F, P F ∧ ∃ r' a', RowOk r' a' ∧ a' 1 = a 1 ∧
    (∀ (u : PoS) (K : Int32 → PoS → Prop), u.1 3 = r → Ctx u T w q → (∀ z, FrB 0 u z → z.1 3 = r' → K F z) → wx u K) ∧
    (∀ (u : PoS) (K : Int32 → PoS → Prop), u.1 49 = a → u.1 48 24 = 1 → Ctx u T w q → (∀ z, FrR u z → z.1 49 = a' → K F z) → wm u K)
def NumP (F : Int32) : Prop := F = -1 ∨ ∃ n, n < 2 ^ 30 ∧ F = nI n
section ACTS
variable (T : Nat) (w : Nat → (Nat → Int32) → Nat → Int32 → Int32) (q : Nat → (Nat → Int32) → Nat → Int32)
/-- a call that is refused, or asks alone -/
theorem act_no {P : Int32 → Prop} {wx wm : PoS → (Int32 → PoS → Prop) → Prop} {r a : Nat → Int32} (hR : RowOk r a) (F : Int32) (hP : P F) (hx : ∀ u K, u.1 3 = r → K F u → wx u K) (hm : ∀ u K, u.1 49 = a → K F u → wm u K) : ∃ F, P F ∧ ∃ r' a', RowOk r' a' ∧ a' 1 = a 1 ∧ (∀ (u : PoS) (K : Int32 → PoS → Prop), u.1 3 = r → Ctx u T w q → (∀ z, FrB 0 u z → z.1 3 = r' → K F z) → wx u K) ∧ (∀ (u : PoS) (K : Int32 → PoS → Prop), u.1 49 = a → u.1 48 24 = 1 → Ctx u T w q → (∀ z, FrR u z → z.1 49 = a' → K F z) → wm u K) :=
  ⟨F, hP, r, a, hR, rfl, fun u K e _ hK => hx u K e (hK u (FrB.refl 0 u) e), fun u K e _ _ hK => hm u K e (hK u (FrR.refl u) e)⟩
theorem act_field (x y : Int32) : ActP IsB T w q (wp_X11_field x y) (wp_X12_field x y) := by
  intro r a hR hT hc
  rcases rng 29 (by decide) x with ⟨c, hc, rfl⟩ | hb
  · rcases rng 99 (by decide) y with ⟨n, hn, rfl⟩ | hb
    · refine ⟨1, Or.inr rfl, up r (86 + c) (nI n), up a (70 + c) (nI n), row_need hR (by omega) (Sm.of hn), up_ne (by omega), fun u K e hC hK => ?_, fun u K e hw hC hK => ?_⟩
      · refine cellX_t (by omega) ⟨fun q => absurd q (by decide), fun _ => within_t (nI_pos (by omega)) (nI_nlt (b := n) (a := 99) hn (by decide)) ⟨fun _ => ?_, fun q => absurd q (by decide)⟩⟩
        rw [q_lit, nI_add, q_vp (by omega) (by decide), q_cl (by omega)]
        exact ⟨by omega, fun z hz => hK z (fun j h1 h2 => by rw [hz]; simp (disch := omega) only [gI_def, pI_s, pI_o, cI_s, cI_o, pL_1, pR_1]) (by rw [hz]; simp (disch := omega) only [gI_def, pI_s, pI_o, cI_s, cI_o, pL_1, pR_1]; rw [e])⟩
      · refine cellM_t (by omega) ⟨fun q => absurd q (by decide), fun _ => isIn_t (nI_pos (by omega)) (nI_nlt (b := n) (a := 99) hn (by decide)) ⟨fun _ => ?_, fun q => absurd q (by decide)⟩⟩
        rw [q_lit, nI_add, q_vp (by omega) (by decide), q_cl (by omega)]
        exact ⟨by omega, fun z hz => hK z (by rw [hz]; exact ((FrA.refl u).put _ _).r) (by rw [hz]; simp (disch := omega) only [gI_def, pI_s, pI_o, cI_s, cI_o, pL_1, pR_1]; rw [e])⟩
    · exact act_no T w q hR 0 (Or.inl rfl) (fun u K _ hK => cellX_t (by omega) ⟨fun q => absurd q (by decide), fun _ => within_f hb ⟨fun q => absurd rfl q, fun _ => hK⟩⟩) (fun u K _ hK => cellM_t (by omega) ⟨fun q => absurd q (by decide), fun _ => isIn_f hb ⟨fun q => absurd rfl q, fun _ => hK⟩⟩)
  · exact act_no T w q hR 0 (Or.inl rfl) (fun u K _ hK => cellX_f hb ⟨fun _ => hK, fun q => absurd rfl q⟩) (fun u K _ hK => cellM_f hb ⟨fun _ => hK, fun q => absurd rfl q⟩)
theorem row_shed1 {r a : Nat → Int32} (hR : RowOk r a) {c : Nat} (hc : c < 30) (ho : hb (opn a) c = true) : RowOk (up r 85 (r 85 ^^^ bt1 c)) (up a (100 + c) 1) := by
  have hO := hR.liv.2.2.2.opn
  refine row_shed hR (fun i hi => by simp (disch := omega) only [gI_def, pI_s, pI_o, cI_s, cI_o, pL_1, pR_1, up_eq, up_ne]) (fun i hi => by simp (disch := omega) only [gI_def, pI_s, pI_o, cI_s, cI_o, pL_1, pR_1, up_eq, up_ne]) ?_
  obtain ⟨g1, m, hm, g2, g3⟩ := hR.2.2.2.1
  have h85 : S30 (r 85 ^^^ bt1 c) := fun d hd => by
    rw [hb_xor, g2, hb_tn, pk_tn (by omega), Nat.testBit_lt_two_pow (Nat.lt_of_lt_of_le hm (Nat.pow_le_pow_right (by decide) hd)), bt1_30 (by omega) d hd]; rfl
  refine ⟨fun d hd => ?_, _, S30_lt h85, by rw [up_eq, nI_tn], fun d hd => ?_⟩
  · obtain ⟨q1, q2, q3, q4, q5⟩ := g1 d hd
    simp (disch := omega) only [gI_def, pI_s, pI_o, cI_s, cI_o, pL_1, pR_1, up_eq, up_ne]
    refine ⟨q1, q2, q3, q4, ?_⟩
    by_cases e : d = c
    · rw [e, up_eq]; exact ⟨1, by decide, rfl⟩
    · rw [up_ne (by omega)]; exact q5
  · rw [← hb_tn, hb_xor]
    by_cases e : d = c
    · subst e
      rw [up_eq, (bt1_hb (by omega) d).mpr rfl]
      cases e85 : hb (r 85) d
      · exact ⟨fun _ => rfl, fun _ => rfl⟩
      · exfalso
        have := (hO.zero (by omega)).mpr ((opn_hb _ d).mp ho).2
        rw [e85] at this; exact Bool.noConfusion this
    · have hx : hb (bt1 c) d = false := by
        cases e2 : hb (bt1 c) d
        · rfl
        · exact absurd ((bt1_hb (by omega) d).mp e2) e
      rw [hx, Bool.xor_false, up_ne (by omega), g2, hb_tn, pk_tn (by omega)]
      exact g3 d hd
theorem act_shed (x : Int32) : ActP IsB T w q (wp_X11_shed x 1) (wp_X12_shed x 1) := by
  intro r a hR hT _
  have hL := hR.liv
  rcases rng 29 (by decide) x with ⟨c, hc, rfl⟩ | hx
  · have xo : ∀ (u : PoS) (K : Int32 → PoS → Prop), u.1 3 = r → K (if hb (opn a) c = true then 1 else 0) u → wp_X8_isOpen 0 (nI c) u K := fun u K e hK => isOpenX (b := 0) (a := a) (by show Opn (u.1 3) a; rw [e]; exact hL.2.2.2.opn) (fun d hd e h => by
      obtain rfl : c = d := (nI_eq (by omega) (by omega)).mp e
      rw [if_pos h] at hK; exact hK) (fun h => by
      rw [if_neg (by rw [h c (by omega) rfl]; decide)] at hK; exact hK)
    have mo : ∀ (u : PoS) (K : Int32 → PoS → Prop), u.1 49 = a → K (if hb (opn a) c = true then 1 else 0) u → wp_X12_isFree (nI c) u K := fun v K e49 hK => isFreeM (r := v.1 49) (fun d hd e h => by
      obtain rfl : c = d := (nI_eq (by omega) (by omega)).mp e
      rw [e49] at h
      rw [if_pos h] at hK; exact hK) (fun h => by
      have h := h c (by omega) rfl
      rw [e49] at h
      rw [if_neg (by rw [h]; decide)] at hK; exact hK)
    have px : ∀ (u : PoS) (K : Int32 → PoS → Prop), u.1 3 = r → K (plB a (nI c) (nN (a 0))) u → wp_X8_peopleIn 0 (nI c) u K := fun u K e hK => peopleX (b := 0) (by show Liv (u.1 3) a; rw [e]; exact hL) hK
    have pm : ∀ (u : PoS) (K : Int32 → PoS → Prop), u.1 49 = a → K (plB a (nI c) (nN (a 0))) u → wp_X12_peopleAt (nI c) u K := fun u K e hK => peopleM (ρ := r) (by rw [e]; exact hL) (by rw [e]; exact hK)
    by_cases ok : hb (opn a) c = true ∧ ¬ a 7 = nI c ∧ plB a (nI c) (nN (a 0)) = 0
    · obtain ⟨ok1, ok2, ok3⟩ := ok
      have ok2' : ¬ r 50 = nI c := by rw [hL.1.2.2.2.1]; exact ok2
      refine ⟨1, Or.inr rfl, up r 85 (r 85 ^^^ bt1 c), up a (100 + c) 1, row_shed1 hR (by omega) ok1, up_ne (by omega), fun u K e hC hK => ?_, fun u K e hw hC hK => ?_⟩
      · refine cellX_t (by omega) ⟨fun q => absurd q (by decide), fun _ => xo u _ e ?_⟩
        rw [if_pos ok1]
        refine ⟨fun q => absurd rfl q, fun _ => ⟨fun q => absurd (by rw [gI_def, e] at q; exact q) ok2', fun _ => px u _ e ⟨fun _ z hz => hK z (fun j h1 h2 => by rw [hz]; simp (disch := omega) only [gI_def, pI_s, pI_o, cI_s, cI_o, pL_1, pR_1]) ?_, fun q => absurd ok3 q⟩⟩⟩
        rw [hz]; simp (disch := omega) only [gI_def, pI_s, pI_o, cI_s, cI_o, pL_1, pR_1]; rw [e]; rfl
      · refine cellM_t (by omega) ⟨fun q => absurd q (by decide), fun _ => mo u _ e ?_⟩
        rw [if_pos ok1]
        refine ⟨fun q => absurd rfl q, fun _ => pm u _ e ⟨fun q => absurd ok3 q, fun _ => ⟨fun _ => ⟨fun q => absurd q (by decide), fun _ => ?_⟩, fun q => absurd (by rw [gI_def, e] at q; exact q) ok2⟩⟩⟩
        unfold wj_X12_shed_54
        rw [show (100 : Int32) + nI c = nI (100 + c) by simp (disch := omega) only [q_lit, nI_add, pk_mul, q_sub, q_rem, q_div, q_vp, q_cl, q_lt, q_le, q_eq, q_neg1, gI_def], q_vp (by omega) (by omega), q_cl (by omega)]
        exact ⟨by omega, fun z hz => hK z (by rw [hz]; exact ((FrA.refl u).put _ _).r) (by rw [hz]; simp (disch := omega) only [gI_def, pI_s, pI_o, cI_s, cI_o, pL_1, pR_1]; rw [e])⟩
    · refine act_no T w q hR 0 (Or.inl rfl) (fun u K e hK => ?_) (fun u K e hK => ?_)
      · refine cellX_t (by omega) ⟨fun _ => hK, fun _ => xo u _ e ?_⟩
        by_cases o1 : hb (opn a) c = true
        · rw [if_pos o1]
          refine ⟨fun q => absurd rfl q, fun _ => ⟨fun _ => hK, fun q2 => px u _ e ⟨fun q3 => absurd ⟨o1, ?_, q3⟩ ok, fun _ => hK⟩⟩⟩
          rw [gI_def, e, hL.1.2.2.2.1] at q2; exact q2
        · rw [if_neg o1]
          exact ⟨fun _ => hK, fun q => absurd q (by decide)⟩
      · refine cellM_t (by omega) ⟨fun _ => hK, fun _ => mo u _ e ?_⟩
        by_cases o1 : hb (opn a) c = true
        · rw [if_pos o1]
          refine ⟨fun q => absurd rfl q, fun _ => pm u _ e ⟨fun _ => hK, fun q3 => ⟨fun q2 => absurd ⟨o1, ?_, q3⟩ ok, fun _ => hK⟩⟩⟩
          rw [gI_def, e] at q2; exact q2
        · rw [if_neg o1]
          exact ⟨fun _ => hK, fun q => absurd q (by decide)⟩
  · exact act_no T w q hR 0 (Or.inl rfl) (fun u K _ hK => cellX_f hx ⟨fun _ => hK, fun q => absurd rfl q⟩) (fun u K _ hK => cellM_f hx ⟨fun _ => hK, fun q => absurd rfl q⟩)
theorem act_walk (y x : Int32) : ActP IsB T w q (wp_X11_walk y x) (wp_X12_walk y x) := by
  intro r a hR hT _
  have hL := hR.liv
  obtain ⟨n, hn, e1, e2, e3⟩ := hL.ppl
  obtain ⟨s, hs, es⟩ := hR.st
  by_cases ok : ∃ p, p < nN (a 0) ∧ y = nI p ∧ canW a p x
  · obtain ⟨p, hp, rfl, hc⟩ := ok
    obtain ⟨hK1, hK2⟩ := row_keep hR
    have hp' : p < nN (keepA a 0) := by rw [kp_lo hR (by decide) (by decide)]; exact hp
    obtain ⟨c, d, -, -, hd, rfl, -, -⟩ := id hc
    have hfin := row_per hK1 hK2 (k := 0) (m := 29) hp' (by decide) rfl ⟨d, by omega, rfl⟩
    rw [show 5 * 0 + p = p by omega, Nat.add_zero] at hfin
    refine ⟨1, Or.inr rfl, up (remR r (nN (r 184)) (nN (a 3))) p (nI d), up (keepA a) (10 + 6 * p) (nI d), hfin.1, by rw [up_ne (by omega)]; exact kp_lo hR (by decide) (by decide), fun u K e hC hK => ?_, fun u K e hw hC hK => ?_⟩
    · subst e
      refine perX hR (fun p' hp' e => ⟨fun q => absurd q (by decide), fun _ => ?_⟩) (fun q => absurd rfl (no_per hL q p hp))
      refine canWX (b := 0) hL hp (fun _ => ⟨fun _ => remX hR (fun z h1 h2 => ?_), fun q => absurd q (by decide)⟩) (fun q => absurd hc q)
      rw [zadd, q_vp (by omega) (by omega), q_cl (by omega)]
      refine ⟨by omega, fun z7 e7 => hK _ (fun j hj _ => ?_) ?_⟩
      · rw [e7]; simp (disch := omega) only [gI_def, pI_s, pI_o, cI_s, cI_o, pL_1, pR_1]; exact h1 j hj
      · rw [e7]; simp (disch := omega) only [gI_def, pI_s, pI_o, cI_s, cI_o, pL_1, pR_1]; rw [h2]
    · subst e
      refine canWM (ρ := r) hL (fun p' hp' e _ => ⟨fun _ => keepM hs es (fun z f g => putM (o := 0) (by omega) (by decide) (hK _ (f.put _ _).r ?_)), fun q => absurd q (by decide)⟩) (fun q => absurd hc (q p hp rfl))
      simp (disch := omega) only [gI_def, pI_s, pI_o, cI_s, cI_o, pL_1, pR_1]; rw [g, Nat.add_zero]
  · refine act_no T w q hR 0 (Or.inl rfl) (fun u K e hK => ?_) (fun u K e hK => ?_)
    · subst e
      exact perX hR (fun p hp e => ⟨fun q => absurd q (by decide), fun _ => by subst e; exact canWX (b := 0) hL hp (fun q => absurd ⟨p, hp, rfl, q⟩ ok) (fun _ => ⟨fun q => absurd rfl q, fun _ => hK⟩)⟩) (fun _ => ⟨fun _ => hK, fun q => absurd rfl q⟩)
    · subst e
      exact canWM hL (fun p hp e q => absurd ⟨p, hp, e, q⟩ ok) (fun _ => ⟨fun q => absurd rfl q, fun _ => hK⟩)
theorem act_hat (y x : Int32) (hx : IsB x) : ActP IsB T w q (wp_X11_hat y x) (wp_X12_hat y x) := by
  intro r a hR hT _
  have hL := hR.liv
  obtain ⟨n, hn, e1, e2, e3⟩ := hL.ppl
  obtain ⟨s, hs, es⟩ := hR.st
  have hx1 : Sm 1 x := by
    rcases hx with q | q
    · exact ⟨0, by decide, q⟩
    · exact ⟨1, by decide, q⟩
  have xin : ∀ (u : PoS) (K : Int32 → PoS → Prop), wj_X11_hat_9 K y x u → wp_X11_hat y x u K := by
    intro u K h
    refine ⟨fun q => ?_, fun q => ?_⟩
    · rw [q] at h; exact h
    · rw [hx.resolve_left q] at h; exact h
  by_cases hp : ∃ p, p < nN (a 0) ∧ y = nI p
  · obtain ⟨p, hp, rfl⟩ := hp
    obtain ⟨c, wi, t, b', hc, hw, ht, hb', h5, g1, g2, g3, g4, -⟩ := hL.per hp
    by_cases ok : nI wi = x
    · refine act_no T w q hR 0 (Or.inl rfl) (fun u K e hK => xin u K ?_) (fun u K e hK => ?_)
      · subst e
        refine perX hR (fun p' hp' e => ⟨fun q => absurd q (by decide), fun _ => ?_⟩) (fun q => absurd rfl (no_per hL q p hp))
        rw [show (5 : Int32) + nI p = nI (5 + p) by simp (disch := omega) only [q_lit, nI_add, pk_mul, q_sub, q_rem, q_div, q_vp, q_cl, q_lt, q_le, q_eq, q_neg1, gI_def], q_vp (by omega) (by omega), q_cl (by omega), gI_def, g4]
        exact ⟨by omega, fun q => absurd ok q, fun _ => hK⟩
      · subst e
        refine perM hR (fun p' hp' e => ⟨fun q => absurd q (by decide), fun _ => getM (o := 1) h5 (by decide) ?_⟩) (fun q => absurd rfl (no_per hL q p hp))
        rw [show 10 + 6 * p + 1 = 11 + 6 * p by omega, g3]
        rcases (show wi = 0 ∨ wi = 1 by omega) with rfl | rfl
        · exact ⟨fun _ => ⟨fun q => absurd ok q, fun _ => hK⟩, fun q => absurd q (by decide)⟩
        · exact ⟨fun q => absurd rfl q, fun _ => ⟨fun q => absurd ok q, fun _ => hK⟩⟩
    · obtain ⟨hK1, hK2⟩ := row_keep hR
      have hp' : p < nN (keepA a 0) := by rw [kp_lo hR (by decide) (by decide)]; exact hp
      have hfin := row_per hK1 hK2 (k := 1) hp' (by decide) rfl hx1
      rw [show 5 * 1 + p = 5 + p by omega, show 10 + 6 * p + 1 = 11 + 6 * p by omega] at hfin
      refine ⟨1, Or.inr rfl, up (remR r (nN (r 184)) (nN (a 3))) (5 + p) x, up (keepA a) (11 + 6 * p) x, hfin.1, by rw [up_ne (by omega)]; exact kp_lo hR (by decide) (by decide), fun u K e hC hK => xin u K ?_, fun u K e hw' hC hK => ?_⟩
      · subst e
        refine perX hR (fun p' hp' e => ⟨fun q => absurd q (by decide), fun _ => ?_⟩) (fun q => absurd rfl (no_per hL q p hp))
        rw [show (5 : Int32) + nI p = nI (5 + p) by simp (disch := omega) only [q_lit, nI_add, pk_mul, q_sub, q_rem, q_div, q_vp, q_cl, q_lt, q_le, q_eq, q_neg1, gI_def], q_vp (by omega) (by omega), q_cl (by omega), gI_def, g4]
        refine ⟨by omega, fun _ => remX hR (fun z h1 h2 => ⟨by omega, fun z5 e5 => hK _ (fun j hj _ => ?_) ?_⟩), fun q => absurd q ok⟩
        · rw [e5]; simp (disch := omega) only [gI_def, pI_s, pI_o, cI_s, cI_o, pL_1, pR_1]; exact h1 j hj
        · rw [e5]; simp (disch := omega) only [gI_def, pI_s, pI_o, cI_s, cI_o, pL_1, pR_1]; rw [h2]
      · subst e
        have fin : ∀ z, FrA u z → z.1 49 = keepA (u.1 49) → wj_X12_hat_45 K x 1 (nI p) z := by
          intro z f g
          refine putM (o := 1) h5 (by decide) (hK _ (f.put _ _).r ?_)
          simp (disch := omega) only [gI_def, pI_s, pI_o, cI_s, cI_o, pL_1, pR_1]; rw [g, show 10 + 6 * p + 1 = 11 + 6 * p by omega]
        have fin2 : ∀ v : Int32, v = nI wi → wj_X12_hat_23 K (nI p) x v u := by
          intro v hv
          refine ⟨fun _ => keepM hs es (fun z f g => ⟨fun q => ?_, fun q => ?_⟩), fun q => absurd (hv.symm.trans q) ok⟩
          · have := fin z f g; rw [q] at this; exact this
          · have := fin z f g; rw [hx.resolve_left q] at this; exact this
        refine perM hR (fun p' hp' e => ⟨fun q => absurd q (by decide), fun _ => getM (o := 1) h5 (by decide) ?_⟩) (fun q => absurd rfl (no_per hL q p hp))
        rw [show 10 + 6 * p + 1 = 11 + 6 * p by omega, g3]
        rcases (show wi = 0 ∨ wi = 1 by omega) with rfl | rfl
        · exact ⟨fun _ => fin2 0 rfl, fun q => absurd q (by decide)⟩
        · exact ⟨fun q => absurd rfl q, fun _ => fin2 1 rfl⟩
  · refine act_no T w q hR 0 (Or.inl rfl) (fun u K e hK => xin u K ?_) (fun u K e hK => ?_)
    · subst e
      exact perX hR (fun p hp' e => absurd ⟨p, hp', e⟩ hp) (fun _ => ⟨fun _ => hK, fun q => absurd rfl q⟩)
    · subst e
      exact perM hR (fun p hp' e => absurd ⟨p, hp', e⟩ hp) (fun _ => ⟨fun _ => hK, fun q => absurd rfl q⟩)
theorem row_person1 {r a : Nat → Int32} (hR : RowOk r a) {n c : Nat} {v : Int32} (h5n : n < 5) (hc : c < 30) (hv1 : Sm 1 v) (e3 : nN (a 0) = n) : RowOk (up (up (up (up (up r n (nI c)) (5 + n) v) (10 + n) 0) (15 + n) 0) 84 (nI (n + 1))) (up (up (up (up (up (up (up a (14 + 6 * n) (nI c)) (15 + 6 * n) v) (10 + 6 * n) (nI c)) (11 + 6 * n) v) (12 + 6 * n) 0) (13 + 6 * n) 0) 0 (nI (n + 1))) := by
  refine row_person hR (fun i hi => by simp (disch := omega) only [gI_def, pI_s, pI_o, cI_s, cI_o, pL_1, pR_1, up_eq, up_ne]) (fun i hi => by simp (disch := omega) only [gI_def, pI_s, pI_o, cI_s, cI_o, pL_1, pR_1, up_eq, up_ne]) (by simp (disch := omega) only [gI_def, pI_s, pI_o, cI_s, cI_o, pL_1, pR_1, up_eq, up_ne]) (by simp (disch := omega) only [gI_def, pI_s, pI_o, cI_s, cI_o, pL_1, pR_1, up_eq, up_ne]; exact ⟨n + 1, by omega, rfl⟩) ?_ ?_ ?_ ?_
  · intro p h5 hp
    simp (disch := omega) only [gI_def, pI_s, pI_o, cI_s, cI_o, pL_1, pR_1, up_eq, up_ne] at hp
    rw [nN_nI (by omega)] at hp
    by_cases e : p = n
    · subst e
      simp (disch := omega) only [gI_def, pI_s, pI_o, cI_s, cI_o, pL_1, pR_1, up_eq, up_ne]
      exact ⟨⟨trivial, trivial, trivial, trivial⟩, ⟨c, by omega, rfl⟩, hv1, ⟨0, by decide, rfl⟩, ⟨0, by decide, rfl⟩, ⟨c, by omega, rfl⟩, hv1⟩
    · simp (disch := omega) only [gI_def, pI_s, pI_o, cI_s, cI_o, pL_1, pR_1, up_eq, up_ne]
      exact hR.2.2.1 p h5 (by omega)
  · refine hR.2.2.2.2.2.2.1.congr (fun i _ hi => by simp (disch := omega) only [gI_def, pI_s, pI_o, cI_s, cI_o, pL_1, pR_1, up_eq, up_ne]) ?_ (by simp (disch := omega) only [gI_def, pI_s, pI_o, cI_s, cI_o, pL_1, pR_1, up_eq, up_ne]) (fun i _ hi => by simp (disch := omega) only [gI_def, pI_s, pI_o, cI_s, cI_o, pL_1, pR_1, up_eq, up_ne])
    simp (disch := omega) only [gI_def, pI_s, pI_o, cI_s, cI_o, pL_1, pR_1, up_eq, up_ne]
    rw [nN_nI (by omega)]; omega
  · refine hR.2.2.2.2.2.2.2.2.1.congr (by simp (disch := omega) only [gI_def, pI_s, pI_o, cI_s, cI_o, pL_1, pR_1, up_eq, up_ne]) ?_ (by simp (disch := omega) only [gI_def, pI_s, pI_o, cI_s, cI_o, pL_1, pR_1, up_eq, up_ne]) (fun i _ hi => by simp (disch := omega) only [gI_def, pI_s, pI_o, cI_s, cI_o, pL_1, pR_1, up_eq, up_ne]) (fun i _ hi => by simp (disch := omega) only [gI_def, pI_s, pI_o, cI_s, cI_o, pL_1, pR_1, up_eq, up_ne])
    simp (disch := omega) only [gI_def, pI_s, pI_o, cI_s, cI_o, pL_1, pR_1, up_eq, up_ne]
    rw [nN_nI (by omega)]; omega
  · obtain ⟨t1, t2, t3⟩ := hR.2.2.2.2.2.2.2.2.2
    have hs := hR.2.2.2.2.2.2.2.2.1
    refine ⟨fun i p hi hj h5 hx hz => ?_, fun i p hi hj h5 hx hz => ?_, fun i hi hj => ?_⟩
    · simp (disch := omega) only [gI_def, pI_s, pI_o, cI_s, cI_o, pL_1, pR_1, up_eq, up_ne] at hj hx hz
      have hb1 := (hs (i + 1) (by omega) (by omega)).2.1.2.1
      rw [show 193 + 115 * (i + 1) = 308 + 115 * i by omega] at hb1
      simp (disch := omega) only [gI_def, pI_s, pI_o, cI_s, cI_o, pL_1, pR_1, up_eq, up_ne]
      exact t1 i p hi hj h5 hx hz
    · simp (disch := omega) only [gI_def, pI_s, pI_o, cI_s, cI_o, pL_1, pR_1, up_eq, up_ne] at hj hx hz
      rw [nN_nI (by omega)] at hz
      by_cases e : p = n
      · subst e
        simp (disch := omega) only [gI_def, pI_s, pI_o, cI_s, cI_o, pL_1, pR_1, up_eq, up_ne]
        exact ⟨trivial, trivial, trivial, trivial⟩
      · simp (disch := omega) only [gI_def, pI_s, pI_o, cI_s, cI_o, pL_1, pR_1, up_eq, up_ne]
        exact t2 i p hi hj h5 hx (by omega)
    · simp (disch := omega) only [gI_def, pI_s, pI_o, cI_s, cI_o, pL_1, pR_1, up_eq, up_ne] at hj ⊢
      exact t3 i hi hj
theorem act_person (x : Int32) : ActP NumP T w q (wp_X11_person x 1) (wp_X12_person x 1) := by
  intro r a hR hT _
  have hL := hR.liv
  have hO := hL.2.2.2.opn
  obtain ⟨n, hn, e1, e2, e3⟩ := hL.ppl
  by_cases ok : (∃ c, c < 30 ∧ x = nI c ∧ hb (opn a) c = true) ∧ n < 5
  · obtain ⟨⟨c, hc, rfl, ho⟩, h5⟩ := ok
    refine ⟨nI n, Or.inr ⟨n, by omega, rfl⟩, up (up (up (up (up r n (nI c)) (5 + n) 1) (10 + n) 0) (15 + n) 0) 84 (nI (n + 1)), up (up (up (up (up (up (up a (14 + 6 * n) (nI c)) (15 + 6 * n) 1) (10 + 6 * n) (nI c)) (11 + 6 * n) 1) (12 + 6 * n) 0) (13 + 6 * n) 0) 0 (nI (n + 1)), row_person1 hR h5 hc ⟨1, by decide, rfl⟩ e3, by simp (disch := omega) only [gI_def, pI_s, pI_o, cI_s, cI_o, pL_1, pR_1, up_eq, up_ne], fun u K e hC hK => ?_, fun u K e hw hC hK => ?_⟩
    · subst e
      intro x1 ex
      rw [gI_def, e2] at ex
      subst ex
      refine isOpenX (b := 0) hO (fun d hd e h => ⟨fun q => absurd q (by decide), fun _ => ⟨fun _ => ?_, fun q => absurd (nI_lt (b := 5) h5 (by decide)) q⟩⟩) (fun h => by rw [h c hc rfl] at ho; exact Bool.noConfusion ho)
      rw [zadd, q_vp (by omega) (by omega), q_cl (by omega)]
      refine ⟨by omega, fun z4 e4 => ?_⟩
      refine ⟨fun q => absurd q (by decide), fun _ => ?_⟩
      unfold wj_X11_person_51
      simp (disch := omega) only [q_lit, nI_add, pk_mul, q_sub, q_rem, q_div, q_vp, q_cl, q_lt, q_le, q_eq, q_neg1, gI_def]
      refine ⟨by omega, fun z5 e5 => ⟨by omega, fun z6 e6 => ⟨by omega, fun z7 e7 z8 e8 => hK z8 (fun j h1 h2 => ?_) ?_⟩⟩⟩
      · rw [e8, e7, e6, e5, e4]; simp (disch := omega) only [gI_def, pI_s, pI_o, cI_s, cI_o, pL_1, pR_1]
      · rw [e8, e7, e6, e5, e4]; simp (disch := omega) only [gI_def, pI_s, pI_o, cI_s, cI_o, pL_1, pR_1]; rfl
    · subst e
      refine isFreeM (r := r) (fun d hd e h => ⟨fun q => absurd q (by decide), fun _ => ?_⟩) (fun h => by have h := h c hc rfl; rw [ho] at h; exact Bool.noConfusion h)
      rw [gI_def, e1]
      refine ⟨fun _ x3 e3 => ?_, fun q => by rw [show (5 : Int32) = nI 5 from rfl, q_eq (by omega) (by omega)] at q; omega⟩
      subst e3
      refine putM (o := 4) (by omega) (by decide) ⟨fun q => absurd q (by decide), fun _ => putM (o := 5) (by omega) (by decide) (beginM (by omega) (fun z hz => hK z ?_ ?_))⟩
      · rw [hz]; unfold beg
        exact (((((((FrA.refl u).put _ _).put _ _).put _ _).put _ _).put _ _).put _ _).put _ _ |>.r
      · rw [hz, show 10 + 6 * n + 4 = 14 + 6 * n by omega, show 10 + 6 * n + 5 = 15 + 6 * n by omega]
        unfold beg
        simp (disch := omega) only [gI_def, pI_s, pI_o, cI_s, cI_o, pL_1, pR_1, up_eq, up_ne, e1, nI_1]
  · refine act_no T w q hR (-1) (Or.inl rfl) (fun u K e hK => ?_) (fun u K e hK => ?_)
    · subst e
      intro x1 ex
      rw [gI_def, e2] at ex
      subst ex
      refine isOpenX (b := 0) hO (fun d hd e h => ⟨fun q => absurd q (by decide), fun _ => ⟨fun q => ?_, fun _ => hK⟩⟩) (fun h => ⟨fun _ => hK, fun q => absurd rfl q⟩)
      rw [show (5 : Int32) = nI 5 from rfl, q_lt (by omega) (by omega)] at q
      exact absurd ⟨⟨d, hd, e, h⟩, q⟩ ok
    · subst e
      refine isFreeM (r := r) (fun d hd e h => ⟨fun q => absurd q (by decide), fun _ => ⟨fun q => ?_, fun _ => hK⟩⟩) (fun h => ⟨fun _ => hK, fun q => absurd rfl q⟩)
      rw [gI_def, e1, show (5 : Int32) = nI 5 from rfl, q_eq (by omega) (by omega)] at q
      exact absurd ⟨⟨d, hd, e, h⟩, by omega⟩ ok
theorem act_draw : ActP NumP T w q wp_X11_draw wp_X12_draw := by
  intro r a hR hT _
  have hL := hR.liv
  obtain ⟨n, hn, e1, e2, e3⟩ := hL.ppl
  obtain ⟨s, hs, es⟩ := hR.st
  obtain ⟨m, hm, em⟩ := hL.2.1.2.2.2.2.2.1
  have em' : r 52 = nI m := by rw [hL.1.2.2.2.2, em]
  by_cases h0 : 0 < n
  · have hmn : m % n < n := Nat.mod_lt _ h0
    obtain ⟨hK1, hK2⟩ := row_keep hR
    obtain ⟨hX1, hX2⟩ := row_x hK1 hK2 (v := nI (nx m)) ⟨nx m, nx_le m, rfl⟩
    have N0 : nN (up (keepA a) 8 (nI (nx m)) 0) = n := by rw [up_ne (by decide), kp_lo hR (by decide) (by decide)]; exact e3
    obtain ⟨D1, D2, D3, D4, D5⟩ := row_dr hX1 hX2 (m % n) n (by omega)
    refine ⟨nI (m % n), Or.inr ⟨m % n, by omega, rfl⟩, drR (up (remR r (nN (r 184)) (nN (a 3))) 52 (nI (nx m))) (m % n) n, drA (up (keepA a) 8 (nI (nx m))) (m % n) n, D1, by rw [D4, up_ne (by decide)]; exact kp_lo hR (by decide) (by decide), fun u K e hC hK => ?_, fun u K e hw hC hK => ?_⟩
    · subst e
      intro x1 ex
      rw [gI_def, e2] at ex
      subst ex
      refine ⟨fun _ => remX hR (fun z h1 h2 => nextX (b := 0) hm (by rw [h2, remR_out (by decide)]; exact em') ⟨nI_ne0 h0 (by omega), fun x6 e6 => ?_⟩), fun q => absurd (nI_lt (a := 0) h0 (by omega)) q⟩
      rw [q_rem (by omega) h0 (by omega)] at e6
      subst e6
      refine ⟨n + 1, ?_⟩
      have lp : ∀ k p, p + k = n → ∀ z' : PoS, (∀ j, j ≠ 3 → z'.1 j = u.1 j) → z'.1 3 = drR (up (remR (u.1 3) (nN (u.1 3 184)) (nN (a 3))) 52 (nI (nx m))) (m % n) p → wl_X11_draw_30 K (k + 1) (nI n) (nI (m % n)) (nI p) z' := by
        intro k
        induction k with
        | zero => intro p hp z' f g
                  rw [wl_X11_draw_30]
                  exact ⟨fun _ => hK _ (fun j h1 _ => f j h1) (by rw [g, show p = n by omega]), fun q => absurd (nI_le (show n ≤ p by omega) (by omega)) q⟩
        | succ k ih =>
          intro p hp z' f g
          rw [wl_X11_draw_30, q_le (by omega) (by omega), q_eq (by omega) (by omega)]
          refine ⟨fun q => by omega, fun _ => ⟨fun q => ?_, fun q => ?_⟩⟩
          · unfold wj_X11_draw_52
            rw [show (5 : Int32) + nI p = nI (5 + p) by simp (disch := omega) only [q_lit, nI_add, pk_mul, q_sub, q_rem, q_div, q_vp, q_cl, q_lt, q_le, q_eq, q_neg1, gI_def], q_vp (by omega) (by omega), q_cl (by omega), nI_1]
            refine ⟨by omega, fun z7 e7 => ih (p + 1) (by omega) z7 (fun j hj => by rw [e7]; simp (disch := omega) only [gI_def, pI_s, pI_o, cI_s, cI_o, pL_1, pR_1]; exact f j hj) ?_⟩
            rw [e7]; simp (disch := omega) only [gI_def, pI_s, pI_o, cI_s, cI_o, pL_1, pR_1]; rw [g, drR, if_neg q]
          · unfold wj_X11_draw_52
            rw [show (5 : Int32) + nI p = nI (5 + p) by simp (disch := omega) only [q_lit, nI_add, pk_mul, q_sub, q_rem, q_div, q_vp, q_cl, q_lt, q_le, q_eq, q_neg1, gI_def], q_vp (by omega) (by omega), q_cl (by omega), nI_1]
            refine ⟨by omega, fun z7 e7 => ih (p + 1) (by omega) z7 (fun j hj => by rw [e7]; simp (disch := omega) only [gI_def, pI_s, pI_o, cI_s, cI_o, pL_1, pR_1]; exact f j hj) ?_⟩
            rw [e7]; simp (disch := omega) only [gI_def, pI_s, pI_o, cI_s, cI_o, pL_1, pR_1]; rw [g, drR, if_pos q]
      exact lp n 0 (Nat.zero_add n) _ (fun j hj => by simp (disch := omega) only [gI_def, pI_s, pI_o, cI_s, cI_o, pL_1, pR_1]; exact h1 j hj) (by simp (disch := omega) only [gI_def, pI_s, pI_o, cI_s, cI_o, pL_1, pR_1]; rw [h2]; rfl)
    · subst e
      refine ⟨fun _ => keepM hs es (fun z f g => ?_), fun q => ?_⟩
      · have g0 : z.1 49 0 = nI n := by rw [g, kp_lo hR (by decide) (by decide), e1]
        rw [gI_def, g0]
        refine drawnM hm h0 (by omega) (by rw [g, kp_lo hR (by decide) (by decide)]; exact em) ⟨n + 1, ?_⟩
        have lp : ∀ k p, p + k = n → ∀ z' : PoS, FrA u z' → z'.1 49 = drA (up (keepA (u.1 49)) 8 (nI (nx m))) (m % n) p → wl_X12_draw_28 K (k + 1) (nI (m % n)) (nI p) z' := by
          intro k
          induction k with
          | zero => intro p hp z' f' g'
                    obtain rfl : p = n := by omega
                    rw [wl_X12_draw_28, gI_def, g', D3, up_ne (by decide), kp_lo hR (by decide) (by decide), e1]
                    exact ⟨fun _ => hK _ f'.r g', fun q => absurd (nI_le (Nat.le_refl p) (by omega)) q⟩
          | succ k ih =>
            intro p hp z' f' g'
            have D3' : drA (up (keepA (u.1 49)) 8 (nI (nx m))) (m % n) p 0 = nI n := by
              have := (row_dr hX1 hX2 (m % n) p (by omega)).2.2.1
              rw [this, up_ne (by decide), kp_lo hR (by decide) (by decide), e1]
            rw [wl_X12_draw_28, gI_def, g', D3', q_le (by omega) (by omega), q_eq (by omega) (by omega)]
            refine ⟨fun q => by omega, fun _ => ⟨fun q => ?_, fun q => ?_⟩⟩
            · refine putM (o := 1) (by omega) (by decide) ?_
              rw [nI_1]
              refine ih (p + 1) (by omega) _ (f'.put _ _) ?_
              simp (disch := omega) only [gI_def, pI_s, pI_o, cI_s, cI_o, pL_1, pR_1]
              rw [g', drA, if_neg q, show 10 + 6 * p + 1 = 11 + 6 * p by omega]
            · refine putM (o := 1) (by omega) (by decide) ?_
              rw [nI_1]
              refine ih (p + 1) (by omega) _ (f'.put _ _) ?_
              simp (disch := omega) only [gI_def, pI_s, pI_o, cI_s, cI_o, pL_1, pR_1]
              rw [g', drA, if_pos q, show 10 + 6 * p + 1 = 11 + 6 * p by omega]
        exact lp n 0 (Nat.zero_add n) _ (f.put _ _) (by simp (disch := omega) only [gI_def, pI_s, pI_o, cI_s, cI_o, pL_1, pR_1]; rw [g]; rfl)
      · rw [gI_def, e1, show (0 : Int32) = nI 0 from rfl, q_eq (by omega) (by omega)] at q; omega
  · refine act_no T w q hR (-1) (Or.inl rfl) (fun u K e hK => ?_) (fun u K e hK => ?_)
    · subst e
      intro x1 ex
      rw [gI_def, e2, show n = 0 by omega] at ex
      exact ⟨fun q => by rw [ex] at q; exact absurd q (by decide), fun _ => hK⟩
    · subst e
      exact ⟨fun q => absurd (by rw [gI_def, e1, show n = 0 by omega]; rfl) q, fun _ => hK⟩
end ACTS
