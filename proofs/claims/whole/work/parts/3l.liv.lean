/-! THE LIVING PART of a row, and ofCell, person, shed -/
def Liv (ρ a : Nat → Int32) : Prop := (ρ 84 = a 0 ∧ ρ 116 = a 2 ∧ ρ 51 = a 6 ∧ ρ 50 = a 7 ∧ ρ 52 = a 8) ∧ (Sm 5 (a 0) ∧ Sm 4 (a 1) ∧ (a 2 = -1 ∨ ∃ t, t < nN (a 1) ∧ a 2 = nI t) ∧ Sm 9999 (a 6) ∧ Sm 29 (a 7) ∧ Sm 30670 (a 8) ∧ Sm 30 (ρ 53)) ∧ Peo ρ a ∧ Cels ρ a
theorem RowOk.liv {r a : Nat → Int32} (h : RowOk r a) : Liv r a := by
  obtain ⟨⟨e0, e1, e2, e3, e4, e5, e6, e7, e8, e9⟩, ⟨b0, b1, b2, b3, b4, b5, b6, b7, b8, b9, b10⟩, h3, h4, -⟩ := h
  exact ⟨⟨e0, e2, e6, e7, e8⟩, ⟨b0, b1, b2, b6, b7, b8, by rw [e9]; exact b9⟩, h3, h4⟩
theorem Liv.ppl {ρ a : Nat → Int32} (h : Liv ρ a) : ∃ n, n ≤ 5 ∧ a 0 = nI n ∧ ρ 84 = nI n ∧ nN (a 0) = n := by
  obtain ⟨n, hn, e⟩ := h.2.1.1
  exact ⟨n, hn, e, by rw [h.1.1, e], by rw [e, nN_nI (by omega)]⟩
theorem Liv.per {r a : Nat → Int32} (h : Liv r a) {p : Nat} (hp : p < nN (a 0)) : ∃ c w t b : Nat, c ≤ 29 ∧ w ≤ 1 ∧ t ≤ 99 ∧ b ≤ 999 ∧ p < 5 ∧ a (10 + 6 * p) = nI c ∧ r p = nI c ∧ a (11 + 6 * p) = nI w ∧ r (5 + p) = nI w ∧ a (12 + 6 * p) = nI t ∧ r (10 + p) = nI t ∧ a (13 + 6 * p) = nI b ∧ r (15 + p) = nI b := by
  obtain ⟨n, hn, e1, e2, e3⟩ := h.ppl
  obtain ⟨⟨f1, f2, f3, f4⟩, ⟨c, hc, g1⟩, ⟨w, hw, g2⟩, ⟨t, ht, g3⟩, ⟨b, hb, g4⟩, -⟩ := h.2.2.1 p (by omega) hp
  exact ⟨c, w, t, b, hc, hw, ht, hb, by omega, g1, by rw [f1, g1], g2, by rw [f2, g2], g3, by rw [f3, g3], g4, by rw [f4, g4]⟩
/-- the PEOPLE in the CELL x -/
def plB (a : Nat → Int32) (x : Int32) : Nat → Int32
  | 0 => 0
  | p + 1 => if a (10 + 6 * p) = x then plB a x p ||| bt1 p else plB a x p
theorem rl_in' {b k : Nat} {x : Int32} (hk : k < 117) (hx : x = nI k) : vp_in x (rowLen b) := by rw [hx]; exact rl_in hk
theorem peopleX {b : Nat} {a : Nat → Int32} {u : PoS} (h : Liv (u.1 (3 + b)) a) {x : Int32} {post : Int32 → PoS → Prop} (K : post (plB a x (nN (a 0))) u) : wp_X8_peopleIn b x u post := by
  obtain ⟨n, hn, e1, e2, e3⟩ := h.ppl
  refine ⟨n + 1, ?_⟩
  have : ∀ k p, p + k = n → wl_X8_peopleIn_4 b post (k + 1) x (plB a x p) (nI p) u := by
    intro k
    induction k with
    | zero => intro p hp
              rw [wl_X8_peopleIn_4, gI_def, e2]
              refine ⟨rl_in (k := 84) (by decide), fun _ => ?_, fun q => absurd (nI_le (show n ≤ p by omega) (by omega)) q⟩
              rw [show p = nN (a 0) by omega]; exact K
    | succ k ih =>
      intro p hp
      have ih := ih (p + 1) (by omega)
      rw [plB] at ih
      obtain ⟨c, w, t, b', hc, hw, ht, hb, h5, g1, g2, -⟩ := h.per (show p < nN (a 0) by omega)
      rw [wl_X8_peopleIn_4]
      have e0 : (0 : Int32) + nI p = nI p := by rw [show (0 : Int32) = nI 0 from rfl, nI_add, Nat.zero_add]
      rw [e0, gI_def, gI_def, e2, q_le (by omega) (by omega), q_cl (by omega), g2, ← g1]
      refine ⟨rl_in (k := 84) (by decide), fun q => by omega, fun _ => ⟨rl_in (by omega), fun q => ?_, fun q x1 ex => ?_⟩⟩
      · unfold wj_X8_peopleIn_33; rw [nI_1]; rw [if_neg q] at ih; exact ih
      · unfold wj_X8_peopleIn_33; rw [nI_1, ex]; rw [if_pos q] at ih; exact ih
  exact this n 0 (Nat.zero_add n)
theorem peopleM {ρ : Nat → Int32} {u : PoS} (h : Liv ρ (u.1 49)) {x : Int32} {post : Int32 → PoS → Prop} (K : post (plB (u.1 49) x (nN (u.1 49 0))) u) : wp_X12_peopleAt x u post := by
  obtain ⟨n, hn, e1, e2, e3⟩ := h.ppl
  refine ⟨n + 1, ?_⟩
  have : ∀ k p, p + k = n → wl_X12_peopleAt_4 post (k + 1) x (plB (u.1 49) x p) (nI p) u := by
    intro k
    induction k with
    | zero => intro p hp
              rw [wl_X12_peopleAt_4, gI_def, e1]
              refine ⟨fun _ => ?_, fun q => absurd (nI_le (show n ≤ p by omega) (by omega)) q⟩
              rw [show p = nN (u.1 49 0) by omega]; exact K
    | succ k ih =>
      intro p hp
      have ih := ih (p + 1) (by omega)
      rw [plB] at ih
      rw [wl_X12_peopleAt_4, gI_def, e1, q_le (by omega) (by omega)]
      refine ⟨fun q => by omega, fun _ => getM (o := 0) (by omega) (by decide) ⟨fun q x3 e3 => ?_, fun q x3 e3 => ?_⟩⟩
      · rw [Nat.add_zero] at q; rw [if_neg q] at ih; rw [e3, nI_1, Int32.or_zero]; exact ih
      · rw [Nat.add_zero] at q; rw [if_pos q] at ih; rw [e3, nI_1]; exact ih
  exact this n 0 (Nat.zero_add n)
theorem ob_ofCell (LT : Nat → PoS → Prop) (x y : Int32) : Ob32 (wp_X11_ofCell x y) (wp_X12_ofCell x y) (Inv LT) := by
  intro u hI
  have hR := hI.1
  have hL := hR.liv
  rcases rng 29 (by decide) x with ⟨c, hc, rfl⟩ | hx
  · obtain ⟨n, w, hn, hw, e1, e2, e3, e4, e5⟩ := lk_of hR (show c < 30 by omega)
    have hsh : u.1 49 (100 + c) = 0 ∨ u.1 49 (100 + c) = 1 := by
      obtain ⟨s, hs, es⟩ := (hR.2.2.2.1.1 c (by omega)).2.2.2.2
      rw [es]
      rcases (show s = 0 ∨ s = 1 by omega) with rfl | rfl
      · exact Or.inl rfl
      · exact Or.inr rfl
    have hF : ∃ F : Int32, F = if y = 0 then nI n else if y = 1 then nI w else if y = 2 then u.1 49 (100 + c) else if y = 3 then plB (u.1 49) (nI c) (nN (u.1 49 0)) else -1 := ⟨_, rfl⟩
    obtain ⟨F, hF⟩ := hF
    refine ⟨fun r u1 => r = F ∧ u1 = u, fun K hK => ?_, fun r u1 hr K hK => ?_⟩
    · have hK := hK _ _ ⟨rfl, rfl⟩
      refine cellX_t (by omega) ⟨fun _ => ⟨fun q => ?_, fun q => ?_, fun q => ?_, fun q => ?_, fun q0 q1 q2 q3 => ?_⟩, fun q => absurd q (by decide)⟩
      · rw [show (86 : Int32) + nI c = nI (86 + c) by simp (disch := omega) only [q_lit, nI_add, pk_mul, q_sub, q_rem, q_div, q_vp, q_cl, q_lt, q_le, q_eq, q_neg1, gI_def], q_vp (by omega) (by omega), q_cl (by omega), gI_def, e2]
        rw [if_pos q] at hF; rw [hF] at hK; exact ⟨by omega, hK⟩
      · rw [show (20 : Int32) + nI c = nI (20 + c) by simp (disch := omega) only [q_lit, nI_add, pk_mul, q_sub, q_rem, q_div, q_vp, q_cl, q_lt, q_le, q_eq, q_neg1, gI_def], q_vp (by omega) (by omega), q_cl (by omega), gI_def, e4]
        rw [if_neg (by rw [q]; decide), if_pos q] at hF; rw [hF] at hK; exact ⟨by omega, hK⟩
      · rw [if_neg (by rw [q]; decide), if_neg (by rw [q]; decide), if_pos q] at hF
        refine isOpenX (b := 0) hL.2.2.2.opn (fun d hd e h => ⟨fun q => absurd q (by decide), fun _ => ?_⟩) (fun h => ⟨fun _ => ?_, fun q => absurd rfl q⟩)
        · obtain rfl : c = d := (nI_eq (by omega) (by omega)).mp e
          rw [((opn_hb _ c).mp h).2] at hF; rw [hF] at hK; exact hK
        · rcases hsh with z | z
          · have := h c (by omega) rfl
            rw [(opn_hb _ c).mpr ⟨by omega, z⟩] at this; exact Bool.noConfusion this
          · rw [z] at hF; rw [hF] at hK; exact hK
      · rw [if_neg (by rw [q]; decide), if_neg (by rw [q]; decide), if_neg (by rw [q]; decide), if_pos q] at hF
        exact peopleX (b := 0) hL (by rw [hF] at hK; exact hK)
      · rw [if_neg q0, if_neg q1, if_neg q2, if_neg q3] at hF; rw [hF] at hK; exact hK
    · obtain ⟨rfl, rfl⟩ := hr
      have hK := hK _ hI
      refine cellM_t (by omega) ⟨fun _ => ⟨fun q0 => ⟨fun q1 => ⟨fun q2 => ⟨fun q3 => ?_, fun q3 => ?_⟩, fun q2 => ?_⟩, fun q1 => ?_⟩, fun q0 => ?_⟩, fun q => absurd q (by decide)⟩
      · rw [if_neg q0, if_neg q1, if_neg q2, if_neg q3] at hF; rw [hF] at hK; exact hK
      · rw [if_neg q0, if_neg q1, if_neg q2, if_pos q3] at hF
        exact peopleM hL (by rw [hF] at hK; exact hK)
      · rw [show (100 : Int32) + nI c = nI (100 + c) by simp (disch := omega) only [q_lit, nI_add, pk_mul, q_sub, q_rem, q_div, q_vp, q_cl, q_lt, q_le, q_eq, q_neg1, gI_def], q_vp (by omega) (by omega), q_cl (by omega), gI_def]
        rw [if_neg q0, if_neg q1, if_pos q2] at hF; rw [hF] at hK; exact ⟨by omega, hK⟩
      · rw [show (40 : Int32) + nI c = nI (40 + c) by simp (disch := omega) only [q_lit, nI_add, pk_mul, q_sub, q_rem, q_div, q_vp, q_cl, q_lt, q_le, q_eq, q_neg1, gI_def], q_vp (by omega) (by omega), q_cl (by omega), gI_def, e3]
        rw [if_neg q0, if_pos q1] at hF; rw [hF] at hK; exact ⟨by omega, hK⟩
      · rw [show (70 : Int32) + nI c = nI (70 + c) by simp (disch := omega) only [q_lit, nI_add, pk_mul, q_sub, q_rem, q_div, q_vp, q_cl, q_lt, q_le, q_eq, q_neg1, gI_def], q_vp (by omega) (by omega), q_cl (by omega), gI_def, e1]
        rw [if_pos q0] at hF; rw [hF] at hK; exact ⟨by omega, hK⟩
  · refine ⟨fun r u1 => r = -1 ∧ u1 = u, fun K hK => cellX_f hx ⟨fun q => absurd rfl q, fun _ => hK _ _ ⟨rfl, rfl⟩⟩, fun r u1 hr K hK => ?_⟩
    obtain ⟨rfl, rfl⟩ := hr
    exact cellM_f hx ⟨fun q => absurd rfl q, fun _ => hK _ hI⟩
/-! shed -/
theorem row_shed {r a r' a' : Nat → Int32} (h : RowOk r a) (hr : ∀ i, ¬ (i = 85) → r' i = r i) (ha : ∀ i, ¬ (100 ≤ i ∧ i < 130) → a' i = a i) (cCels : Cels r' a') : RowOk r' a' := by
  obtain ⟨h1, h2, h3, h4, h5, h6, h7, h8, h9, h10⟩ := h
  exact ⟨h1.congr (fun i hi => hr _ (by omega)) (fun i hi => ha _ (by omega)), h2.congr (hr _ (by omega)) (fun i hi => ha _ (by omega)), h3.congr (fun i hi => hr _ (by omega)) (ha _ (by omega)) (fun i _ hi => ha _ (by omega)), cCels, h5.congr (fun i _ hi => hr _ (by omega)) (fun i _ hi => ha _ (by omega)), h6.congr (fun i _ hi => hr _ (by omega)) (ha _ (by omega)) (fun i _ hi => ha _ (by omega)), h7.congr (fun i _ hi => hr _ (by omega)) (by rw [ha _ (by omega)]; exact Nat.le_refl _) (ha _ (by omega)) (fun i _ hi => ha _ (by omega)), h8.congr (fun i _ hi => hr _ (by omega)) (ha _ (by omega)) (fun i _ hi => ha _ (by omega)), h9.congr (hr _ (by omega)) (by rw [ha _ (by omega)]; exact Nat.le_refl _) (ha _ (by omega)) (fun i _ hi => hr _ (by omega)) (fun i _ hi => ha _ (by omega)), h10.congr (ha _ (by omega)) (ha _ (by omega)) (fun i _ hi => ha _ (by omega)) (fun i _ hi => ha _ (by omega))⟩

theorem nI_tn (x : Int32) : nI x.toBitVec.toNat = x := hb_ext (fun c _ => by rw [hb_tn, pk_tn x.toBitVec.isLt, hb_tn])
theorem S30_lt {x : Int32} (h : S30 x) : x.toBitVec.toNat < 2 ^ 30 := Nat.lt_pow_two_of_testBit _ (fun i hi => h i hi)
theorem ob_shed {LT : Nat → PoS → Prop} (hLT : LTok LT) (x y : Int32) (hy : IsB y) : Ob32 (wp_X11_shed x y) (wp_X12_shed x y) (Inv LT) := by
  intro u hI
  have hR := hI.1
  have hL := hR.liv
  have hO := hL.2.2.2.opn
  rcases rng 29 (by decide) x with ⟨c, hc, rfl⟩ | hx
  · have hF : ∃ f : Int32, f = if hb (opn (u.1 49)) c = true then 1 else 0 := ⟨_, rfl⟩
    obtain ⟨f, hF⟩ := hF
    have xo : ∀ (K : Int32 → PoS → Prop), K f u → wp_X8_isOpen 0 (nI c) u K := fun K hK => isOpenX (b := 0) hO (fun d hd e h => by
      obtain rfl : c = d := (nI_eq (by omega) (by omega)).mp e
      rw [if_pos h] at hF; rw [hF] at hK; exact hK) (fun h => by
      rw [if_neg (by rw [h c (by omega) rfl]; decide)] at hF; rw [hF] at hK; exact hK)
    have mo : ∀ (v : PoS) (K : Int32 → PoS → Prop), v.1 49 = u.1 49 → K f v → wp_X12_isFree (nI c) v K := fun v K e49 hK => isFreeM (r := v.1 49) (fun d hd e h => by
      obtain rfl : c = d := (nI_eq (by omega) (by omega)).mp e
      rw [e49] at h
      rw [if_pos h] at hF; rw [hF] at hK; exact hK) (fun h => by
      have h := h c (by omega) rfl
      rw [e49] at h
      rw [if_neg (by rw [h]; decide)] at hF; rw [hF] at hK; exact hK)
    by_cases ok : y = f ∧ ¬ u.1 49 7 = nI c ∧ plB (u.1 49) (nI c) (nN (u.1 49 0)) = 0
    · obtain ⟨ok1, ok2, ok3⟩ := ok
      have ok2' : ¬ u.1 3 50 = nI c := by rw [hL.1.2.2.2.1]; exact ok2
      refine ⟨fun r u1 => r = 1 ∧ u1 = pI u 3 85 (u.1 3 85 ^^^ bt1 c), fun K hK => ?_, fun r u1 hr K hK => ?_⟩
      · exact cellX_t (by omega) ⟨fun q => absurd q (by decide), fun _ => xo _ ⟨fun q => absurd ok1 q, fun _ => ⟨fun q => absurd q ok2', fun _ => peopleX (b := 0) hL ⟨fun _ z hz => hK _ _ ⟨rfl, hz⟩, fun q => absurd ok3 q⟩⟩⟩⟩
      · obtain ⟨rfl, rfl⟩ := hr
        have e49 : (pI u 3 85 (u.1 3 85 ^^^ bt1 c)).1 49 = u.1 49 := by simp (disch := omega) only [gI_def, pI_s, pI_o, cI_s, cI_o, pL_1, pR_1]
        have hL' : Liv (u.1 3) ((pI u 3 85 (u.1 3 85 ^^^ bt1 c)).1 49) := by rw [e49]; exact hL
        have fin : ∀ v : Int32, (v = 0 ∨ v = 1) → (v = 0 ↔ ¬ hb (opn (u.1 49)) c = true) → (v = y) → wj_X12_shed_54 K v (100 + nI c) (pI u 3 85 (u.1 3 85 ^^^ bt1 c)) := by
          intro v hv hv2 hvy
          unfold wj_X12_shed_54
          rw [show (100 : Int32) + nI c = nI (100 + c) by simp (disch := omega) only [q_lit, nI_add, pk_mul, q_sub, q_rem, q_div, q_vp, q_cl, q_lt, q_le, q_eq, q_neg1, gI_def], q_vp (by omega) (by omega), q_cl (by omega)]
          refine ⟨by omega, fun z hz => hK z (inv_row hLT hI ?_ ?_ ?_ ?_)⟩
          · subst hz
            simp (disch := omega) only [gI_def, pI_s, pI_o, cI_s, cI_o, pL_1, pR_1]
            refine row_shed hR (fun i hi => by simp (disch := omega) only [gI_def, pI_s, pI_o, cI_s, cI_o, pL_1, pR_1, up_eq, up_ne]) (fun i hi => by simp (disch := omega) only [gI_def, pI_s, pI_o, cI_s, cI_o, pL_1, pR_1, up_eq, up_ne]) ?_
            obtain ⟨g1, m, hm, g2, g3⟩ := hR.2.2.2.1
            have h85 : S30 (u.1 3 85 ^^^ bt1 c) := fun d hd => by
              rw [hb_xor, g2, hb_tn, pk_tn (by omega), Nat.testBit_lt_two_pow (Nat.lt_of_lt_of_le hm (Nat.pow_le_pow_right (by decide) hd)), bt1_30 (by omega) d hd]; rfl
            refine ⟨fun d hd => ?_, _, S30_lt h85, by rw [up_eq, nI_tn], fun d hd => ?_⟩
            · obtain ⟨q1, q2, q3, q4, q5⟩ := g1 d hd
              simp (disch := omega) only [gI_def, pI_s, pI_o, cI_s, cI_o, pL_1, pR_1, up_eq, up_ne]
              refine ⟨q1, q2, q3, q4, ?_⟩
              by_cases e : d = c
              · rw [e, up_eq]
                rcases hv with z | z
                · exact ⟨0, by decide, z⟩
                · exact ⟨1, by decide, z⟩
              · rw [up_ne (by omega)]; exact q5
            · rw [← hb_tn, hb_xor]
              by_cases e : d = c
              · subst e
                rw [up_eq, (bt1_hb (by omega) d).mpr rfl]
                cases e85 : hb (u.1 3 85) d
                · have : hb (opn (u.1 49)) d = true := (opn_hb _ d).mpr ⟨by omega, (hO.zero (by omega)).mp e85⟩
                  refine ⟨fun _ => ?_, fun _ => rfl⟩
                  rcases hv with z | z
                  · exact absurd this (hv2.mp z)
                  · exact z
                · have : ¬ hb (opn (u.1 49)) d = true := fun q => by
                    have := (hO.zero (by omega)).mpr ((opn_hb _ d).mp q).2
                    rw [e85] at this; exact Bool.noConfusion this
                  refine ⟨fun h => Bool.noConfusion h, fun h => ?_⟩
                  rw [hv2.mpr this] at h; exact absurd h (by decide)
              · have hx : hb (bt1 c) d = false := by
                  cases e2 : hb (bt1 c) d
                  · rfl
                  · exact absurd ((bt1_hb (by omega) d).mp e2) e
                rw [hx, Bool.xor_false, up_ne (by omega), g2, hb_tn, pk_tn (by omega)]
                exact g3 d hd
          · subst hz; simp (disch := omega) only [gI_def, pI_s, pI_o, cI_s, cI_o, pL_1, pR_1, up_eq, up_ne]
          · intro j hj; subst hz; simp (disch := omega) only [gI_def, pI_s, pI_o, cI_s, cI_o, pL_1, pR_1]
          · intro k hk; subst hz; simp (disch := omega) only [gI_def, pI_s, pI_o, cI_s, cI_o, pL_1, pR_1]
        refine cellM_t (by omega) ⟨fun q => absurd q (by decide), fun _ => mo _ _ e49 ⟨fun q => absurd ok1.symm q, fun _ => peopleM hL' ⟨fun q => absurd (by rw [e49]; exact ok3) q, fun _ => ⟨fun _ => ⟨fun q => ?_, fun q => ?_⟩, fun q => absurd (by rw [gI_def, e49] at q; exact q) ok2⟩⟩⟩⟩
        · refine fin 0 (Or.inl rfl) ⟨fun _ h => ?_, fun _ => rfl⟩ q.symm
          rw [if_pos h] at hF; rw [hF, q] at ok1; exact absurd ok1 (by decide)
        · have hy1 : y = 1 := hy.resolve_left q
          refine fin 1 (Or.inr rfl) ⟨fun h => absurd h (by decide), fun h => ?_⟩ hy1.symm
          rw [if_neg h] at hF; rw [hF, hy1] at ok1; exact absurd ok1 (by decide)
    · refine ⟨fun r u1 => r = 0 ∧ u1 = u, fun K hK => ?_, fun r u1 hr K hK => ?_⟩
      · refine cellX_t (by omega) ⟨fun _ => hK _ _ ⟨rfl, rfl⟩, fun _ => xo _ ⟨fun _ => hK _ _ ⟨rfl, rfl⟩, fun q1 => ⟨fun _ => hK _ _ ⟨rfl, rfl⟩, fun q2 => peopleX (b := 0) hL ⟨fun q3 => absurd ⟨q1, ?_, q3⟩ ok, fun _ => hK _ _ ⟨rfl, rfl⟩⟩⟩⟩⟩
        rw [gI_def, hL.1.2.2.2.1] at q2; exact q2
      · obtain ⟨rfl, rfl⟩ := hr
        exact cellM_t (by omega) ⟨fun _ => hK _ hI, fun _ => mo _ _ rfl ⟨fun _ => hK _ hI, fun q1 => peopleM hL ⟨fun _ => hK _ hI, fun q3 => ⟨fun q2 => absurd ⟨q1.symm, q2, q3⟩ ok, fun _ => hK _ hI⟩⟩⟩⟩
  · refine ⟨fun r u1 => r = 0 ∧ u1 = u, fun K hK => cellX_f hx ⟨fun _ => hK _ _ ⟨rfl, rfl⟩, fun q => absurd rfl q⟩, fun r u1 hr K hK => ?_⟩
    obtain ⟨rfl, rfl⟩ := hr
    exact cellM_f hx ⟨fun _ => hK _ hI, fun q => absurd rfl q⟩
