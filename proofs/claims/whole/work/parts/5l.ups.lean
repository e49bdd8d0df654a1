/-! summedUp, the loop -/
theorem nm2 (n : Nat) : nI (n + 1 + 1) + (-2) = nI n := by rw [show (-2 : Int32) = -1 + -1 by decide, ← Int32.add_assoc, pk_m1, pk_m1]
theorem nar_b (t : Bool) : vp_nar .boolean (nI (if t = true then 1 else 0)) = nI (if t = true then 1 else 0) := by cases t <;> decide
theorem waterM {e : Nat → Int} {x : Int64} {u : PoS} {post : Int64 → PoS → Prop} (hx : Bd x.toInt) (hw : ∀ c, c < 30 → (u.1 49 (40 + c)).toInt = e (8 + c)) (H : ∀ r : Int64, r.toInt = watE e x.toInt → post r u) : wp_X12_waterOf x u post := by
  unfold Bd at hx
  unfold wp_X12_waterOf
  rw [(lgc2 x 0).1, (lgc x 30).1, show (0 : Int64).toInt = 0 from rfl, show (30 : Int64).toInt = 30 from rfl]
  unfold watE at H
  refine ⟨fun a => H 0 (by rw [if_neg (by omega)]; rfl), fun a => ⟨fun b => H 0 (by rw [if_neg (by omega)]; rfl), fun b => ?_⟩⟩
  rw [if_pos ⟨by omega, by omega⟩] at H
  obtain ⟨c, hc⟩ : ∃ c : Nat, x.toInt = c := ⟨x.toInt.toNat, by omega⟩
  have e32 : x.toInt32 = nI c := by
    apply i32_eq
    rw [Int64.toInt_toInt32, hc, Int.bmod_eq_of_le (by omega) (by omega)]
    rw [nI_toInt (by omega)]
  rw [e32, show (40 : Int32) + nI c = nI (40 + c) by simp (disch := omega) only [q_lit, nI_add, pk_mul, q_sub, q_rem, q_div, q_vp, q_cl, q_lt, q_le, q_eq, q_neg1, gI_def], q_cl (by omega)]
  refine ⟨by simp (disch := omega) only [q_lit, nI_add, pk_mul, q_sub, q_rem, q_div, q_vp, q_cl, q_lt, q_le, q_eq, q_neg1, gI_def]; omega, H _ ?_⟩
  rw [Int32.toInt_toInt64, gI_def, hw c (by omega), hc]; rfl
theorem upsM {e : Nat → Int} (he : BE e) {x1 x2 : Nat} (hx1 : x1 + 2 < 2724) (hx2 : x2 + 607 < 2724) {post : Int64 → PoS → Prop} : ∀ (c : Cd) (i : Nat) (V : List Int) (T : List Bool) (V' : List Int) (T' : List Bool) (u : PoS), RR e c V T V' T' → (∀ j x, c[j]? = some x → u.1 51 (x2 + 2 * (i + j)) = nI x.1 ∧ u.1 51 (x2 + 2 * (i + j) + 1) = nI x.2) → u.1 51 (x1 + 2) = nI (i + c.length) → i + c.length ≤ 304 → V.length + T.length ≤ i → VAt (u.2.1 55) V → TAt (u.1 56) T → (∀ v, v ≤ 7 → (1, v) ∈ c → (u.1 54 v).toInt = e v) → (∀ x, x < 30 → (u.1 49 (40 + x)).toInt = e (8 + x)) → (∀ z : PoS, (∀ j, j ≠ 56 → z.1 j = u.1 j) → VAt (z.2.1 55) V' → TAt (z.1 56) T' → post (gL z 55 0) z) → wl_X12_summedUp_38 post (c.length + 1) (nI x1) (nI x2) (nI V.length) (nI T.length) (nI i) u := by
  intro c
  induction c with
  | nil =>
    intro i V T V' T' u hr hcd hend hi hl hV hT hn hw H
    obtain ⟨rfl, rfl⟩ := hr
    rw [wl_X12_summedUp_38, show nI x1 + 2 = nI (x1 + 2) by simp (disch := omega) only [q_lit, nI_add, pk_mul, q_sub, q_rem, q_div, q_vp, q_cl, q_lt, q_le, q_eq, q_neg1, gI_def], q_cl (by omega), gI_def, hend]
    exact ⟨by simp (disch := omega) only [q_lit, nI_add, pk_mul, q_sub, q_rem, q_div, q_vp, q_cl, q_lt, q_le, q_eq, q_neg1, gI_def]; omega, fun _ => H u (fun _ _ => rfl) hV hT, fun q => absurd (show nI (i + ([] : Cd).length) ≤ nI i by rw [q_le (by omega) (by omega)]; exact Nat.le_refl i) q⟩
  | cons x c ih =>
    intro i V T V' T' u hr hcd hend hi hl hV hT hn hw H
    obtain ⟨o, v⟩ := x
    obtain ⟨W, U, h1, h2⟩ := hr
    simp only [List.length_cons] at hend hi
    obtain ⟨k1, k2⟩ := hcd 0 (o, v) rfl
    simp only [Nat.add_zero] at k1 k2
    simp only at h1 k1 k2
    have cont : ∀ z : PoS, (∀ j, j ≠ 56 → z.1 j = u.1 j) → VAt (z.2.1 55) W → TAt (z.1 56) U → W.length + U.length ≤ i + 1 → wl_X12_summedUp_38 post (c.length + 1) (nI x1) (nI x2) (nI W.length) (nI U.length) (nI i + 1) z := by
      intro z hz hzV hzT hzl
      rw [nI_1]
      refine ih (i + 1) W U V' T' z h2 (fun j x hj => ?_) ?_ (by omega) hzl hzV hzT (fun v hv hm => by rw [hz 54 (by decide)]; exact hn v hv (List.mem_cons_of_mem _ hm)) (fun v hv => by rw [hz 49 (by decide)]; exact hw v hv) (fun y hy => H y (fun j q => by rw [hy j q, hz j q]))
      · rw [hz 51 (by decide)]
        have := hcd (j + 1) x (by simpa using hj)
        rw [show i + 1 + j = i + (j + 1) by omega]; exact this
      · rw [hz 51 (by decide), hend]; congr 1; omega
    have ho : o < 50 := by
      rcases h1 with ⟨q, _⟩ | ⟨q, _⟩ | ⟨q, _⟩ | ⟨q, _⟩ | ⟨q, _⟩ | ⟨q, _⟩ | ⟨q, _⟩ | ⟨q, _⟩ | ⟨q, _⟩
      all_goals (first | unfold isTwo at q | unfold isCmp at q | unfold isJn at q | skip)
      all_goals omega
    rw [List.length_cons, wl_X12_summedUp_38, show nI x1 + 2 = nI (x1 + 2) by simp (disch := omega) only [q_lit, nI_add, pk_mul, q_sub, q_rem, q_div, q_vp, q_cl, q_lt, q_le, q_eq, q_neg1, gI_def], q_cl (by omega), gI_def, hend, show nI x2 + 2 * nI i = nI (x2 + 2 * i) by simp (disch := omega) only [q_lit, nI_add, pk_mul, q_sub, q_rem, q_div, q_vp, q_cl, q_lt, q_le, q_eq, q_neg1, gI_def], show nI (x2 + 2 * i) + 1 = nI (x2 + 2 * i + 1) by rw [nI_1], q_cl (by omega), q_cl (by omega)]
    refine ⟨by simp (disch := omega) only [q_lit, nI_add, pk_mul, q_sub, q_rem, q_div, q_vp, q_cl, q_lt, q_le, q_eq, q_neg1, gI_def]; omega, fun q => absurd q (by simp (disch := omega) only [q_lit, nI_add, pk_mul, q_sub, q_rem, q_div, q_vp, q_cl, q_lt, q_le, q_eq, q_neg1, gI_def]; omega), fun _ => ⟨by simp (disch := omega) only [q_lit, nI_add, pk_mul, q_sub, q_rem, q_div, q_vp, q_cl, q_lt, q_le, q_eq, q_neg1, gI_def]; omega, fun x4 e4 => ⟨by simp (disch := omega) only [q_lit, nI_add, pk_mul, q_sub, q_rem, q_div, q_vp, q_cl, q_lt, q_le, q_eq, q_neg1, gI_def]; omega, fun x5 e5 => ?_⟩⟩⟩
    rw [gI_def, k1] at e4
    rw [gI_def, k2] at e5
    subst e4; subst e5
    have putV : ∀ (Z : List Int) (r : Int64), W = r.toInt :: Z → VAt (u.2.1 55) Z → Bd r.toInt → TAt (u.1 56) U → Z.length + U.length ≤ i → wl_X12_summedUp_38 post (c.length + 1) (nI x1) (nI x2) (nI (Z.length + 1)) (nI U.length) (nI i + 1) (pL u 55 Z.length r) := by
      intro Z r hW hZ hb hU hl'
      have := cont (pL u 55 Z.length r) (fun j _ => by rw [pL_1]) (by rw [hW, pL_s]; exact ⟨by rw [upL_eq], hb, VAt_up hZ (Nat.le_refl _)⟩) (by rw [pL_1]; exact hU) (by rw [hW, List.length_cons]; omega)
      rw [hW] at this; exact this
    have putT : ∀ (Z : List Bool) (t : Bool), U = t :: Z → TAt (u.1 56) Z → VAt (u.2.1 55) W → W.length + Z.length ≤ i → wl_X12_summedUp_38 post (c.length + 1) (nI x1) (nI x2) (nI W.length) (nI (Z.length + 1)) (nI i + 1) (pI u 56 Z.length (nI (if t = true then 1 else 0))) := by
      intro Z t hU hZ hW hl'
      have := cont (pI u 56 Z.length (nI (if t = true then 1 else 0))) (fun j hj => pI_o hj) hW (by rw [hU, pI_s]; exact ⟨by rw [up_eq], TAt_up hZ (Nat.le_refl _)⟩) (by rw [hU, List.length_cons]; omega)
      rw [hU] at this; exact this
    rcases h1 with ⟨rfl, hv, hW, hU⟩ | ⟨rfl, hv, hW, hU⟩ | ⟨rfl, x, y, Z, t, rfl, rfl, hW⟩ | ⟨rfl, x, Z, rfl, hW, hU⟩ | ⟨rfl, x, Z, rfl, hW, hU⟩ | ⟨ho2, x, y, Z, rfl, hW, hU⟩ | ⟨ho2, x, y, rfl, hU⟩ | ⟨rfl, t, Z, rfl, hU, hW⟩ | ⟨ho2, t, s, Z, rfl, hU, hW⟩
    · subst hU
      refine ⟨fun q => absurd q (by decide), fun _ => ⟨fun q => absurd rfl q, fun _ => ⟨by simp (disch := omega) only [q_lit, nI_add, pk_mul, q_sub, q_rem, q_div, q_vp, q_cl, q_lt, q_le, q_eq, q_neg1, gI_def]; omega, fun z ez => ?_⟩⟩⟩
      subst ez
      rw [q_cl (by omega)]
      unfold wj_X12_summedUp_400
      rw [nI_1]
      have e1 : (Int32.toInt64 (nI v)).toInt = (v : Int) := by rw [Int32.toInt_toInt64, nI_toInt (by omega)]
      exact putV V _ (by rw [e1]; exact hW) hV (by rw [e1]; unfold Bd; omega) hT hl
    · subst hU
      refine ⟨fun q => absurd q (by decide), fun _ => ⟨fun _ => ⟨by simp (disch := omega) only [q_lit, nI_add, pk_mul, q_sub, q_rem, q_div, q_vp, q_cl, q_lt, q_le, q_eq, q_neg1, gI_def]; omega, by simp (disch := omega) only [q_lit, nI_add, pk_mul, q_sub, q_rem, q_div, q_vp, q_cl, q_lt, q_le, q_eq, q_neg1, gI_def]; omega, fun z ez => ?_⟩, fun q => absurd q (by decide)⟩⟩
      subst ez
      rw [q_cl (by omega), q_cl (by omega)]
      unfold wj_X12_summedUp_400
      rw [nI_1]
      have e1 : (Int32.toInt64 (gI u 54 v)).toInt = e v := by rw [Int32.toInt_toInt64, gI_def]; exact hn v hv (List.mem_cons_self)
      exact putV V _ (by rw [e1]; exact hW) hV (by rw [e1]; exact he v (by omega)) hT hl
    · obtain ⟨t1, t2⟩ := hT
      obtain ⟨y1, y2, w1, w2, zV⟩ := hV
      simp only [List.length_cons] at hl y1
      refine ⟨fun _ => ⟨fun q => absurd rfl q, fun _ => ?_⟩, fun q => absurd (show (1 : Int32) < nI 3 by decide) q⟩
      simp (disch := omega) only [List.length_cons, pk_m1, nm2, nI_pred, nI_1, q_cl]
      refine ⟨by simp (disch := omega) only [q_lit, nI_add, pk_mul, q_sub, q_rem, q_div, q_vp, q_cl, q_lt, q_le, q_eq, q_neg1, gI_def]; omega, fun q => ?_, fun q => ⟨by simp (disch := omega) only [q_lit, nI_add, pk_mul, q_sub, q_rem, q_div, q_vp, q_cl, q_lt, q_le, q_eq, q_neg1, gI_def]; omega, by simp (disch := omega) only [q_lit, nI_add, pk_mul, q_sub, q_rem, q_div, q_vp, q_cl, q_lt, q_le, q_eq, q_neg1, gI_def]; omega, fun z ez => ?_⟩⟩
      · have tt : t = true := by
          cases t
          · exact absurd t1 q
          · rfl
        subst tt
        unfold wj_X12_summedUp_400
        have := cont u (fun _ _ => rfl) (by rw [hW]; exact ⟨w1, w2, zV⟩) t2 (by rw [hW, List.length_cons]; omega)
        rw [hW] at this; exact this
      · have tt : t = false := by
          cases t
          · rfl
          · exact absurd (t1.symm.trans q) (show ¬ nI 1 = 0 by decide)
        subst tt; subst ez
        unfold wj_X12_summedUp_400
        exact putV Z _ (by rw [hW, show (gL u 55 (Z.length + 1)).toInt = y from y1]; rfl) zV (by rw [show (gL u 55 (Z.length + 1)).toInt = y from y1]; exact y2) t2 (by omega)
    · subst hU
      obtain ⟨w1, w2, zV⟩ := hV
      simp only [List.length_cons] at hl
      refine ⟨fun _ => ⟨fun _ => ⟨fun _ => ⟨fun q => absurd rfl q, fun _ => ?_⟩, fun q => absurd rfl q⟩, fun q => absurd q (by decide)⟩, fun q => absurd (show (1 : Int32) < nI 5 by decide) q⟩
      simp (disch := omega) only [List.length_cons, pk_m1, nm2, nI_pred, nI_1, q_cl]
      refine ⟨by simp (disch := omega) only [q_lit, nI_add, pk_mul, q_sub, q_rem, q_div, q_vp, q_cl, q_lt, q_le, q_eq, q_neg1, gI_def]; omega, by simp (disch := omega) only [q_lit, nI_add, pk_mul, q_sub, q_rem, q_div, q_vp, q_cl, q_lt, q_le, q_eq, q_neg1, gI_def]; omega, fun z ez => ?_⟩
      rw [q_cl (by omega)] at ez
      subst ez
      have e1 : (-(gL u 55 Z.length)).toInt = -x := by
        unfold Bd at w2
        rw [Int64.toInt_neg, show (gL u 55 Z.length).toInt = x from w1, bm64 (by omega) (by omega)]
      unfold wj_X12_summedUp_400
      exact putV Z _ (by rw [e1]; exact hW) zV (by rw [e1]; unfold Bd at w2 ⊢; omega) hT (by omega)
    · subst hU
      obtain ⟨w1, w2, zV⟩ := hV
      simp only [List.length_cons] at hl
      refine ⟨fun _ => ⟨fun _ => ⟨fun q => absurd q (by decide), fun _ => ⟨fun q => absurd rfl q, fun _ => ⟨fun _ => ?_, fun q => absurd q (by decide)⟩⟩⟩, fun q => absurd q (by decide)⟩, fun q => absurd (show (1 : Int32) < nI 2 by decide) q⟩
      simp (disch := omega) only [List.length_cons, pk_m1, nm2, nI_pred, nI_1, q_cl]
      refine ⟨by simp (disch := omega) only [q_lit, nI_add, pk_mul, q_sub, q_rem, q_div, q_vp, q_cl, q_lt, q_le, q_eq, q_neg1, gI_def]; omega, waterM (e := e) (by rw [show (gL u 55 Z.length).toInt = x from w1]; exact w2) hw (fun r hr => ⟨by simp (disch := omega) only [q_lit, nI_add, pk_mul, q_sub, q_rem, q_div, q_vp, q_cl, q_lt, q_le, q_eq, q_neg1, gI_def]; omega, fun z ez => ?_⟩)⟩
      rw [q_cl (by omega)] at ez
      subst ez
      rw [show (gL u 55 Z.length).toInt = x from w1] at hr
      unfold wj_X12_summedUp_400
      exact putV Z _ (by rw [hr]; exact hW) zV (by
        rw [hr, watE]
        split
        · exact he _ (by omega)
        · unfold Bd; omega) hT (by omega)
    · subst hU
      obtain ⟨y1, y2, w1, w2, zV⟩ := hV
      simp only [List.length_cons] at hl y1
      have gx : (gL u 55 Z.length).toInt = x := w1
      have gy : (gL u 55 (Z.length + 1)).toInt = y := y1
      have n1 : (1 : Int32) < nI o := by unfold isTwo at ho2; simp (disch := omega) only [q_lit, nI_add, pk_mul, q_sub, q_rem, q_div, q_vp, q_cl, q_lt, q_le, q_eq, q_neg1, gI_def]; omega
      have n3 : ¬ nI o = 3 := by unfold isTwo at ho2; simp (disch := omega) only [q_lit, nI_add, pk_mul, q_sub, q_rem, q_div, q_vp, q_cl, q_lt, q_le, q_eq, q_neg1, gI_def]; omega
      have n5 : ¬ nI o = 5 := by unfold isTwo at ho2; simp (disch := omega) only [q_lit, nI_add, pk_mul, q_sub, q_rem, q_div, q_vp, q_cl, q_lt, q_le, q_eq, q_neg1, gI_def]; omega
      have n2 : ¬ nI o = 2 := by unfold isTwo at ho2; simp (disch := omega) only [q_lit, nI_add, pk_mul, q_sub, q_rem, q_div, q_vp, q_cl, q_lt, q_le, q_eq, q_neg1, gI_def]; omega
      have n10 : ¬ (10 : Int32) ≤ nI o := by unfold isTwo at ho2; simp (disch := omega) only [q_lit, nI_add, pk_mul, q_sub, q_rem, q_div, q_vp, q_cl, q_lt, q_le, q_eq, q_neg1, gI_def]; omega
      refine ⟨fun _ => ⟨fun _ => ⟨fun q => absurd q n5, fun _ => ⟨fun _ => ⟨fun q => absurd q n10, fun _ => ?_⟩, fun q => absurd q n2⟩⟩, fun q => absurd q n3⟩, fun q => absurd n1 q⟩
      simp (disch := omega) only [List.length_cons, pk_m1, nm2, nI_pred, nI_1, q_cl]
      have fin : ∀ r : Int64, r.toInt = twoE o x y → wj_X12_summedUp_283 (wl_X12_summedUp_38 post (c.length + 1)) post (nI x1) (nI x2) (nI (Z.length + 1)) (nI U.length) (nI i) r (nI Z.length) u := by
        intro r hr
        refine ⟨by simp (disch := omega) only [q_lit, nI_add, pk_mul, q_sub, q_rem, q_div, q_vp, q_cl, q_lt, q_le, q_eq, q_neg1, gI_def]; omega, fun z ez => ?_⟩
        rw [q_cl (by omega)] at ez
        subst ez
        unfold wj_X12_summedUp_400
        refine putV Z _ (by rw [hr]; exact hW) zV ?_ hT (by omega)
        rw [hr]
        unfold twoE
        split
        · exact clM_b _
        split
        · exact clM_b _
        split
        · exact clM_b _
        split
        · split
          · unfold Bd; omega
          · exact clM_b _
        · split
          · unfold Bd; omega
          · exact clM_b _
      refine ⟨fun q4 => ⟨by simp (disch := omega) only [q_lit, nI_add, pk_mul, q_sub, q_rem, q_div, q_vp, q_cl, q_lt, q_le, q_eq, q_neg1, gI_def]; omega, by simp (disch := omega) only [q_lit, nI_add, pk_mul, q_sub, q_rem, q_div, q_vp, q_cl, q_lt, q_le, q_eq, q_neg1, gI_def]; omega, twoM ?_ (by rw [gx]; exact w2) (by rw [gy]; exact y2) (fun r hr => fin r (by rw [hr, gx, gy]))⟩, fun q4 => ⟨by simp (disch := omega) only [q_lit, nI_add, pk_mul, q_sub, q_rem, q_div, q_vp, q_cl, q_lt, q_le, q_eq, q_neg1, gI_def]; omega, by simp (disch := omega) only [q_lit, nI_add, pk_mul, q_sub, q_rem, q_div, q_vp, q_cl, q_lt, q_le, q_eq, q_neg1, gI_def]; omega, shareM (by rw [gx]; exact w2) (by rw [gy]; exact y2) (fun r hr => fin r ?_)⟩⟩
      · rcases ho2 with rfl | h
        · exact absurd rfl q4
        · exact h
      · have : o = 4 := by simp (disch := omega) only [q_lit, q_eq] at q4; exact q4
        rw [hr, gx, gy, this]
    · obtain ⟨y1, y2, w1, w2, zV⟩ := hV
      simp only [List.length_cons] at hl y1
      have gx : (gL u 55 W.length).toInt = x := w1
      have gy : (gL u 55 (W.length + 1)).toInt = y := y1
      have n1 : (1 : Int32) < nI o := by unfold isCmp at ho2; simp (disch := omega) only [q_lit, nI_add, pk_mul, q_sub, q_rem, q_div, q_vp, q_cl, q_lt, q_le, q_eq, q_neg1, gI_def]; omega
      have n3 : ¬ nI o = 3 := by unfold isCmp at ho2; simp (disch := omega) only [q_lit, nI_add, pk_mul, q_sub, q_rem, q_div, q_vp, q_cl, q_lt, q_le, q_eq, q_neg1, gI_def]; omega
      have n5 : ¬ nI o = 5 := by unfold isCmp at ho2; simp (disch := omega) only [q_lit, nI_add, pk_mul, q_sub, q_rem, q_div, q_vp, q_cl, q_lt, q_le, q_eq, q_neg1, gI_def]; omega
      have n2 : ¬ nI o = 2 := by unfold isCmp at ho2; simp (disch := omega) only [q_lit, nI_add, pk_mul, q_sub, q_rem, q_div, q_vp, q_cl, q_lt, q_le, q_eq, q_neg1, gI_def]; omega
      have n10 : (10 : Int32) ≤ nI o := by unfold isCmp at ho2; simp (disch := omega) only [q_lit, nI_add, pk_mul, q_sub, q_rem, q_div, q_vp, q_cl, q_lt, q_le, q_eq, q_neg1, gI_def]; omega
      have n20 : ¬ (20 : Int32) ≤ nI o := by unfold isCmp at ho2; simp (disch := omega) only [q_lit, nI_add, pk_mul, q_sub, q_rem, q_div, q_vp, q_cl, q_lt, q_le, q_eq, q_neg1, gI_def]; omega
      refine ⟨fun _ => ⟨fun _ => ⟨fun q => absurd q n5, fun _ => ⟨fun _ => ⟨fun _ => ⟨fun q => absurd q n20, fun _ => ?_⟩, fun q => absurd n10 q⟩, fun q => absurd q n2⟩⟩, fun q => absurd q n3⟩, fun q => absurd n1 q⟩
      simp (disch := omega) only [List.length_cons, pk_m1, nm2, nI_pred, nI_1, q_cl]
      refine ⟨by simp (disch := omega) only [q_lit, nI_add, pk_mul, q_sub, q_rem, q_div, q_vp, q_cl, q_lt, q_le, q_eq, q_neg1, gI_def]; omega, by simp (disch := omega) only [q_lit, nI_add, pk_mul, q_sub, q_rem, q_div, q_vp, q_cl, q_lt, q_le, q_eq, q_neg1, gI_def]; omega, askedM ho2 ⟨by simp (disch := omega) only [q_lit, nI_add, pk_mul, q_sub, q_rem, q_div, q_vp, q_cl, q_lt, q_le, q_eq, q_neg1, gI_def]; omega, fun z ez => ?_⟩⟩
      rw [nar_b, gx, gy] at ez
      subst ez
      unfold wj_X12_summedUp_400
      exact putT T _ hU hT zV (by omega)
    · subst hW
      obtain ⟨t1, t2⟩ := hT
      simp only [List.length_cons] at hl
      have g1 : gI u 56 Z.length = nI (if t = true then 1 else 0) := t1
      refine ⟨fun _ => ⟨fun _ => ⟨fun q => absurd q (by decide), fun _ => ⟨fun _ => ⟨fun _ => ⟨fun _ => ⟨fun q => absurd rfl q, fun _ => ?_⟩, fun q => absurd (show (20 : Int32) ≤ nI 20 by decide) q⟩, fun q => absurd (show (10 : Int32) ≤ nI 20 by decide) q⟩, fun q => absurd q (by decide)⟩⟩, fun q => absurd q (by decide)⟩, fun q => absurd (show (1 : Int32) < nI 20 by decide) q⟩
      simp (disch := omega) only [List.length_cons, pk_m1, nm2, nI_pred, nI_1, q_cl, g1]
      refine ⟨by simp (disch := omega) only [q_lit, nI_add, pk_mul, q_sub, q_rem, q_div, q_vp, q_cl, q_lt, q_le, q_eq, q_neg1, gI_def]; omega, fun q => ⟨by simp (disch := omega) only [q_lit, nI_add, pk_mul, q_sub, q_rem, q_div, q_vp, q_cl, q_lt, q_le, q_eq, q_neg1, gI_def]; omega, fun z ez => ?_⟩, fun q => ⟨by simp (disch := omega) only [q_lit, nI_add, pk_mul, q_sub, q_rem, q_div, q_vp, q_cl, q_lt, q_le, q_eq, q_neg1, gI_def]; omega, fun z ez => ?_⟩⟩
      · have tt : t = true := by
          cases t
          · exact absurd rfl q
          · rfl
        subst tt
        rw [q_cl (by omega), show vp_nar .boolean 0 = nI (if (!true) = true then 1 else 0) by decide] at ez
        subst ez
        unfold wj_X12_summedUp_400
        exact putT Z _ hU t2 hV (by omega)
      · have tt : t = false := by
          cases t
          · rfl
          · exact absurd q (show ¬ nI 1 = 0 by decide)
        subst tt
        rw [q_cl (by omega), show vp_nar .boolean 1 = nI (if (!false) = true then 1 else 0) by decide] at ez
        subst ez
        unfold wj_X12_summedUp_400
        exact putT Z _ hU t2 hV (by omega)
    · subst hW
      obtain ⟨s1, t1, t2⟩ := hT
      simp only [List.length_cons] at hl s1
      have g1 : gI u 56 (Z.length + 1) = nI (if s = true then 1 else 0) := s1
      have g2 : gI u 56 Z.length = nI (if t = true then 1 else 0) := t1
      have n1 : (1 : Int32) < nI o := by unfold isJn at ho2; simp (disch := omega) only [q_lit, nI_add, pk_mul, q_sub, q_rem, q_div, q_vp, q_cl, q_lt, q_le, q_eq, q_neg1, gI_def]; omega
      have n3 : ¬ nI o = 3 := by unfold isJn at ho2; simp (disch := omega) only [q_lit, nI_add, pk_mul, q_sub, q_rem, q_div, q_vp, q_cl, q_lt, q_le, q_eq, q_neg1, gI_def]; omega
      have n5 : ¬ nI o = 5 := by unfold isJn at ho2; simp (disch := omega) only [q_lit, nI_add, pk_mul, q_sub, q_rem, q_div, q_vp, q_cl, q_lt, q_le, q_eq, q_neg1, gI_def]; omega
      have n2 : ¬ nI o = 2 := by unfold isJn at ho2; simp (disch := omega) only [q_lit, nI_add, pk_mul, q_sub, q_rem, q_div, q_vp, q_cl, q_lt, q_le, q_eq, q_neg1, gI_def]; omega
      have n10 : (10 : Int32) ≤ nI o := by unfold isJn at ho2; simp (disch := omega) only [q_lit, nI_add, pk_mul, q_sub, q_rem, q_div, q_vp, q_cl, q_lt, q_le, q_eq, q_neg1, gI_def]; omega
      have n20 : (20 : Int32) ≤ nI o := by unfold isJn at ho2; simp (disch := omega) only [q_lit, nI_add, pk_mul, q_sub, q_rem, q_div, q_vp, q_cl, q_lt, q_le, q_eq, q_neg1, gI_def]; omega
      have e20 : ¬ nI o = 20 := by unfold isJn at ho2; simp (disch := omega) only [q_lit, nI_add, pk_mul, q_sub, q_rem, q_div, q_vp, q_cl, q_lt, q_le, q_eq, q_neg1, gI_def]; omega
      refine ⟨fun _ => ⟨fun _ => ⟨fun q => absurd q n5, fun _ => ⟨fun _ => ⟨fun _ => ⟨fun _ => ⟨fun _ => ?_, fun q => absurd q e20⟩, fun q => absurd n20 q⟩, fun q => absurd n10 q⟩, fun q => absurd q n2⟩⟩, fun q => absurd q n3⟩, fun q => absurd n1 q⟩
      simp (disch := omega) only [List.length_cons, pk_m1, nm2, nI_pred, nI_1, q_cl, g1, g2]
      refine ⟨by simp (disch := omega) only [q_lit, nI_add, pk_mul, q_sub, q_rem, q_div, q_vp, q_cl, q_lt, q_le, q_eq, q_neg1, gI_def]; omega, by simp (disch := omega) only [q_lit, nI_add, pk_mul, q_sub, q_rem, q_div, q_vp, q_cl, q_lt, q_le, q_eq, q_neg1, gI_def]; omega, joinedM ho2 ⟨by simp (disch := omega) only [q_lit, nI_add, pk_mul, q_sub, q_rem, q_div, q_vp, q_cl, q_lt, q_le, q_eq, q_neg1, gI_def]; omega, fun z ez => ?_⟩⟩
      rw [nar_b] at ez
      subst ez
      unfold wj_X12_summedUp_400
      exact putT Z _ hU t2 hV (by omega)
