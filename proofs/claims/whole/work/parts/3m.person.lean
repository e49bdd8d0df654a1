/-! person -/
theorem putM {u : PoS} {p o : Nat} (hp : p < 5) (ho : o < 6) {v : Int32} {post : PoS → Prop} (K : post (pI u 49 (10 + 6 * p + o) v)) : wp_X12_put (nI p) (nI o) v u post := by
  unfold wp_X12_put
  simp (disch := omega) only [q_lit, nI_add, pk_mul, q_sub, q_rem, q_div, q_vp, q_cl, q_lt, q_le, q_eq, q_neg1, gI_def]
  exact ⟨by omega, fun z hz => by rw [hz]; exact K⟩
def beg (u : PoS) (p : Nat) : PoS := pI (pI (pI (pI u 49 (10 + 6 * p) (u.1 49 (14 + 6 * p))) 49 (11 + 6 * p) (u.1 49 (15 + 6 * p))) 49 (12 + 6 * p) 0) 49 (13 + 6 * p) 0
theorem beginM {u : PoS} {p : Nat} (hp : p < 5) {post : PoS → Prop} (K : post (beg u p)) : wp_X12_begin (nI p) u post := by
  refine getM (o := 4) hp (by decide) (putM (o := 0) hp (by decide) (getM (o := 5) hp (by decide) (putM (o := 1) hp (by decide) (putM (o := 2) hp (by decide) (putM (o := 3) hp (by decide) ?_)))))
  unfold beg at K
  rw [show 10 + 6 * p + 4 = 14 + 6 * p by omega, show 10 + 6 * p + 0 = 10 + 6 * p by omega, show 10 + 6 * p + 5 = 15 + 6 * p by omega, show 10 + 6 * p + 1 = 11 + 6 * p by omega, show 10 + 6 * p + 2 = 12 + 6 * p by omega, show 10 + 6 * p + 3 = 13 + 6 * p by omega]
  simp (disch := omega) only [gI_def, pI_s, pI_o, cI_s, cI_o, pL_1, pR_1, up_eq, up_ne]
  exact K
theorem row_person {r a r' a' : Nat → Int32} (h : RowOk r a) (hr : ∀ i, ¬ (i < 20 ∨ i = 84) → r' i = r i) (ha : ∀ i, ¬ (i = 0 ∨ (10 ≤ i ∧ i < 40)) → a' i = a i) (s0 : r' 84 = a' 0) (b0 : Sm 5 (a' 0)) (cPeo : Peo r' a') (cSai : Sai r' a') (cSnp : Snp r' a') (cTld : Tld  a') : RowOk r' a' := by
  obtain ⟨h1, h2, h3, h4, h5, h6, h7, h8, h9, h10⟩ := h
  obtain ⟨e0, e1, e2, e3, e4, e5, e6, e7, e8, e9⟩ := h1
  obtain ⟨g0, g1, g2, g3, g4, g5, g6, g7, g8, g9, g10⟩ := h2
  exact ⟨⟨s0, by rw [hr _ (by omega), ha _ (by omega)]; exact e1, by rw [hr _ (by omega), ha _ (by omega)]; exact e2, by rw [hr _ (by omega), ha _ (by omega)]; exact e3, by rw [hr _ (by omega), ha _ (by omega)]; exact e4, by rw [hr _ (by omega), ha _ (by omega)]; exact e5, by rw [hr _ (by omega), ha _ (by omega)]; exact e6, by rw [hr _ (by omega), ha _ (by omega)]; exact e7, by rw [hr _ (by omega), ha _ (by omega)]; exact e8, by rw [hr _ (by omega), ha _ (by omega)]; exact e9⟩, ⟨b0, by rw [ha _ (by omega)]; exact g1, by rw [ha _ (by omega), ha _ (by omega)]; exact g2, by rw [ha _ (by omega)]; exact g3, by rw [ha _ (by omega)]; exact g4, by rw [ha _ (by omega)]; exact g5, by rw [ha _ (by omega)]; exact g6, by rw [ha _ (by omega)]; exact g7, by rw [ha _ (by omega)]; exact g8, by rw [ha _ (by omega)]; exact g9, by rw [hr _ (by omega)]; exact g10⟩, cPeo, h4.congr (fun i _ hi => hr _ (by omega)) (hr _ (by omega)) (fun i _ hi => hr _ (by omega)) (fun i _ hi => ha _ (by omega)), h5.congr (fun i _ hi => hr _ (by omega)) (fun i _ hi => ha _ (by omega)), h6.congr (fun i _ hi => hr _ (by omega)) (ha _ (by omega)) (fun i _ hi => ha _ (by omega)), cSai, h8.congr (fun i _ hi => hr _ (by omega)) (ha _ (by omega)) (fun i _ hi => ha _ (by omega)), cSnp, cTld⟩

theorem ob_person {LT : Nat → PoS → Prop} (hLT : LTok LT) (x y : Int32) (hy : IsB y) : Ob32 (wp_X11_person x y) (wp_X12_person x y) (Inv LT) := by
  intro u hI
  have hR := hI.1
  have hL := hR.liv
  have hO := hL.2.2.2.opn
  obtain ⟨n, hn, e1, e2, e3⟩ := hL.ppl
  by_cases ok : (∃ c, c < 30 ∧ x = nI c ∧ hb (opn (u.1 49)) c = true) ∧ n < 5
  · obtain ⟨⟨c, hc, rfl, ho⟩, h5⟩ := ok
    have xst : ∀ K : Int32 → PoS → Prop, K (nI n) (pI (pI (pI (pI (pI u 3 n (nI c)) 3 (5 + n) y) 3 (10 + n) 0) 3 (15 + n) 0) 3 84 (nI (n + 1))) → wp_X11_person (nI c) y u K := by
      intro K hK x1 ex
      rw [gI_def, e2] at ex
      subst ex
      refine isOpenX (b := 0) hO (fun d hd e h => ⟨fun q => absurd q (by decide), fun _ => ⟨fun _ => ?_, fun q => absurd (nI_lt (b := 5) h5 (by decide)) q⟩⟩) (fun h => by rw [h c hc rfl] at ho; exact Bool.noConfusion ho)
      rw [show (0 : Int32) + nI n = nI n by rw [show (0 : Int32) = nI 0 from rfl, nI_add, Nat.zero_add], q_vp (by omega) (by omega), q_cl (by omega)]
      refine ⟨by omega, fun z4 e4 => ?_⟩
      subst e4
      have fin : ∀ v : Int32, v = y → wj_X11_person_51 K (nI n) v (5 + nI n) (pI u 3 n (nI c)) := by
        intro v hv
        subst hv
        unfold wj_X11_person_51
        simp (disch := omega) only [q_lit, nI_add, pk_mul, q_sub, q_rem, q_div, q_vp, q_cl, q_lt, q_le, q_eq, q_neg1, gI_def]
        refine ⟨by omega, fun z5 e5 => ⟨by omega, fun z6 e6 => ⟨by omega, fun z7 e7 z8 e8 => ?_⟩⟩⟩
        subst e5; subst e6; subst e7; subst e8
        exact hK
      exact ⟨fun q => fin 0 q.symm, fun q => fin 1 (hy.resolve_left q).symm⟩
    refine ⟨fun r u1 => r = nI n ∧ u1 = pI (pI (pI (pI (pI u 3 n (nI c)) 3 (5 + n) y) 3 (10 + n) 0) 3 (15 + n) 0) 3 84 (nI (n + 1)), fun K hK => xst K (hK _ _ ⟨rfl, rfl⟩), fun r u1 hr K hK => ?_⟩
    obtain ⟨rfl, rfl⟩ := hr
    generalize hu1 : pI (pI (pI (pI (pI u 3 n (nI c)) 3 (5 + n) y) 3 (10 + n) 0) 3 (15 + n) 0) 3 84 (nI (n + 1)) = u1
    have ej : ∀ j, j ≠ 3 → u1.1 j = u.1 j := fun j hj => by rw [← hu1]; simp (disch := omega) only [gI_def, pI_s, pI_o, cI_s, cI_o, pL_1, pR_1]
    have e49 : u1.1 49 = u.1 49 := ej 49 (by decide)
    refine isFreeM (r := u.1 3) (fun d hd e h => ⟨fun q => absurd q (by decide), fun _ => ?_⟩) (fun h => by have h := h c hc rfl; rw [e49, ho] at h; exact Bool.noConfusion h)
    rw [gI_def, e49, e1]
    refine ⟨fun _ x3 e3 => ?_, fun q => by rw [show (5 : Int32) = nI 5 from rfl, q_eq (by omega) (by omega)] at q; omega⟩
    subst e3
    refine putM (o := 4) (by omega) (by decide) ?_
    have fin : ∀ v : Int32, v = y → wj_X12_person_46 K (nI n) v 5 (nI n) (pI u1 49 (10 + 6 * n + 4) (nI c)) := by
      intro v hv
      subst hv
      refine putM (o := 5) (by omega) (by decide) (beginM (by omega) (fun z hz => ?_))
      refine hK z (inv_row hLT hI ?_ ?_ ?_ ?_)
      · subst hz
        have e49' : (pI (beg (pI (pI u1 49 (10 + 6 * n + 4) (nI c)) 49 (10 + 6 * n + 5) v) n) 49 0 (gI (beg (pI (pI u1 49 (10 + 6 * n + 4) (nI c)) 49 (10 + 6 * n + 5) v) n) 49 0 + 1)).1 49 = up (up (up (up (up (up (up (u.1 49) (14 + 6 * n) (nI c)) (15 + 6 * n) v) (10 + 6 * n) (nI c)) (11 + 6 * n) v) (12 + 6 * n) 0) (13 + 6 * n) 0) 0 (nI (n + 1)) := by
          rw [show 10 + 6 * n + 4 = 14 + 6 * n by omega, show 10 + 6 * n + 5 = 15 + 6 * n by omega]
          unfold beg
          simp (disch := omega) only [gI_def, pI_s, pI_o, cI_s, cI_o, pL_1, pR_1, up_eq, up_ne, e49, e1, nI_1]
        have e3' : (pI (beg (pI (pI u1 49 (10 + 6 * n + 4) (nI c)) 49 (10 + 6 * n + 5) v) n) 49 0 (gI (beg (pI (pI u1 49 (10 + 6 * n + 4) (nI c)) 49 (10 + 6 * n + 5) v) n) 49 0 + 1)).1 3 = up (up (up (up (up (u.1 3) n (nI c)) (5 + n) v) (10 + n) 0) (15 + n) 0) 84 (nI (n + 1)) := by
          unfold beg
          rw [← hu1]
          simp (disch := omega) only [gI_def, pI_s, pI_o, cI_s, cI_o, pL_1, pR_1]
        rw [e49', e3']
        have hv1 : Sm 1 v := by
          rcases hy with q | q
          · exact ⟨0, by decide, q⟩
          · exact ⟨1, by decide, q⟩
        refine row_person hR (fun i hi => by simp (disch := omega) only [gI_def, pI_s, pI_o, cI_s, cI_o, pL_1, pR_1, up_eq, up_ne]) (fun i hi => by simp (disch := omega) only [gI_def, pI_s, pI_o, cI_s, cI_o, pL_1, pR_1, up_eq, up_ne]) (by simp (disch := omega) only [gI_def, pI_s, pI_o, cI_s, cI_o, pL_1, pR_1, up_eq, up_ne]) (by simp (disch := omega) only [gI_def, pI_s, pI_o, cI_s, cI_o, pL_1, pR_1, up_eq, up_ne]; exact ⟨n + 1, by omega, rfl⟩) ?_ ?_ ?_ ?_
        · intro p h5 hp
          simp (disch := omega) only [gI_def, pI_s, pI_o, cI_s, cI_o, pL_1, pR_1, up_eq, up_ne] at hp
          rw [nN_nI (by omega)] at hp
          by_cases e : p = n
          · subst e
            simp (disch := omega) only [gI_def, pI_s, pI_o, cI_s, cI_o, pL_1, pR_1, up_eq, up_ne]
            exact ⟨⟨trivial, trivial, trivial, trivial⟩, ⟨c, by omega, rfl⟩, hv1, ⟨0, by decide, rfl⟩, ⟨0, by decide, rfl⟩, ⟨c, by omega, rfl⟩, hv1⟩
          · simp (disch := omega) only [gI_def, pI_s, pI_o, cI_s, cI_o, pL_1, pR_1, up_eq, up_ne]
            exact hR.2.2.1 p h5 (by omega)
        · refine hR.2.2.2.2.2.2.1.congr (fun i _ hi => by simp (disch := omega) only [gI_def, pI_s, pI_o, cI_s, cI_o, pL_1, pR_1, up_eq, up_ne]) ?_ (by simp (disch := omega) only [gI_def, pI_s, pI_o, cI_s, cI_o, pL_1, pR_1, up_eq, up_ne]) (fun i _ hi => by simp (disch := omega) only [gI_def, pI_s, pI_o, cI_s, cI_o, pL_1, pR_1, up_eq, up_ne])
          simp (disch := omega) only [gI_def, pI_s, pI_o, cI_s, cI_o, pL_1, pR_1, up_eq, up_ne]
          rw [nN_nI (by omega)]; omega
        · refine hR.2.2.2.2.2.2.2.2.1.congr (by simp (disch := omega) only [gI_def, pI_s, pI_o, cI_s, cI_o, pL_1, pR_1, up_eq, up_ne]) ?_ (by simp (disch := omega) only [gI_def, pI_s, pI_o, cI_s, cI_o, pL_1, pR_1, up_eq, up_ne]) (fun i _ hi => by simp (disch := omega) only [gI_def, pI_s, pI_o, cI_s, cI_o, pL_1, pR_1, up_eq, up_ne]) (fun i _ hi => by simp (disch := omega) only [gI_def, pI_s, pI_o, cI_s, cI_o, pL_1, pR_1, up_eq, up_ne])
          simp (disch := omega) only [gI_def, pI_s, pI_o, cI_s, cI_o, pL_1, pR_1, up_eq, up_ne]
          rw [nN_nI (by omega)]; omega
        · obtain ⟨t1, t2, t3⟩ := hR.2.2.2.2.2.2.2.2.2
          have hs := hR.2.2.2.2.2.2.2.2.1
          refine ⟨fun i p hi hj h5 hx hz => ?_, fun i p hi hj h5 hx hz => ?_, fun i hi hj => ?_⟩
          · simp (disch := omega) only [gI_def, pI_s, pI_o, cI_s, cI_o, pL_1, pR_1, up_eq, up_ne] at hj hx hz
            have hb1 := (hs (i + 1) (by omega) (by omega)).2.1.2.1
            rw [show 193 + 115 * (i + 1) = 308 + 115 * i by omega] at hb1
            simp (disch := omega) only [gI_def, pI_s, pI_o, cI_s, cI_o, pL_1, pR_1, up_eq, up_ne]
            exact t1 i p hi hj h5 hx hz
          · simp (disch := omega) only [gI_def, pI_s, pI_o, cI_s, cI_o, pL_1, pR_1, up_eq, up_ne] at hj hx hz
            rw [nN_nI (by omega)] at hz
            by_cases e : p = n
            · subst e
              simp (disch := omega) only [gI_def, pI_s, pI_o, cI_s, cI_o, pL_1, pR_1, up_eq, up_ne]
              exact ⟨trivial, trivial, trivial, trivial⟩
            · simp (disch := omega) only [gI_def, pI_s, pI_o, cI_s, cI_o, pL_1, pR_1, up_eq, up_ne]
              exact t2 i p hi hj h5 hx (by omega)
          · simp (disch := omega) only [gI_def, pI_s, pI_o, cI_s, cI_o, pL_1, pR_1, up_eq, up_ne] at hj ⊢
            exact t3 i hi hj
      · subst hz; unfold beg; simp (disch := omega) only [gI_def, pI_s, pI_o, cI_s, cI_o, pL_1, pR_1, up_eq, up_ne, e49]
      · intro j hj; subst hz; unfold beg; simp (disch := omega) only [gI_def, pI_s, pI_o, cI_s, cI_o, pL_1, pR_1]; exact ej j (by omega)
      · intro k hk; subst hz; unfold beg; simp (disch := omega) only [gI_def, pI_s, pI_o, cI_s, cI_o, pL_1, pR_1]; rw [ej 48 (by decide)]
    exact ⟨fun q => fin 0 q.symm, fun q => fin 1 (hy.resolve_left q).symm⟩
  · refine ⟨fun r u1 => r = -1 ∧ u1 = u, fun K hK => ?_, fun r u1 hr K hK => ?_⟩
    · intro x1 ex
      rw [gI_def, e2] at ex
      subst ex
      refine isOpenX (b := 0) hO (fun d hd e h => ⟨fun q => absurd q (by decide), fun _ => ⟨fun q => ?_, fun _ => hK _ _ ⟨rfl, rfl⟩⟩⟩) (fun h => ⟨fun _ => hK _ _ ⟨rfl, rfl⟩, fun q => absurd rfl q⟩)
      rw [show (5 : Int32) = nI 5 from rfl, q_lt (by omega) (by omega)] at q
      exact absurd ⟨⟨d, hd, e, h⟩, q⟩ ok
    · obtain ⟨rfl, rfl⟩ := hr
      refine isFreeM (r := u1.1 3) (fun d hd e h => ⟨fun q => absurd q (by decide), fun _ => ⟨fun q => ?_, fun _ => hK _ hI⟩⟩) (fun h => ⟨fun _ => hK _ hI, fun q => absurd rfl q⟩)
      rw [gI_def, e1, show (5 : Int32) = nI 5 from rfl, q_eq (by omega) (by omega)] at q
      exact absurd ⟨⟨d, hd, e, h⟩, by omega⟩ ok
