/-! TOURS, as the class makes them -/
def tcF (N fr : Nat) (t : Nat → Nat) (i : Nat) : Nat := if i = N then fr else t i
def ddF (o : Int32) (N fr : Nat) (t : Nat → Nat) (i k : Nat) : Nat := nN (dst o (tcF N fr t i) (t k))
def prF (N : Nat) (f : Nat → Nat) (e : Nat) : Nat := if e = 0 then N else f (e - 1)
def rcF (o : Int32) (N fr : Nat) (t : Nat → Nat) (f : Nat → Nat) (e p : Nat) : Bool := !decide (dst o (tcF N fr t (prF N f e)) (t p) = -1)
def SF (o : Int32) (N fr : Nat) (t : Nat → Nat) (g : Nat → Nat) : Nat := tsF (ddF o N fr t) N g N
/-- the CELLS of A are t 0, t 1 .. in their order -/
def CelT (A : Int32) (N : Nat) (t : Nat → Nat) : Prop := S30 A ∧ N = cnt A 30 ∧ N ≤ 5 ∧ (∀ p, p < N → t p < 30 ∧ hb A (t p) = true ∧ cnt A (t p) = p)
theorem CelT.ex {A : Int32} (hA : S30 A) (h5 : cnt A 30 ≤ 5) : ∃ t, CelT A (cnt A 30) t := by
  refine ⟨fun p => if h : p < cnt A 30 then (cnt_ex 30 p h).choose else 0, hA, rfl, h5, fun p hp => ?_⟩
  have e : (if h : p < cnt A 30 then (cnt_ex (A := A) 30 p h).choose else 0) = (cnt_ex (A := A) 30 p hp).choose := dif_pos hp
  have := (cnt_ex (A := A) 30 p hp).choose_spec
  rw [← e] at this
  exact this
theorem CelT.at {A : Int32} {N : Nat} {t : Nat → Nat} (h : CelT A N t) {c : Nat} (hc : hb A c = true) : cnt A c < N ∧ t (cnt A c) = c := by
  obtain ⟨hA, hN, h5, ht⟩ := h
  have h1 : cnt A c < N := by rw [hN]; exact cnt_step A (hA.lt hc) hc
  exact ⟨h1, cnt_inj (ht _ h1).2.1 hc (ht _ h1).2.2⟩
theorem ddF_le (o : Int32) (N fr : Nat) (t : Nat → Nat) (i k : Nat) : ddF o N fr t i k ≤ 30 := by
  unfold ddF
  rcases dst_cases o (tcF N fr t i) (t k) with e | ⟨j, hj, e⟩
  · rw [e]; decide
  · rw [e, nN_nI (by omega)]; omega
theorem dd_low {o : Int32} (hO : S30 o) {A : Int32} {N fr : Nat} {t : Nat → Nat} (hT : CelT A N t) : ∀ f e q, 1 ≤ e → (∀ j, j < e → f j < N) → q < N → rcF o N fr t f e q = true → ¬ f (e - 1) = q → 1 ≤ ddF o N fr t (f (e - 1)) q := by
  intro f e q he hf hq hr hne
  obtain ⟨hA, hN, h5, ht⟩ := hT
  have hj := hf (e - 1) (by omega)
  unfold rcF prF at hr
  rw [if_neg (by omega)] at hr
  unfold ddF
  have etc : tcF N fr t (f (e - 1)) = t (f (e - 1)) := by unfold tcF; rw [if_neg (by omega)]
  rw [etc] at hr ⊢
  rcases dst_cases o (t (f (e - 1))) (t q) with z | ⟨j, hj', z⟩
  · rw [z] at hr; exact absurd hr (by decide)
  · rw [z, nN_nI (by omega)]
    rcases Nat.eq_zero_or_pos j with y | y
    · rw [y] at z
      have hw := (dst_open hO (ht _ hj).1 (by decide) z).2.2.1
      have hw : t (f (e - 1)) = t q := hw
      have : f (e - 1) = q := by rw [← (ht _ hj).2.2, hw, (ht q hq).2.2]
      exact absurd this hne
    · exact y
def FrT (u z : PoS) : Prop := (∀ j, j ≠ 35 → j ≠ 36 → j ≠ 37 → z.1 j = u.1 j) ∧ ∀ i, i ≠ 0 → z.1 35 i = u.1 35 i
theorem FrT.refl (u : PoS) : FrT u u := ⟨fun _ _ _ _ => rfl, fun _ _ => rfl⟩
theorem FrT.tr {u v z : PoS} (h1 : FrT u v) (h2 : FrT v z) : FrT u z := ⟨fun j a b c => by rw [h2.1 j a b c, h1.1 j a b c], fun i hi => by rw [h2.2 i hi, h1.2 i hi]⟩
def StT (o : Int32) (N : Nat) (t : Nat → Nat) (u : PoS) (f : Nat → Nat) (e : Nat) (B : Nat × (Nat → Nat)) : Prop := u.1 35 3 = nI N ∧ u.1 35 4 = o ∧ u.1 35 0 = nI B.1 ∧ (∀ j, j < e → u.1 37 j = nI (t (f j))) ∧ (B.1 < 1000000 → ∀ j, j < N → u.1 36 j = nI (t (B.2 j)))
def LefT (A : Int32) (N : Nat) (t : Nat → Nat) (x : Int32) (f : Nat → Nat) (e : Nat) : Prop := S30 x ∧ ∀ c, hb x c = true ↔ hb A c = true ∧ ct f (cnt A c) e = 0
theorem cnt_none {x : Int32} (hx : S30 x) (h : cnt x 30 = 0) : x = 0 := by
  apply Classical.byContradiction
  intro z
  obtain ⟨c, hc, hx1⟩ := S30_ne hx z
  have := cnt_step x hc hx1
  omega
theorem extendX {o A : Int32} (hO : S30 o) {N fr : Nat} (hfr : fr < 30) {t : Nat → Nat} (hT : CelT A N t) : ∀ d e, e + d = N → ∀ q, d < q → ∀ (f : Nat → Nat) (B : Nat × (Nat → Nat)) (u : PoS) (x : Int32), (∀ j, j < e → f j < N) → B.1 ≤ 1000000 → StT o N t u f e B → LefT A N t x f e → cnt x 30 = d → (d = 0 → SF o N fr t f < B.1) → ∀ post : PoS → Prop, (∀ z, FrT u z → StT o N t z f e (foT (SF o N fr t) B (tlv N (rcF o N fr t) d e f)) → post z) → wR_extend q (nI e) (nI (tcF N fr t (prF N f e))) x (nI (tsF (ddF o N fr t) N f e)) u post := by
  obtain ⟨hA, hN, h5, ht⟩ := id hT
  have tc30 : ∀ i, i ≤ N → tcF N fr t i < 30 := by
    intro i hi
    unfold tcF
    by_cases z : i = N
    · rw [if_pos z]; exact hfr
    · rw [if_neg z]; exact (ht i (by omega)).1
  intro d
  induction d with
  | zero =>
    intro e he q hq f B u x hf hB hS hL hcx h0 post K
    obtain rfl : e = N := by omega
    obtain ⟨q, rfl⟩ : ∃ r, q = r + 1 := ⟨q - 1, by omega⟩
    obtain ⟨s1, s2, s3, s4, s5⟩ := hS
    have x0 := cnt_none hL.1 hcx
    have h0 := h0 rfl
    have e0 : foT (SF o e fr t) B (tlv e (rcF o e fr t) 0 e f) = (SF o e fr t f, f) := by
      show upT _ B f = _
      unfold upT; rw [if_pos h0]
    rw [e0] at K
    refine ⟨fun _ z1 e1 => ⟨⟨by decide, by decide, by decide, by decide, by decide⟩, fun z2 e2 => ?_⟩, fun h => absurd x0 h⟩
    rw [show Int32.toNatClampNeg 0 = 0 from rfl, show Int32.toNatClampNeg 5 = 5 from rfl] at e2
    refine K z2 ⟨fun j a b c => by rw [e2, cI_o b, e1, pI_o a], fun i hi => by rw [e2, cI_o (by decide), e1, pI_s, up_ne hi]⟩ ⟨?_, ?_, ?_, fun j hj => ?_, fun _ j hj => ?_⟩
    · rw [e2, cI_o (by decide), e1, pI_s, up_ne (by decide)]; exact s1
    · rw [e2, cI_o (by decide), e1, pI_s, up_ne (by decide)]; exact s2
    · rw [e2, cI_o (by decide), e1, pI_s, up_eq]; rfl
    · rw [e2, cI_o (by decide), e1, pI_o (by decide)]; exact s4 j hj
    · rw [e2, cI_s, pk_cpy_in (by omega) (by omega), show 0 + (j - 0) = j by omega, e1, pI_o (by decide)]; exact s4 j hj
  | succ d ih =>
    intro e he q hq f B u x hf hB hS hL hcx h0 post K
    obtain ⟨q, rfl⟩ : ∃ r, q = r + 1 := ⟨q - 1, by omega⟩
    have x0 : ¬ x = 0 := fun h => by
      have : cnt 0 30 = 0 := by rw [← cnt_32 S30_0]; exact cnt_0
      rw [h, this] at hcx; omega
    have hts := tsF_le (N := N) (ddF_le o N fr t) f e
    have pr30 : tcF N fr t (prF N f e) < 30 := by
      refine tc30 _ ?_
      unfold prF
      by_cases z : e = 0
      · rw [if_pos z]; exact Nat.le_refl _
      · rw [if_neg z]; exact Nat.le_of_lt (hf _ (by omega))
    refine ⟨fun h => absurd h x0, fun _ => ⟨fun _ => ⟨31, ?_⟩, fun h => absurd (nI_lt (b := 5) (by omega) (by decide)) h⟩⟩
    have lp : ∀ m c, c + m = 30 → ∀ (z : PoS) (B1 : Nat × (Nat → Nat)), B1.1 ≤ 1000000 → FrT u z → StT o N t z f e B1 → (∀ z', FrT u z' → StT o N t z' f e (foT (SF o N fr t) B1 (cat (tbr N (rcF o N fr t) d e f) (N - cnt A c) (cnt A c))) → post z') → wl_X10_extend_33 (wR_extend q) post (m + 1) (nI e) (nI (tcF N fr t (prF N f e))) x (nI (tsF (ddF o N fr t) N f e)) (nI c) z := by
      intro m
      induction m with
      | zero =>
        intro c hc z B1 hB1 fz hS K
        obtain rfl : c = 30 := by omega
        rw [← hN, Nat.sub_self] at K
        rw [wl_X10_extend_33]
        exact ⟨fun _ => K z fz hS, fun h => absurd (by decide) h⟩
      | succ m ihm =>
        intro c hc z B1 hB1 fz hS K
        obtain ⟨s1, s2, s3, s4, s5⟩ := id hS
        have ihm := ihm (c + 1) (by omega)
        have ecn : cnt A (c + 1) = cnt A c + (if hb A c = true then 1 else 0) := rfl
        rw [ecn] at ihm
        rw [wl_X10_extend_33]
        refine ⟨fun h => absurd h (nI_ge (b := 30) (by omega) (by decide)), fun _ => ?_⟩
        by_cases hAc : hb A c = true
        · rw [if_pos hAc] at ihm
          obtain ⟨hp, htp⟩ := hT.at hAc
          generalize hpp : cnt A c = p at *
          rw [show N - p = (N - (p + 1)) + 1 by omega, cat, foT_app] at K
          have skip : foT (SF o N fr t) B1 (tbr N (rcF o N fr t) d e f p) = B1 → wj_X10_extend_118 (wR_extend q) (wl_X10_extend_33 (wR_extend q) post (m + 1)) post (nI e) (nI (tcF N fr t (prF N f e))) x (nI (tsF (ddF o N fr t) N f e)) (nI c) z := by
            intro hs
            unfold wj_X10_extend_118
            rw [nI_1]
            rw [hs] at K
            exact ihm z B1 hB1 fz hS K
          cases hxc : hb x c
          · refine hasX_f (by omega) hxc ⟨fun _ => skip ?_, fun h => absurd rfl h⟩
            unfold tbr
            rw [if_neg (fun h => bN hxc ((hL.2 c).mpr ⟨hAc, by rw [hpp]; exact h.1⟩))]; rfl
          · have hct : ct f p e = 0 := by rw [← hpp]; exact ((hL.2 c).mp hxc).2
            refine hasX_t (by omega) hxc ⟨fun h => absurd h (by decide), fun _ => ?_⟩
            rw [gI_def, s2]
            refine stepsX hO pr30 (by omega) ?_
            rw [← htp]
            refine ⟨fun hm1 => ?_, fun hm1 => ?_⟩
            · rw [htp]
              refine skip ?_
              unfold tbr
              rw [if_neg (fun h => by
                have := h.2
                unfold rcF at this
                rw [hm1] at this; exact absurd this (by decide))]; rfl
            · have hr : rcF o N fr t f e p = true := by unfold rcF; rw [decide_eq_false hm1]; rfl
              have er : tbr N (rcF o N fr t) d e f p = tlv N (rcF o N fr t) d (e + 1) (fu f e p) := by unfold tbr; rw [if_pos ⟨hct, hr⟩]
              obtain ⟨k, hk, ek⟩ := (dst_cases o (tcF N fr t (prF N f e)) (t p)).resolve_left hm1
              have edd : ddF o N fr t (if e = 0 then N else f (e - 1)) p = k := by
                show nN (dst o (tcF N fr t (prF N f e)) (t p)) = k
                rw [ek, nN_nI (by omega)]
              have etot : tsF (ddF o N fr t) N (fu f e p) (e + 1) = tsF (ddF o N fr t) N f e + k := by rw [tsF_fu, edd]
              have hfu : ∀ j, j < e + 1 → fu f e p j < N := fun j hj => by
                by_cases y : j = e
                · rw [y, fu_s]; exact hp
                · rw [fu_o y]; exact hf j (by omega)
              rw [ek, gI_def, gI_def, s3, s1, nI_add, nI_add, q_sub (by omega), show (1 : Int32) = nI 1 from rfl, q_sub (by omega), q_le (by omega) (by omega)]
              refine ⟨fun hle => ?_, fun hle => ?_⟩
              · rw [htp]
                refine skip ?_
                rw [er]
                refine foT_no _ (fun g hg => ?_)
                have := ts_low (dd := ddF o N fr t) (dd_low hO hT) d (e + 1) (fu f e p) g (by omega) hfu hg
                rw [etot, show e + 1 + d = N by omega] at this
                show B1.1 ≤ tsF (ddF o N fr t) N g N
                omega
              · rw [q_vp (by omega) (by omega), q_cl (by omega)]
                refine ⟨by omega, fun z7 e7 => ?_⟩
                have f7 : FrT z z7 := ⟨fun j a b c => by rw [e7, pI_o c], fun i hi => by rw [e7, pI_o (by decide)]⟩
                have S7 : StT o N t z7 (fu f e p) (e + 1) B1 := by
                  refine ⟨?_, ?_, ?_, fun j hj => ?_, fun hlt j hj => ?_⟩
                  · rw [e7, pI_o (by decide)]; exact s1
                  · rw [e7, pI_o (by decide)]; exact s2
                  · rw [e7, pI_o (by decide)]; exact s3
                  · rw [e7, pI_s]
                    by_cases y : j = e
                    · rw [y, up_eq, fu_s]
                    · rw [up_ne y, fu_o y]; exact s4 j (by omega)
                  · rw [e7, pI_o (by decide)]; exact s5 hlt j hj
                have xb : ∀ c', hb (x &&& (bt1 (t p) ^^^ -1)) c' = true ↔ hb x c' = true ∧ c' ≠ t p := bx_hb (by omega) hL.1
                have L7 : LefT A N t (x &&& (bt1 (t p) ^^^ -1)) (fu f e p) (e + 1) := by
                  refine ⟨hL.1.and _, fun c' => ?_⟩
                  rw [xb, hL.2 c']
                  rw [show ct (fu f e p) (cnt A c') (e + 1) = ct f (cnt A c') e + (if p = cnt A c' then 1 else 0) by rw [ct, fu_s, ct_cg (g := f) e (fun j hj => fu_o (by omega))]]
                  constructor
                  · rintro ⟨⟨g1, g2⟩, g3⟩
                    refine ⟨g1, ?_⟩
                    rw [if_neg (fun h => g3 (by rw [h]; exact (hT.at g1).2.symm)), Nat.add_zero]; exact g2
                  · rintro ⟨g1, g2⟩
                    refine ⟨⟨g1, by omega⟩, fun h => ?_⟩
                    rw [if_pos (by rw [h]; exact (ht p hp).2.2.symm)] at g2; omega
                have c7 : cnt (x &&& (bt1 (t p) ^^^ -1)) 30 = d := by
                  have := cnt_del (x := x) (y := x &&& (bt1 (t p) ^^^ -1)) (c := t p) (by rw [htp]; exact hxc) (bF (fun h => ((xb (t p)).mp h).2 rfl)) (fun i hi => by
                    cases y : hb x i
                    · exact bF (fun h => bN y ((xb i).mp h).1)
                    · exact (xb i).mpr ⟨y, hi⟩) 30
                  rw [if_pos (by omega)] at this
                  omega
                have ih := ih (e + 1) (by omega) q (by omega) (fu f e p) B1 z7 (x &&& (bt1 (t p) ^^^ -1)) hfu hB1 S7 L7 c7 (fun hd => by
                  show tsF (ddF o N fr t) N (fu f e p) N < B1.1
                  have h2 : tsF (ddF o N fr t) N (fu f e p) N = tsF (ddF o N fr t) N (fu f e p) (e + 1) := by rw [show e + 1 = N by omega]
                  rw [h2, etot]; omega)
                have etc : tcF N fr t (prF N (fu f e p) (e + 1)) = t p := by
                  unfold prF tcF
                  rw [if_neg (show ¬ e + 1 = 0 by omega), Nat.add_sub_cancel, fu_s, if_neg (by omega)]
                rw [etot, etc] at ih
                rw [nI_add]
                refine ih _ (fun u9 f9 S9 => ?_)
                obtain ⟨w1, w2, w3, w4, w5⟩ := S9
                unfold wj_X10_extend_118
                rw [htp, nI_1]
                rw [er] at K
                refine ihm u9 _ (Nat.le_trans (foT_le _ _ B1) hB1) ((fz.tr f7).tr f9) ⟨w1, w2, w3, fun j hj => ?_, w5⟩ K
                rw [w4 j (by omega), fu_o (by omega)]
        · rw [if_neg hAc, Nat.add_zero] at ihm
          refine hasX_f (by omega) (bF (fun h => hAc ((hL.2 c).mp h).1)) ⟨fun _ => ?_, fun h => absurd rfl h⟩
          unfold wj_X10_extend_118
          rw [nI_1]
          exact ihm z B1 hB1 fz hS K
    have := lp 30 0 rfl u B hB (FrT.refl u) hS
    rw [show cnt A 0 = 0 from rfl, Nat.sub_zero] at this
    exact this K
theorem planX {o A : Int32} (hO : S30 o) {N fr : Nat} (hfr : fr < 30) {t : Nat → Nat} (hT : CelT A N t) {u : PoS} {post : Int32 → PoS → Prop} (K : ∀ (z : PoS) (B : Nat × (Nat → Nat)), B = foT (SF o N fr t) (1000000, fun _ => 0) (tlv N (rcF o N fr t) N 0 (fun _ => 0)) → (∀ j, j < 35 ∨ 37 < j → z.1 j = u.1 j) → (B.1 < 1000000 → ∀ j, j < N → z.1 36 j = nI (t (B.2 j))) → z.1 35 0 = nI B.1 → (B.1 < 1000000 ∨ B.1 = 1000000) → post (if B.1 < 1000000 then 1 else 0) z) : wp_X10_plan (nI fr) A o u post := by
  obtain ⟨hA, hN, h5, ht⟩ := id hT
  refine bcN (fun z3 e3 z4 e4 z5 e5 => ?_)
  rw [cnt_32 hA, ← hN] at e3
  have f5 : ∀ j, j ≠ 35 → z5.1 j = u.1 j := fun j hj => by rw [e5, pI_o hj, e4, pI_o hj, e3, pI_o hj]
  have S5 : StT o N t z5 (fun _ => 0) 0 (1000000, fun _ => 0) := by
    refine ⟨?_, ?_, ?_, fun j hj => by omega, fun h => absurd h (Nat.lt_irrefl _)⟩
    · rw [e5, pI_s, up_ne (by decide), e4, pI_s, up_ne (by decide), e3, pI_s, up_eq]
    · rw [e5, pI_s, up_ne (by decide), e4, pI_s, up_eq]
    · rw [e5, pI_s, up_eq]; rfl
  have := extendX hO hfr hT N 0 (Nat.zero_add N) 8 (by omega) (fun _ => 0) (1000000, fun _ => 0) z5 A (fun j hj => by omega) (Nat.le_refl _) S5 ⟨hA, fun c => ⟨fun h => ⟨h, rfl⟩, fun h => h.1⟩⟩ hN.symm (fun h => by
    subst h
    show 0 < 1000000
    decide) (fun (u7 : PoS) => ((1000000 ≤ (gI u7 35 0) → post 0 u7) ∧ (¬ 1000000 ≤ (gI u7 35 0) → post 1 u7))) (fun z f S => ?_)
  · have etc : tcF N fr t (prF N (fun _ => 0) 0) = fr := by unfold prF tcF; rw [if_pos rfl, if_pos rfl]
    rw [etc] at this
    exact this
  · obtain ⟨w1, w2, w3, w4, w5⟩ := S
    have bl := foT_le (SF o N fr t) (tlv N (rcF o N fr t) N 0 (fun _ => 0)) (1000000, fun _ => 0)
    have bl : (foT (SF o N fr t) (1000000, fun _ => 0) (tlv N (rcF o N fr t) N 0 (fun _ => 0))).1 ≤ 1000000 := bl
    have K := K z _ rfl (fun j hj => by rw [f.1 j (by omega) (by omega) (by omega), f5 j (by omega)]) w5 w3 (by omega)
    rw [gI_def, w3, show (1000000 : Int32) = nI 1000000 from rfl, q_le (by omega) (by omega)]
    refine ⟨fun h => ?_, fun h => ?_⟩
    · rw [if_neg (by omega)] at K; exact K
    · rw [if_pos (by omega)] at K; exact K
