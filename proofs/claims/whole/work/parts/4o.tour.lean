/-! tour -/
theorem dst_cn {o : Int32} (hO : S30 o) {a b : Nat} (ha : a < 30) (hoa : hb o a = true) : (¬ dst o a b = -1) ↔ Cn o a b := by
  rcases dst_is hO ha hoa b with ⟨k, hk, e, w, -⟩ | ⟨e, h⟩
  · rw [e]
    exact ⟨fun _ => ⟨k, w⟩, fun _ => q_neg0 (by omega)⟩
  · rw [e]
    exact ⟨fun z => absurd rfl z, fun ⟨j, w⟩ => absurd w (h j)⟩
theorem tlv_none {o A : Int32} (hO : S30 o) {N fr : Nat} {t : Nat → Nat} (hT : CelT A N t) (hfr : fr < 30) (hof : hb o fr = true) (hAo : ∀ c, hb A c = true → hb o c = true) (h : ∃ i k, i ≤ N ∧ k < N ∧ dst o (tcF N fr t i) (t k) = -1) : tlv N (rcF o N fr t) N 0 (fun _ => 0) = [] := by
  obtain ⟨hA, hN, h5, ht⟩ := id hT
  have to : ∀ p, p < N → hb o (t p) = true := fun p hp => hAo _ (ht p hp).2.1
  have tc30 : ∀ i, i ≤ N → tcF N fr t i < 30 ∧ hb o (tcF N fr t i) = true := by
    intro i hi
    unfold tcF
    by_cases z : i = N
    · rw [if_pos z]; exact ⟨hfr, hof⟩
    · rw [if_neg z]; exact ⟨(ht i (by omega)).1, to i (by omega)⟩
  have far : ∃ p, p < N ∧ ¬ Cn o fr (t p) := by
    obtain ⟨i, k, hi, hk, e⟩ := h
    have hn : ¬ Cn o (tcF N fr t i) (t k) := fun w => (dst_cn hO (tc30 i hi).1 (tc30 i hi).2).mpr w e
    by_cases z : i = N
    · unfold tcF at hn
      rw [if_pos z] at hn
      exact ⟨k, hk, hn⟩
    · have et : tcF N fr t i = t i := by unfold tcF; rw [if_neg z]
      rw [et] at hn
      by_cases y : Cn o fr (t k)
      · exact ⟨i, by omega, fun w => hn ((w.sym hof).tr y)⟩
      · exact ⟨k, hk, y⟩
  obtain ⟨p, hp, hfar⟩ := far
  have reach : ∀ d e f g, (∀ j, j < e → f j < N ∧ Cn o fr (t (f j))) → g ∈ tlv N (rcF o N fr t) d e f → ∀ j, j < e + d → Cn o fr (t (g j)) := by
    intro d
    induction d with
    | zero =>
      intro e f g hf hg j hj
      rw [tlv, List.mem_singleton] at hg
      rw [hg]; exact (hf j (by omega)).2
    | succ d ih =>
      intro e f g hf hg j hj
      rw [tlv_s] at hg
      obtain ⟨q, -, hq, hm⟩ := cat_mem N 0 hg
      have hq : q < N := by omega
      unfold tbr at hm
      by_cases z : ct f q e = 0 ∧ rcF o N fr t f e q = true
      · rw [if_pos z] at hm
        refine ih (e + 1) (fu f e q) g (fun j hj => ?_) hm j (by omega)
        by_cases y : j = e
        · rw [y, fu_s]
          refine ⟨hq, ?_⟩
          have hr := z.2
          unfold rcF at hr
          have hr' : ¬ dst o (tcF N fr t (prF N f e)) (t q) = -1 := fun w => by rw [w] at hr; exact absurd hr (by decide)
          by_cases e0 : e = 0
          · have et : tcF N fr t (prF N f e) = fr := by unfold prF tcF; rw [if_pos e0, if_pos rfl]
            rw [et] at hr'
            exact (dst_cn hO hfr hof).mp hr'
          · have hl := hf (e - 1) (by omega)
            have et : tcF N fr t (prF N f e) = t (f (e - 1)) := by unfold prF tcF; rw [if_neg e0, if_neg (by have := hl.1; omega)]
            rw [et] at hr'
            exact hl.2.tr ((dst_cn hO (ht _ hl.1).1 (to _ hl.1)).mp hr')
        · rw [fu_o y]; exact hf j (by omega)
      · rw [if_neg z] at hm; exact absurd hm (by simp)
  cases e : tlv N (rcF o N fr t) N 0 (fun _ => 0) with
  | nil => rfl
  | cons g L =>
    exfalso
    have hg : g ∈ tlv N (rcF o N fr t) N 0 (fun _ => 0) := by rw [e]; simp
    obtain ⟨j, hj, ej⟩ := (tALL_has (by omega) (tlv_sub N _ N 0 _ g hg)).2 p hp
    have := reach N 0 (fun _ => 0) g (fun j hj => by omega) hg j (by omega)
    rw [ej] at this
    exact hfar this
theorem ob_tour {LT : Nat → PoS → Prop} (hLT : LTok LT) (x A y : Int32) : Ob32 (wp_X11_tour x A y) (wp_X12_tour x A y) (Inv LT) := by
  intro u hI
  have hL := hI.1.liv
  have hOp := hL.2.2.2.opn
  have hO := opn_30 (u.1 49)
  generalize eo : opn (u.1 49) = o at *
  by_cases ok : (∃ c, c < 30 ∧ x = nI c ∧ hb o c = true) ∧ (A &&& (o ^^^ -1)) = 0 ∧ 1 ≤ cnt A 32 ∧ cnt A 32 ≤ 5 ∧ (y = -1 ∨ ∃ i, i < cnt A 32 ∧ y = nI i)
  · obtain ⟨⟨fr, hfr, rfl, hof⟩, hA0, hn1, hn5, hy⟩ := ok
    have hAo : ∀ c, hb A c = true → hb o c = true := by
      intro c hc
      rcases Nat.lt_or_ge c 32 with z | z
      · cases e : hb o c
        · exfalso
          have : hb (A &&& (o ^^^ -1)) c = true := by rw [hb_and, hc, hb_not _ z, e]; rfl
          rw [hA0, hb_0] at this; exact Bool.noConfusion this
        · rfl
      · rw [hb_big z] at hc; exact Bool.noConfusion hc
    have hA : S30 A := fun c hc => bF (fun h => by have := hAo c h; rw [hO c hc] at this; exact Bool.noConfusion this)
    rw [cnt_32 hA] at hn1 hn5 hy
    obtain ⟨t, hT⟩ := CelT.ex hA hn5
    generalize eN : cnt A 30 = N at *
    obtain ⟨-, hN, h5, ht⟩ := id hT
    have hiy : ¬ y < -1 := by
      rcases hy with rfl | ⟨i, hi, rfl⟩
      · decide
      · show ¬ nI i < -nI 1
        rw [q_ltn (by omega)]; exact id
    have hiy' : ¬ (nI N - 1) < y := by
      rw [show (1 : Int32) = nI 1 from rfl, q_sub (by omega)]
      rcases hy with rfl | ⟨i, hi, rfl⟩
      · rcases (show N = 1 ∨ N = 2 ∨ N = 3 ∨ N = 4 ∨ N = 5 by omega) with e | e | e | e | e <;> rw [e] <;> decide
      · exact nI_nlt (by omega) (by omega)
    generalize hB : foT (SF o N fr t) (1000000, fun _ => 0) (tlv N (rcF o N fr t) N 0 (fun _ => 0)) = B
    refine ⟨fun r u1 => r = (if B.1 < 1000000 then (if y = -1 then nI B.1 else nI (t (B.2 (nN y)))) else -2) ∧ ∀ j, j < 35 ∨ 37 < j → u1.1 j = u.1 j, fun K hK => ?_, fun r u1 hr K hK => ?_⟩
    · refine openX (b := 0) hOp (bcN ?_)
      rw [eo, cnt_32 hA, eN]
      refine isOpenX (b := 0) hOp (fun c hc ec ho => ⟨fun z => absurd z (by decide), fun _ => ⟨fun z => absurd hA0 z, fun _ => within_t (nI_nlt (b := 1) (a := N) hn1 (by omega)) (nI_nlt (b := N) (a := 5) h5 (by decide)) ⟨fun _ => within_t hiy hiy' ⟨fun z => absurd z (by decide), fun _ => planX hO hfr hT (fun z B' hB' fz g36 g35 hB1 => ?_)⟩, fun z => absurd z (by decide)⟩⟩⟩) (fun hno => by rw [eo] at hno; rw [hno fr hfr rfl] at hof; exact Bool.noConfusion hof)
      rw [hB] at hB'
      subst hB'
      have K1 := hK _ z ⟨rfl, fz⟩
      by_cases z1 : B'.1 < 1000000
      · rw [if_pos z1] at K1 ⊢
        refine ⟨fun _ => ⟨fun z2 => ?_, fun z2 => ?_⟩, fun z2 => absurd z2 (by decide)⟩
        · obtain ⟨i, hi, rfl⟩ := hy.resolve_left z2
          rw [if_neg z2, nN_nI (by omega)] at K1
          rw [q_vp (by omega) (by omega), q_cl (by omega), gI_def, g36 z1 i hi]
          exact ⟨by omega, K1⟩
        · rw [if_pos z2] at K1
          rw [gI_def, g35]; exact K1
      · rw [if_neg z1] at K1 ⊢
        exact ⟨fun z2 => absurd rfl z2, fun _ => K1⟩
    · obtain ⟨rfl, f1⟩ := hr
      have e49 : u1.1 49 = u.1 49 := f1 49 (by decide)
      have eo1 : opn (u1.1 49) = o := by rw [e49, eo]
      have invz : ∀ z, (∀ j, j ≠ 57 → j ≠ 61 → j ≠ 62 → j ≠ 63 → j ≠ 64 → z.1 j = u1.1 j) → Inv LT z := fun z fz => inv_scr hLT hI (fun j hj => by rw [fz j (by omega) (by omega) (by omega) (by omega) (by omega), f1 j (by omega)]) (fun k _ => by rw [fz 48 (by decide) (by decide) (by decide) (by decide) (by decide), f1 48 (by decide)])
      have A0 : ¬ A = 0 := fun e => by
        have : cnt 0 30 = 0 := by rw [← cnt_32 S30_0]; exact cnt_0
        rw [e, this] at eN; omega
      have hAi : ¬ A < 1 ∧ ¬ (1073741823 : Int32) < A := by
        have h1 := S30_lt hA
        rw [← nI_tn A] at A0
        rw [← nI_tn A]
        refine ⟨?_, nI_nlt (a := 1073741823) (by omega) (by decide)⟩
        refine nI_nlt (b := 1) ?_ (by omega)
        rcases Nat.eq_zero_or_pos A.toBitVec.toNat with e | e
        · rw [e] at A0; exact absurd rfl A0
        · exact e
      refine isFreeM (r := u.1 3) (fun c hc ec ho => ⟨fun z => absurd z (by decide), fun _ => isIn_t hAi.1 hAi.2 ⟨fun z => absurd z (by decide), fun _ => freeM ?_⟩⟩) (fun hno => by rw [eo1] at hno; rw [hno fr hfr rfl] at hof; exact Bool.noConfusion hof)
      rw [eo1]
      refine ⟨fun z => absurd hA0 z, fun _ => bitsM ?_⟩
      rw [cnt_32 hA, eN]
      refine ⟨fun z => absurd z (nI_nlt (b := N) (a := 5) h5 (by decide)), fun _ => bitsM ?_⟩
      rw [cnt_32 hA, eN]
      refine isIn_t hiy hiy' ⟨fun _ => ⟨31, ?_⟩, fun z => absurd z (by decide)⟩
      -- the CELLS
      have fill : ∀ m c, c + m = 30 → ∀ z : PoS, (∀ j, j ≠ 61 → j ≠ 64 → z.1 j = u1.1 j) → (∀ p, p < cnt A c → z.1 64 p = nI (t p) ∧ z.1 61 p = nI p) → wl_X12_tour_60 (fun (v119 : Int32) (v319 : Int32) (v419 : Int32) (u19 : PoS) => wp_X12_areFars v119 v419 u19 (fun (r20 : Int32) (u21 : PoS) => ((¬ r20 = 0 → (∃ n127, wl_X12_tour_127 (fun (v333 : Int32) (v533 : Int32) (u33 : PoS) => ((¬ v333 = (-1) → vp_in v333 5 ∧ vp_in (gI u33 62 (Int32.toNatClampNeg v333)) 5 ∧ K (gI u33 64 (Int32.toNatClampNeg (gI u33 62 (Int32.toNatClampNeg v333)))) u33) ∧ (v333 = (-1) → K v533 u33))) K n127 v319 v419 1000000 1 u21)) ∧ (r20 = 0 → K (-2) u21)))) K (m + 1) (nI fr) A y (nI (cnt A c)) (nI c) z := by
        intro m
        induction m with
        | zero =>
          intro c hc z fz g
          obtain rfl : c = 30 := by omega
          rw [eN] at g ⊢
          rw [wl_X12_tour_60]
          refine ⟨fun _ => ?_, fun q => absurd (by decide) q⟩
          have ez : opn (z.1 49) = o := by rw [fz 49 (by decide) (by decide), eo1]
          refine areFarsM hT hfr (fun p hp => (g p hp).1) (fun hall z2 f2 hF => ⟨fun _ => ?_, fun q => absurd q (by decide)⟩) (fun hno z2 f2 => ⟨fun q => absurd rfl q, fun _ => ?_⟩)
          · rw [ez] at hall hF
            have eL : tlv N (rcF o N fr t) N 0 (fun _ => 0) = tALL N := by
              refine tlv_all N _ (fun f e p hf hp => ?_) N 0 _ (fun j hj => by omega)
              unfold rcF
              rw [decide_eq_false (hall _ p ?_ hp)]; rfl
              unfold prF
              by_cases z : e = 0
              · rw [if_pos z]; exact Nat.le_refl _
              · rw [if_neg z]; exact Nat.le_of_lt (hf _ (by omega))
            rw [eL] at hB
            obtain ⟨g0, L, eT, hg0⟩ := tALL_hd (N := N) (by omega)
            have hhas := fun g' (hg' : g' ∈ tALL N) => tALL_has (N := N) (by omega) hg'
            have hlt : B.1 < 1000000 := by
              have : B.1 ≤ (upT (SF o N fr t) (1000000, fun _ => 0) g0).1 := by
                rw [← hB, eT]
                show (foT (SF o N fr t) (upT (SF o N fr t) (1000000, fun _ => 0) g0) L).1 ≤ _
                exact foT_le _ _ _
              have h2 := tsF_le (N := N) (ddF_le o N fr t) g0 N
              have h3 : SF o N fr t g0 < 1000000 := by show tsF _ _ _ _ < _; omega
              unfold upT at this
              rw [if_pos h3] at this
              show B.1 < 1000000
              have h4 : B.1 ≤ SF o N fr t g0 := this
              omega
            have B2 : ∀ j, j < N → B.2 j < N := by
              rcases foT_in (SF o N fr t) (tALL N) (1000000, fun _ => 0) with e | e
              · rw [e] at hB; rw [← hB] at hlt; exact absurd hlt (Nat.lt_irrefl _)
              · rw [hB] at e; exact (hhas _ e).1
            refine ⟨L.length + 2, ?_⟩
            refine t127 (u := z2) (o := o) (fr := fr) (t := t) hn1 h5 hF L g0 (1000000, fun _ => 0) z2 (by rw [← eT]; exact ch_all N (by omega)) (fun g' hg' => by rw [← eT] at hg'; exact (hhas g' hg').1) (Nat.le_refl _) (fun _ _ _ => rfl) (fun j hj => by rw [hg0 j hj, f2 61 (by decide) (by decide)]; exact ⟨(g j hj).2, by omega⟩) (fun q => absurd q (Nat.lt_irrefl _)) (fun z3 f3 g62 => ?_)
            have eB : foT (SF o N fr t) (upT (SF o N fr t) (1000000, fun _ => 0) g0) L = B := by rw [← hB, eT]; rfl
            rw [eB] at g62 ⊢
            have K1 := hK z3 (invz z3 (fun j a b c d e => by rw [f3 j b c, f2 j a d, fz j b e]))
            rw [if_pos hlt] at K1
            refine ⟨fun z4 => ?_, fun z4 => ?_⟩
            · obtain ⟨i, hi, rfl⟩ := hy.resolve_left z4
              rw [if_neg z4, nN_nI (by omega)] at K1
              have b2 := B2 i hi
              rw [q_vp (by omega) (by omega), q_cl (by omega), gI_def, g62 hlt i hi, q_vp (by omega) (by omega), q_cl (by omega), gI_def, f3 64 (by decide) (by decide), f2 64 (by decide) (by decide), (g _ b2).1]
              exact ⟨by omega, by omega, K1⟩
            · rw [if_pos z4] at K1; exact K1
          · rw [ez] at hno
            have eL := tlv_none hO hT hfr hof hAo hno
            rw [eL] at hB
            have : ¬ B.1 < 1000000 := by rw [← hB]; exact Nat.lt_irrefl _
            have K1 := hK z2 (invz z2 (fun j a b c d e => by rw [f2 j a d, fz j b e]))
            rw [if_neg this] at K1; exact K1
        | succ m ih =>
          intro c hc z fz g
          have ih := ih (c + 1) (by omega)
          have ecn : cnt A (c + 1) = cnt A c + (if hb A c = true then 1 else 0) := rfl
          rw [ecn] at ih
          rw [wl_X12_tour_60]
          refine ⟨fun q => absurd q (nI_ge (b := 30) (by omega) (by decide)), fun _ => ?_⟩
          cases hAc : hb A c
          · rw [hAc, if_neg (by decide), Nat.add_zero] at ih
            refine hasM_f (by omega) hAc ⟨fun q => absurd rfl q, fun _ => ?_⟩
            unfold wj_X12_tour_100
            rw [nI_1]; exact ih z fz g
          · rw [hAc, if_pos rfl] at ih
            obtain ⟨hp, htp⟩ := hT.at hAc
            refine hasM_t (by omega) hAc ⟨fun _ => ?_, fun q => absurd q (by decide)⟩
            rw [q_vp (by omega) (by omega), q_cl (by omega)]
            refine ⟨by omega, fun z15 e15 => ⟨by omega, fun z16 e16 => ?_⟩⟩
            unfold wj_X12_tour_100
            rw [nI_1, nI_1]
            refine ih z16 (fun j a b => by rw [e16, pI_o a, e15, pI_o b]; exact fz j a b) (fun p hp' => ?_)
            by_cases y : p = cnt A c
            · rw [y, e16, pI_s, up_eq, pI_o (by decide), e15, pI_s, up_eq, htp]; exact ⟨rfl, rfl⟩
            · rw [e16, pI_s, up_ne y, pI_o (by decide), e15, pI_s, up_ne y, pI_o (by decide)]; exact g p (by omega)
      exact fill 30 0 rfl u1 (fun _ _ _ => rfl) (fun p hp => by rw [show cnt A 0 = 0 from rfl] at hp; omega)
  · refine ⟨fun r u1 => r = -2 ∧ u1 = u, fun K hK => ?_, fun r u1 hr K hK => ?_⟩
    · have K0 := hK _ _ ⟨rfl, rfl⟩
      refine openX (b := 0) hOp (bcN ?_)
      rw [eo]
      refine isOpenX (b := 0) hOp (fun c hc ec ho => ⟨fun z => absurd z (by decide), fun _ => ⟨fun _ => K0, fun hA0 => ?_⟩⟩) (fun _ => ⟨fun _ => K0, fun z => absurd rfl z⟩)
      rw [eo] at ho
      have c32 := cnt_le A 32
      by_cases h1 : nI (cnt A 32) < 1 ∨ (5 : Int32) < nI (cnt A 32)
      · exact within_f h1 ⟨fun z => absurd rfl z, fun _ => K0⟩
      · have h1' : 1 ≤ cnt A 32 ∧ cnt A 32 ≤ 5 := by
          rw [show (1 : Int32) = nI 1 from rfl, show (5 : Int32) = nI 5 from rfl, q_lt (by omega) (by omega), q_lt (by omega) (by omega)] at h1
          omega
        refine within_t (fun z => h1 (Or.inl z)) (fun z => h1 (Or.inr z)) ⟨fun _ => ?_, fun z => absurd z (by decide)⟩
        refine within_f ?_ ⟨fun _ => K0, fun z => absurd rfl z⟩
        apply Classical.byContradiction
        intro hn
        apply ok
        refine ⟨⟨c, hc, ec, ho⟩, hA0, h1'.1, h1'.2, ?_⟩
        rcases rng (cnt A 32) (by omega) y with ⟨i, hi, e⟩ | z | z
        · right
          refine ⟨i, ?_, e⟩
          rcases Nat.lt_or_ge i (cnt A 32) with w | w
          · exact w
          · exfalso; apply hn; right
            rw [e, show (1 : Int32) = nI 1 from rfl, q_sub h1'.1]; exact nI_lt (by omega) (by omega)
        · by_cases w : y = -1
          · exact Or.inl w
          · exfalso; apply hn; left
            have hne : ¬ y.toInt = (-1 : Int32).toInt := fun e => w (i32_eq e)
            rw [Int32.lt_iff_toInt_lt] at z ⊢
            have e0 : (0 : Int32).toInt = 0 := rfl
            have e1 : (-1 : Int32).toInt = -1 := rfl
            omega
        · exfalso; apply hn; right
          rw [Int32.lt_iff_toInt_lt] at z ⊢
          rw [nI_toInt (by omega)] at z
          rw [show (1 : Int32) = nI 1 from rfl, pk_sub_toInt (by omega) (by omega)]; omega
    · obtain ⟨rfl, rfl⟩ := hr
      have K0 := hK _ hI
      refine isFreeM (r := u1.1 3) (fun c hc ec ho => ⟨fun z => absurd z (by decide), fun _ => ?_⟩) (fun _ => ⟨fun _ => K0, fun z => absurd rfl z⟩)
      rw [eo] at ho
      by_cases hA1 : A < 1 ∨ (1073741823 : Int32) < A
      · exact isIn_f hA1 ⟨fun _ => K0, fun z => absurd rfl z⟩
      · refine isIn_t (fun z => hA1 (Or.inl z)) (fun z => hA1 (Or.inr z)) ⟨fun z => absurd z (by decide), fun _ => freeM ?_⟩
        rw [eo]
        refine ⟨fun _ => K0, fun hA0 => bitsM ?_⟩
        have c32 := cnt_le A 32
        have A0 : ¬ A = 0 := fun e => hA1 (Or.inl (by rw [e]; decide))
        have h1 : 1 ≤ cnt A 32 := by have := cnt_pre A0; omega
        rw [show (5 : Int32) = nI 5 from rfl, q_lt (by omega) (by omega)]
        refine ⟨fun _ => K0, fun h5 => bitsM (isIn_f ?_ ⟨fun z => absurd rfl z, fun _ => K0⟩)⟩
        apply Classical.byContradiction
        intro hn
        apply ok
        refine ⟨⟨c, hc, ec, ho⟩, hA0, h1, by omega, ?_⟩
        rcases rng (cnt A 32) (by omega) y with ⟨i, hi, e⟩ | z | z
        · right
          refine ⟨i, ?_, e⟩
          rcases Nat.lt_or_ge i (cnt A 32) with w | w
          · exact w
          · exfalso; apply hn; right
            rw [e, show (1 : Int32) = nI 1 from rfl, q_sub h1]; exact nI_lt (by omega) (by omega)
        · by_cases w : y = -1
          · exact Or.inl w
          · exfalso; apply hn; left
            have hne : ¬ y.toInt = (-1 : Int32).toInt := fun e => w (i32_eq e)
            rw [Int32.lt_iff_toInt_lt] at z ⊢
            have e0 : (0 : Int32).toInt = 0 := rfl
            have e1 : (-1 : Int32).toInt = -1 := rfl
            omega
        · exfalso; apply hn; right
          rw [Int32.lt_iff_toInt_lt] at z ⊢
          rw [nI_toInt (by omega)] at z
          rw [show (1 : Int32) = nI 1 from rfl, pk_sub_toInt (by omega) (by omega)]; omega
