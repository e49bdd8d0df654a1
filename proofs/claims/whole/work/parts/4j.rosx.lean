/-! ROSTERS, as the class makes them -/
def cs (a : Nat → Int32) (p d : Nat) : Nat := if p < 5 ∧ d < 7 then nN (a (130 + (7 * p + d))) else 0
theorem cs_of {r a : Nat → Int32} (h : RowOk r a) : (∀ p d, cs a p d ≤ 99) ∧ ∀ p d, p < 5 → d < 7 → a (130 + (7 * p + d)) = nI (cs a p d) ∧ r (118 + (7 * p + d)) = nI (cs a p d) := by
  have h5 : Cst r a := h.2.2.2.2.1
  refine ⟨fun p d => ?_, fun p d hp hd => ?_⟩
  · unfold cs
    by_cases z : p < 5 ∧ d < 7
    · rw [if_pos z]
      obtain ⟨-, m, hm, e⟩ := h5 (7 * p + d) (by omega)
      rw [e, nN_nI (by omega)]; exact hm
    · rw [if_neg z]; exact Nat.zero_le _
  · unfold cs
    rw [if_pos ⟨hp, hd⟩]
    obtain ⟨e1, m, hm, e⟩ := h5 (7 * p + d) (by omega)
    rw [e1, e, nN_nI (by omega)]
    exact ⟨rfl, rfl⟩
theorem foB_le (c : Nat → Nat → Nat) : ∀ (L : List (Nat → Nat)) (B : Nat × (Nat → Nat)), (foB c B L).1 ≤ B.1 := by
  intro L
  induction L with
  | nil => intro B; exact Nat.le_refl _
  | cons g L ih =>
    intro B
    refine Nat.le_trans (ih (upB c B g)) ?_
    unfold upB
    by_cases z : smC c g 7 < B.1
    · rw [if_pos z]; exact Nat.le_of_lt z
    · rw [if_neg z]; exact Nat.le_refl _
def Fx (n k : Nat) (c : Nat → Nat → Nat) (u : PoS) : Prop := u.1 38 6 = nI n ∧ u.1 38 7 = nI k ∧ u.2.2 38 5 = 3 ∧ (∀ p d, p < 5 → d < 7 → u.1 3 (118 + (7 * p + d)) = nI (c p d))
def Bh (n : Nat) (c : Nat → Nat → Nat) (u : PoS) (e : Nat) : Prop := ∀ d p, e ≤ d → d < 7 → p < n → u.1 42 (d * 5 + p) = nI (rb c n (6 - d) p)
theorem costX {n k : Nat} {c : Nat → Nat → Nat} {u : PoS} (h : Fx n k c u) {p d : Nat} (hp : p < 5) (hd : d < 7) {post : Int32 → PoS → Prop} (K : post (nI (c p d)) u) : wp_X7_costOf (nI p) (nI d) u post := by
  obtain ⟨h1, h2, h3, h4⟩ := h
  unfold wp_X7_costOf
  rw [show ((118 : Int32) + nI p * 7) + nI d = nI (118 + (7 * p + d)) by simp (disch := omega) only [q_lit, nI_add, pk_mul, q_sub, q_rem, q_div, q_vp, q_cl, q_lt, q_le, q_eq, q_neg1, gI_def]; omega, q_vp (by omega) (by omega), q_cl (by omega), gI_def, h4 p d hp hd]
  exact ⟨h3, by omega, K⟩
def Fr42 (u z : PoS) : Prop := (∀ j, j ≠ 42 → z.1 j = u.1 j) ∧ z.2.2 = u.2.2
theorem Fx.m42 {n k : Nat} {c : Nat → Nat → Nat} {u z : PoS} (h : Fx n k c u) (f : Fr42 u z) : Fx n k c z := by
  obtain ⟨h1, h2, h3, h4⟩ := h
  unfold Fx
  rw [f.1 38 (by decide), f.1 3 (by decide), f.2]
  exact ⟨h1, h2, h3, h4⟩
theorem imin_m {a b : Nat} (ha : a < 2 ^ 31) (hb : b < 2 ^ 31) : imin (nI a) (nI b) = nI (min a b) := imin_n ha hb
theorem boundX {n k : Nat} {c : Nat → Nat → Nat} (hn : n ≤ 5) (hc : ∀ p d, c p d ≤ 99) {u : PoS} (h : Fx n k c u) {e : Nat} (he : e < 7) (hB : Bh n c u (e + 1)) {post : PoS → Prop} (K : ∀ z, Fr42 u z → Bh n c z e → post z) : wp_X7_boundDay (nI e) u post := by
  refine ⟨n + 1, ?_⟩
  have lp : ∀ m p, p + m = n → ∀ z, Fr42 u z → Bh n c z (e + 1) → (∀ p', p' < p → z.1 42 (e * 5 + p') = nI (rb c n (6 - e) p')) → wl_X7_boundDay_2 post (m + 1) (nI e) (nI p) z := by
    intro m
    induction m with
    | zero =>
      intro p hp z f b g
      obtain rfl : p = n := by omega
      rw [wl_X7_boundDay_2, gI_def, f.1 38 (by decide), h.1, q_le (by omega) (by omega)]
      refine ⟨fun _ => K z f (fun d p' h1 h2 h3 => ?_), fun q => by omega⟩
      by_cases e1 : d = e
      · rw [e1]; exact g p' h3
      · exact b d p' (by omega) h2 h3
    | succ m ih =>
      intro p hp z f b g
      have hz := h.m42 f
      have fin : wj_X7_boundDay_85 (wl_X7_boundDay_2 post (m + 1)) post (nI e) (nI p) (nI (rb c n (6 - e) p)) z := by
        unfold wj_X7_boundDay_85
        rw [show nI e * 5 + nI p = nI (e * 5 + p) by simp (disch := omega) only [q_lit, nI_add, pk_mul, q_sub, q_rem, q_div, q_vp, q_cl, q_lt, q_le, q_eq, q_neg1, gI_def], q_vp (by omega) (by omega), q_cl (by omega), nI_1]
        refine ⟨by omega, fun z9 e9 => ih (p + 1) (by omega) z9 ?_ ?_ ?_⟩
        · exact ⟨fun j hj => by rw [e9, pI_o hj]; exact f.1 j hj, by rw [e9]; exact f.2⟩
        · intro d p' h1 h2 h3
          rw [e9, pI_s, up_ne (by omega)]; exact b d p' h1 h2 h3
        · intro p' hp'
          rw [e9, pI_s]
          by_cases e1 : p' = p
          · rw [e1, up_eq]
          · rw [up_ne (by omega)]; exact g p' (by omega)
      rw [wl_X7_boundDay_2, gI_def, hz.1, q_le (by omega) (by omega), show (6 : Int32) = nI 6 from rfl, q_eq (by omega) (by omega)]
      refine ⟨fun q => by omega, fun _ => ⟨fun e6 => ?_, fun e6 => ?_⟩⟩
      · obtain ⟨d, hd⟩ : ∃ d, 6 - e = d + 1 := ⟨5 - e, by omega⟩
        have hg : ∀ q, q < n → z.1 42 ((e + 1) * 5 + q) = nI (rb c n d q) := fun q hq => by
          have := b (e + 1) q (Nat.le_refl _) (by omega) hq
          rw [show 6 - (e + 1) = d by omega] at this; exact this
        refine ⟨n + 1, ?_⟩
        have inner : ∀ m' q, q + m' = n → wl_X7_boundDay_26 (fun (v18 : Int32) (v28 : Int32) (v38 : Int32) (u8 : PoS) => wj_X7_boundDay_85 (wl_X7_boundDay_2 post (m + 1)) post v18 v28 v38 u8) post (m' + 1) (nI e) (nI p) (nI (rbm (fun q => c q (6 - d) + rb c n d q) p q)) (nI q) z := by
          intro m'
          induction m' with
          | zero =>
            intro q hq
            obtain rfl : q = n := by omega
            rw [wl_X7_boundDay_26, gI_def, hz.1, q_le (by omega) (by omega)]
            refine ⟨fun _ => ?_, fun q => by omega⟩
            rw [hd] at fin; exact fin
          | succ m' ih' =>
            intro q hq
            have ih' := ih' (q + 1) (by omega)
            have b1 := (rbm_le (fun q => c q (6 - d) + rb c n d q) p q).1
            have b2 := hc q (6 - d)
            have b4 := hc q (e + 1)
            have b3 := rb_le c n d q
            rw [rbm] at ih'
            rw [wl_X7_boundDay_26, gI_def, hz.1, q_le (by omega) (by omega), show (6 : Int32) = nI 6 from rfl, q_le (by omega) (by omega), q_eq (by omega) (by omega)]
            refine ⟨fun q => by omega, fun _ => ⟨fun q => by omega, fun _ => ⟨fun e1 => ?_, fun e1 => ?_⟩⟩⟩
            · unfold wj_X7_boundDay_79; rw [nI_1]; rw [if_pos e1] at ih'; exact ih'
            · rw [if_neg e1] at ih'
              rw [nI_1]
              refine costX hz (by omega) (by omega) ?_
              rw [show nI (e + 1) * 5 + nI q = nI ((e + 1) * 5 + q) by simp (disch := omega) only [q_lit, nI_add, pk_mul, q_sub, q_rem, q_div, q_vp, q_cl, q_lt, q_le, q_eq, q_neg1, gI_def], q_vp (by omega) (by omega), q_cl (by omega), gI_def, hg q (by omega), nI_add]
              refine ⟨by omega, fun x3 e3 x4 e4 => ?_⟩
              rw [e4, e3, imin_m (by omega) (by omega)]
              unfold wj_X7_boundDay_79
              rw [nI_1]
              rw [show 6 - d = e + 1 by omega] at ih' ⊢
              exact ih'
        exact inner n 0 (Nat.zero_add n)
      · refine ⟨1, ?_⟩
        rw [show 6 - e = 0 by omega] at fin
        rw [wl_X7_boundDay_26, gI_def, hz.1, show (0 : Int32) = nI 0 from rfl, q_le (by omega) (by omega), show (6 : Int32) = nI 6 from rfl, q_le (by omega) (by omega)]
        exact ⟨fun q => by omega, fun _ => ⟨fun _ => fin, fun q => by omega⟩⟩
  exact lp n 0 (Nat.zero_add n) u ⟨fun _ _ => rfl, rfl⟩ hB (fun p' hp' => by omega)
def FrF (u z : PoS) : Prop := (∀ j, j ≠ 38 → j ≠ 39 → j ≠ 40 → j ≠ 41 → z.1 j = u.1 j) ∧ (∀ i, i ≠ 0 → z.1 38 i = u.1 38 i) ∧ z.2.2 = u.2.2
theorem FrF.refl (u : PoS) : FrF u u := ⟨fun _ _ _ _ _ => rfl, fun _ _ => rfl, rfl⟩
theorem FrF.tr {u v z : PoS} (h1 : FrF u v) (h2 : FrF v z) : FrF u z := ⟨fun j a b c d => by rw [h2.1 j a b c d, h1.1 j a b c d], fun i hi => by rw [h2.2.1 i hi, h1.2.1 i hi], by rw [h2.2.2, h1.2.2]⟩
theorem FrF.put {u : PoS} {j k : Nat} {v : Int32} (h : j = 39 ∨ j = 40 ∨ j = 41) : FrF u (pI u j k v) := ⟨fun i _ a b c => pI_o (by omega), fun i _ => by rw [pI_o (by omega)], rfl⟩
def StX (n k : Nat) (c : Nat → Nat → Nat) (u : PoS) (f : Nat → Nat) (e : Nat) (B : Nat × (Nat → Nat)) : Prop := Fx n k c u ∧ Bh n c u 0 ∧ (∀ j, j < e → u.1 40 j = nI (f j)) ∧ (∀ p, p < 5 → u.1 41 p = nI (ct f p e)) ∧ u.1 38 0 = nI B.1 ∧ (B.1 < 1000000 → ∀ j, j < 7 → u.1 39 j = nI (B.2 j))
theorem Fx.mf {n k : Nat} {c : Nat → Nat → Nat} {u z : PoS} (h : Fx n k c u) (f : FrF u z) : Fx n k c z := by
  obtain ⟨h1, h2, h3, h4⟩ := h
  unfold Fx
  rw [f.2.1 6 (by decide), f.2.1 7 (by decide), f.1 3 (by decide) (by decide) (by decide) (by decide), f.2.2]
  exact ⟨h1, h2, h3, h4⟩
theorem Bh.mf {n e : Nat} {c : Nat → Nat → Nat} {u z : PoS} (h : Bh n c u e) (f : FrF u z) : Bh n c z e := by
  unfold Bh
  rw [f.1 42 (by decide) (by decide) (by decide) (by decide)]
  exact h
theorem fillX {n k : Nat} {c : Nat → Nat → Nat} (hn : n ≤ 5) (hk : k ≤ 7) (hc : ∀ p d, c p d ≤ 99) : ∀ d e, e + d = 7 → ∀ q, d < q → ∀ (f : Nat → Nat) (B : Nat × (Nat → Nat)) (u : PoS) (x : Int32), B.1 ≤ 1000000 → StX n k c u f e B → (e = 0 → x = -1) → (1 ≤ e → x = nI (f (e - 1)) ∧ f (e - 1) < 5) → (d = 0 → smC c f 7 < B.1) → ∀ post : PoS → Prop, (∀ z, FrF u z → StX n k c z f e (foB c B (rlv n k d f)) → post z) → wR_fill q (nI e) x (nI (smC c f e)) u post := by
  intro d
  induction d with
  | zero =>
    intro e he q hq f B u x hB hS hx0 hx1 h0 post K
    obtain rfl : e = 7 := by omega
    obtain ⟨q, rfl⟩ : ∃ r, q = r + 1 := ⟨q - 1, by omega⟩
    obtain ⟨s1, s2, s3, s4, s5, s6⟩ := hS
    have h0 := h0 rfl
    have e0 : foB c B (rlv n k 0 f) = (smC c f 7, f) := by
      show upB c B f = _
      unfold upB; rw [if_pos h0]
    rw [e0] at K
    refine ⟨fun h => absurd h (by decide), fun _ z14 e14 => ⟨⟨by decide, by decide, by decide, by decide, by decide⟩, fun z15 e15 => ?_⟩⟩
    rw [show Int32.toNatClampNeg 0 = 0 from rfl, show Int32.toNatClampNeg 7 = 7 from rfl] at e15
    have fr : FrF u z15 := ⟨fun j a b c d => by rw [e15, cI_o b, e14, pI_o a], fun i hi => by rw [e15, cI_o (by decide), e14, pI_s, up_ne hi], by rw [e15, e14]; rfl⟩
    refine K z15 fr ⟨s1.mf fr, s2.mf fr, fun j hj => ?_, fun p hp => ?_, ?_, fun _ j hj => ?_⟩
    · rw [e15, cI_o (by decide), e14, pI_o (by decide)]; exact s3 j hj
    · rw [e15, cI_o (by decide), e14, pI_o (by decide)]; exact s4 p hp
    · rw [e15, cI_o (by decide), e14, pI_s, up_eq]
    · rw [e15, cI_s, pk_cpy_in (by omega) (by omega), show 0 + (j - 0) = j by omega, e14, pI_o (by decide)]; exact s3 j hj
  | succ d ih =>
    intro e he q hq f B u x hB hS hx0 hx1 h0 post K
    obtain ⟨q, rfl⟩ : ∃ r, q = r + 1 := ⟨q - 1, by omega⟩
    have ed : 6 - d = e := by omega
    have hsm := smC_le hc f e
    refine ⟨fun _ => ⟨n + 1, ?_⟩, fun h => absurd (nI_lt (b := 7) (by omega) (by decide)) h⟩
    have lp : ∀ m p, p + m = n → ∀ (z : PoS) (B1 : Nat × (Nat → Nat)), B1.1 ≤ 1000000 → FrF u z → StX n k c z f e B1 → (∀ z', FrF u z' → StX n k c z' f e (foB c B1 (cat (rbr n k d f) m p)) → post z') → wl_X7_fill_30 (wR_fill q) post (m + 1) (nI e) x (nI (smC c f e)) (nI p) z := by
      intro m
      induction m with
      | zero =>
        intro p hp z B1 hB1 fz hS K
        rw [wl_X7_fill_30, gI_def, hS.1.1, q_le (by omega) (by omega)]
        exact ⟨fun _ => K z fz hS, fun h => by omega⟩
      | succ m ihm =>
        intro p hp z B1 hB1 fz hS K
        obtain ⟨s1, s2, s3, s4, s5, s6⟩ := id hS
        have cp := hc p e
        have b3 := rb_le c n (6 - e) p
        have ihm := ihm (p + 1) (by omega)
        rw [cat, foB_app] at K
        have skip : foB c B1 (rbr n k d f p) = B1 → wj_X7_fill_144 (wR_fill q) (wl_X7_fill_30 (wR_fill q) post (m + 1)) post (nI e) x (nI (smC c f e)) (nI p) z := by
          intro hs
          unfold wj_X7_fill_144
          rw [nI_1]
          rw [hs] at K
          exact ihm z B1 hB1 fz hS K
        have nok : okR k f e p = false → rbr n k d f p = [] := by
          intro h
          unfold rbr
          rw [ed, if_neg (by rw [h]; decide)]
        rw [wl_X7_fill_30, gI_def, s1.1, q_le (by omega) (by omega)]
        refine ⟨fun h => by omega, fun _ => costX s1 (by omega) (by omega) (fun x3 e3 => ?_)⟩
        rw [nI_add] at e3
        subst e3
        refine ⟨fun hx => ?_, fun hx => ?_⟩
        · refine ⟨fun _ => skip ?_, fun h => absurd rfl h⟩
          rw [nok]
          · rfl
          · apply bF
            intro h
            have h2 := (okR_iff.mp h).2
            rcases Nat.eq_zero_or_pos e with e0 | e0
            · rw [hx0 e0] at hx
              exact q_neg0 (by omega) hx
            · obtain ⟨x1, x2⟩ := hx1 e0
              rw [x1, q_eq (by omega) (by omega)] at hx
              rcases h2 with h2 | h2
              · omega
              · exact h2 hx.symm
        · rw [q_vp (by omega) (by omega), q_cl (by omega), gI_def, gI_def, s1.2.1, s4 p (by omega), q_le (by omega) (by have := ct_le f p e; omega)]
          refine ⟨by omega, fun ht => ⟨fun _ => skip ?_, fun h => absurd rfl h⟩, fun ht => ⟨fun h => absurd h (by decide), fun _ => ?_⟩⟩
          · rw [nok]
            · rfl
            · apply bF
              intro h
              have := (okR_iff.mp h).1
              omega
          · have ok : okR k f e p = true := by
              refine okR_iff.mpr ⟨by omega, ?_⟩
              rcases Nat.eq_zero_or_pos e with e0 | e0
              · exact Or.inl e0
              · right
                obtain ⟨x1, x2⟩ := hx1 e0
                rw [x1, q_eq (by omega) (by omega)] at hx
                exact fun h => hx h.symm
            have er : rbr n k d f p = rlv n k d (fu f e p) := by unfold rbr; rw [ed, if_pos ok]
            have bhp := s2 e p (Nat.zero_le _) (by omega) (by omega)
            have sfu : smC c (fu f e p) (e + 1) = smC c f e + c p e := by rw [smC, fu_s, smC_cg (g := f) e (fun j hj => fu_o (by omega))]
            rw [show nI e * 5 + nI p = nI (e * 5 + p) by simp (disch := omega) only [q_lit, nI_add, pk_mul, q_sub, q_rem, q_div, q_vp, q_cl, q_lt, q_le, q_eq, q_neg1, gI_def], q_vp (by omega) (by omega), q_cl (by omega), gI_def, gI_def, s5, bhp, nI_add, q_le (by omega) (by omega)]
            refine ⟨by omega, fun hle => skip ?_, fun hle => ?_⟩
            · rw [er]
              refine foB_no _ (fun g hg => ?_)
              have := rb_low (c := c) d (e + 1) (by omega) (by omega) (fu f e p) g hg
              rw [Nat.add_sub_cancel, fu_s, sfu] at this
              rw [show 6 - e = d by omega] at hle
              omega
            · rw [q_vp (by omega) (by omega), q_vp (by omega) (by omega), q_cl (by omega), q_cl (by omega), nI_1]
              refine ⟨by omega, fun z4 e4 => ⟨by omega, by omega, fun z5 e5 => ?_⟩⟩
              rw [gI_def, e4, pI_o (by decide), s4 p (by omega), nI_1] at e5
              rw [← e4] at e5
              have f5 : FrF z z5 := by rw [e5, e4]; exact (FrF.put (by omega)).tr (FrF.put (by omega))
              have S5 : StX n k c z5 (fu f e p) (e + 1) B1 := by
                refine ⟨s1.mf f5, s2.mf f5, fun j hj => ?_, fun p' hp' => ?_, ?_, fun hlt j hj => ?_⟩
                · rw [e5, pI_o (by decide), e4, pI_s]
                  by_cases z : j = e
                  · rw [z, up_eq, fu_s]
                  · rw [up_ne z, fu_o z]; exact s3 j (by omega)
                · rw [e5, pI_s, e4, pI_o (by decide), ct, fu_s, ct_cg (g := f) e (fun j hj => fu_o (by omega))]
                  by_cases z : p' = p
                  · rw [z, up_eq, if_pos rfl]
                  · rw [up_ne z, if_neg (fun h => z h.symm), Nat.add_zero]; exact s4 p' hp'
                · rw [e5, pI_o (by decide), e4, pI_o (by decide)]; exact s5
                · rw [e5, pI_o (by decide), e4, pI_o (by decide)]; exact s6 hlt j hj
              rw [← sfu]
              refine ih (e + 1) (by omega) q (by omega) (fu f e p) B1 z5 (nI p) hB1 S5 (fun h => by omega) (fun _ => by rw [Nat.add_sub_cancel, fu_s]; exact ⟨rfl, by omega⟩) (fun hd => ?_) _ (fun u7 f7 S7 => ?_)
              · rw [show 7 = e + 1 by omega, sfu]
                rw [show 6 - e = 0 by omega] at hle
                have : rb c n 0 p = 0 := rfl
                omega
              · obtain ⟨t1, t2, t3, t4, t5, t6⟩ := S7
                have ctp : ct (fu f e p) p (e + 1) = ct f p e + 1 := by rw [ct, fu_s, if_pos rfl, ct_cg (g := f) e (fun j hj => fu_o (by omega))]
                rw [gI_def, t4 p (by omega), ctp, nI_pred]
                refine ⟨by omega, by omega, fun z8 e8 => ?_⟩
                unfold wj_X7_fill_144
                rw [nI_1]
                have f8 : FrF u z8 := by rw [e8]; exact ((fz.tr f5).tr f7).tr (FrF.put (by omega))
                have f8' : FrF u7 z8 := by rw [e8]; exact FrF.put (by omega)
                rw [er] at K
                refine ihm z8 (foB c B1 (rlv n k d (fu f e p))) (Nat.le_trans (foB_le c _ B1) hB1) f8 ⟨t1.mf f8', t2.mf f8', fun j hj => ?_, fun p' hp' => ?_, ?_, fun hlt j hj => ?_⟩ K
                · rw [e8, pI_o (by decide), t3 j (by omega), fu_o (by omega)]
                · rw [e8, pI_s]
                  by_cases z : p' = p
                  · rw [z, up_eq]
                  · rw [up_ne z, t4 p' hp', ct, fu_s, if_neg (fun h => z h.symm), ct_cg (g := f) e (fun j hj => fu_o (by omega)), Nat.add_zero]
                · rw [e8, pI_o (by decide)]; exact t5
                · rw [e8, pI_o (by decide)]; exact t6 hlt j hj
    exact lp n 0 (Nat.zero_add n) u B hB (FrF.refl u) hS K
theorem makeX {u : PoS} {a : Nat → Int32} (h : RowOk (u.1 3) a) {k : Nat} (hk : k ≤ 7) {post : Int32 → PoS → Prop} (K : ∀ (z : PoS) (B : Nat × (Nat → Nat)), B = foB (cs a) (1000000, fun _ => 0) (rlv (nN (a 0)) k 7 (fun _ => 0)) → (∀ j, j < 38 ∨ 42 < j → z.1 j = u.1 j) → (B.1 < 1000000 → ∀ j, j < 7 → z.1 39 j = nI (B.2 j)) → z.1 38 0 = nI B.1 → post (if B.1 < 1000000 then 1 else 0) z) : wp_X7_make (nI k) u post := by
  obtain ⟨n, hn, n1, n2, n3⟩ := h.liv.ppl
  obtain ⟨hc, hcs⟩ := cs_of h
  rw [n3] at K
  generalize hB : foB (cs a) (1000000, fun _ => 0) (rlv n k 7 (fun _ => 0)) = B at *
  intro z1 e1 z2 e2 z3 e3 z4 e4
  have f4 : ∀ j, j ≠ 38 → z4.1 j = u.1 j := fun j hj => by rw [e4, pI_o hj, e3, pI_o hj, e2, pI_o hj, e1, pR_1]
  have fx : Fx n k (cs a) z4 := by
    refine ⟨?_, ?_, ?_, fun p d hp hd => ?_⟩
    · rw [e4, pI_s, up_ne (by decide), e3, pI_s, up_ne (by decide), e2, pI_s, up_eq, gI_def, e1, pR_1, n2]
    · rw [e4, pI_s, up_ne (by decide), e3, pI_s, up_eq]
    · rw [e4, e3, e2, e1]; rfl
    · rw [f4 3 (by decide)]; exact (hcs p d hp hd).2
  have b0 : z4.1 38 0 = nI 1000000 := by rw [e4, pI_s, up_eq]; rfl
  refine ⟨6, ?_⟩
  have days : ∀ m z, m ≤ 7 → (∀ j, j ≠ 41 → j ≠ 42 → z.1 j = z4.1 j) → z.2.2 = z4.2.2 → (∀ p, p < 5 → z.1 41 p = nI 0) → Bh n (cs a) z m → ∀ x : Int32, x = nI m - 1 → wl_X7_make_47 (fun (u11 : PoS) => wp_X7_fill 10 0 (-1) 0 u11 (fun (u13 : PoS) => ((1000000 ≤ (gI u13 38 0) → post 0 u13) ∧ (¬ 1000000 ≤ (gI u13 38 0) → post 1 u13)))) post (m + 1) x z := by
    intro m
    induction m with
    | zero =>
      intro z _ fz gz tz bz x hx
      have fxz : Fx n k (cs a) z := by
        unfold Fx
        rw [fz 38 (by decide) (by decide), fz 3 (by decide) (by decide), gz]; exact fx
      rw [wl_X7_make_47, hx]
      refine ⟨fun _ => ?_, fun q => absurd (by decide) q⟩
      refine fillX hn hk hc 7 0 rfl 10 (by decide) (fun _ => 0) (1000000, fun _ => 0) z (-1) (Nat.le_refl _) ⟨fxz, bz, fun j hj => by omega, tz, by rw [fz 38 (by decide) (by decide)]; exact b0, fun q => absurd q (Nat.lt_irrefl _)⟩ (fun _ => rfl) (fun q => by omega) (fun q => by omega) _ (fun z' f' s' => ?_)
      rw [hB] at s'
      obtain ⟨t1, t2, t3, t4, t5, t6⟩ := s'
      have bl : B.1 ≤ 1000000 := by rw [← hB]; exact foB_le _ _ _
      have K := K z' B rfl (fun j hj => by rw [f'.1 j (by omega) (by omega) (by omega) (by omega), fz j (by omega) (by omega), f4 j (by omega)]) t6 t5
      rw [gI_def, t5, show (1000000 : Int32) = nI 1000000 from rfl, q_le (by omega) (by omega)]
      refine ⟨fun q => ?_, fun q => ?_⟩
      · rw [if_neg (by omega)] at K; exact K
      · rw [if_pos (by omega)] at K; exact K
    | succ m ih =>
      intro z hm fz gz tz bz x hx
      have fxz : Fx n k (cs a) z := by
        unfold Fx
        rw [fz 38 (by decide) (by decide), fz 3 (by decide) (by decide), gz]; exact fx
      rw [nI_pred] at hx
      subst hx
      rw [wl_X7_make_47]
      refine ⟨fun q => absurd q (nI_pos (by omega)), fun _ => boundX hn hc fxz (by omega) bz (fun z' f' b' => ?_)⟩
      refine ih z' (by omega) (fun j h1 h2 => by rw [f'.1 j h2, fz j h1 h2]) (by rw [f'.2, gz]) (fun p hp => by rw [f'.1 41 (by decide)]; exact tz p hp) b' _ ?_
      rw [Int32.sub_eq_add_neg]
  have times : ∀ m p, p + m = 5 → ∀ z, (∀ j, j ≠ 41 → z.1 j = z4.1 j) → z.2.2 = z4.2.2 → (∀ p', p' < p → z.1 41 p' = nI 0) → wl_X7_make_26 (fun (u7 : PoS) => (∃ n47, wl_X7_make_47 (fun (u11 : PoS) => wp_X7_fill 10 0 (-1) 0 u11 (fun (u13 : PoS) => ((1000000 ≤ (gI u13 38 0) → post 0 u13) ∧ (¬ 1000000 ≤ (gI u13 38 0) → post 1 u13)))) post n47 6 u7)) post (m + 1) (nI p) z := by
    intro m
    induction m with
    | zero =>
      intro p hp z fz gz tz
      obtain rfl : p = 5 := by omega
      rw [wl_X7_make_26]
      exact ⟨fun _ => ⟨8, days 7 z (Nat.le_refl _) (fun j h1 _ => fz j h1) gz tz (fun d p' h1 h2 => by omega) 6 rfl⟩, fun q => absurd (by decide) q⟩
    | succ m ih =>
      intro p hp z fz gz tz
      rw [wl_X7_make_26, q_vp (by omega) (by omega), q_cl (by omega), nI_1]
      refine ⟨fun q => absurd q (nI_ge (b := 5) (by omega) (by decide)), fun _ => ⟨by omega, fun z5 e5 => ih (p + 1) (by omega) z5 (fun j hj => by rw [e5, pI_o hj]; exact fz j hj) (by rw [e5]; exact gz) (fun p' hp' => ?_)⟩⟩
      rw [e5, pI_s]
      by_cases y : p' = p
      · rw [y, up_eq]; rfl
      · rw [up_ne y]; exact tz p' (by omega)
  exact times 5 0 rfl z4 (fun _ _ => rfl) rfl (fun p' hp' => by omega)
