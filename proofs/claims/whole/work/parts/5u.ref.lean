/-! CLAUSES: the reference, the whole text -/
def hasK (D : List Rc) (σ : Nat) : Bool := D.any (fun c => decide (c.1 = σ))
def flB (a b : Bool) : Nat := (if a = true then 1 else 0) + (if b = true then 2 else 0)
theorem hasK_iff {D : List Rc} {σ : Nat} : hasK D σ = true ↔ ∃ (i : Nat) (c : Rc), D[i]? = some c ∧ c.1 = σ := by
  unfold hasK
  rw [List.any_eq_true]
  constructor
  · rintro ⟨c, hc, e⟩
    obtain ⟨i, hi⟩ := List.mem_iff_getElem?.mp hc
    exact ⟨i, c, hi, of_decide_eq_true e⟩
  · rintro ⟨i, c, hi, e⟩
    exact ⟨c, List.mem_iff_getElem?.mpr ⟨i, hi⟩, decide_eq_true e⟩
theorem hasK_snoc {D : List Rc} {c : Rc} {σ : Nat} : hasK (D ++ [c]) σ = (hasK D σ || decide (c.1 = σ)) := by
  unfold hasK
  rw [List.any_append]
  simp only [List.any_cons, List.any_nil, Bool.or_false]
theorem fl_has : ∀ a b : Bool, ∀ σ, σ < 2 → (((nI (flB a b) >>> (nI σ &&& 31)) &&& 1) = 1 ↔ (if σ = 0 then a else b) = true) := by decide +kernel
theorem fl_or : ∀ a b : Bool, ∀ σ, σ < 2 → (if σ = 0 then a else b) = false → nI (flB a b) ||| (1 <<< (nI σ &&& 31)) = nI (flB (a || decide (σ = 0)) (b || decide (σ = 1))) := by decide +kernel
def flD (D : List Rc) : Nat := flB (hasK D 0) (hasK D 1)
theorem ifK {D : List Rc} {σ : Nat} (h : σ ≤ 1) : (if σ = 0 then hasK D 0 else hasK D 1) = hasK D σ := by
  by_cases q : σ = 0
  · rw [if_pos q, q]
  · rw [if_neg q, show σ = 1 by omega]
theorem hasM {D : List Rc} {σ : Nat} {u : PoS} {post : Int32 → PoS → Prop} (hσ : σ ≤ 1) (h1 : hasK D σ = true → post 1 u) (h0 : hasK D σ = false → post 0 u) : wp_X12_has (nI (flD D)) (nI σ) u post := by
  unfold wp_X12_has flD
  have := fl_has (hasK D 0) (hasK D 1) σ (by omega)
  rw [ifK hσ] at this
  rw [this]
  refine ⟨fun q => h0 ?_, fun q => h1 q⟩
  cases e : hasK D σ
  · rfl
  · exact absurd e q
def RcM (t : Nat) (u : PoS) (i : Nat) (c : Rc) (n : Nat) : Prop := u.1 51 (681 * t + 1 + 3 * i) = nI c.1 ∧ (2 ≤ c.1 → c.1 ≠ 8 → u.1 51 (681 * t + 2 + 3 * i) = nI c.2.1) ∧ (c.1 = 3 ∨ c.1 = 5 → u.1 51 (681 * t + 3 + 3 * i) = nI c.2.2.1) ∧ (c.1 ≤ 1 → ∃ i0, u.1 51 (681 * t + 2 + 3 * i) = nI i0 ∧ u.1 51 (681 * t + 3 + 3 * i) = nI (i0 + c.2.2.2.length) ∧ i0 + c.2.2.2.length ≤ n ∧ CodeAt t i0 (u.1 51) c.2.2.2)
def MI (t : Nat) (u : PoS) (D : List Rc) (n : Nat) : Prop := u.1 48 12 = nI (681 * t) ∧ u.1 48 13 = nI n ∧ u.1 48 19 = nI (flD D) ∧ u.1 51 (681 * t) = nI D.length ∧ D.length ≤ 24 ∧ ∀ (i : Nat) (c : Rc), D[i]? = some c → RcM t u i c n
def FrRd (t : Nat) (u z : PoS) : Prop := (∀ j, j ≠ 48 → j ≠ 51 → j ≠ 53 → z.1 j = u.1 j) ∧ (∀ i, i < 681 * t ∨ 681 * t + 681 ≤ i → z.1 51 i = u.1 51 i) ∧ (∀ i, i = 4 ∨ i = 5 ∨ i = 6 ∨ i = 24 ∨ i = 12 → z.1 48 i = u.1 48 i)
theorem FrRd.t' {t : Nat} {u v z : PoS} (h : FrRd t u v) (h2 : FrRd t v z) : FrRd t u z := ⟨fun j q w x => by rw [h2.1 j q w x, h.1 j q w x], fun i q => by rw [h2.2.1 i q, h.2.1 i q], fun i q => by rw [h2.2.2 i q, h.2.2 i q]⟩
theorem FrRd.r {t : Nat} {u : PoS} : FrRd t u u := ⟨fun _ _ _ _ => rfl, fun _ _ => rfl, fun _ _ => rfl⟩
theorem FrRd.k {t : Nat} {u z : PoS} (h : FrK u z) : FrRd t u z := ⟨fun j q _ _ => h.1 j q, fun i _ => by rw [h.1 51 (by decide)], fun i q => h.2.1 i (by omega) (by omega) (by omega) (by omega)⟩
theorem rcm_fr {t : Nat} {u z : PoS} {i : Nat} {c : Rc} {n n' : Nat} (h : RcM t u i c n) (hi : i < 24) (hn : n ≤ n') (hz : ∀ j, (j = 681 * t + 1 + 3 * i ∨ j = 681 * t + 2 + 3 * i ∨ j = 681 * t + 3 + 3 * i ∨ (681 * t + 73 ≤ j ∧ j < 681 * t + 73 + 2 * n)) → z.1 51 j = u.1 51 j) : RcM t z i c n' := by
  obtain ⟨h1, h2, h3, h4⟩ := h
  refine ⟨by rw [hz _ (by omega)]; exact h1, fun a b => by rw [hz _ (by omega)]; exact h2 a b, fun a => by rw [hz _ (by omega)]; exact h3 a, fun a => ?_⟩
  obtain ⟨i0, g1, g2, g3, g4⟩ := h4 a
  refine ⟨i0, by rw [hz _ (by omega)]; exact g1, by rw [hz _ (by omega)]; exact g2, by omega, fun q x hx => ?_⟩
  obtain ⟨w, -⟩ := List.getElem?_eq_some_iff.mp hx
  rw [hz _ (by omega), hz _ (by omega)]
  exact g4 q x hx
section
variable {K N ST EN : Nat → Nat} {M L t : Nat} {B : Nat → Int32} {u : PoS} {k n : Nat} {D : List Rc} {post : Int32 → PoS → Prop}
theorem clsM (hNT : NTok K N ST EN M L B) (ht : t < 4) (hM : M ≤ 301) (h : RT K N ST EN M L B u k) (hI : MI t u D n) (hn : n ≤ k) (h9 : K k ≤ 9) (hN : NewOk D (K k)) {f k' x y : Nat} {r : Cd} (hR : ClR K N (K k) k f k' x y r) (H : ∀ z, RT K N ST EN M L B z k' → FrRd t u z → (f = 0 → ∃ n', n' ≤ k' ∧ MI t z (D ++ [(K k, x, y, r)]) n') → post (nI f) z) : wp_X12_clause u post := by
  obtain ⟨i12, i13, i19, i51, i24, iR⟩ := hI
  have hkM := h.1
  have hD := hN.1
  -- behind the body: the stop
  have fin : ∀ (p : Nat × Nat) (z : PoS), p.1 ≤ 6 → (f, k') = expF K 38 p → RT K N ST EN M L B z p.2 → FrRd t u z → (f = 0 → ∃ n', n' ≤ p.2 ∧ z.1 48 13 = nI n' ∧ z.1 48 19 = nI (flD (D ++ [(K k, x, y, r)])) ∧ z.1 51 (681 * t) = nI D.length ∧ ∀ (i : Nat) (c : Rc), (D ++ [(K k, x, y, r)])[i]? = some c → RcM t z i c n') → ((nI p.1 = 0 → vp_in (gI z 48 12) 2724 ∧ vp_in (gI z 48 12) 2724 ∧ ∀ z11 : PoS, z11 = pI z 51 (Int32.toNatClampNeg (gI z 48 12)) ((gI z 51 (Int32.toNatClampNeg (gI z 48 12))) + 1) → (((gI z11 48 9) = 59 → wp_X12_nextToken z11 (fun (u13 : PoS) => post 0 u13)) ∧ (¬ (gI z11 48 9) = 59 → post 1 z11))) ∧ (¬ nI p.1 = 0 → post (nI p.1) z)) := by
    intro p z p6 he hz hF hC
    have g12 : gI z 48 12 = nI (681 * t) := by rw [gI_def, hF.2.2 12 (by omega)]; exact i12
    rw [g12, q_cl (by omega)]
    refine ⟨fun q => ⟨by simp (disch := omega) only [q_lit, nI_add, pk_mul, q_sub, q_rem, q_div, q_vp, q_cl, q_lt, q_le, q_eq, q_neg1, gI_def]; omega, by simp (disch := omega) only [q_lit, nI_add, pk_mul, q_sub, q_rem, q_div, q_vp, q_cl, q_lt, q_le, q_eq, q_neg1, gI_def]; omega, fun z11 e11 => ?_⟩, fun q => ?_⟩
    · have p0 : p.1 = 0 := by
        rw [show (0 : Int32) = nI 0 from rfl, nI_eq (by omega) (by decide)] at q; exact q
      have o51 : ∀ i, i ≠ 681 * t → z11.1 51 i = z.1 51 i := fun i hi => by rw [e11, pI_s, up_ne hi]
      have oj : ∀ j, j ≠ 51 → z11.1 j = z.1 j := fun j hj => by rw [e11, pI_o hj]
      have h11 : RT K N ST EN M L B z11 p.2 := hz.fr (fun i _ => by rw [oj 48 (by decide)]) (by rw [e11]; rfl) (oj 52 (by decide))
      have F11 : FrRd t u z11 := hF.t' ⟨fun j _ b _ => oj j b, fun i hi => o51 i (by omega), fun i _ => by rw [oj 48 (by decide)]⟩
      have t59 := tk_sg (κ := 38) (a := 59) h11 (by decide) (by decide) (by decide)
      unfold expF at he
      rw [if_neg (fun w => w p0)] at he
      refine ⟨fun q59 => ?_, fun q59 => ?_⟩
      · have k38 := t59.mp q59
        rw [if_pos k38] at he
        have f0 : f = 0 := congrArg Prod.fst he
        have ek : k' = p.2 + 1 := congrArg Prod.snd he
        refine hNT z11 p.2 _ h11 (by omega) (fun z13 a1 a2 => ?_)
        have := H z13 (by rw [ek]; exact a1) (F11.t' (FrRd.k a2)) (fun _ => ?_)
        · rw [f0] at this; exact this
        · obtain ⟨n', b1, b2, b3, b4, b5⟩ := hC f0
          refine ⟨n', by omega, ?_, ?_, ?_, ?_, ?_, fun i c hc => ?_⟩
          · rw [a2.2.1 12 (by decide) (by decide) (by decide) (by decide), F11.2.2 12 (by omega)]; exact i12
          · rw [a2.2.1 13 (by decide) (by decide) (by decide) (by decide), oj 48 (by decide)]; exact b2
          · rw [a2.2.1 19 (by decide) (by decide) (by decide) (by decide), oj 48 (by decide)]; exact b3
          · rw [a2.1 51 (by decide), e11, pI_s, up_eq, gI_def, b4, nI_1, List.length_append]; rfl
          · rw [List.length_append]; show D.length + 1 ≤ 24; omega
          · have hi : i < 24 := by
              obtain ⟨w, -⟩ := List.getElem?_eq_some_iff.mp hc
              rw [List.length_append] at w
              simp only [List.length_cons, List.length_nil] at w
              omega
            exact rcm_fr (b5 i c hc) hi (Nat.le_refl _) (fun j hj => by rw [a2.1 51 (by decide), o51 j (by omega)])
      · have n38 : ¬ K p.2 = 38 := fun w => q59 (t59.mpr w)
        rw [if_neg n38] at he
        have f1 : f = 1 := congrArg Prod.fst he
        have ek : k' = p.2 := congrArg Prod.snd he
        have := H z11 (by rw [ek]; exact h11) F11 (fun w => by omega)
        rw [f1] at this; exact this
    · have p0 : p.1 ≠ 0 := fun w => q (by rw [w]; rfl)
      unfold expF at he
      rw [if_pos p0] at he
      have ef : f = p.1 := congrArg Prod.fst he
      have ek : k' = p.2 := congrArg Prod.snd he
      have := H z (by rw [ek]; exact hz) hF (fun w => absurd (ef.symm.trans w) p0)
      rw [ef] at this; exact this
  have w65 : ∀ v : PoS, (∀ j, j ≠ 48 → v.1 j = u.1 j) → (∀ i, i ≠ 19 → v.1 48 i = u.1 48 i) → v.2 = u.2 → v.1 48 19 = nI (flD (D ++ [(K k, x, y, r)])) → wj_X12_clause_65 post (nI (K k)) (nI D.length) v := by
    intro v vj v48 v2 v19 z4 e4
    have h4 : RT K N ST EN M L B z4 k := h.fr (fun i hi => by rw [e4, pI_s, up_ne (by omega)]; exact v48 i (by omega)) (by rw [e4, pI_2, v2]) (by rw [e4, pI_o (by decide)]; exact vj 52 (by decide))
    refine hNT z4 k _ h4 (by omega) (fun u6 h6 f6 => ?_)
    have u6j : ∀ j, j ≠ 48 → u6.1 j = u.1 j := fun j hj => by rw [f6.1 j hj, e4, pI_o hj, vj j hj]
    have u648 : ∀ i, i ≠ 7 → i ≠ 8 → i ≠ 9 → i ≠ 10 → i ≠ 14 → i ≠ 19 → u6.1 48 i = u.1 48 i := fun i a b c d e g => by rw [f6.2.1 i a b c d, e4, pI_s, up_ne e, v48 i g]
    have u619 : u6.1 48 19 = nI (flD (D ++ [(K k, x, y, r)])) := by rw [f6.2.1 19 (by decide) (by decide) (by decide) (by decide), e4, pI_s, up_ne (by decide)]; exact v19
    have u614 : u6.1 48 14 = nI (K k) := by rw [f6.2.1 14 (by decide) (by decide) (by decide) (by decide), e4, pI_s, up_eq]
    intro x7 e7
    rw [gI_def, u648 12 (by decide) (by decide) (by decide) (by decide) (by decide) (by decide), i12, show nI (681 * t) + 1 + 3 * nI D.length = nI (681 * t + 1 + 3 * D.length) by simp (disch := omega) only [q_lit, nI_add, pk_mul, q_sub, q_rem, q_div, q_vp, q_cl, q_lt, q_le, q_eq, q_neg1, gI_def]] at e7
    subst e7
    rw [q_cl (by omega)]
    refine ⟨by simp (disch := omega) only [q_lit, nI_add, pk_mul, q_sub, q_rem, q_div, q_vp, q_cl, q_lt, q_le, q_eq, q_neg1, gI_def]; omega, fun z8 e8 => ?_⟩
    have z8j : ∀ j, j ≠ 51 → z8.1 j = u6.1 j := fun j hj => by rw [e8, pI_o hj]
    have h8 : RT K N ST EN M L B z8 (k + 1) := h6.fr (fun i _ => by rw [z8j 48 (by decide)]) (by rw [e8]; rfl) (z8j 52 (by decide))
    have z851 : ∀ i, i ≠ 681 * t + 1 + 3 * D.length → z8.1 51 i = u.1 51 i := fun i hi => by rw [e8, pI_s, up_ne hi, u6j 51 (by decide)]
    have z8a : z8.1 51 (681 * t + 1 + 3 * D.length) = nI (K k) := by rw [e8, pI_s, up_eq]
    obtain ⟨-, hR⟩ := hR
    rcases hR with ⟨k1, ⟨f1, kk, a1, a2, a3, a4⟩, ex, ey⟩ | ⟨k2, k9, a1, a2⟩
    · have hpr : nI (K k) = nI (if decide (K k = 1) = true then 1 else 0) := by
        have : K k = 0 ∨ K k = 1 := by omega
        rcases this with q | q <;> rw [q] <;> rfl
      have hl : K k = 0 ∨ K k = 1 := by omega
      have law := lwM (post := fun r9 u10 => ((r9 = 0 → vp_in (gI u10 48 12) 2724 ∧ vp_in (gI u10 48 12) 2724 ∧ ∀ z11 : PoS, z11 = pI u10 51 (Int32.toNatClampNeg (gI u10 48 12)) ((gI u10 51 (Int32.toNatClampNeg (gI u10 48 12))) + 1) → (((gI z11 48 9) = 59 → wp_X12_nextToken z11 (fun (u13 : PoS) => post 0 u13)) ∧ (¬ (gI z11 48 9) = 59 → post 1 z11))) ∧ (¬ r9 = 0 → post r9 u10))) (a := 681 * t + 1 + 3 * D.length) (n := n) (t := t) hNT ht hM h8 (by omega) (by omega) (by rw [z8j 48 (by decide), u648 12 (by decide) (by decide) (by decide) (by decide) (by decide) (by decide)]; exact i12) (by rw [z8j 48 (by decide), u648 13 (by decide) (by decide) (by decide) (by decide) (by decide) (by decide)]; exact i13) (by omega) (by rw [z8j 48 (by decide), u614]; exact hpr) a1 a2 (fun w => (a3 w).1) (fun z b1 b2 b3 b4 b5 => ?_)
      · rcases hl with q | q
        · rw [q]
          exact ⟨fun w => absurd w (by decide), fun w => absurd w (by decide), fun w => absurd w (by decide), fun w => absurd w (by decide), fun w => absurd w (by decide), fun w => absurd w (by decide), fun w => absurd w (by decide), fun w => absurd w (by decide), fun _ _ _ _ _ _ _ _ => law⟩
        · rw [q]
          exact ⟨fun w => absurd w (by decide), fun w => absurd w (by decide), fun w => absurd w (by decide), fun w => absurd w (by decide), fun w => absurd w (by decide), fun w => absurd w (by decide), fun w => absurd w (by decide), fun w => absurd w (by decide), fun _ _ _ _ _ _ _ _ => law⟩
      · have kkM := b1.1
        refine fin (f1, kk) z a1 a4 b1 ⟨fun j q1 q2 q3 => ?_, fun i q => ?_, fun i q => ?_⟩ (fun f0 => ?_)
        · rw [b2 j q1 q2 q3, z8j j q2, u6j j q1]
        · rw [b4 i (by omega) (by omega) (by omega), z851 i (by omega)]
        · rw [b3 i (by omega) (by omega) (by omega) (by omega) (by omega) (by omega) (by omega) (by omega), z8j 48 (by decide), u648 i (by omega) (by omega) (by omega) (by omega) (by omega) (by omega)]
        · have e0 : (expF K 38 (f1, kk)).1 = 0 := by rw [← a4]; exact f0
          have f10 : f1 = 0 := (expF_0 e0).1
          obtain ⟨c1, c2, c3, c4⟩ := b5 f10
          have hlen := (a3 f10).2
          refine ⟨n + r.length, by show n + r.length ≤ kk; omega, c3, ?_, ?_, fun i c hc => ?_⟩
          · rw [b3 19 (by decide) (by decide) (by decide) (by decide) (by decide) (by decide) (by decide) (by decide), z8j 48 (by decide)]; exact u619
          · rw [b4 _ (by omega) (by omega) (by omega), z851 _ (by omega)]; exact i51
          · rcases get_snoc hc with ⟨q1, w⟩ | ⟨q1, w⟩
            · refine rcm_fr (iR i c w) (by omega) (by omega) (fun j hj => ?_)
              rw [b4 j (by omega) (by omega) (by omega), z851 j (by omega)]
            · subst q1; subst w
              refine ⟨?_, fun w => absurd w (by show ¬ 2 ≤ K k; omega), fun w => absurd w (by show ¬ (K k = 3 ∨ K k = 5); omega), fun _ => ⟨n, ?_, ?_, Nat.le_refl _, c4⟩⟩
              · rw [b4 _ (by omega) (by omega) (by omega)]; exact z8a
              · rw [show 681 * t + 2 + 3 * D.length = 681 * t + 1 + 3 * D.length + 1 by omega]; exact c1
              · rw [show 681 * t + 3 + 3 * D.length = 681 * t + 1 + 3 * D.length + 2 by omega]; exact c2
    · refine bodM hNT h8 (by omega) k2 k9 (fun z b1 b2 b3 => ?_)
      have d6 : (dedP K N (K k) k).1 ≤ 6 := by
        have fb : ∀ lo hi (p : Nat × Nat), p.1 ≤ 6 → (figF K N lo hi p).1 ≤ 6 := fun lo hi p hp => by
          unfold figF
          split
          · exact hp
          · split
            · exact (by decide : 1 ≤ 6)
            · split
              · exact (by decide : 2 ≤ 6)
              · exact Nat.zero_le _
        have eb : ∀ w (p : Nat × Nat), p.1 ≤ 6 → (expF K w p).1 ≤ 6 := fun w p hp => by
          unfold expF
          split
          · exact hp
          · split
            · exact Nat.zero_le _
            · exact (by decide : 1 ≤ 6)
        unfold dedP
        split
        · exact fb _ _ _ (eb _ _ (fb _ _ _ (Nat.zero_le _)))
        split
        · exact fb _ _ _ (eb _ _ (fb _ _ _ (Nat.zero_le _)))
        split
        · exact fb _ _ _ (Nat.zero_le _)
        split
        · exact fb _ _ _ (Nat.zero_le _)
        split
        · exact fb _ _ _ (Nat.zero_le _)
        · exact Nat.zero_le _
      refine fin _ z d6 a1 b1 ⟨fun j q1 q2 q3 => ?_, fun i q => ?_, fun i q => ?_⟩ (fun f0 => ?_)
      · rw [b2.1 j q1 q2, z8j j q2, u6j j q1]
      · rw [b2.2.1 i (by omega) (by omega), z851 i (by omega)]
      · rw [b2.2.2 i (by omega) (by omega) (by omega) (by omega), z8j 48 (by decide), u648 i (by omega) (by omega) (by omega) (by omega) (by omega) (by omega)]
      · have e0 : (expF K 38 (dedP K N (K k) k)).1 = 0 := by rw [← a1]; exact f0
        have d0 := (expF_0 e0).1
        have dl := dedP_lt d0
        obtain ⟨c1, c2⟩ := b3 d0
        obtain ⟨x1, y1⟩ := a2 f0
        refine ⟨n, by omega, ?_, ?_, ?_, fun i c hc => ?_⟩
        · rw [b2.2.2 13 (by decide) (by decide) (by decide) (by decide), z8j 48 (by decide), u648 13 (by decide) (by decide) (by decide) (by decide) (by decide) (by decide)]; exact i13
        · rw [b2.2.2 19 (by decide) (by decide) (by decide) (by decide), z8j 48 (by decide)]; exact u619
        · rw [b2.2.1 _ (by omega) (by omega), z851 _ (by omega)]; exact i51
        · rcases get_snoc hc with ⟨q1, w⟩ | ⟨q1, w⟩
          · refine rcm_fr (iR i c w) (by omega) (Nat.le_refl _) (fun j hj => ?_)
            rw [b2.2.1 j (by omega) (by omega), z851 j (by omega)]
          · subst q1; subst w
            refine ⟨?_, fun _ w8 => ?_, fun w => ?_, fun w => absurd w (by show ¬ K k ≤ 1; omega)⟩
            · rw [b2.2.1 _ (by omega) (by omega)]; exact z8a
            · rw [show 681 * t + 2 + 3 * D.length = 681 * t + 1 + 3 * D.length + 1 by omega, c1 w8, x1 w8]
            · rw [show 681 * t + 3 + 3 * D.length = 681 * t + 1 + 3 * D.length + 2 by omega, c2 w, y1 w]
  have fl2 : 2 ≤ K k → flD (D ++ [(K k, x, y, r)]) = flD D := fun h2 => by
    unfold flD
    rw [hasK_snoc, hasK_snoc, decide_eq_false (show ¬ K k = 0 by omega), decide_eq_false (show ¬ K k = 1 by omega), Bool.or_false, Bool.or_false]
  have w29 : (K k ≤ 1 → hasK D (K k) = false) → wj_X12_clause_29 post (nI (K k)) u := by
    intro hno
    unfold wj_X12_clause_29
    rw [gI_def, i12, q_cl (by omega), gI_def, i51]
    refine ⟨by simp (disch := omega) only [q_lit, nI_add, pk_mul, q_sub, q_rem, q_div, q_vp, q_cl, q_lt, q_le, q_eq, q_neg1, gI_def]; omega, fun x3 e3 => ?_⟩
    subst e3
    refine ⟨fun _ => ⟨fun q => ?_, fun q z16 e16 => ?_⟩, fun q => absurd q (by simp (disch := omega) only [q_lit, nI_add, pk_mul, q_sub, q_rem, q_div, q_vp, q_cl, q_lt, q_le, q_eq, q_neg1, gI_def]; omega)⟩
    · simp (disch := omega) only [q_lit, q_lt] at q
      exact w65 u (fun _ _ => rfl) (fun _ _ => rfl) rfl (by rw [fl2 (by omega)]; exact i19)
    · simp (disch := omega) only [q_lit, q_lt] at q
      refine w65 z16 (fun j hj => by rw [e16, pI_o hj]) (fun i hi => by rw [e16, pI_s, up_ne hi]) (by rw [e16]; rfl) ?_
      have := fl_or (hasK D 0) (hasK D 1) (K k) (by omega) (by rw [ifK (by omega)]; exact hno (by omega))
      rw [e16, pI_s, up_eq, gI_def, i19]
      unfold flD
      rw [this, hasK_snoc, hasK_snoc]
  refine sortM h (fun _ => ⟨fun _ => ⟨fun q => w29 (fun w => ?_), fun q => ?_⟩, fun q => absurd (by simp (disch := omega) only [q_lit, nI_add, pk_mul, q_sub, q_rem, q_div, q_vp, q_cl, q_lt, q_le, q_eq, q_neg1, gI_def]; exact Nat.zero_le _) q⟩) (fun w => by omega)
  · simp (disch := omega) only [q_lit, q_lt] at q
    omega
  · simp (disch := omega) only [q_lit, q_lt] at q
    rw [gI_def, i19]
    refine hasM (by omega) (fun w => ?_) (fun w => ⟨fun _ => w29 (fun _ => w), fun w2 => absurd rfl w2⟩)
    obtain ⟨i, c, g1, g2⟩ := hasK_iff.mp w
    exact absurd g2 (hN.2 (by omega) i c g1)
theorem badM (hNT : NTok K N ST EN M L B) (ht : t < 4) (hM : M ≤ 301) (h : RT K N ST EN M L B u k) (hI : MI t u D n) (hn : n ≤ k) {f kf : Nat} (hB : ClB K N D k f kf) (H : ∀ z, RT K N ST EN M L B z kf → FrRd t u z → post (nI f) z) : wp_X12_clause u post := by
  rcases hB with ⟨q, rfl, rfl⟩ | ⟨q, ⟨i, c, g1, g2⟩, rfl, rfl⟩ | ⟨q, hno, h24, rfl, rfl⟩ | ⟨q, hN, f0, x, y, r, hR⟩
  · exact sortM h (fun w => by omega) (fun _ => ⟨fun w => absurd w (by decide), fun _ => H u h FrRd.r⟩)
  · refine sortM h (fun _ => ⟨fun _ => ⟨fun w => absurd w (by simp (disch := omega) only [q_lit, nI_add, pk_mul, q_sub, q_rem, q_div, q_vp, q_cl, q_lt, q_le, q_eq, q_neg1, gI_def]; omega), fun _ => ?_⟩, fun w => absurd (by simp (disch := omega) only [q_lit, nI_add, pk_mul, q_sub, q_rem, q_div, q_vp, q_cl, q_lt, q_le, q_eq, q_neg1, gI_def]; exact Nat.zero_le _) w⟩) (fun w => by omega)
    rw [gI_def, hI.2.2.1]
    refine hasM q (fun _ => ⟨fun w => absurd w (by decide), fun _ => H u h FrRd.r⟩) (fun w => ?_)
    rw [hasK_iff.mpr ⟨i, c, g1, g2⟩] at w
    exact absurd w (by decide)
  · have w29 : wj_X12_clause_29 post (nI (K kf)) u := by
      unfold wj_X12_clause_29
      rw [gI_def, hI.1, q_cl (by omega), gI_def, hI.2.2.2.1, h24]
      refine ⟨by simp (disch := omega) only [q_lit, nI_add, pk_mul, q_sub, q_rem, q_div, q_vp, q_cl, q_lt, q_le, q_eq, q_neg1, gI_def]; omega, fun x3 e3 => ?_⟩
      subst e3
      exact ⟨fun w => absurd rfl w, fun _ => H u h FrRd.r⟩
    refine sortM h (fun _ => ⟨fun _ => ⟨fun _ => w29, fun q1 => ?_⟩, fun w => absurd (by simp (disch := omega) only [q_lit, nI_add, pk_mul, q_sub, q_rem, q_div, q_vp, q_cl, q_lt, q_le, q_eq, q_neg1, gI_def]; exact Nat.zero_le _) w⟩) (fun w => by omega)
    simp (disch := omega) only [q_lit, q_lt] at q1
    rw [gI_def, hI.2.2.1]
    refine hasM (by omega) (fun w => ?_) (fun w => ⟨fun _ => w29, fun w2 => absurd rfl w2⟩)
    obtain ⟨i, c, g1, g2⟩ := hasK_iff.mp w
    exact absurd g2 (hno (by omega) i c g1)
  · exact clsM hNT ht hM h hI hn q hN hR (fun z a1 a2 _ => H z a1 a2)
theorem lpM (hNT : NTok K N ST EN M L B) (ht : t < 4) (hM : M ≤ 301) {e f kf : Nat} : ∀ (Cs D : List Rc) (k n : Nat) (u : PoS), TrC K N D Cs k e → RT K N ST EN M L B u k → MI t u D n → n ≤ k → ((K e = 43 ∧ f = 0 ∧ kf = e) ∨ (K e ≠ 43 ∧ f ≠ 0 ∧ f ≤ 6 ∧ ClB K N (D ++ Cs) e f kf)) → (∀ z, RT K N ST EN M L B z kf → FrRd t u z → (f = 0 → ∃ n', n' ≤ 300 ∧ MI t z (D ++ Cs) n') → post (nI f) z) → wl_X12_readText_43 post (Cs.length + 1) u := by
  intro Cs
  induction Cs with
  | nil =>
    intro D k n u hT h hI hn hE H
    obtain rfl : e = k := hT
    have hkM := h.1
    rw [List.append_nil] at hE H
    have t0 := tk_0 h
    rw [wl_X12_readText_43]
    rcases hE with ⟨h43, rfl, rfl⟩ | ⟨n43, f0, f6, hB⟩
    · exact ⟨fun _ => H u h FrRd.r (fun _ => ⟨n, by omega, hI⟩), fun q => absurd (t0.mpr h43) q⟩
    · refine ⟨fun q => absurd (t0.mp q) n43, fun _ => badM hNT ht hM h hI hn hB (fun z a1 a2 => ⟨fun q => ?_, fun _ => H z a1 a2 (fun w => absurd w f0)⟩)⟩
      rw [show (0 : Int32) = nI 0 from rfl, nI_eq (by omega) (by decide)] at q
      exact absurd q f0
  | cons c Cs ih =>
    intro D k n u hT h hI hn hE H
    obtain ⟨hN, n43, k', hk', hR, hT'⟩ := hT
    have hkM := h.1
    have ec : c.1 = K k := hR.1
    have h9 : K k ≤ 9 := by
      rcases hR.2 with ⟨q, _⟩ | ⟨_, q, _⟩
      · omega
      · omega
    have t0 := tk_0 h
    rw [show (c :: Cs).length + 1 = (Cs.length + 1) + 1 from rfl, wl_X12_readText_43]
    have ce : (K k, c.2.1, c.2.2.1, c.2.2.2) = c := by rw [← ec]
    refine ⟨fun q => absurd (t0.mp q) n43, fun _ => clsM (f := 0) (k' := k') (x := c.2.1) (y := c.2.2.1) (r := c.2.2.2) hNT ht hM h hI hn h9 (by rw [← ec]; exact hN) (by rw [← ec]; exact hR) (fun z a1 a2 a3 => ⟨fun _ => ?_, fun q => absurd rfl q⟩)⟩
    obtain ⟨n', b1, b2⟩ := a3 rfl
    rw [ce] at b2
    refine ih (D ++ [c]) k' n' z hT' a1 b2 b1 ?_ (fun y c1 c2 c3 => H y c1 (a2.t' c2) ?_)
    · rw [List.append_assoc]; exact hE
    · rw [List.append_assoc] at c3; exact c3
end
