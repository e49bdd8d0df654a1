/-! CLAUSES: the reference -/
def FrBd (a : Nat) (u z : PoS) : Prop := (∀ j, j ≠ 48 → j ≠ 51 → z.1 j = u.1 j) ∧ (∀ i, i ≠ a + 1 → i ≠ a + 2 → z.1 51 i = u.1 51 i) ∧ (∀ i, i ≠ 7 → i ≠ 8 → i ≠ 9 → i ≠ 10 → z.1 48 i = u.1 48 i)
theorem FrBd.r {a : Nat} {u : PoS} : FrBd a u u := ⟨fun _ _ _ => rfl, fun _ _ _ => rfl, fun _ _ _ _ _ => rfl⟩
theorem FrBd.t {a : Nat} {u v z : PoS} (h : FrBd a u v) (h2 : FrBd a v z) : FrBd a u z := ⟨fun j q w => by rw [h2.1 j q w, h.1 j q w], fun i q w => by rw [h2.2.1 i q w, h.2.1 i q w], fun i q w x y => by rw [h2.2.2 i q w x y, h.2.2 i q w x y]⟩
theorem FrBd.k {a : Nat} {u z : PoS} (h : FrK u z) : FrBd a u z := ⟨fun j q _ => h.1 j q, fun i _ _ => by rw [h.1 51 (by decide)], fun i q w x y => h.2.1 i q w x y⟩
theorem FrBd.p {a c : Nat} {u : PoS} {v : Int32} (h : c = a + 1 ∨ c = a + 2) : FrBd a u (pI u 51 c v) := ⟨fun j _ q => pI_o q, fun i q w => by rw [pI_s, up_ne (by omega)], fun i _ _ _ _ => by rw [pI_o (by decide)]⟩
section
variable {K N ST EN : Nat → Nat} {M L t : Nat} {B : Nat → Int32} {u : PoS} {k : Nat} {D : List Rc}
theorem sortM (h : RT K N ST EN M L B u k) {p : Int32 → PoS → Prop} (h1 : K k ≤ 9 → p (nI (K k)) u) (h0 : 9 < K k → p (-1) u) : wp_X12_sortOf u p :=
  wV_0 (isWordM h (by decide) (fun e0 => ⟨fun w => absurd w (by decide), fun _ => by have := h1 (by omega); rw [e0] at this; exact this⟩) (fun e0 => ⟨fun _ => wV_1 (isWordM h (by decide) (fun e1 => ⟨fun w => absurd w (by decide), fun _ => by have := h1 (by omega); rw [e1] at this; exact this⟩) (fun e1 => ⟨fun _ => wV_2 (isWordM h (by decide) (fun e2 => ⟨fun w => absurd w (by decide), fun _ => by have := h1 (by omega); rw [e2] at this; exact this⟩) (fun e2 => ⟨fun _ => wV_3 (isWordM h (by decide) (fun e3 => ⟨fun w => absurd w (by decide), fun _ => by have := h1 (by omega); rw [e3] at this; exact this⟩) (fun e3 => ⟨fun _ => wV_4 (isWordM h (by decide) (fun e4 => ⟨fun w => absurd w (by decide), fun _ => by have := h1 (by omega); rw [e4] at this; exact this⟩) (fun e4 => ⟨fun _ => wV_5 (isWordM h (by decide) (fun e5 => ⟨fun w => absurd w (by decide), fun _ => by have := h1 (by omega); rw [e5] at this; exact this⟩) (fun e5 => ⟨fun _ => wV_6 (isWordM h (by decide) (fun e6 => ⟨fun w => absurd w (by decide), fun _ => by have := h1 (by omega); rw [e6] at this; exact this⟩) (fun e6 => ⟨fun _ => wV_7 (isWordM h (by decide) (fun e7 => ⟨fun w => absurd w (by decide), fun _ => by have := h1 (by omega); rw [e7] at this; exact this⟩) (fun e7 => ⟨fun _ => wV_8 (isWordM h (by decide) (fun e8 => ⟨fun w => absurd w (by decide), fun _ => by have := h1 (by omega); rw [e8] at this; exact this⟩) (fun e8 => ⟨fun _ => wV_9 (isWordM h (by decide) (fun e9 => ⟨fun w => absurd w (by decide), fun _ => by have := h1 (by omega); rw [e9] at this; exact this⟩) (fun e9 => ⟨fun _ => h0 (by omega), fun w => absurd rfl w⟩)), fun w => absurd rfl w⟩)), fun w => absurd rfl w⟩)), fun w => absurd rfl w⟩)), fun w => absurd rfl w⟩)), fun w => absurd rfl w⟩)), fun w => absurd rfl w⟩)), fun w => absurd rfl w⟩)), fun w => absurd rfl w⟩)), fun w => absurd rfl w⟩))
theorem RT.fr {z : PoS} (h : RT K N ST EN M L B u k) (h1 : ∀ i, i = 4 ∨ i = 7 ∨ i = 8 ∨ i = 9 ∨ i = 10 → z.1 48 i = u.1 48 i) (h2 : z.2.1 48 11 = u.2.1 48 11) (h3 : z.1 52 = u.1 52) : RT K N ST EN M L B z k := by
  obtain ⟨a, b, c, d, e, f⟩ := h
  refine ⟨a, by rw [h1 8 (by omega)]; exact b, by rw [h1 7 (by omega)]; exact c, ?_, by rw [h3]; exact e, by rw [h1 4 (by omega)]; exact f⟩
  rw [h1 9 (by omega), h1 10 (by omega), h2]; exact d
theorem fgM (hNT : NTok K N ST EN M L B) {lo hi a c : Nat} {post : Int32 → PoS → Prop} (h : RT K N ST EN M L B u k) (hc : c = a + 1 ∨ c = a + 2) (ha : c < 2724) (hl : lo ≤ 9999) (hh : hi ≤ 9999) (H : ∀ z, RT K N ST EN M L B z (figF K N lo hi (0, k)).2 → FrBd a u z → (∀ i, i ≠ c → z.1 51 i = u.1 51 i) → ((figF K N lo hi (0, k)).1 = 0 → z.1 51 c = nI (N k)) → post (nI (figF K N lo hi (0, k)).1) z) : wp_X12_figure (nI c) (nI lo) (nI hi) u post := by
  unfold figF at H
  rw [if_neg (fun w => w rfl)] at H
  refine ⟨fun q => ?_, fun q => ?_⟩
  · have k41 := (tk_nu h).mp q
    rw [if_neg (fun w => w k41)] at H
    obtain ⟨m, em, hm, hmn⟩ : ∃ m, u.1 48 10 = nI m ∧ m ≤ 1000000 ∧ (m = N k ∨ (9999 < m ∧ 9999 < N k)) := by
      rcases h.2.2.2.1 with ⟨q1, _⟩ | ⟨q0, q1, _⟩ | ⟨_, _, g⟩ | ⟨q1, _⟩ | ⟨q1, _⟩
      · omega
      · omega
      · exact g
      · omega
      · omega
    unfold wp_X12_isIn
    rw [gI_def, em, q_lt (by omega) (by omega), q_lt (by omega) (by omega)]
    have no : (N k < lo ∨ hi < N k) → post 2 u := fun w => by
      have w' : N (0, k).2 < lo ∨ hi < N (0, k).2 := w
      rw [if_pos w'] at H
      exact H u h FrBd.r (fun _ _ => rfl) (fun w => absurd (show (2 : Nat) = 0 from w) (by decide))
    refine ⟨fun w => ⟨fun w2 => absurd rfl w2, fun _ => no (by omega)⟩, fun w => ⟨fun w2 => ⟨fun w3 => absurd rfl w3, fun _ => no (by omega)⟩, fun w2 => ⟨fun _ => ⟨by simp (disch := omega) only [q_lit, nI_add, pk_mul, q_sub, q_rem, q_div, q_vp, q_cl, q_lt, q_le, q_eq, q_neg1, gI_def]; omega, fun z3 e3 => ?_⟩, fun w3 => absurd w3 (by decide)⟩⟩⟩
    rw [gI_def, em, q_cl (by omega), show m = N k by omega] at e3
    have w' : ¬ (N (0, k).2 < lo ∨ hi < N (0, k).2) := by show ¬ (N k < lo ∨ hi < N k); omega
    rw [if_neg w'] at H
    have h3 : RT K N ST EN M L B z3 k := h.fr (fun i _ => by rw [e3, pI_o (by decide)]) (by rw [e3]; rfl) (by rw [e3, pI_o (by decide)])
    refine hNT z3 k _ h3 (by omega) (fun z hz hf => H z hz ?_ (fun i hi => by rw [hf.1 51 (by decide), e3, pI_s, up_ne hi]) (fun _ => by rw [hf.1 51 (by decide), e3, pI_s, up_eq]))
    have f3 : FrBd a u z3 := by rw [e3]; exact FrBd.p hc
    exact f3.t (FrBd.k hf)
  · have n41 : K (0, k).2 ≠ 41 := fun w => q ((tk_nu h).mpr w)
    rw [if_pos n41] at H
    exact H u h FrBd.r (fun _ _ => rfl) (fun w => absurd (show (1 : Nat) = 0 from w) (by decide))
theorem bodM (hNT : NTok K N ST EN M L B) {a κ : Nat} {post : Int32 → PoS → Prop} (h : RT K N ST EN M L B u (k + 1)) (ha : a + 2 < 2724) (h2 : 2 ≤ κ) (h9 : κ ≤ 9) (H : ∀ z, RT K N ST EN M L B z (dedP K N κ k).2 → FrBd a u z → ((dedP K N κ k).1 = 0 → (κ ≠ 8 → z.1 51 (a + 1) = nI (N (k + 1))) ∧ (κ = 3 ∨ κ = 5 → z.1 51 (a + 2) = nI (N (k + 3)))) → post (nI (dedP K N κ k).1) z) : wp_X12_body (nI κ) (nI a) u post := by
  have one : ∀ lo hi, lo ≤ 9999 → hi ≤ 9999 → dedP K N κ k = figF K N lo hi (0, k + 1) → κ ≠ 3 → κ ≠ 5 → wp_X12_figure (nI a + 1) (nI lo) (nI hi) u (fun r1 u2 => post r1 u2) := by
    intro lo hi hl hh hd n3 n5
    rw [nI_1]
    rw [hd] at H
    exact fgM hNT h (Or.inl rfl) (by omega) hl hh (fun z a1 a2 a3 a4 => H z a1 a2 (fun w => ⟨fun _ => a4 w, fun q => by omega⟩))
  have two : ∀ hi wd, hi ≤ 9999 → wd ≤ 27 → dedP K N κ k = figF K N 0 29 (expF K wd (figF K N 0 hi (0, k + 1))) → wp_X12_pair (nI a) (nI hi) (WD wd) (nI 29) u (fun r5 u6 => post r5 u6) := by
    intro hi wd hh hw hd
    rw [hd] at H
    unfold wp_X12_pair
    rw [nI_1]
    refine fgM (lo := 0) hNT h (Or.inl rfl) (by omega) (by decide) hh (fun z a1 a2 a3 a4 => ⟨fun q => ?_, fun q => ?_⟩)
    · have f0 : (figF K N 0 hi (0, k + 1)).1 = 0 := by
        have hb : (figF K N 0 hi (0, k + 1)).1 ≤ 2 := by
          unfold figF
          split
          · exact Nat.zero_le _
          · split
            · exact (by decide : 1 ≤ 2)
            · split
              · exact (by decide : 2 ≤ 2)
              · exact Nat.zero_le _
        rw [show (0 : Int32) = nI 0 from rfl, nI_eq (by omega) (by decide)] at q; exact q
      obtain ⟨-, g1, -, -, g4⟩ := figF_0 f0
      rw [g4] at a1 H
      refine isWordM a1 hw (fun e => ⟨fun _ => ?_, fun w => absurd w (by decide)⟩) (fun e => ⟨fun w => absurd rfl w, fun _ => ?_⟩)
      · have ee : expF K wd (0, (0, k + 1).2 + 1) = (0, k + 3) := by
          unfold expF
          rw [if_neg (fun w => w rfl), if_pos e]
        rw [ee] at H
        refine hNT z _ _ a1 (by omega) (fun z2 b1 b2 => ?_)
        rw [show (2 : Int32) = nI 2 from rfl, nI_add a 2]
        refine fgM (a := a) (lo := 0) (hi := 29) hNT b1 (Or.inr rfl) (by omega) (by decide) (by decide) (fun z3 c1 c2 c3 c4 => H z3 c1 (a2.t ((FrBd.k b2).t c2)) (fun w => ⟨fun _ => ?_, fun _ => c4 w⟩))
        rw [c3 _ (by omega), b2.1 51 (by decide)]; exact a4 f0
      · have ee : expF K wd (0, (0, k + 1).2 + 1) = (1, k + 2) := by
          unfold expF
          rw [if_neg (fun w => w rfl), if_neg e]
        rw [ee] at H
        have e2 : figF K N 0 29 (1, k + 2) = (1, k + 2) := by unfold figF; rw [if_pos (show (1 : Nat) ≠ 0 by decide)]
        rw [e2] at H
        exact H z a1 a2 (fun w => absurd (show (1 : Nat) = 0 from w) (by decide))
    · have f0 : (figF K N 0 hi (0, k + 1)).1 ≠ 0 := fun w => q (by rw [w]; rfl)
      have ee : expF K wd (figF K N 0 hi (0, k + 1)) = figF K N 0 hi (0, k + 1) := by
        generalize figF K N 0 hi (0, k + 1) = p at f0
        unfold expF; rw [if_pos f0]
      have e2 : figF K N 0 29 (figF K N 0 hi (0, k + 1)) = figF K N 0 hi (0, k + 1) := by
        generalize figF K N 0 hi (0, k + 1) = p at f0
        unfold figF; rw [if_pos f0]
      rw [ee, e2] at H
      exact H z a1 a2 (fun w => absurd w f0)
  have hk : κ = 2 ∨ κ = 3 ∨ κ = 4 ∨ κ = 5 ∨ κ = 6 ∨ κ = 7 ∨ κ = 8 ∨ κ = 9 := by omega
  have z : ∀ {P Q : Prop}, ¬ P → P → Q := fun h q => absurd q h
  rcases hk with rfl | rfl | rfl | rfl | rfl | rfl | rfl | rfl
  · exact ⟨fun _ => one 0 29 (by decide) (by decide) rfl (by decide) (by decide), z (by decide), z (by decide), z (by decide), z (by decide), z (by decide), z (by decide), z (by decide), fun w _ _ _ _ _ _ _ => absurd rfl w⟩
  · exact ⟨z (by decide), fun _ => wV_21 (two 99 21 (by decide) (by decide) rfl), z (by decide), z (by decide), z (by decide), z (by decide), z (by decide), z (by decide), fun _ w _ _ _ _ _ _ => absurd rfl w⟩
  · exact ⟨z (by decide), z (by decide), fun _ => one 0 29 (by decide) (by decide) rfl (by decide) (by decide), z (by decide), z (by decide), z (by decide), z (by decide), z (by decide), fun _ _ w _ _ _ _ _ => absurd rfl w⟩
  · exact ⟨z (by decide), z (by decide), z (by decide), fun _ => wV_22 (two 4 22 (by decide) (by decide) rfl), z (by decide), z (by decide), z (by decide), z (by decide), fun _ _ _ w _ _ _ _ => absurd rfl w⟩
  · exact ⟨z (by decide), z (by decide), z (by decide), z (by decide), fun _ => one 0 4 (by decide) (by decide) rfl (by decide) (by decide), z (by decide), z (by decide), z (by decide), fun _ _ _ _ w _ _ _ => absurd rfl w⟩
  · exact ⟨z (by decide), z (by decide), z (by decide), z (by decide), z (by decide), fun _ => one 0 4 (by decide) (by decide) rfl (by decide) (by decide), z (by decide), z (by decide), fun _ _ _ _ _ w _ _ => absurd rfl w⟩
  · exact ⟨z (by decide), z (by decide), z (by decide), z (by decide), z (by decide), z (by decide), fun _ => H u h FrBd.r (fun _ => ⟨fun w => absurd rfl w, fun w => absurd w (by decide)⟩), z (by decide), fun _ _ _ _ _ _ w _ => absurd rfl w⟩
  · exact ⟨z (by decide), z (by decide), z (by decide), z (by decide), z (by decide), z (by decide), z (by decide), fun _ => one 1 60 (by decide) (by decide) rfl (by decide) (by decide), fun _ _ _ _ _ _ _ w => absurd rfl w⟩
/-- the reference's law of a clause -/
theorem lwM (hNT : NTok K N ST EN M L B) {a n f1 k1 : Nat} {pr : Bool} {r : Cd} {post : Int32 → PoS → Prop} (ht : t < 4) (hM : M ≤ 301) (h : RT K N ST EN M L B u (k + 1)) (ha : a + 2 < 681 * t + 73) (hat : 681 * t < a) (h12 : u.1 48 12 = nI (681 * t)) (h13 : u.1 48 13 = nI n) (hn : n ≤ k + 1) (h14 : u.1 48 14 = nI (if pr = true then 1 else 0)) (hf : f1 ≤ 6) (hS : MSum K N pr (k + 1) 0 f1 k1 r) (hfo : f1 = 0 → ¬ (32 ≤ K k1 ∧ K k1 ≤ 35)) (H : ∀ z, RT K N ST EN M L B z k1 → (∀ j, j ≠ 48 → j ≠ 51 → j ≠ 53 → z.1 j = u.1 j) → (∀ i, i ≠ 7 → i ≠ 8 → i ≠ 9 → i ≠ 10 → i ≠ 13 → i ≠ 16 → i ≠ 17 → i ≠ 18 → z.1 48 i = u.1 48 i) → (∀ i, i ≠ a + 1 → i ≠ a + 2 → (i < 681 * t + 73 + 2 * n ∨ 681 * t + 681 ≤ i) → z.1 51 i = u.1 51 i) → (f1 = 0 → z.1 51 (a + 1) = nI n ∧ z.1 51 (a + 2) = nI (n + r.length) ∧ z.1 48 13 = nI (n + r.length) ∧ CodeAt t n (z.1 51) r) → post (nI f1) z) : wp_X12_lawClause (nI a) u post := by
  have hkM := h.1
  unfold wp_X12_lawClause
  rw [nI_1, q_cl (by omega), gI_def, h13]
  refine ⟨by simp (disch := omega) only [q_lit, nI_add, pk_mul, q_sub, q_rem, q_div, q_vp, q_cl, q_lt, q_le, q_eq, q_neg1, gI_def]; omega, fun z1 e1 => ?_⟩
  intro y1 d1 y2 d2 y3 d3
  have c51 : y3.1 51 = up (u.1 51) (a + 1) (nI n) := by rw [d3, pI_o (by decide), d2, pI_o (by decide), d1, pI_o (by decide), e1, pI_s]
  have cj : ∀ j, j ≠ 48 → j ≠ 51 → y3.1 j = u.1 j := fun j a b => by rw [d3, pI_o a, d2, pI_o a, d1, pI_o a, e1, pI_o b]
  have c48 : ∀ i, i ≠ 16 → i ≠ 17 → i ≠ 18 → y3.1 48 i = u.1 48 i := fun i a b c => by rw [d3, pI_s, up_ne c, d2, pI_s, up_ne b, d1, pI_s, up_ne a, e1, pI_o (by decide)]
  have hr3 : RT K N ST EN M L B y3 (k + 1) := h.fr (fun i hi => c48 i (by omega) (by omega) (by omega)) (by rw [d3, d2, d1, e1]; rfl) (cj 52 (by decide) (by decide))
  have st : MSt K N ST EN M L t n B pr y3 y3 (k + 1) [] 0 [] := by
    refine ⟨ht, hM, hr3, ⟨fun _ _ _ _ => rfl, fun _ _ _ _ _ _ _ _ _ => rfl, fun _ _ => rfl, fun _ _ _ => rfl, rfl⟩, ?_, trivial, ?_, by decide, ?_, ?_, fun i x hx => absurd hx (by simp), ?_, ?_, by decide⟩
    · rw [d3, pI_s, up_ne (by decide), d2, pI_s, up_ne (by decide), d1, pI_s, up_eq]; rfl
    · rw [d3, pI_s, up_ne (by decide), d2, pI_s, up_eq]; rfl
    · rw [c48 12 (by decide) (by decide) (by decide)]; exact h12
    · rw [c48 13 (by decide) (by decide) (by decide)]; exact h13
    · rw [c48 14 (by decide) (by decide) (by decide)]; exact h14
    · show n + 0 + 0 ≤ 302; omega
  have h18 : y3.1 48 18 = nI (if false = true then 1 else 0) := by rw [d3, pI_s, up_eq]; rfl
  have nA : ¬ askA [] := fun w => absurd w.1 (by decide)
  have go : Go K N pr (k + 1, [], 0, [], false) (if f1 = 0 then (0, k1, r) else (f1, k1, [])) := by
    refine hS [] [] _ (Nat.zero_le _) (fun _ => nA) (fun o π' w => absurd w (by simp)) ⟨fun f0 => ?_, fun f0 => by rw [if_neg f0]⟩
    rw [if_pos f0]
    refine go_beh ?_
    have fo := hfo f0
    have b0 : btw (K k1) [] = 0 := btw0 fo (by decide)
    rw [behM, if_pos b0, if_pos (by rfl), if_pos (by rfl)]
    rfl
  obtain ⟨m, hm⟩ := go
  have close : ∀ z : PoS, RT K N ST EN M L B z k1 → FrM t n y3 z → (f1 = 0 → z.1 48 13 = nI (n + r.length) ∧ CodeAt t n (z.1 51) r) → vp_in (nI a + 2) 2724 ∧ ∀ z4 : PoS, z4 = pI z 51 (Int32.toNatClampNeg (nI a + 2)) (gI z 48 13) → post (nI f1) z4 := by
    intro z hz hF hc
    rw [show (2 : Int32) = nI 2 from rfl, nI_add a 2, q_cl (by omega)]
    refine ⟨by simp (disch := omega) only [q_lit, nI_add, pk_mul, q_sub, q_rem, q_div, q_vp, q_cl, q_lt, q_le, q_eq, q_neg1, gI_def]; omega, fun z4 e4 => ?_⟩
    have k51 : ∀ i, i ≠ a + 2 → z4.1 51 i = z.1 51 i := fun i hi => by rw [e4, pI_s, up_ne hi]
    have kj : ∀ j, j ≠ 51 → z4.1 j = z.1 j := fun j hj => by rw [e4, pI_o hj]
    refine H z4 (hz.fr (fun i _ => by rw [kj 48 (by decide)]) (by rw [e4]; rfl) (kj 52 (by decide))) (fun j a b c => by rw [kj j b, hF.1 j a b c, cj j a b]) (fun i a b c d e f g hh => by rw [kj 48 (by decide), hF.2.1 i a b c d e f g hh, c48 i f g hh]) (fun i q1 q2 q3 => by rw [k51 i q2, hF.2.2.1 i q3, c51, up_ne q1]) (fun f0 => ?_)
    obtain ⟨g1, g2⟩ := hc f0
    refine ⟨by rw [k51 _ (by omega), hF.2.2.1 _ (Or.inl (by omega)), c51, up_eq], by rw [e4, pI_s, up_eq, gI_def]; exact g1, by rw [kj 48 (by decide)]; exact g1, fun i x hx => ?_⟩
    have := g2 i x hx
    rw [k51 _ (by omega), k51 _ (by omega)]; exact this
  refine ⟨m, runSum (q := fun r2 u3 => vp_in (nI a + 2) 2724 ∧ ∀ z4 : PoS, z4 = pI u3 51 (Int32.toNatClampNeg (nI a + 2)) (gI u3 48 13) → post r2 z4) (pr := pr) (u0 := y3) (t := t) (n0 := n) hNT m (k + 1, [], 0, [], false) _ y3 hm (by split; exact (by decide : (0 : Nat) ≠ 99); exact (by omega : f1 ≠ 99)) (by split; exact (by decide : (0 : Nat) < 90); exact (by omega : f1 < 90)) st h18 (by show n + 0 + 0 ≤ k + 1; omega) rfl (fun r0 z π' d' hz => ?_) (fun r0 z π' d' c' hz => ?_)⟩
  · have f0 : f1 = 0 := Decidable.byContradiction fun w => by rw [if_neg w] at r0; exact w r0
    rw [if_pos f0] at hz
    have := close z hz.2.2.1 hz.2.2.2.1 (fun _ => ⟨hz.2.2.2.2.2.2.2.2.2.1, hz.2.2.2.2.2.2.2.2.2.2.1⟩)
    rw [f0] at this; exact this
  · have f0 : f1 ≠ 0 := fun w => by rw [if_pos w] at r0; exact r0 rfl
    rw [if_neg f0] at hz ⊢
    exact close z hz.2.2.1 hz.2.2.2.1 (fun w => absurd w f0)
end
