/-! A MINUTE, in both programs -/
def nxS (o : Int32) (a b n : Nat) : Nat → Nat → Nat
  | 0, c => c
  | f + 1, c => if hb (bes (bt1 a)) c = true ∧ dst o b c = nI n then c else nxS o a b n f (c + 1)
theorem nxS_is (o : Int32) (a b n : Nat) : ∀ f c, (∃ d, c ≤ d ∧ d < c + f ∧ nxP o a b n d) → nxP o a b n (nxS o a b n f c) ∧ c ≤ nxS o a b n f c ∧ ∀ d, c ≤ d → d < nxS o a b n f c → ¬ nxP o a b n d := by
  intro f
  induction f with
  | zero => intro c h; obtain ⟨d, h1, h2, _⟩ := h; omega
  | succ f ih =>
    intro c h
    rw [nxS]
    by_cases q : hb (bes (bt1 a)) c = true ∧ dst o b c = nI n
    · rw [if_pos q]; exact ⟨q, Nat.le_refl c, fun d h1 h2 => by omega⟩
    · rw [if_neg q]
      obtain ⟨d, h1, h2, h3⟩ := h
      have : d ≠ c := fun e => q (e ▸ h3)
      obtain ⟨i1, i2, i3⟩ := ih (c + 1) ⟨d, by omega, by omega, h3⟩
      refine ⟨i1, by omega, fun d' k1 k2 => ?_⟩
      by_cases e : d' = c
      · rw [e]; exact q
      · exact i3 d' (by omega) k2
def nxt (o : Int32) (a b : Nat) : Nat := nxS o a b (nN (dst o a b) - 1) 30 0
theorem nxt_is {o : Int32} (hO : S30 o) {a b n : Nat} (ha : a < 30) (hb' : b < 30) (hn : n < 2 ^ 30) (h : dst o a b = nI (n + 1)) : nxP o a b n (nxt o a b) ∧ (∀ d, d < nxt o a b → ¬ nxP o a b n d) ∧ nxt o a b < 30 := by
  obtain ⟨c, hc, h1, h2⟩ := nx_ex hO ha hb' hn h
  have := nxS_is o a b n 30 0 ⟨c, by omega, by omega, h1⟩
  have e : nxt o a b = nxS o a b n 30 0 := by unfold nxt; rw [h, nN_nI (by omega)]; rfl
  rw [e]
  exact ⟨this.1, fun d hd => this.2.2 d (by omega) hd, (nx_next hO ha hb' hn this.1).1⟩
/-- where SHOWER goes if it goes for nobody -/
def shv (a : Nat → Int32) : Int32 := if ∃ c, c < 30 ∧ sid (nN (a 7)) (nN (a 8) % 4) = nI c ∧ hb (opn a) c = true then sid (nN (a 7)) (nN (a 8) % 4) else a 7
def cam (q : Nat → (Nat → Int32) → Nat → Int32) (a : Nat → Int32) (p : Nat) : Nat := min (nN (pvl q a p)) (99 - nN (a (40 + atF a p)))
def rnB (q : Nat → (Nat → Int32) → Nat → Int32) (a : Nat → Int32) (p : Nat) : Nat → Int32 := up (up (up a (40 + atF a p) (nI (nN (a (40 + atF a p)) + cam q a p))) (12 + 6 * p) (nI (min (nN (a (12 + 6 * p)) + 3) 99))) (13 + 6 * p) (nI (min (nN (a (13 + 6 * p)) + 1) 999))
def rnA (q : Nat → (Nat → Int32) → Nat → Int32) (wr : Bool) (a : Nat → Int32) (p : Nat) : Nat → Int32 := if wr = true then bkA (rnB q a p) (nI ((p * 30 + atF a p) * 100 + cam q a p)) else rnB q a p
/-- on whom it rains; -1: on nobody -/
def wt (w : Nat → (Nat → Int32) → Nat → Int32 → Int32) (a : Nat → Int32) : Int32 := if gol w a = -1 then -1 else if a (10 + 6 * nN (gol w a)) = a 7 then gol w a else -1
def ps1 (w : Nat → (Nat → Int32) → Nat → Int32 → Int32) (q : Nat → (Nat → Int32) → Nat → Int32) (wr : Bool) (a : Nat → Int32) : Nat → Int32 := if gol w a = -1 then up (up a 8 (nI (nx (nN (a 8))))) 7 (shv a) else if a (10 + 6 * nN (gol w a)) = a 7 then rnA q wr a (nN (gol w a)) else up a 7 (nI (nxt (opn a) (nN (a 7)) (atF a (nN (gol w a)))))
def psA (w : Nat → (Nat → Int32) → Nat → Int32 → Int32) (q : Nat → (Nat → Int32) → Nat → Int32) (wr : Bool) (a : Nat → Int32) : Nat → Int32 := up (dcA (ps1 w q wr a) (wt w a) (nN (a 0))) 6 (nI (nN (a 6) + 1))
section PASS
variable {w : Nat → (Nat → Int32) → Nat → Int32 → Int32} {q : Nat → (Nat → Int32) → Nat → Int32}
theorem Liv.min {ρ a : Nat → Int32} (h : Liv ρ a) : nN (a 6) ≤ 9999 ∧ a 6 = nI (nN (a 6)) ∧ ρ 51 = nI (nN (a 6)) := by
  obtain ⟨m, hm, e⟩ := h.2.1.2.2.2.1
  rw [h.1.2.2.1, e, nN_nI (by omega)]
  exact ⟨hm, rfl, rfl⟩
theorem Liv.xx {ρ a : Nat → Int32} (h : Liv ρ a) : nN (a 8) ≤ 30670 ∧ a 8 = nI (nN (a 8)) ∧ ρ 52 = nI (nN (a 8)) := by
  obtain ⟨m, hm, e⟩ := h.2.1.2.2.2.2.2.1
  rw [h.1.2.2.2.2, e, nN_nI (by omega)]
  exact ⟨hm, rfl, rfl⟩
/-- a frame of the class: one row, and the stack -/
def FrB (b : Nat) (u z : PoS) : Prop := ∀ j, j ≠ 3 + b → j ≠ 47 → z.1 j = u.1 j
theorem pX2 {b : Nat} {v : PoS} {a1 : Nat → Int32} (h : Liv (v.1 (3 + b)) a1) {x : Int32} {post : Int32 → PoS → Prop} (K : ∀ z, (∀ j, j ≠ 3 + b → z.1 j = v.1 j) → z.1 (3 + b) = up (dcR (v.1 (3 + b)) a1 x (nN (a1 0))) 51 (nI (nN (a1 6) + 1)) → post x z) : wj_X8_passOne_115 b post x v := by
  obtain ⟨n, hn, e1, e2, e3⟩ := h.ppl
  obtain ⟨m1, m2, m3⟩ := h.min
  refine ⟨n + 1, ?_⟩
  have lp : ∀ k p, p + k = n → ∀ z, (∀ j, j ≠ 3 + b → z.1 j = v.1 j) → z.1 (3 + b) = dcR (v.1 (3 + b)) a1 x p → wl_X8_passOne_117 b (fun (v211 : Int32) (u11 : PoS) => vp_in 51 (rowLen b) ∧ vp_in 51 (rowLen b) ∧ ∀ z12 : PoS, z12 = pI u11 (3 + b) 51 ((gI u11 (3 + b) 51) + 1) → post v211 z12) post (k + 1) x (nI p) z := by
    intro k
    induction k with
    | zero => intro p hp z fz gz
              rw [wl_X8_passOne_117, gI_def, gz, dcR_out _ _ _ _ 84 (fun p hp => by omega), e2]
              refine ⟨rl_in (k := 84) (by decide), fun _ => ⟨rl_in (k := 51) (by decide), rl_in (k := 51) (by decide), fun z12 e12 => K z12 (fun j hj => by rw [e12]; simp (disch := omega) only [gI_def, pI_s, pI_o, cI_s, cI_o, pL_1, pR_1]; exact fz j hj) ?_⟩, fun q => absurd (nI_le (show n ≤ p by omega) (by omega)) q⟩
              rw [e12]; simp (disch := omega) only [gI_def, pI_s, pI_o, cI_s, cI_o, pL_1, pR_1]
              rw [gz, dcR_out _ _ _ _ 51 (fun p hp => by omega), m3, nI_1, show nN (a1 0) = p by omega]
    | succ k ih =>
      intro p hp z fz gz
      obtain ⟨c, wi, t, b', hc, hw, ht, hb', h5, g1, g2, g3, g4, g5, g6, -⟩ := h.per (show p < nN (a1 0) by omega)
      rw [wl_X8_passOne_117, gI_def, gz, dcR_out _ _ _ _ 84 (fun p hp => by omega), e2, q_le (by omega) (by omega)]
      refine ⟨rl_in (k := 84) (by decide), fun q => by omega, fun _ => ⟨fun q => ?_, fun q => ?_⟩⟩
      · unfold wj_X8_passOne_157
        rw [nI_1]
        exact ih (p + 1) (by omega) z fz (by rw [gz, dcR, if_pos q])
      · rw [show (10 : Int32) + nI p = nI (10 + p) by simp (disch := omega) only [q_lit, nI_add, pk_mul, q_sub, q_rem, q_div, q_vp, q_cl, q_lt, q_le, q_eq, q_neg1, gI_def], q_cl (by omega)]
        refine ⟨rl_in (by omega), rl_in (by omega), fun z8 e8 => ?_⟩
        rw [gI_def, gz, dcR_out _ _ _ _ (10 + p) (fun p' hp' => by omega), g6, imax_d ht] at e8
        unfold wj_X8_passOne_157
        rw [nI_1]
        refine ih (p + 1) (by omega) z8 (fun j hj => by rw [e8]; simp (disch := omega) only [gI_def, pI_s, pI_o, cI_s, cI_o, pL_1, pR_1]; exact fz j hj) ?_
        rw [e8]; simp (disch := omega) only [gI_def, pI_s, pI_o, cI_s, cI_o, pL_1, pR_1]
        rw [gz, dcR, if_neg q, g5, nN_nI (by omega)]
  exact lp n 0 (Nat.zero_add n) v (fun _ _ => rfl) rfl
theorem pM2 {ρ : Nat → Int32} {v : PoS} (h : Liv ρ (v.1 49)) {g s0 x : Int32} (hx : (s0 = 0 ∧ x = -1) ∨ (¬ s0 = 0 ∧ x = g)) {post : PoS → Prop} (K : ∀ z, FrA v z → z.1 49 = up (dcA (v.1 49) x (nN (v.1 49 0))) 6 (nI (nN (v.1 49 6) + 1)) → post z) : wj_X12_pass_49 post g s0 v := by
  obtain ⟨n, hn, e1, e2, e3⟩ := h.ppl
  obtain ⟨m1, m2, m3⟩ := h.min
  refine ⟨n + 1, ?_⟩
  have lp : ∀ k p, p + k = n → ∀ z, FrA v z → z.1 49 = dcA (v.1 49) x p → wl_X12_pass_51 (fun (u14 : PoS) => ∀ z15 : PoS, z15 = pI u14 49 6 ((gI u14 49 6) + 1) → post z15) post (k + 1) g s0 (nI p) z := by
    intro k
    induction k with
    | zero => intro p hp z fz gz
              rw [wl_X12_pass_51, gI_def, gz, dcA_out _ _ _ 0 (fun p hp => by omega), e1]
              refine ⟨fun _ z15 e15 => K z15 (by rw [e15]; exact fz.put _ _) ?_, fun q => absurd (nI_le (show n ≤ p by omega) (by omega)) q⟩
              rw [e15]; simp (disch := omega) only [gI_def, pI_s, pI_o, cI_s, cI_o, pL_1, pR_1]
              rw [gz, dcA_out _ _ _ 6 (fun p hp => by omega), show nN (v.1 49 0) = p by omega]
              congr 1
              rw [m2, nI_1, nN_nI (by omega)]
    | succ k ih =>
      intro p hp z fz gz
      obtain ⟨c, wi, t, b', hc, hw, ht, hb', h5, g1, g2, g3, g4, g5, g6, -⟩ := h.per (show p < nN (v.1 49 0) by omega)
      have dry : ¬ nI p = x → wj_X12_pass_70 (wl_X12_pass_51 (fun (u14 : PoS) => ∀ z15 : PoS, z15 = pI u14 49 6 ((gI u14 49 6) + 1) → post z15) post (k + 1)) post g s0 (nI p) z := by
        intro hne
        refine getM (o := 2) h5 (by decide) ?_
        rw [show 10 + 6 * p + 2 = 12 + 6 * p by omega, gz, dcA_out _ _ _ (12 + 6 * p) (fun p' hp' => by omega), g5]
        refine heldD ht (putM (o := 2) h5 (by decide) ?_)
        unfold wj_X12_pass_91
        rw [nI_1]
        refine ih (p + 1) (by omega) _ (fz.put _ _) ?_
        simp (disch := omega) only [gI_def, pI_s, pI_o, cI_s, cI_o, pL_1, pR_1]
        rw [gz, dcA, if_neg hne, g5, nN_nI (by omega), show 10 + 6 * p + 2 = 12 + 6 * p by omega]
      rw [wl_X12_pass_51, gI_def, gz, dcA_out _ _ _ 0 (fun p hp => by omega), e1, q_le (by omega) (by omega)]
      refine ⟨fun q => by omega, fun _ => ⟨fun q => dry ?_, fun q => ⟨fun e => ?_, fun e => dry ?_⟩⟩⟩
      · rcases hx with ⟨h1, h2⟩ | ⟨h1, h2⟩
        · rw [h2, show (1 : Int32) = nI 1 from rfl, q_neg1 (by omega)]; exact fun h => h
        · exact absurd q h1
      · unfold wj_X12_pass_91
        rw [nI_1]
        refine ih (p + 1) (by omega) z fz ?_
        rcases hx with ⟨h1, h2⟩ | ⟨h1, h2⟩
        · exact absurd h1 q
        · rw [gz, dcA, if_pos (by rw [h2]; exact e)]
      · rcases hx with ⟨h1, h2⟩ | ⟨h1, h2⟩
        · exact absurd h1 q
        · rw [h2]; exact e
  exact lp n 0 (Nat.zero_add n) v (fun _ _ => rfl) rfl
theorem shv_sm {ρ a : Nat → Int32} (h : Liv ρ a) : Sm 29 (shv a) := by
  unfold shv
  by_cases z : ∃ c, c < 30 ∧ sid (nN (a 7)) (nN (a 8) % 4) = nI c ∧ hb (opn a) c = true
  · rw [if_pos z]; obtain ⟨c, h1, h2, -⟩ := z; exact ⟨c, by omega, h2⟩
  · rw [if_neg z]; exact h.2.1.2.2.2.2.1
theorem up_self (a : Nat → Int32) (k : Nat) : up a k (a k) = a := by
  funext i
  by_cases e : i = k
  · rw [e, up_eq]
  · rw [up_ne e]
theorem opn_up {a : Nat → Int32} {k : Nat} {v : Int32} (h : k < 100 ∨ 130 ≤ k) : opn (up a k v) = opn a := by
  refine (opn_30 _).ext (opn_30 a) (fun c hc => ?_)
  cases e : hb (opn a) c
  · cases e2 : hb (opn (up a k v)) c
    · rfl
    · have := (opn_hb _ c).mp e2
      rw [up_ne (by omega)] at this
      rw [(opn_hb a c).mpr this] at e; exact Bool.noConfusion e
  · have := (opn_hb _ c).mp e
    exact (opn_hb _ c).mpr ⟨hc, by rw [up_ne (by omega)]; exact this.2⟩
theorem wat_of {ρ a : Nat → Int32} (h : Liv ρ a) {c : Nat} (hc : c < 30) : nN (a (40 + c)) ≤ 99 ∧ a (40 + c) = nI (nN (a (40 + c))) ∧ ρ (20 + c) = nI (nN (a (40 + c))) := by
  obtain ⟨e1, ⟨m, hm, e2⟩, -⟩ := h.2.2.2.1 c hc
  rw [e1, e2, nN_nI (by omega)]
  exact ⟨hm, rfl, rfl⟩
theorem cam_le (a : Nat → Int32) (p : Nat) {k : Nat} (hk : k ≤ 9) (e : pvl q a p = nI k) : cam q a p ≤ 9 ∧ cam q a p ≤ 99 - nN (a (40 + atF a p)) := by
  unfold cam
  rw [e, nN_nI (by omega)]
  omega
theorem rnB_lo {a : Nat → Int32} {p i : Nat} (ha : atF a p < 30) (h1 : i < 10 ∨ 70 ≤ i) : rnB q a p i = a i := by
  unfold rnB
  rw [up_ne (by omega), up_ne (by omega), up_ne (by omega)]
