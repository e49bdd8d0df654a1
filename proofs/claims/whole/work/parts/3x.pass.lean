/-! A MINUTE, in both programs -/
def nxS (o : Int32) (a b n : Nat) : Nat → Nat → Nat
  | 0, c => c
  | f + 1, c => if hb (bes (bt1 a)) c = true ∧ dst o b c = nI n then c else nxS o a b n f (c + 1)
theorem nxS_is (o : Int32) (a b n : Nat) : ∀ f c, (∃ d, c ≤ d ∧ d < c + f ∧ nxP o a b n d) → nxP o a b n (nxS o a b n f c) ∧ c ≤ nxS o a b n f c ∧ ∀ d, c ≤ d → d < nxS o a b n f c → ¬ nxP o a b n d := by
  intro f
  induction f with
  | zero => intro c h; obtain ⟨d, h1, h2, _⟩ := h; omega
  | succ f ih =>
    intro c h
    rw [nxS]
    by_cases q : hb (bes (bt1 a)) c = true ∧ dst o b c = nI n
    · rw [if_pos q]; exact ⟨q, Nat.le_refl c, fun d h1 h2 => by omega⟩
    · rw [if_neg q]
      obtain ⟨d, h1, h2, h3⟩ := h
      have : d ≠ c := fun e => q (e ▸ h3)
      obtain ⟨i1, i2, i3⟩ := ih (c + 1) ⟨d, by omega, by omega, h3⟩
      refine ⟨i1, by omega, fun d' k1 k2 => ?_⟩
      by_cases e : d' = c
      · rw [e]; exact q
      · exact i3 d' (by omega) k2
def nxt (o : Int32) (a b : Nat) : Nat := nxS o a b (nN (dst o a b) - 1) 30 0
theorem nxt_is {o : Int32} (hO : S30 o) {a b n : Nat} (ha : a < 30) (hb' : b < 30) (hn : n < 2 ^ 30) (h : dst o a b = nI (n + 1)) : nxP o a b n (nxt o a b) ∧ (∀ d, d < nxt o a b → ¬ nxP o a b n d) ∧ nxt o a b < 30 := by
  obtain ⟨c, hc, h1, h2⟩ := nx_ex hO ha hb' hn h
  have := nxS_is o a b n 30 0 ⟨c, by omega, by omega, h1⟩
  have e : nxt o a b = nxS o a b n 30 0 := by unfold nxt; rw [h, nN_nI (by omega)]; rfl
  rw [e]
  exact ⟨this.1, fun d hd => this.2.2 d (by omega) hd, (nx_next hO ha hb' hn this.1).1⟩
/-- where SHOWER goes if it goes for nobody -/
def shv (a : Nat → Int32) : Int32 := if ∃ c, c < 30 ∧ sid (nN (a 7)) (nN (a 8) % 4) = nI c ∧ hb (opn a) c = true then sid (nN (a 7)) (nN (a 8) % 4) else a 7
def cam (q : Nat → (Nat → Int32) → Nat → Int32) (a : Nat → Int32) (p : Nat) : Nat := min (nN (pvl q a p)) (99 - nN (a (40 + atF a p)))
def rnB (q : Nat → (Nat → Int32) → Nat → Int32) (a : Nat → Int32) (p : Nat) : Nat → Int32 := up (up (up a (40 + atF a p) (nI (nN (a (40 + atF a p)) + cam q a p))) (12 + 6 * p) (nI (min (nN (a (12 + 6 * p)) + 3) 99))) (13 + 6 * p) (nI (min (nN (a (13 + 6 * p)) + 1) 999))
def rnA (q : Nat → (Nat → Int32) → Nat → Int32) (wr : Bool) (a : Nat → Int32) (p : Nat) : Nat → Int32 := if wr = true then bkA (rnB q a p) (nI ((p * 30 + atF a p) * 100 + cam q a p)) else rnB q a p
/-- on whom it rains; -1: on nobody -/
def wt (w : Nat → (Nat → Int32) → Nat → Int32 → Int32) (a : Nat → Int32) : Int32 := if gol w a = -1 then -1 else if a (10 + 6 * nN (gol w a)) = a 7 then gol w a else -1
def ps1 (w : Nat → (Nat → Int32) → Nat → Int32 → Int32) (q : Nat → (Nat → Int32) → Nat → Int32) (wr : Bool) (a : Nat → Int32) : Nat → Int32 := if gol w a = -1 then up (up a 8 (nI (nx (nN (a 8))))) 7 (shv a) else if a (10 + 6 * nN (gol w a)) = a 7 then rnA q wr a (nN (gol w a)) else up a 7 (nI (nxt (opn a) (nN (a 7)) (atF a (nN (gol w a)))))
def psA (w : Nat → (Nat → Int32) → Nat → Int32 → Int32) (q : Nat → (Nat → Int32) → Nat → Int32) (wr : Bool) (a : Nat → Int32) : Nat → Int32 := up (dcA (ps1 w q wr a) (wt w a) (nN (a 0))) 6 (nI (nN (a 6) + 1))
section PASS
variable {w : Nat → (Nat → Int32) → Nat → Int32 → Int32} {q : Nat → (Nat → Int32) → Nat → Int32}
theorem Liv.min {ρ a : Nat → Int32} (h : Liv ρ a) : nN (a 6) ≤ 9999 ∧ a 6 = nI (nN (a 6)) ∧ ρ 51 = nI (nN (a 6)) := by
  obtain ⟨m, hm, e⟩ := h.2.1.2.2.2.1
  rw [h.1.2.2.1, e, nN_nI (by omega)]
  exact ⟨hm, rfl, rfl⟩
theorem Liv.xx {ρ a : Nat → Int32} (h : Liv ρ a) : nN (a 8) ≤ 30670 ∧ a 8 = nI (nN (a 8)) ∧ ρ 52 = nI (nN (a 8)) := by
  obtain ⟨m, hm, e⟩ := h.2.1.2.2.2.2.2.1
  rw [h.1.2.2.2.2, e, nN_nI (by omega)]
  exact ⟨hm, rfl, rfl⟩
/-- a frame of the class: one row, and the stack -/
def FrB (b : Nat) (u z : PoS) : Prop := ∀ j, j ≠ 3 + b → j ≠ 47 → z.1 j = u.1 j
theorem pX2 {b : Nat} {v : PoS} {a1 : Nat → Int32} (h : Liv (v.1 (3 + b)) a1) {x : Int32} {post : Int32 → PoS → Prop} (K : ∀ z, (∀ j, j ≠ 3 + b → z.1 j = v.1 j) → z.1 (3 + b) = up (dcR (v.1 (3 + b)) a1 x (nN (a1 0))) 51 (nI (nN (a1 6) + 1)) → post x z) : wj_X8_passOne_115 b post x v := by
  obtain ⟨n, hn, e1, e2, e3⟩ := h.ppl
  obtain ⟨m1, m2, m3⟩ := h.min
  refine ⟨n + 1, ?_⟩
  have lp : ∀ k p, p + k = n → ∀ z, (∀ j, j ≠ 3 + b → z.1 j = v.1 j) → z.1 (3 + b) = dcR (v.1 (3 + b)) a1 x p → wl_X8_passOne_117 b (fun (v211 : Int32) (u11 : PoS) => vp_in 51 (rowLen b) ∧ vp_in 51 (rowLen b) ∧ ∀ z12 : PoS, z12 = pI u11 (3 + b) 51 ((gI u11 (3 + b) 51) + 1) → post v211 z12) post (k + 1) x (nI p) z := by
    intro k
    induction k with
    | zero => intro p hp z fz gz
              rw [wl_X8_passOne_117, gI_def, gz, dcR_out _ _ _ _ 84 (fun p hp => by omega), e2]
              refine ⟨rl_in (k := 84) (by decide), fun _ => ⟨rl_in (k := 51) (by decide), rl_in (k := 51) (by decide), fun z12 e12 => K z12 (fun j hj => by rw [e12]; simp (disch := omega) only [gI_def, pI_s, pI_o, cI_s, cI_o, pL_1, pR_1]; exact fz j hj) ?_⟩, fun q => absurd (nI_le (show n ≤ p by omega) (by omega)) q⟩
              rw [e12]; simp (disch := omega) only [gI_def, pI_s, pI_o, cI_s, cI_o, pL_1, pR_1]
              rw [gz, dcR_out _ _ _ _ 51 (fun p hp => by omega), m3, nI_1, show nN (a1 0) = p by omega]
    | succ k ih =>
      intro p hp z fz gz
      obtain ⟨c, wi, t, b', hc, hw, ht, hb', h5, g1, g2, g3, g4, g5, g6, -⟩ := h.per (show p < nN (a1 0) by omega)
      rw [wl_X8_passOne_117, gI_def, gz, dcR_out _ _ _ _ 84 (fun p hp => by omega), e2, q_le (by omega) (by omega)]
      refine ⟨rl_in (k := 84) (by decide), fun q => by omega, fun _ => ⟨fun q => ?_, fun q => ?_⟩⟩
      · unfold wj_X8_passOne_157
        rw [nI_1]
        exact ih (p + 1) (by omega) z fz (by rw [gz, dcR, if_pos q])
      · rw [show (10 : Int32) + nI p = nI (10 + p) by simp (disch := omega) only [q_lit, nI_add, pk_mul, q_sub, q_rem, q_div, q_vp, q_cl, q_lt, q_le, q_eq, q_neg1, gI_def], q_cl (by omega)]
        refine ⟨rl_in (by omega), rl_in (by omega), fun z8 e8 => ?_⟩
        rw [gI_def, gz, dcR_out _ _ _ _ (10 + p) (fun p' hp' => by omega), g6, imax_d ht] at e8
        unfold wj_X8_passOne_157
        rw [nI_1]
        refine ih (p + 1) (by omega) z8 (fun j hj => by rw [e8]; simp (disch := omega) only [gI_def, pI_s, pI_o, cI_s, cI_o, pL_1, pR_1]; exact fz j hj) ?_
        rw [e8]; simp (disch := omega) only [gI_def, pI_s, pI_o, cI_s, cI_o, pL_1, pR_1]
        rw [gz, dcR, if_neg q, g5, nN_nI (by omega)]
  exact lp n 0 (Nat.zero_add n) v (fun _ _ => rfl) rfl
theorem pM2 {ρ : Nat → Int32} {v : PoS} (h : Liv ρ (v.1 49)) {g s0 x : Int32} (hx : (s0 = 0 ∧ x = -1) ∨ (¬ s0 = 0 ∧ x = g)) {post : PoS → Prop} (K : ∀ z, FrA v z → z.1 49 = up (dcA (v.1 49) x (nN (v.1 49 0))) 6 (nI (nN (v.1 49 6) + 1)) → post z) : wj_X12_pass_49 post g s0 v := by
  obtain ⟨n, hn, e1, e2, e3⟩ := h.ppl
  obtain ⟨m1, m2, m3⟩ := h.min
  refine ⟨n + 1, ?_⟩
  have lp : ∀ k p, p + k = n → ∀ z, FrA v z → z.1 49 = dcA (v.1 49) x p → wl_X12_pass_51 (fun (u14 : PoS) => ∀ z15 : PoS, z15 = pI u14 49 6 ((gI u14 49 6) + 1) → post z15) post (k + 1) g s0 (nI p) z := by
    intro k
    induction k with
    | zero => intro p hp z fz gz
              rw [wl_X12_pass_51, gI_def, gz, dcA_out _ _ _ 0 (fun p hp => by omega), e1]
              refine ⟨fun _ z15 e15 => K z15 (by rw [e15]; exact fz.put _ _) ?_, fun q => absurd (nI_le (show n ≤ p by omega) (by omega)) q⟩
              rw [e15]; simp (disch := omega) only [gI_def, pI_s, pI_o, cI_s, cI_o, pL_1, pR_1]
              rw [gz, dcA_out _ _ _ 6 (fun p hp => by omega), show nN (v.1 49 0) = p by omega]
              congr 1
              rw [m2, nI_1, nN_nI (by omega)]
    | succ k ih =>
      intro p hp z fz gz
      obtain ⟨c, wi, t, b', hc, hw, ht, hb', h5, g1, g2, g3, g4, g5, g6, -⟩ := h.per (show p < nN (v.1 49 0) by omega)
      have dry : ¬ nI p = x → wj_X12_pass_70 (wl_X12_pass_51 (fun (u14 : PoS) => ∀ z15 : PoS, z15 = pI u14 49 6 ((gI u14 49 6) + 1) → post z15) post (k + 1)) post g s0 (nI p) z := by
        intro hne
        refine getM (o := 2) h5 (by decide) ?_
        rw [show 10 + 6 * p + 2 = 12 + 6 * p by omega, gz, dcA_out _ _ _ (12 + 6 * p) (fun p' hp' => by omega), g5]
        refine heldD ht (putM (o := 2) h5 (by decide) ?_)
        unfold wj_X12_pass_91
        rw [nI_1]
        refine ih (p + 1) (by omega) _ (fz.put _ _) ?_
        simp (disch := omega) only [gI_def, pI_s, pI_o, cI_s, cI_o, pL_1, pR_1]
        rw [gz, dcA, if_neg hne, g5, nN_nI (by omega), show 10 + 6 * p + 2 = 12 + 6 * p by omega]
      rw [wl_X12_pass_51, gI_def, gz, dcA_out _ _ _ 0 (fun p hp => by omega), e1, q_le (by omega) (by omega)]
      refine ⟨fun q => by omega, fun _ => ⟨fun q => dry ?_, fun q => ⟨fun e => ?_, fun e => dry ?_⟩⟩⟩
      · rcases hx with ⟨h1, h2⟩ | ⟨h1, h2⟩
        · rw [h2, show (1 : Int32) = nI 1 from rfl, q_neg1 (by omega)]; exact fun h => h
        · exact absurd q h1
      · unfold wj_X12_pass_91
        rw [nI_1]
        refine ih (p + 1) (by omega) z fz ?_
        rcases hx with ⟨h1, h2⟩ | ⟨h1, h2⟩
        · exact absurd h1 q
        · rw [gz, dcA, if_pos (by rw [h2]; exact e)]
      · rcases hx with ⟨h1, h2⟩ | ⟨h1, h2⟩
        · exact absurd h1 q
        · rw [h2]; exact e
  exact lp n 0 (Nat.zero_add n) v (fun _ _ => rfl) rfl
theorem shv_sm {ρ a : Nat → Int32} (h : Liv ρ a) : Sm 29 (shv a) := by
  unfold shv
  by_cases z : ∃ c, c < 30 ∧ sid (nN (a 7)) (nN (a 8) % 4) = nI c ∧ hb (opn a) c = true
  · rw [if_pos z]; obtain ⟨c, h1, h2, -⟩ := z; exact ⟨c, by omega, h2⟩
  · rw [if_neg z]; exact h.2.1.2.2.2.2.1
theorem up_self (a : Nat → Int32) (k : Nat) : up a k (a k) = a := by
  funext i
  by_cases e : i = k
  · rw [e, up_eq]
  · rw [up_ne e]
theorem opn_up {a : Nat → Int32} {k : Nat} {v : Int32} (h : k < 100 ∨ 130 ≤ k) : opn (up a k v) = opn a := by
  refine (opn_30 _).ext (opn_30 a) (fun c hc => ?_)
  cases e : hb (opn a) c
  · cases e2 : hb (opn (up a k v)) c
    · rfl
    · have := (opn_hb _ c).mp e2
      rw [up_ne (by omega)] at this
      rw [(opn_hb a c).mpr this] at e; exact Bool.noConfusion e
  · have := (opn_hb _ c).mp e
    exact (opn_hb _ c).mpr ⟨hc, by rw [up_ne (by omega)]; exact this.2⟩
theorem wat_of {ρ a : Nat → Int32} (h : Liv ρ a) {c : Nat} (hc : c < 30) : nN (a (40 + c)) ≤ 99 ∧ a (40 + c) = nI (nN (a (40 + c))) ∧ ρ (20 + c) = nI (nN (a (40 + c))) := by
  obtain ⟨e1, ⟨m, hm, e2⟩, -⟩ := h.2.2.2.1 c hc
  rw [e1, e2, nN_nI (by omega)]
  exact ⟨hm, rfl, rfl⟩
theorem cam_le (a : Nat → Int32) (p : Nat) {k : Nat} (hk : k ≤ 9) (e : pvl q a p = nI k) : cam q a p ≤ 9 ∧ cam q a p ≤ 99 - nN (a (40 + atF a p)) := by
  unfold cam
  rw [e, nN_nI (by omega)]
  omega
theorem rnB_lo {a : Nat → Int32} {p i : Nat} (ha : atF a p < 30) (h5 : p < 5) (h1 : i < 10 ∨ 70 ≤ i) : rnB q a p i = a i := by
  unfold rnB
  rw [up_ne (by omega), up_ne (by omega), up_ne (by omega)]
theorem rnB_LO {a : Nat → Int32} {p : Nat} (ha : atF a p < 30) (h5 : p < 5) : LO a (rnB q a p) := fun i hi => by
  unfold rnB
  rw [up_ne (by omega), up_ne (by omega), up_ne (by omega)]
theorem rnA_wr {a : Nat → Int32} {p k : Nat} (ha : atF a p < 30) (h5 : p < 5) (hk : k ≤ 30) (e : a 9 = nI k) (wr : Bool) {i : Nat} (hi : i < 3643) (h9 : i ≠ 9) : rnA q wr a p i = rnB q a p i := by
  unfold rnA
  cases wr
  · rw [if_neg (by decide)]
  · rw [if_pos rfl, bkA_out hk (by rw [rnB_lo ha h5 (by omega)]; exact e) hi h9]
theorem gol_p {ρ a : Nat → Int32} (h : Liv ρ a) (z : ¬ gol w a = -1) : ∃ p, p < nN (a 0) ∧ gol w a = nI p ∧ nN (gol w a) = p ∧ p < 5 ∧ ¬ gst a p = -1 := by
  rcases gol_is w a (nN (a 0)) with e | ⟨p, h1, h2, h3, h4⟩
  · exact absurd e z
  · obtain ⟨n, hn, e1, e2, e3⟩ := h.ppl
    exact ⟨p, h1, h2, by rw [show gol w a = nI p from h2, nN_nI (by omega)], by omega, h4⟩
theorem ps1_LO {ρ a : Nat → Int32} (h : Liv ρ a) {k : Nat} (hk : k ≤ 30) (e : a 9 = nI k) (wr : Bool) : LO a (ps1 w q wr a) ∧ ps1 w q wr a 6 = a 6 := by
  unfold ps1
  by_cases z : gol w a = -1
  · rw [if_pos z]
    exact ⟨(LO.up (k := 8) (by omega)).tr (LO.up (k := 7) (by omega)), by simp (disch := omega) only [gI_def, pI_s, pI_o, cI_s, cI_o, pL_1, pR_1, up_eq, up_ne]⟩
  · rw [if_neg z]
    by_cases y : a (10 + 6 * nN (gol w a)) = a 7
    · rw [if_pos y]
      obtain ⟨p, g1, g2, g3, g4, g5⟩ := gol_p h z
      obtain ⟨a1, a2, a3, a4⟩ := atF_of h g1
      rw [g3]
      refine ⟨fun i hi => ?_, ?_⟩
      · rw [rnA_wr a1 g4 hk e wr (by omega) (by omega)]; exact rnB_LO a1 g4 i hi
      · rw [rnA_wr a1 g4 hk e wr (by omega) (by omega)]; exact rnB_lo a1 g4 (by omega)
    · rw [if_neg y]
      exact ⟨LO.up (k := 7) (by omega), up_ne (by omega)⟩
theorem ps1_wr {ρ a : Nat → Int32} (h : Liv ρ a) {k : Nat} (hk : k ≤ 30) (e : a 9 = nI k) (wr : Bool) {i : Nat} (hi : i < 3643) (h9 : i ≠ 9) : ps1 w q wr a i = ps1 w q true a i := by
  unfold ps1
  by_cases z : gol w a = -1
  · rw [if_pos z, if_pos z]
  · rw [if_neg z, if_neg z]
    by_cases y : a (10 + 6 * nN (gol w a)) = a 7
    · rw [if_pos y, if_pos y]
      obtain ⟨p, g1, g2, g3, g4, g5⟩ := gol_p h z
      obtain ⟨a1, a2, a3, a4⟩ := atF_of h g1
      rw [g3, rnA_wr a1 g4 hk e wr hi h9, rnA_wr a1 g4 hk e true hi h9]
    · rw [if_neg y, if_neg y]
theorem ps1_9 {ρ a : Nat → Int32} (h : Liv ρ a) : ps1 w q false a 9 = a 9 := by
  unfold ps1
  by_cases z : gol w a = -1
  · rw [if_pos z]; simp (disch := omega) only [gI_def, pI_s, pI_o, cI_s, cI_o, pL_1, pR_1, up_eq, up_ne]
  · rw [if_neg z]
    by_cases y : a (10 + 6 * nN (gol w a)) = a 7
    · rw [if_pos y]
      obtain ⟨p, g1, g2, g3, g4, g5⟩ := gol_p h z
      obtain ⟨a1, a2, a3, a4⟩ := atF_of h g1
      rw [g3]; unfold rnA; rw [if_neg (by decide)]; exact rnB_lo a1 g4 (by omega)
    · rw [if_neg y]; simp (disch := omega) only [gI_def, pI_s, pI_o, cI_s, cI_o, pL_1, pR_1, up_eq, up_ne]
theorem dcA_cg {a a' : Nat → Int32} (x : Int32) : ∀ n, (∀ p, p < n → a' (12 + 6 * p) = a (12 + 6 * p)) → ∀ i, a' i = a i → dcA a' x n i = dcA a x n i := by
  intro n
  induction n with
  | zero => intro _ i hi; exact hi
  | succ n ih =>
    intro hn i hi
    rw [dcA, dcA]
    by_cases z : nI n = x
    · rw [if_pos z, if_pos z]; exact ih (fun p hp => hn p (by omega)) i hi
    · rw [if_neg z, if_neg z, hn n (by omega)]
      by_cases e : i = 12 + 6 * n
      · rw [e, up_eq, up_eq]
      · rw [up_ne e, up_ne e]; exact ih (fun p hp => hn p (by omega)) i hi
theorem psA_wr {ρ a : Nat → Int32} (h : Liv ρ a) {k : Nat} (hk : k ≤ 30) (e : a 9 = nI k) (wr : Bool) {i : Nat} (hi : i < 3643) (h9 : i ≠ 9) : psA w q wr a i = psA w q true a i := by
  obtain ⟨n, hn, e1, e2, e3⟩ := h.ppl
  unfold psA
  by_cases z : i = 6
  · rw [z, up_eq, up_eq]
  · rw [up_ne z, up_ne z]
    exact dcA_cg _ _ (fun p hp => ps1_wr h hk e wr (by omega) (by omega)) i (ps1_wr h hk e wr hi h9)
theorem psA_9 {ρ a : Nat → Int32} (h : Liv ρ a) : psA w q false a 9 = a 9 := by
  unfold psA
  rw [up_ne (by omega), dcA_out _ _ _ 9 (fun p hp => by omega)]
  exact ps1_9 h
/-! the class's row -/
def rnR (q : Nat → (Nat → Int32) → Nat → Int32) (ρ a : Nat → Int32) (p : Nat) : Nat → Int32 := up (up (up ρ (20 + atF a p) (nI (nN (a (40 + atF a p)) + cam q a p))) (10 + p) (nI (min (nN (a (12 + 6 * p)) + 3) 99))) (15 + p) (nI (min (nN (a (13 + 6 * p)) + 1) 999))
def rnX (q : Nat → (Nat → Int32) → Nat → Int32) (a : Nat → Int32) (p : Nat) : Int32 := nI (((nN (a 6) * 5 + p) * 30 + atF a p) * 10 + cam q a p)
def pr1 (w : Nat → (Nat → Int32) → Nat → Int32 → Int32) (q : Nat → (Nat → Int32) → Nat → Int32) (ρ a : Nat → Int32) : Nat → Int32 := if gol w a = -1 then up (up ρ 52 (nI (nx (nN (a 8))))) 50 (shv a) else if a (10 + 6 * nN (gol w a)) = a 7 then bkR (rnR q ρ a (nN (gol w a))) (rnX q a (nN (gol w a))) else up ρ 50 (nI (nxt (opn a) (nN (a 7)) (atF a (nN (gol w a)))))
def prR (w : Nat → (Nat → Int32) → Nat → Int32 → Int32) (q : Nat → (Nat → Int32) → Nat → Int32) (ρ a : Nat → Int32) : Nat → Int32 := up (dcR (pr1 w q ρ a) (ps1 w q true a) (wt w a) (nN (a 0))) 51 (nI (nN (a 6) + 1))
theorem live_rn {ρ a : Nat → Int32} (h : Liv ρ a) {p : Nat} (hp : p < nN (a 0)) {k : Nat} (hk : k ≤ 9) (e : pvl q a p = nI k) : Liv (rnR q ρ a p) (rnB q a p) := by
  obtain ⟨a1, a2, a3, a4⟩ := atF_of h hp
  obtain ⟨c1, c2⟩ := cam_le (q := q) a p hk e
  obtain ⟨w1, w2, w3⟩ := wat_of h a1
  have l1 := live_wa h a1 (v := nI (nN (a (40 + atF a p)) + cam q a p)) ⟨_, by omega, rfl⟩
  have l2 := live_per l1 (p := p) (k := 2) (m := 99) (v := nI (min (nN (a (12 + 6 * p)) + 3) 99)) (by simp (disch := omega) only [gI_def, pI_s, pI_o, cI_s, cI_o, pL_1, pR_1, up_eq, up_ne]; exact hp) (by decide) rfl ⟨_, by omega, rfl⟩
  have l3 := live_per l2 (p := p) (k := 3) (m := 999) (v := nI (min (nN (a (13 + 6 * p)) + 1) 999)) (by simp (disch := omega) only [gI_def, pI_s, pI_o, cI_s, cI_o, pL_1, pR_1, up_eq, up_ne]; exact hp) (by decide) rfl ⟨_, by omega, rfl⟩
  rw [show 5 * 2 + p = 10 + p by omega, show 5 * 3 + p = 15 + p by omega, show 10 + 6 * p + 2 = 12 + 6 * p by omega, show 10 + 6 * p + 3 = 13 + 6 * p by omega] at l3
  exact l3
theorem rnR_out {ρ a : Nat → Int32} {p i : Nat} (ha : atF a p < 30) (h5 : p < 5) (hi : 50 ≤ i) : rnR q ρ a p i = ρ i := by
  unfold rnR
  rw [up_ne (by omega), up_ne (by omega), up_ne (by omega)]
theorem live_rnA {ρ a : Nat → Int32} (h : Liv ρ a) {p : Nat} (hp : p < nN (a 0)) {k : Nat} (hk : k ≤ 9) (e : pvl q a p = nI k) {k9 : Nat} (hk9 : k9 ≤ 30) (e9 : a 9 = nI k9) (x : Int32) : Liv (bkR (rnR q ρ a p) x) (rnA q true a p) := by
  obtain ⟨a1, a2, a3, a4⟩ := atF_of h hp
  obtain ⟨m, hm, em⟩ := h.2.1.2.2.2.2.2.2
  have e53 : rnR q ρ a p 53 = nI m := by rw [rnR_out a1 a4 (by omega)]; exact em
  exact (live_rn h hp hk e).bk (fun i hi => bkR_out hm e53 hi) (bkR_53 hm e53) (fun i h9 hi => rnA_wr a1 a4 hk9 e9 true hi h9)
theorem bk_rn {ρ a : Nat → Int32} (h : Liv ρ a) {p : Nat} (hp : p < nN (a 0)) {k : Nat} (hk : k ≤ 9) (e : pvl q a p = nI k) (hB : Bk ρ a) : Bk (bkR (rnR q ρ a p) (rnX q a p)) (rnA q true a p) := by
  obtain ⟨a1, a2, a3, a4⟩ := atF_of h hp
  obtain ⟨m, hm, em⟩ := h.2.1.2.2.2.2.2.2
  obtain ⟨c1, c2⟩ := cam_le (q := q) a p hk e
  obtain ⟨i1, i2, i3⟩ := h.min
  have hB1 : Bk (rnR q ρ a p) (rnB q a p) := ((hB.up (i := 20 + atF a p) (j := 40 + atF a p) (by omega) (by omega) (by omega) _ _).up (i := 10 + p) (j := 12 + 6 * p) (by omega) (by omega) (by omega) _ _).up (i := 15 + p) (j := 13 + 6 * p) (by omega) (by omega) (by omega) _ _
  have := bk_Bk hB1 hm (by rw [rnB_lo a1 a4 (by omega), ← hB.1]; exact em) (x := rnX q a p) (y := nI ((p * 30 + atF a p) * 100 + cam q a p)) ⟨nN (a 6), p, atF a p, cam q a p, i1, a4, a1, by omega, rfl, by rw [rnB_lo a1 a4 (by omega)]; exact i2, rfl⟩
  unfold rnA
  rw [if_pos rfl]
  exact this
theorem nx_dst {ρ a : Nat → Int32} (h : Liv ρ a) {p : Nat} (hp : p < nN (a 0)) (hg : ¬ gst a p = -1) (hne : ¬ a (10 + 6 * p) = a 7) : ∃ n, n < 2 ^ 30 ∧ dst (opn a) (nN (a 7)) (atF a p) = nI (n + 1) := by
  obtain ⟨a1, a2, a3, a4⟩ := atF_of h hp
  obtain ⟨s1, s2, s3⟩ := shw h
  rcases dst_cases (opn a) (nN (a 7)) (atF a p) with e | ⟨k, hk, e⟩
  · exact absurd e hg
  · match k, hk, e with
    | 0, _, e =>
      have := (dst_open (opn_30 a) s1 (by omega) e).2.2.1
      have : nN (a 7) = atF a p := this
      exact absurd (by rw [a2, ← this]; exact s2.symm) hne
    | n + 1, hk, e => exact ⟨n, by omega, e⟩
theorem live_pr1 {ρ a : Nat → Int32} (h : Liv ρ a) (hq : ∀ p, ∃ k, k ≤ 9 ∧ pvl q a p = nI k) {k9 : Nat} (hk9 : k9 ≤ 30) (e9 : a 9 = nI k9) : Liv (pr1 w q ρ a) (ps1 w q true a) ∧ RO ρ (pr1 w q ρ a) ∧ (Bk ρ a → Bk (pr1 w q ρ a) (ps1 w q true a)) := by
  unfold pr1 ps1
  by_cases z : gol w a = -1
  · rw [if_pos z, if_pos z]
    exact ⟨live_sh (live_x h ⟨_, nx_le _, rfl⟩) (shv_sm h), (RO.up (k := 52) (by omega)).tr (RO.up (k := 50) (by omega)), fun hB => (hB.up (i := 52) (j := 8) (by omega) (by omega) (by omega) _ _).up (i := 50) (j := 7) (by omega) (by omega) (by omega) _ _⟩
  · rw [if_neg z, if_neg z]
    obtain ⟨p, g1, g2, g3, g4, g5⟩ := gol_p h z
    obtain ⟨a1, a2, a3, a4⟩ := atF_of h g1
    obtain ⟨m, hm, em⟩ := h.2.1.2.2.2.2.2.2
    rw [g3]
    by_cases y : a (10 + 6 * p) = a 7
    · rw [if_pos y, if_pos y]
      obtain ⟨k, hk, ek⟩ := hq p
      refine ⟨live_rnA h g1 hk ek hk9 e9 _, fun i hi => ?_, bk_rn h g1 hk ek⟩
      rw [bkR_out hm (by rw [rnR_out a1 a4 (by omega)]; exact em) (by omega), rnR_out a1 a4 (by omega)]
    · rw [if_neg y, if_neg y]
      obtain ⟨n, hn, hd⟩ := nx_dst h g1 g5 y
      have := nxt_is (opn_30 a) (shw h).1 a1 hn hd
      exact ⟨live_sh h ⟨_, by omega, rfl⟩, RO.up (k := 50) (by omega), fun hB => hB.up (i := 50) (j := 7) (by omega) (by omega) (by omega) _ _⟩
theorem live_pass {ρ a : Nat → Int32} (h : Liv ρ a) (hq : ∀ p, ∃ k, k ≤ 9 ∧ pvl q a p = nI k) {k9 : Nat} (hk9 : k9 ≤ 30) (e9 : a 9 = nI k9) (h6 : nN (a 6) < 9999) : Liv (prR w q ρ a) (psA w q true a) ∧ RO ρ (prR w q ρ a) ∧ LO a (psA w q true a) ∧ psA w q true a 6 = nI (nN (a 6) + 1) ∧ (Bk ρ a → Bk (prR w q ρ a) (psA w q true a)) := by
  obtain ⟨n, hn, e1, e2, e3⟩ := h.ppl
  obtain ⟨l1, l2, l3⟩ := live_pr1 (w := w) h hq hk9 e9
  obtain ⟨o1, o2⟩ := ps1_LO (w := w) (q := q) h hk9 e9 true
  have o0 := o1 0 (by omega)
  unfold prR psA
  refine ⟨live_mi (live_dc l1 _ _ (by rw [o0]; exact Nat.le_refl _)) ⟨_, by omega, rfl⟩, (l2.tr (dc_RO _ _ _ (by omega))).tr (RO.up (by omega)), (o1.tr (dc_LO _ _ (by omega))).tr (LO.up (by omega)), up_eq _ _ _, fun hB => (dc_Bk (l3 hB) _ (by omega) _).up (by omega) (by omega) (by omega) _ _⟩
/-! rain, in both programs -/
theorem rl_le {b k : Nat} (hk : k ≤ 117) : k ≤ rowLen b := by
  unfold rowLen
  split <;> omega
theorem rainX {b : Nat} (hb1 : b ≤ 1) {a : Nat → Int32} {u : PoS} {p : Nat} (hC : Ctx u (nN (a 1)) w q) (h : Liv (u.1 (3 + b)) a) (hp : p < nN (a 0)) {post : PoS → Prop} (K : ∀ z, FrB b u z → z.1 (3 + b) = bkR (rnR q (u.1 (3 + b)) a p) (rnX q a p) → post z) : wp_X8_rainOn b (nI p) u post := by
  obtain ⟨a1, a2, a3, a4⟩ := atF_of h hp
  obtain ⟨c, wi, t, b', hc, hw, ht, hb', h5, g1, g2, g3, g4, g5, g6, g7, g8⟩ := h.per hp
  obtain ⟨k, hk, ek⟩ := pvl_sm hC h.txt p
  obtain ⟨w1, w2, w3⟩ := wat_of h a1
  obtain ⟨c1, c2⟩ := cam_le (q := q) a p hk ek
  obtain ⟨i1, i2, i3⟩ := h.min
  obtain ⟨m, hm, em⟩ := h.2.1.2.2.2.2.2.2
  refine ⟨by rw [zadd]; exact rl_in (by omega), fun x1 ex => poursX hC ⟨hb1, h, hp⟩ h.txt (fun z fz => ?_)⟩
  rw [zadd, q_cl (by omega), gI_def, a3] at ex
  subst ex
  have ez := fz (3 + b) (by omega)
  rw [show (20 : Int32) + nI (atF a p) = nI (20 + atF a p) by simp (disch := omega) only [q_lit, nI_add, pk_mul, q_sub, q_rem, q_div, q_vp, q_cl, q_lt, q_le, q_eq, q_neg1, gI_def], show (10 : Int32) + nI p = nI (10 + p) by simp (disch := omega) only [q_lit, nI_add, pk_mul, q_sub, q_rem, q_div, q_vp, q_cl, q_lt, q_le, q_eq, q_neg1, gI_def], show (15 : Int32) + nI p = nI (15 + p) by simp (disch := omega) only [q_lit, nI_add, pk_mul, q_sub, q_rem, q_div, q_vp, q_cl, q_lt, q_le, q_eq, q_neg1, gI_def], q_cl (by omega), q_cl (by omega), q_cl (by omega)]
  refine ⟨rl_in (by omega), fun x4 e4 => ⟨rl_in (by omega), rl_in (by omega), fun z5 e5 => ⟨rl_in (by omega), rl_in (by omega), fun z6 e6 => ⟨rl_in (by omega), rl_in (by omega), fun z7 e7 => ⟨rl_in (k := 53) (by decide), ?_⟩⟩⟩⟩⟩
  have x4e : x4 = nI (cam q a p) := by
    rw [e4, gI_def, ez, w3, ek, show (99 : Int32) = nI 99 from rfl, q_sub (by omega), imin_n (by omega) (by omega)]
    unfold cam; rw [ek, nN_nI (by omega)]
  rw [gI_def, ez, w3, x4e, nI_add] at e5
  have e5' : z5.1 (3 + b) = up (u.1 (3 + b)) (20 + atF a p) (nI (nN (a (40 + atF a p)) + cam q a p)) := by rw [e5]; simp (disch := omega) only [gI_def, pI_s, pI_o, cI_s, cI_o, pL_1, pR_1]; rw [ez]
  rw [gI_def, e5', up_ne (by omega), g6, show (3 : Int32) = nI 3 from rfl, nI_add, show (99 : Int32) = nI 99 from rfl, imin_n (by omega) (by omega), Nat.min_comm] at e6
  have e6' : z6.1 (3 + b) = up (up (u.1 (3 + b)) (20 + atF a p) (nI (nN (a (40 + atF a p)) + cam q a p))) (10 + p) (nI (min (t + 3) 99)) := by rw [e6]; simp (disch := omega) only [gI_def, pI_s, pI_o, cI_s, cI_o, pL_1, pR_1]; rw [e5']
  rw [gI_def, e6', up_ne (by omega), up_ne (by omega), g8, show (1 : Int32) = nI 1 from rfl, nI_add, show (999 : Int32) = nI 999 from rfl, imin_n (by omega) (by omega), Nat.min_comm] at e7
  have e7' : z7.1 (3 + b) = rnR q (u.1 (3 + b)) a p := by
    rw [e7]; simp (disch := omega) only [gI_def, pI_s, pI_o, cI_s, cI_o, pL_1, pR_1]; rw [e6']; unfold rnR; rw [g5, g7, nN_nI (by omega), nN_nI (by omega)]
  have f7 : FrB b u z7 := fun j h1 h2 => by rw [e7, e6, e5]; simp (disch := omega) only [gI_def, pI_s, pI_o, cI_s, cI_o, pL_1, pR_1]; exact fz j h2
  generalize hR : rnR q (u.1 (3 + b)) a p = R at *
  have n53 : R 53 = nI m := by rw [← hR, rnR_out a1 a4 (by omega)]; exact em
  have n51 : R 51 = nI (nN (a 6)) := by rw [← hR, rnR_out a1 a4 (by omega)]; exact i3
  have fin : ∀ v, FrB b u v → v.1 (3 + b) = br0 R → wj_X8_rainOn_132 b post (nI p) (nI (atF a p)) (nI (cam q a p)) v := by
    intro v fv ev
    have b53 : ∃ k', k' < 30 ∧ br0 R 53 = nI k' ∧ nN (br0 R 53) = k' ∧ br0 R 51 = nI (nN (a 6)) := by
      rcases br0_of hm n53 with ⟨y1, y2, y3⟩ | ⟨y1, y2, y3⟩
      · exact ⟨m, y1, by rw [y2]; exact n53, y3, by rw [y2]; exact n51⟩
      · exact ⟨29, by decide, by rw [y2, up_eq]; rfl, y3, by rw [y2, up_ne (by omega), pk_cpy_out (by omega)]; exact n51⟩
    obtain ⟨k', hk', y1, y2, y3⟩ := b53
    refine ⟨rl_in (k := 53) (by decide), rl_in (k := 51) (by decide), ?_⟩
    unfold wp_X5_written
    rw [gI_def, gI_def, ev, y1, y3, show ((((((nI (nN (a 6)) * 5) + nI p) * 30) + nI (atF a p)) * 10) + nI (cam q a p)) = rnX q a p by unfold rnX; simp (disch := omega) only [q_lit, nI_add, pk_mul, q_sub, q_rem, q_div, q_vp, q_cl, q_lt, q_le, q_eq, q_neg1, gI_def], show (54 : Int32) + nI k' = nI (54 + k') by simp (disch := omega) only [q_lit, nI_add, pk_mul, q_sub, q_rem, q_div, q_vp, q_cl, q_lt, q_le, q_eq, q_neg1, gI_def], q_cl (by omega)]
    refine ⟨rl_in (by omega), fun z10 e10 => ⟨rl_in (k := 53) (by decide), rl_in (k := 53) (by decide), fun z11 e11 => K z11 (fun j h1 h2 => ?_) ?_⟩⟩
    · rw [e11, e10]; simp (disch := omega) only [gI_def, pI_s, pI_o, cI_s, cI_o, pL_1, pR_1]; exact fv j h1 h2
    · rw [e11, e10]
      simp (disch := omega) only [gI_def, pI_s, pI_o, cI_s, cI_o, pL_1, pR_1, up_eq, up_ne]
      rw [ev, y1, nI_1]
      unfold bkR
      rw [y2]
  rw [x4e]
  refine ⟨fun q1 => fin z7 f7 ?_, fun q1 => ⟨⟨by decide, by decide, by decide, rl_le (k := 84) (by decide), rl_le (k := 83) (by decide)⟩, fun z12 e12 => ⟨rl_in (k := 53) (by decide), fun z13 e13 => fin z13 (fun j h1 h2 => ?_) ?_⟩⟩⟩
  · rw [e7']; unfold br0
    rw [gI_def, e7'] at q1
    rw [if_pos q1]
  · rw [e13, e12]; simp (disch := omega) only [gI_def, pI_s, pI_o, cI_s, cI_o, pL_1, pR_1]; exact f7 j h1 h2
  · rw [show Int32.toNatClampNeg 55 = 55 from rfl, show Int32.toNatClampNeg 54 = 54 from rfl, show Int32.toNatClampNeg 29 = 29 from rfl] at e12
    rw [e13, e12]
    simp (disch := omega) only [gI_def, pI_s, pI_o, cI_s, cI_o, pL_1, pR_1]
    rw [e7']; unfold br0
    rw [gI_def, e7'] at q1
    rw [if_neg q1]
theorem bk0_6 (a : Nat → Int32) : bk0 a 6 = a 6 := by
  unfold bk0
  split
  · rw [up_ne (by omega), pk_cpy_out (by omega)]
  · rfl
theorem writeM {u : PoS} {p c came k : Nat} {wr : Bool} (hw : u.1 48 24 = if wr = true then 1 else 0) (h5 : p < 5) (hc : c < 30) (ec : u.1 49 (10 + 6 * p) = nI c) (hcm : came < 10) (hk : k ≤ 30) (e9 : u.1 49 9 = nI k) {post : PoS → Prop} (K : ∀ z, FrA u z → z.1 49 = (if wr = true then bkA (u.1 49) (nI ((p * 30 + c) * 100 + came)) else u.1 49) → post z) : wp_X12_write (nI p) (nI came) u post := by
  cases wr
  · rw [if_neg (by decide)] at hw
    exact ⟨fun h24 => absurd hw h24, fun _ => K u (fun _ _ => rfl) (by rw [if_neg (by decide)])⟩
  · rw [if_pos rfl] at hw
    refine ⟨fun _ => ?_, fun h24 => absurd (hw.symm.trans h24) (by decide)⟩
    have main : ∀ z k', FrA u z → z.1 49 = bk0 (u.1 49) → bk0 (u.1 49) 9 = nI k' → bk0 (u.1 49) (10 + 6 * p) = nI c → k' < 30 → wj_X12_write_67 post (nI p) (nI came) z := by
      intro z k' fz gz y1 y2 hk'
      unfold wj_X12_write_67
      rw [gI_def, gI_def, gz, y1, bk0_6, show (3643 : Int32) + 2 * nI k' = nI (3643 + 2 * k') by simp (disch := omega) only [q_lit, nI_add, pk_mul, q_sub, q_rem, q_div, q_vp, q_cl, q_lt, q_le, q_eq, q_neg1, gI_def], q_vp (by omega) (by omega), q_cl (by omega)]
      refine ⟨by omega, fun z1 e1 => getM (o := 0) h5 (by decide) ?_⟩
      have g9 : z1.1 49 9 = nI k' := by rw [e1]; simp (disch := omega) only [gI_def, pI_s, pI_o, cI_s, cI_o, pL_1, pR_1, up_eq, up_ne]; rw [gz]; exact y1
      have gc : z1.1 49 (10 + 6 * p) = nI c := by rw [e1]; simp (disch := omega) only [gI_def, pI_s, pI_o, cI_s, cI_o, pL_1, pR_1, up_eq, up_ne]; rw [gz]; exact y2
      rw [gI_def, g9, Nat.add_zero, gc, show ((3643 : Int32) + 2 * nI k') + 1 = nI (3643 + 2 * k' + 1) by simp (disch := omega) only [q_lit, nI_add, pk_mul, q_sub, q_rem, q_div, q_vp, q_cl, q_lt, q_le, q_eq, q_neg1, gI_def], show ((nI p * 30 + nI c) * 100) + nI came = nI ((p * 30 + c) * 100 + came) by simp (disch := omega) only [q_lit, nI_add, pk_mul, q_sub, q_rem, q_div, q_vp, q_cl, q_lt, q_le, q_eq, q_neg1, gI_def], q_vp (by omega) (by omega), q_cl (by omega)]
      refine ⟨by omega, fun z4 e4 z5 e5 => K z5 (by rw [e5, e4, e1]; exact ((fz.put _ _).put _ _).put _ _) ?_⟩
      rw [if_pos rfl, e5, e4]
      simp (disch := omega) only [gI_def, pI_s, pI_o, cI_s, cI_o, pL_1, pR_1, up_eq, up_ne]
      rw [g9, e1]
      simp (disch := omega) only [gI_def, pI_s, pI_o, cI_s, cI_o, pL_1, pR_1]
      rw [gz, nI_1]
      unfold bkA
      rw [y1, nN_nI (by omega), show 3643 + 2 * k' + 1 = 3644 + 2 * k' by omega]
    refine ⟨fun q1 => main u k (fun _ _ => rfl) ?_ ?_ ?_ ?_, fun q1 => ⟨59, cpy_loop (fun n k z => wl_X12_write_22 _ post n (nI p) (nI came) (nI (k + 2)) z) u 3645 3643 58 (by omega) (fun n z h1 h2 => ?_) (fun n k z hk H => ?_) 58 0 rfl u (fun _ _ => rfl) cpy_0.symm⟩⟩
    · rw [gI_def] at q1; unfold bk0; rw [if_neg q1]
    · rw [gI_def] at q1; unfold bk0; rw [if_neg q1]; exact e9
    · rw [gI_def] at q1; unfold bk0; rw [if_neg q1]; exact ec
    · rcases Nat.lt_or_ge k 30 with z | z
      · exact z
      · exact absurd (by rw [gI_def, e9, show k = 30 by omega]; rfl) q1
    · simp only [wl_X12_write_22]
      refine ⟨fun _ z9 e9' => main z9 29 (by rw [e9']; exact h1.put _ _) ?_ ?_ ?_ (by decide), fun q => absurd (by decide) q⟩
      · rw [gI_def] at q1
        rw [e9']
        simp (disch := omega) only [gI_def, pI_s, pI_o, cI_s, cI_o, pL_1, pR_1]
        rw [h2, pk_cpy_out (by omega), q1]
        unfold bk0; rw [if_pos q1]; rfl
      · rw [gI_def] at q1; unfold bk0; rw [if_pos q1, up_eq]; rfl
      · rw [gI_def] at q1; unfold bk0; rw [if_pos q1, up_ne (by omega), pk_cpy_out (by omega)]; exact ec
    · simp only [wl_X12_write_22]
      simp (disch := omega) only [q_lit, nI_add, pk_mul, q_sub, q_rem, q_div, q_vp, q_cl, q_lt, q_le, q_eq, q_neg1, gI_def]
      refine ⟨fun q => by omega, fun _ => ⟨by omega, by omega, fun z1 e => ?_⟩⟩
      rw [show 3643 + (k + 2) - 2 = 3643 + k by omega, show 3643 + (k + 2) = 3645 + k by omega] at e
      have := H z1 e
      rw [show k + 1 + 2 = k + 2 + 1 by omega] at this
      exact this
end PASS
