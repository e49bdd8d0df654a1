/-! wants, pours and the goal, in both programs; of, is, whose -/
def aw (x : Int32) : Int32 := if x = -1 then 99 else x
def wvl (w : Nat → (Nat → Int32) → Nat → Int32 → Int32) (a : Nat → Int32) (x : Int32) (p : Nat) (s : Int32) : Int32 := if x = -1 then 99 - s else w (nN x) a p s
def pvl (q : Nat → (Nat → Int32) → Nat → Int32) (a : Nat → Int32) (p : Nat) : Int32 := if a 2 = -1 then 3 else q (nN (a 2)) a p
def Ctx (u : PoS) (T : Nat) (w : Nat → (Nat → Int32) → Nat → Int32 → Int32) (q : Nat → (Nat → Int32) → Nat → Int32) : Prop := ∀ t, t < T → t < 4 ∧ WX u t (w t) ∧ WM u t (w t) ∧ PX u t (q t) ∧ PM u t (q t) ∧ ∀ a p, ∃ k, k ≤ 9 ∧ q t a p = nI k
def LawS (u z : PoS) : Prop := (∀ j, 7 ≤ j → j ≤ 26 → z.1 j = u.1 j) ∧ z.1 51 = u.1 51
theorem ctx_of {u : PoS} (hI : Inv LTx u) : ∃ w q, Ctx u (nN (u.1 49 1)) w q := by
  have h4 : nN (u.1 49 1) ≤ 4 := by
    obtain ⟨m, hm, e⟩ := hI.1.2.1.2.1
    rw [e, nN_nI (by omega)]; exact hm
  have h1 : ∀ t, ∃ w, t < nN (u.1 49 1) → WX u t w ∧ WM u t w := fun t => by
    by_cases ht : t < nN (u.1 49 1)
    · obtain ⟨w, hw⟩ := wants_of (hI.2.2.2.2.2.2 t (by omega) ht)
      exact ⟨w, fun _ => hw⟩
    · exact ⟨fun _ _ _ => 0, fun h => absurd h ht⟩
  have h2 : ∀ t, ∃ q, t < nN (u.1 49 1) → PX u t q ∧ PM u t q ∧ ∀ a p, ∃ k, k ≤ 9 ∧ q a p = nI k := fun t => by
    by_cases ht : t < nN (u.1 49 1)
    · obtain ⟨w, hw⟩ := pours_of (hI.2.2.2.2.2.2 t (by omega) ht)
      exact ⟨w, fun _ => hw⟩
    · exact ⟨fun _ _ => 0, fun h => absurd h ht⟩
  refine ⟨fun t => (h1 t).choose, fun t => (h2 t).choose, fun t ht => ⟨by omega, ?_, ?_, ?_, ?_, ?_⟩⟩
  · exact ((h1 t).choose_spec ht).1
  · exact ((h1 t).choose_spec ht).2
  · exact ((h2 t).choose_spec ht).1
  · exact ((h2 t).choose_spec ht).2.1
  · exact ((h2 t).choose_spec ht).2.2
theorem Ctx.mv {u z : PoS} {T : Nat} {w q} (h : Ctx u T w q) (hz : LawS u z) : Ctx z T w q := by
  intro t ht
  obtain ⟨h4, h1, h2, h3, h5, h6⟩ := h t ht
  refine ⟨h4, ?_, ?_, ?_, ?_, h6⟩
  · intro v b p s a post k1 k2 k3 k4; exact h1 v b p s a post (fun j q1 q2 => by rw [k1 j q1 q2, hz.1 j q1 q2]) k2 k3 k4
  · intro v p s post k1 k2 k3 k4; exact h2 v p s post (by rw [k1, hz.2]) k2 k3 k4
  · intro v b p a post k1 k2 k3 k4; exact h3 v b p a post (fun j q1 q2 => by rw [k1 j q1 q2, hz.1 j q1 q2]) k2 k3 k4
  · intro v p s post k1 k2 k3; exact h5 v p s post (by rw [k1, hz.2]) k2 k3
theorem aw_sm {r : Int32} (h : r = -1 ∨ ∃ k, k < 30 ∧ r = nI k) : Sm 99 (aw r) := by
  unfold aw
  rcases h with h | ⟨k, hk, h⟩
  · rw [if_pos h]; exact ⟨99, by decide, rfl⟩
  · rw [if_neg (by rw [h, show (1 : Int32) = nI 1 from rfl, q_neg1 (by omega)]; exact fun h => h), h]; exact ⟨k, by omega, rfl⟩
section GOAL
variable {w : Nat → (Nat → Int32) → Nat → Int32 → Int32} {q : Nat → (Nat → Int32) → Nat → Int32}
theorem wantsX {u : PoS} {T b p : Nat} {a : Nat → Int32} (hC : Ctx u T w q) (hE : EnvX u b p a) {x r : Int32} (hx : x = -1 ∨ ∃ t, t < T ∧ x = nI t) (hr : r = -1 ∨ ∃ k, k < 30 ∧ r = nI k) {post : Int32 → PoS → Prop} (K : ∀ z, Fr47 u z → post (wvl w a x p (aw r)) z) : wp_X8_wantsBy b x (nI p) r u post := by
  have main : wj_X8_wantsBy_11 b post x (nI p) (aw r) u := by
    rcases hx with hx | ⟨t, ht, hx⟩
    · refine ⟨fun _ => ?_, fun q => absurd hx q⟩
      have := K u (fun _ _ => rfl)
      unfold wvl at this; rw [if_pos hx] at this; exact this
    · subst hx
      obtain ⟨h4, h1, -⟩ := hC t ht
      refine h1 u b p (aw r) a post (fun _ _ _ => rfl) hE (aw_sm hr) (fun z hz => ?_)
      have := K z hz
      unfold wvl at this
      rw [if_neg (by rw [show (1 : Int32) = nI 1 from rfl, q_neg1 (by omega)]; exact fun h => h), nN_nI (by omega)] at this; exact this
  unfold aw at main
  refine ⟨fun z => ?_, fun z => ?_⟩
  · rw [if_neg z] at main; exact main
  · rw [if_pos z] at main; exact main
theorem nameM {ρ : Nat → Int32} {u : PoS} (h : Liv ρ (u.1 49)) {p : Nat} (hp : p < nN (u.1 49 0)) {post : PoS → Prop} (K : ∀ z, (∀ j, j ≠ 54 → z.1 j = u.1 j) → (∀ s, EnvM (pI z 54 7 s) p s) → EnvM z p (z.1 54 7) → post z) : wp_X12_name (nI p) u post := by
  obtain ⟨a1, a2, a3, a4⟩ := atF_of h hp
  refine getM (o := 0) a4 (by decide) ?_
  rw [Nat.add_zero, a2]
  intro z3 e3 z4 e4
  refine getM (o := 2) a4 (by decide) (fun z7 e7 => getM (o := 3) a4 (by decide) (fun z10 e10 z11 e11 => ?_))
  rw [show (70 : Int32) + nI (atF (u.1 49) p) = nI (70 + atF (u.1 49) p) by simp (disch := omega) only [q_lit, nI_add, pk_mul, q_sub, q_rem, q_div, q_vp, q_cl, q_lt, q_le, q_eq, q_neg1, gI_def], show (40 : Int32) + nI (atF (u.1 49) p) = nI (40 + atF (u.1 49) p) by simp (disch := omega) only [q_lit, nI_add, pk_mul, q_sub, q_rem, q_div, q_vp, q_cl, q_lt, q_le, q_eq, q_neg1, gI_def], q_vp (by omega) (by omega), q_vp (by omega) (by omega), q_cl (by omega), q_cl (by omega)]
  refine ⟨by omega, fun z12 e12 => ⟨by omega, fun z13 e13 => ?_⟩⟩
  rw [show 10 + 6 * p + 2 = 12 + 6 * p by omega] at e7
  rw [show 10 + 6 * p + 3 = 13 + 6 * p by omega] at e10
  have f49 : z13.1 49 = u.1 49 := by rw [e13, e12, e11, e10, e7, e4, e3]; simp (disch := omega) only [gI_def, pI_s, pI_o, cI_s, cI_o, pL_1, pR_1]
  have g : z13.1 54 0 = u.1 49 6 ∧ z13.1 54 1 = nI p ∧ z13.1 54 2 = u.1 49 (12 + 6 * p) ∧ z13.1 54 3 = u.1 49 (13 + 6 * p) ∧ z13.1 54 4 = u.1 49 (10 + 6 * p) ∧ z13.1 54 5 = u.1 49 (70 + atF (u.1 49) p) ∧ z13.1 54 6 = u.1 49 (40 + atF (u.1 49) p) := by
    rw [e13, e12, e11, e10, e7, e4, e3]
    simp (disch := omega) only [gI_def, pI_s, pI_o, cI_s, cI_o, pL_1, pR_1, up_eq, up_ne, a2]
    exact ⟨trivial, trivial, trivial, trivial, trivial, trivial, trivial⟩
  obtain ⟨g0, g1, g2, g3, g4, g5, g6⟩ := g
  refine K z13 (fun j hj => by rw [e13, e12, e11, e10, e7, e4, e3]; simp (disch := omega) only [gI_def, pI_s, pI_o, cI_s, cI_o, pL_1, pR_1]) (fun s => ?_) ?_
  · refine ⟨⟨ρ, by simp (disch := omega) only [gI_def, pI_s, pI_o, cI_s, cI_o, pL_1, pR_1]; rw [f49]; exact h⟩, by simp (disch := omega) only [gI_def, pI_s, pI_o, cI_s, cI_o, pL_1, pR_1]; rw [f49]; exact hp, ?_⟩
    simp (disch := omega) only [gI_def, pI_s, pI_o, cI_s, cI_o, pL_1, pR_1, up_eq, up_ne]
    rw [f49]
    exact ⟨g0, g1, g2, g3, g4, g5, g6, trivial⟩
  · refine ⟨⟨ρ, by rw [f49]; exact h⟩, by rw [f49]; exact hp, ?_⟩
    rw [f49]
    exact ⟨g0, g1, g2, g3, g4, g5, g6, rfl⟩
/-- the STEPS that SHOWER is off a PERSON -/
def gst (a : Nat → Int32) (p : Nat) : Int32 := dst (opn a) (nN (a 7)) (atF a p)
theorem shw {ρ a : Nat → Int32} (h : Liv ρ a) : nN (a 7) < 30 ∧ a 7 = nI (nN (a 7)) ∧ ρ 50 = nI (nN (a 7)) := by
  obtain ⟨m, hm, e⟩ := h.2.1.2.2.2.2.1
  rw [h.1.2.2.2.1, e, nN_nI (by omega)]
  exact ⟨by omega, rfl, rfl⟩
theorem wantsM {ρ : Nat → Int32} {u : PoS} {T p : Nat} (hC : Ctx u T w q) (h : Liv ρ (u.1 49)) (hp : p < nN (u.1 49 0)) {x : Int32} (hx : x = -1 ∨ ∃ t, t < T ∧ x = nI t) {post : Int32 → PoS → Prop} (K : ∀ z, FrS u z → post (wvl w (u.1 49) x p (aw (gst (u.1 49) p))) z) : wp_X12_wantsOf x (nI p) u post := by
  obtain ⟨a1, a2, a3, a4⟩ := atF_of h hp
  obtain ⟨s1, s2, s3⟩ := shw h
  refine getM (o := 0) a4 (by decide) ?_
  rw [Nat.add_zero, a2, gI_def, s2]
  refine stepsM s1 a1 (fun z4 f4 => ?_)
  have e49 : z4.1 49 = u.1 49 := f4 49 (by decide)
  refine nameM (ρ := ρ) (by rw [e49]; exact h) (by rw [e49]; exact hp) (fun z6 f6 hE _ => ?_)
  have fz : FrS u z6 := fun j j1 j2 j3 => by rw [f6 j j1, f4 j j3]
  have fin : wj_X12_wantsOf_40 post x (aw (gst (u.1 49) p)) 7 z6 := by
    refine ⟨vp_in_nI (n := 7) (by decide) (by decide), fun z7 e7 => ?_⟩
    rw [show Int32.toNatClampNeg 7 = 7 from rfl] at e7
    have hE7 := hE (aw (gst (u.1 49) p))
    rw [← e7] at hE7
    have f7 : FrS u z7 := fun j j1 j2 j3 => by rw [e7]; simp (disch := omega) only [gI_def, pI_s, pI_o, cI_s, cI_o, pL_1, pR_1]; exact fz j j1 j2 j3
    rw [gI_def, hE7.2.2.2.2.2.2.2.2.2]
    have s99 := aw_sm (dst_cases (opn (u.1 49)) (nN (u.1 49 7)) (atF (u.1 49) p))
    rcases hx with hx | ⟨t, ht, hx⟩
    · refine ⟨1, ?_⟩
      rw [wl_X12_says_3, hx]
      refine ⟨fun _ => ?_, fun q => absurd (by decide) q⟩
      unfold gst at *
      obtain ⟨s, hs, es⟩ := s99
      refine heldM (lo := -999) (hi := 999) (by decide) (by decide) (by decide) ?_
      have := K z7 f7
      unfold wvl at this
      rw [if_pos hx, es] at this
      rw [es, show cl32 (-999) 999 (Int32.toInt64 (99 - nI s)).toInt = 99 - nI s from i32_eq (by
        rw [cl32_t (by decide) (by decide) (by decide), Int32.toInt_toInt64, toInt64_sub s hs]
        unfold clI; rw [if_neg (by omega), if_neg (by omega)])]
      exact this
    · subst hx
      obtain ⟨h4, -, h2, -⟩ := hC t ht
      refine h2 z7 p _ post (f7 51 (by decide) (by decide) (by decide)) hE7 s99 (fun z hz => ?_)
      have := K z (fun j j1 j2 j3 => by rw [hz j j2, f7 j j1 j2 j3])
      unfold wvl at this
      rw [if_neg (by rw [show (1 : Int32) = nI 1 from rfl, q_neg1 (by omega)]; exact fun h => h), nN_nI (by omega)] at this
      rw [f7 49 (by decide) (by decide) (by decide)]; exact this
  unfold aw at fin
  refine ⟨fun z => ?_, fun z => ?_⟩
  · rw [show dst (opn (u.1 49)) (nN (u.1 49 7)) (atF (u.1 49) p) = gst (u.1 49) p from rfl] at z ⊢
    rw [if_neg z] at fin; exact fin
  · rw [show dst (opn (u.1 49)) (nN (u.1 49 7)) (atF (u.1 49) p) = gst (u.1 49) p from rfl] at z
    rw [if_pos z] at fin; exact fin
theorem poursX {u : PoS} {T b p : Nat} {a : Nat → Int32} (hC : Ctx u T w q) (hE : EnvX u b p a) (hx : a 2 = -1 ∨ ∃ t, t < T ∧ a 2 = nI t) {post : Int32 → PoS → Prop} (K : ∀ z, Fr47 u z → post (pvl q a p) z) : wp_X8_poursOn b (nI p) u post := by
  rcases hx with hx | ⟨t, ht, hx⟩
  · refine ⟨rl_in (k := 116) (by decide), fun x1 ex => ⟨fun _ => ?_, fun z => ?_⟩⟩
    · have := K u (fun _ _ => rfl)
      unfold pvl at this; rw [if_pos hx] at this; exact this
    · rw [gI_def, hE.2.1.1.2.1, hx] at ex; exact absurd ex z
  · obtain ⟨h4, -, -, h3, -⟩ := hC t ht
    refine h3 u b p a post (fun _ _ _ => rfl) hE hx (fun z hz => ?_)
    have := K z hz
    unfold pvl at this
    rw [if_neg (by rw [hx, show (1 : Int32) = nI 1 from rfl, q_neg1 (by omega)]; exact fun h => h), hx, nN_nI (by omega)] at this; exact this
theorem poursM {ρ : Nat → Int32} {u : PoS} {T p : Nat} (hC : Ctx u T w q) (h : Liv ρ (u.1 49)) (hp : p < nN (u.1 49 0)) (hx : u.1 49 2 = -1 ∨ ∃ t, t < T ∧ u.1 49 2 = nI t) {post : Int32 → PoS → Prop} (K : ∀ z, FrS u z → post (pvl q (u.1 49) p) z) : wp_X12_poursOf (nI p) u post := by
  refine nameM (ρ := ρ) h hp (fun z6 f6 _ hE => ?_)
  have e49 := f6 49 (by decide)
  rw [gI_def, e49]
  rcases hx with hx | ⟨t, ht, hx⟩
  · refine ⟨1, ?_⟩
    rw [wl_X12_says_3, hx]
    refine ⟨fun _ => ?_, fun q => absurd (by decide) q⟩
    refine heldM (lo := 0) (hi := 9) (by decide) (by decide) (by decide) ?_
    rw [show cl32 0 9 (Int32.toInt64 3).toInt = 3 from by decide]
    have := K z6 (fun j j1 j2 j3 => f6 j j1)
    unfold pvl at this; rw [if_pos hx] at this; exact this
  · rw [hx]
    obtain ⟨h4, -, -, -, h5, -⟩ := hC t ht
    refine h5 z6 p _ post (f6 51 (by decide)) hE (fun z hz => ?_)
    have := K z (fun j j1 j2 j3 => by rw [hz j j2, f6 j j1])
    unfold pvl at this
    rw [if_neg (by rw [hx, show (1 : Int32) = nI 1 from rfl, q_neg1 (by omega)]; exact fun h => h), hx, nN_nI (by omega)] at this
    rw [e49]; exact this
theorem pvl_sm {u : PoS} {T : Nat} (hC : Ctx u T w q) {a : Nat → Int32} (hx : a 2 = -1 ∨ ∃ t, t < T ∧ a 2 = nI t) (p : Nat) : ∃ k, k ≤ 9 ∧ pvl q a p = nI k := by
  unfold pvl
  rcases hx with hx | ⟨t, ht, hx⟩
  · rw [if_pos hx]; exact ⟨3, by decide, rfl⟩
  · obtain ⟨h4, -, -, -, -, h6⟩ := hC t ht
    rw [if_neg (by rw [hx, show (1 : Int32) = nI 1 from rfl, q_neg1 (by omega)]; exact fun h => h), hx, nN_nI (by omega)]; exact h6 a p
/-! the goal -/
def golF (w : Nat → (Nat → Int32) → Nat → Int32 → Int32) (a : Nat → Int32) : Nat → Int32 × Int32
  | 0 => (-1, 0)
  | p + 1 => if a (11 + 6 * p) = 1 ∧ ¬ gst a p = -1 ∧ ((golF w a p).1 = -1 ∨ (golF w a p).2 < wvl w a (a 2) p (aw (gst a p))) then (nI p, wvl w a (a 2) p (aw (gst a p))) else golF w a p
def gol (w : Nat → (Nat → Int32) → Nat → Int32 → Int32) (a : Nat → Int32) : Int32 := (golF w a (nN (a 0))).1
theorem gol_is (w : Nat → (Nat → Int32) → Nat → Int32 → Int32) (a : Nat → Int32) : ∀ n, (golF w a n).1 = -1 ∨ ∃ p, p < n ∧ (golF w a n).1 = nI p ∧ a (11 + 6 * p) = 1 ∧ ¬ gst a p = -1 := by
  intro n
  induction n with
  | zero => exact Or.inl rfl
  | succ n ih =>
    rw [golF]
    by_cases z : a (11 + 6 * n) = 1 ∧ ¬ gst a n = -1 ∧ ((golF w a n).1 = -1 ∨ (golF w a n).2 < wvl w a (a 2) n (aw (gst a n)))
    · rw [if_pos z]; exact Or.inr ⟨n, by omega, rfl, z.1, z.2.1⟩
    · rw [if_neg z]
      rcases ih with e | ⟨p, h1, h2, h3, h4⟩
      · exact Or.inl e
      · exact Or.inr ⟨p, by omega, h2, h3, h4⟩
theorem Liv.txt {ρ a : Nat → Int32} (h : Liv ρ a) : a 2 = -1 ∨ ∃ t, t < nN (a 1) ∧ a 2 = nI t := h.2.1.2.2.1
theorem goalX {u : PoS} {b : Nat} (hb1 : b ≤ 1) {a : Nat → Int32} (hC : Ctx u (nN (a 1)) w q) (h : Liv (u.1 (3 + b)) a) {post : Int32 → PoS → Prop} (K : ∀ z, Fr47 u z → post (gol w a) z) : wp_X8_goal b u post := by
  obtain ⟨n, hn, e1, e2, e3⟩ := h.ppl
  obtain ⟨s1, s2, s3⟩ := shw h
  refine openX h.2.2.2.opn ⟨n + 1, ?_⟩
  have lp : ∀ k p, p + k = n → ∀ z, Fr47 u z → wl_X8_goal_12 b post (k + 1) (golF w a p).1 (golF w a p).2 (opn a) (nI p) z := by
    intro k
    induction k with
    | zero => intro p hp z fz
              rw [wl_X8_goal_12, gI_def, fz (3 + b) (by omega), e2]
              refine ⟨rl_in (k := 84) (by decide), fun _ => ?_, fun q => absurd (nI_le (show n ≤ p by omega) (by omega)) q⟩
              have := K z fz
              unfold gol at this; rw [e3, show n = p by omega] at this; exact this
    | succ k ih =>
      intro p hp z fz
      have hL : Liv (z.1 (3 + b)) a := by rw [fz (3 + b) (by omega)]; exact h
      obtain ⟨a1, a2, a3, a4⟩ := atF_of hL (show p < nN (a 0) by omega)
      obtain ⟨c, wi, t, b', hc, hw, ht, hb', h5, g1, g2, g3, g4, -⟩ := hL.per (show p < nN (a 0) by omega)
      have ih := ih (p + 1) (by omega)
      rw [golF] at ih
      rw [wl_X8_goal_12, gI_def, gI_def, gI_def, zadd, q_cl (by omega), (shw hL).2.2, a3, hL.1.1, e1, q_le (by omega) (by omega)]
      refine ⟨rl_in (k := 84) (by decide), fun q => by omega, fun _ => ⟨rl_in (k := 50) (by decide), rl_in (by omega), stepsX (opn_30 a) s1 a1 ?_⟩⟩
      rw [show dst (opn a) (nN (a 7)) (atF a p) = gst a p from rfl, show (5 : Int32) + nI p = nI (5 + p) by simp (disch := omega) only [q_lit, nI_add, pk_mul, q_sub, q_rem, q_div, q_vp, q_cl, q_lt, q_le, q_eq, q_neg1, gI_def], q_cl (by omega), gI_def, g4, ← g3]
      refine ⟨rl_in (by omega), fun q1 => ?_, fun q1 => ⟨fun q2 => ?_, fun q2 => ⟨rl_in (k := 116) (by decide), ?_⟩⟩⟩
      · unfold wj_X8_goal_99; rw [nI_1]
        rw [if_neg (fun h => q1 h.1)] at ih; exact ih z fz
      · unfold wj_X8_goal_99; rw [nI_1]
        rw [if_neg (fun h => h.2.1 q2)] at ih; exact ih z fz
      · rw [gI_def, hL.1.2.1]
        refine wantsX (hC.mv ⟨fun j _ _ => fz j (by omega), fz 51 (by decide)⟩) ⟨hb1, hL, by omega⟩ hL.txt (dst_cases _ _ _) (fun z' fz' => ?_)
        have ih := ih z' (fun j hj => by rw [fz' j hj, fz j hj])
        refine ⟨fun q3 => ?_, fun q3 => ⟨fun q4 => ?_, fun q4 => ?_⟩⟩
        · unfold wj_X8_goal_93 wj_X8_goal_99; rw [nI_1]
          rw [if_pos ⟨q1, q2, Or.inl q3⟩] at ih; exact ih
        · unfold wj_X8_goal_99; rw [nI_1]
          rw [if_neg (fun h => h.2.2.elim q3 (fun h => absurd q4 (by rw [Int32.not_le]; exact h)))] at ih; exact ih
        · unfold wj_X8_goal_93 wj_X8_goal_99; rw [nI_1]
          rw [if_pos ⟨q1, q2, Or.inr (by rw [Int32.not_le] at q4; exact q4)⟩] at ih; exact ih
  exact lp n 0 (Nat.zero_add n) u (fun _ _ => rfl)
theorem FrS.tr {u v z : PoS} (h1 : FrS u v) (h2 : FrS v z) : FrS u z := fun j j1 j2 j3 => by rw [h2 j j1 j2 j3, h1 j j1 j2 j3]
theorem Fr57.s {u z : PoS} (h : Fr57 u z) : FrS u z := fun j _ _ j3 => h j j3
theorem FrS.law {u z : PoS} (h : FrS u z) : LawS u z := ⟨fun j _ _ => h j (by omega) (by omega) (by omega), h 51 (by decide) (by decide) (by decide)⟩
theorem goalM {ρ : Nat → Int32} {u : PoS} (hC : Ctx u (nN (u.1 49 1)) w q) (h : Liv ρ (u.1 49)) {post : Int32 → PoS → Prop} (K : ∀ z, FrS u z → post (gol w (u.1 49)) z) : wp_X12_goesFor u post := by
  obtain ⟨n, hn, e1, e2, e3⟩ := h.ppl
  obtain ⟨s1, s2, s3⟩ := shw h
  refine ⟨n + 1, ?_⟩
  have lp : ∀ k p, p + k = n → ∀ z, FrS u z → wl_X12_goesFor_6 post (k + 1) (golF w (u.1 49) p).1 (golF w (u.1 49) p).2 (nI p) z := by
    intro k
    induction k with
    | zero => intro p hp z fz
              rw [wl_X12_goesFor_6, gI_def, fz 49 (by decide) (by decide) (by decide), e1]
              refine ⟨fun _ => ?_, fun q => absurd (nI_le (show n ≤ p by omega) (by omega)) q⟩
              have := K z fz
              unfold gol at this; rw [e3, show n = p by omega] at this; exact this
    | succ k ih =>
      intro p hp z fz
      have e49 := fz 49 (by decide) (by decide) (by decide)
      obtain ⟨a1, a2, a3, a4⟩ := atF_of h (show p < nN (u.1 49 0) by omega)
      obtain ⟨c, wi, t, b', hc, hw, ht, hb', h5, g1, g2, g3, g4, -⟩ := h.per (show p < nN (u.1 49 0) by omega)
      have ih := ih (p + 1) (by omega)
      rw [golF] at ih
      rw [wl_X12_goesFor_6, gI_def, e49, e1, q_le (by omega) (by omega)]
      refine ⟨fun q => by omega, fun _ => getM (o := 1) a4 (by decide) ?_⟩
      rw [show 10 + 6 * p + 1 = 11 + 6 * p by omega, e49, g3]
      refine ⟨fun q1 => ?_, fun q1 => getM (o := 0) a4 (by decide) ?_⟩
      · unfold wj_X12_goesFor_81; rw [nI_1]
        rw [if_neg (fun h => by rw [g3, q1] at h; exact absurd h.1 (by decide))] at ih; exact ih z fz
      · have q1' : u.1 49 (11 + 6 * p) = 1 := by
          rw [g3]
          rcases (show wi = 0 ∨ wi = 1 by omega) with z | z
          · rw [z] at q1; exact absurd rfl q1
          · rw [z]; rfl
        rw [Nat.add_zero, gI_def, e49, a2, s2]
        refine stepsM s1 a1 (fun z6 f6 => ?_)
        have f6' := fz.tr f6.s
        rw [show dst (opn (z.1 49)) (nN (u.1 49 7)) (atF (u.1 49) p) = gst (u.1 49) p by rw [e49]; rfl]
        refine ⟨fun q2 => ?_, fun q2 => ?_⟩
        · have e49' := f6' 49 (by decide) (by decide) (by decide)
          rw [gI_def, e49']
          refine wantsM (ρ := ρ) (hC.mv f6'.law) (by rw [e49']; exact h) (by rw [e49']; omega) h.txt (fun z8 f8 => ?_)
          rw [e49']
          have ih := ih z8 (f6'.tr f8)
          refine ⟨fun q3 => ?_, fun q3 => ⟨fun q4 => ?_, fun q4 => ?_⟩⟩
          · unfold wj_X12_goesFor_76 wj_X12_goesFor_81; rw [nI_1]
            rw [if_pos ⟨q1', q2, Or.inl q3⟩] at ih; exact ih
          · unfold wj_X12_goesFor_76 wj_X12_goesFor_81; rw [nI_1]
            rw [if_pos ⟨q1', q2, Or.inr q4⟩] at ih; exact ih
          · unfold wj_X12_goesFor_81; rw [nI_1]
            rw [if_neg (fun h => h.2.2.elim q3 q4)] at ih; exact ih
        · unfold wj_X12_goesFor_81; rw [nI_1]
          rw [if_neg (fun h => h.2.1 q2)] at ih; exact ih z6 f6'
  exact lp n 0 (Nat.zero_add n) u (fun _ _ _ _ => rfl)
end GOAL
/-- the class's stack and the reference's scratch are of no account -/
theorem inv_fs {u u1 z : PoS} (hI : Inv LTx u) (h1 : Fr47 u u1) (h2 : FrS u1 z) : Inv LTx z :=
  inv_scr LTx_ok hI (fun j hj => by rw [h2 j (by omega) (by omega) (by omega), h1 j (by omega)]) (fun k _ => by rw [h2 48 (by decide) (by decide) (by decide), h1 48 (by decide)])
theorem ob_is (x : Int32) : Ob32 (wp_X11_is x) (wp_X12_is x) (Inv LTx) := by
  intro u hI
  have hL := hI.1.liv
  obtain ⟨w, q, hC⟩ := ctx_of hI
  rcases wh4 x with rfl | rfl | rfl | rfl | ⟨h0, h1, h2, h3⟩
  · refine ⟨fun r u1 => r = u.1 49 6 ∧ u1 = u, fun K hK => ⟨fun _ => hK _ _ ⟨hL.1.2.2.1, rfl⟩, fun q => absurd q (by decide), fun q => absurd q (by decide), fun q => absurd q (by decide), fun q => absurd rfl q⟩, fun r u1 hr K hK => ?_⟩
    obtain ⟨rfl, rfl⟩ := hr
    exact isIn_t (by decide) (by decide) ⟨fun q => absurd q (by decide), fun _ => ⟨vp_in_nI (n := 6) (by decide) (by decide), hK _ hI⟩⟩
  · refine ⟨fun r u1 => r = u.1 49 7 ∧ u1 = u, fun K hK => ⟨fun q => absurd q (by decide), fun _ => hK _ _ ⟨hL.1.2.2.2.1, rfl⟩, fun q => absurd q (by decide), fun q => absurd q (by decide), fun _ q => absurd rfl q⟩, fun r u1 hr K hK => ?_⟩
    obtain ⟨rfl, rfl⟩ := hr
    exact isIn_t (by decide) (by decide) ⟨fun q => absurd q (by decide), fun _ => ⟨vp_in_nI (n := 7) (by decide) (by decide), hK _ hI⟩⟩
  · refine ⟨fun r u1 => r = u.1 49 8 ∧ u1 = u, fun K hK => ⟨fun q => absurd q (by decide), fun q => absurd q (by decide), fun _ => hK _ _ ⟨hL.1.2.2.2.2, rfl⟩, fun q => absurd q (by decide), fun _ _ q => absurd rfl q⟩, fun r u1 hr K hK => ?_⟩
    obtain ⟨rfl, rfl⟩ := hr
    exact isIn_t (by decide) (by decide) ⟨fun q => absurd q (by decide), fun _ => ⟨vp_in_nI (n := 8) (by decide) (by decide), hK _ hI⟩⟩
  · refine ⟨fun r u1 => r = gol w (u.1 49) ∧ Fr47 u u1, fun K hK => ⟨fun q => absurd q (by decide), fun q => absurd q (by decide), fun q => absurd q (by decide), fun _ => goalX (b := 0) (by decide) hC hL (fun z fz => hK _ _ ⟨rfl, fz⟩), fun _ _ _ q => absurd rfl q⟩, fun r u1 hr K hK => ?_⟩
    obtain ⟨rfl, f1⟩ := hr
    have e49 := f1 49 (by decide)
    refine isIn_f (Or.inr (by decide)) ⟨fun _ => ⟨fun q => absurd rfl q, fun _ => ?_⟩, fun q => absurd rfl q⟩
    refine goalM (ρ := u.1 3) (by rw [e49]; exact hC.mv ⟨fun j _ _ => f1 j (by omega), f1 51 (by decide)⟩) (by rw [e49]; exact hL) (fun z fz => ?_)
    rw [e49]; exact hK _ (inv_fs hI f1 fz)
  · refine ⟨fun r u1 => r = -2 ∧ u1 = u, fun K hK => ⟨fun q => absurd q h0, fun q => absurd q h1, fun q => absurd q h2, fun q => absurd q h3, fun _ _ _ _ => hK _ _ ⟨rfl, rfl⟩⟩, fun r u1 hr K hK => ?_⟩
    obtain ⟨rfl, rfl⟩ := hr
    refine isIn_f ?_ ⟨fun _ => ⟨fun _ => hK _ hI, fun q => absurd q h3⟩, fun q => absurd rfl q⟩
    rcases rng 2 (by decide) x with ⟨j, hj, e⟩ | h
    · exfalso
      match j, hj with
      | 0, _ => exact h0 e
      | 1, _ => exact h1 e
      | 2, _ => exact h2 e
    · exact h
