/-! LAWS: what LT says, and what wants, pours and the goal are -/
/-- what a law may ask for: 0 minute, 1 who, 2 wet, 3 been, 4 at, 5 need, 6 water, 7 steps, 8 + c the WATER of c -/
def env (a : Nat → Int32) (p : Nat) (s : Int32) : Nat → Int := fun i => if i = 0 then (a 6).toInt else if i = 1 then (p : Int) else if i = 2 then (a (12 + 6 * p)).toInt else if i = 3 then (a (13 + 6 * p)).toInt else if i = 4 then (a (10 + 6 * p)).toInt else if i = 5 then (a (70 + atF a p)).toInt else if i = 6 then (a (40 + atF a p)).toInt else if i = 7 then s.toInt else (a (40 + (i - 8))).toInt
def EnvX (u : PoS) (b p : Nat) (a : Nat → Int32) : Prop := b ≤ 1 ∧ Liv (u.1 (3 + b)) a ∧ p < nN (a 0)
def EnvM (u : PoS) (p : Nat) (s : Int32) : Prop := (∃ ρ, Liv ρ (u.1 49)) ∧ p < nN (u.1 49 0) ∧ u.1 54 0 = u.1 49 6 ∧ u.1 54 1 = nI p ∧ u.1 54 2 = u.1 49 (12 + 6 * p) ∧ u.1 54 3 = u.1 49 (13 + 6 * p) ∧ u.1 54 4 = u.1 49 (10 + 6 * p) ∧ u.1 54 5 = u.1 49 (70 + atF (u.1 49) p) ∧ u.1 54 6 = u.1 49 (40 + atF (u.1 49) p) ∧ u.1 54 7 = s
def SayX (t fld : Nat) (F : (Nat → Int) → Int) (u : PoS) : Prop := ∀ (u' : PoS) (b p : Nat) (s : Int32) (a : Nat → Int32) (post : Int32 → PoS → Prop), u'.1 (7 + t) = u.1 (7 + t) → u'.1 (14 + 4 * t) = u.1 (14 + 4 * t) → EnvX u' b p a → Sm 99 s → (∀ z x, (∀ j, j ≠ 47 → z.1 j = u'.1 j) → Int32.toInt x = F (env a p s) → post x z) → wp_X2_says t b (u.1 (7 + t) fld) (nI p) s u' post
def SayM (t k sort : Nat) (F : (Nat → Int) → Int) (u : PoS) : Prop := ∀ (u' : PoS) (p : Nat) (s : Int32) (post : Int64 → PoS → Prop), (∀ i, i < 681 → u'.1 51 (681 * t + i) = u.1 51 (681 * t + i)) → EnvM u' p s → (sort = 0 → Sm 99 s) → (∀ z x, (∀ j, j ≠ 56 → z.1 j = u'.1 j) → Int64.toInt x = F (env (u'.1 49) p s) → post x z) → wp_X12_summedUp (nI t) (nI k) u' post
def LawOf (t n : Nat) (u : PoS) (fld sort : Nat) : Prop := (u.1 (7 + t) fld = -1 ∧ ∀ k, k < n → ¬ u.1 51 (681 * t + 1 + 3 * k) = nI sort) ∨ (¬ u.1 (7 + t) fld = -1 ∧ ∃ k, k < n ∧ u.1 51 (681 * t + 1 + 3 * k) = nI sort ∧ (∀ j, j < k → ¬ u.1 51 (681 * t + 1 + 3 * j) = nI sort) ∧ ∃ F : (Nat → Int) → Int, SayX t fld F u ∧ SayM t k sort F u ∧ (sort = 1 → ∀ e e', (∀ i, i ≠ 7 → e i = e' i) → F e = F e'))
def Cla (t k : Nat) (u : PoS) : Prop := ∃ κ, κ ≤ 9 ∧ u.1 (11 + 4 * t) k = nI κ ∧ u.1 51 (681 * t + 1 + 3 * k) = nI κ ∧ (2 ≤ κ → κ ≠ 8 → u.1 (12 + 4 * t) k = u.1 51 (681 * t + 2 + 3 * k)) ∧ (κ = 3 ∨ κ = 5 → u.1 (13 + 4 * t) k = u.1 51 (681 * t + 3 + 3 * k)) ∧ (κ = 9 → Sm 60 (u.1 51 (681 * t + 2 + 3 * k)))
/-- the class's law t and the reference's text t are one -/
def LTx (t : Nat) (u : PoS) : Prop := t < 4 ∧ ∃ n, n ≤ 24 ∧ u.1 (7 + t) 4 = nI n ∧ u.1 51 (681 * t) = nI n ∧ (∀ k, k < n → Cla t k u) ∧ LawOf t n u 6 0 ∧ LawOf t n u 7 1
theorem LTx_fr {t : Nat} {u u' : PoS} (h1 : u'.1 (7 + t) = u.1 (7 + t)) (h2 : ∀ i, i < 4 → u'.1 (11 + 4 * t + i) = u.1 (11 + 4 * t + i)) (h3 : ∀ i, i < 681 → u'.1 51 (681 * t + i) = u.1 51 (681 * t + i)) (h : LTx t u) : LTx t u' := by
  obtain ⟨ht, n, hn, a1, a2, a3, a4, a5⟩ := h
  have cell : ∀ k, k < n → u'.1 51 (681 * t + 1 + 3 * k) = u.1 51 (681 * t + 1 + 3 * k) := fun k hk => by
    rw [Nat.add_assoc]; exact h3 _ (by omega)
  have law : ∀ fld sort, LawOf t n u fld sort → LawOf t n u' fld sort := by
    intro fld sort h
    unfold LawOf
    rw [h1]
    rcases h with ⟨g1, g2⟩ | ⟨g1, k, g2, g3, g4, F, g5, g6, g7⟩
    · exact Or.inl ⟨g1, fun k hk => by rw [cell k hk]; exact g2 k hk⟩
    · refine Or.inr ⟨g1, k, g2, by rw [cell k g2]; exact g3, fun j hj => by rw [cell j (by omega)]; exact g4 j hj, F, ?_, ?_, g7⟩
      · intro v b p s a post k1 k2 k3 k4 k5
        rw [h1]
        exact g5 v b p s a post (by rw [k1, h1]) (by rw [k2, show 14 + 4 * t = 11 + 4 * t + 3 by omega]; exact h2 3 (by decide)) k3 k4 k5
      · intro v p s post k1 k2 k3 k4
        exact g6 v p s post (fun i hi => by rw [k1 i hi, h3 i hi]) k2 k3 k4
  refine ⟨ht, n, hn, ?_, ?_, fun k hk => ?_, law _ _ a4, law _ _ a5⟩
  · rw [h1]; exact a1
  · rw [show 681 * t = 681 * t + 0 from rfl, h3 0 (by decide)]; exact a2
  · have := a3 k hk
    unfold Cla
    rw [show u'.1 (11 + 4 * t) = u.1 (11 + 4 * t) from h2 0 (by decide), show u'.1 (12 + 4 * t) = u.1 (12 + 4 * t) by rw [show 12 + 4 * t = 11 + 4 * t + 1 by omega]; exact h2 1 (by decide), show u'.1 (13 + 4 * t) = u.1 (13 + 4 * t) by rw [show 13 + 4 * t = 11 + 4 * t + 2 by omega]; exact h2 2 (by decide), cell k hk, show u'.1 51 (681 * t + 2 + 3 * k) = u.1 51 (681 * t + 2 + 3 * k) by (rw [Nat.add_assoc]; exact h3 _ (by omega)), show u'.1 51 (681 * t + 3 + 3 * k) = u.1 51 (681 * t + 3 + 3 * k) by (rw [Nat.add_assoc]; exact h3 _ (by omega))]
    exact this
theorem LTx_ok : LTok LTx := by
  intro t u u' h1 h2 h
  have ht := h.1
  exact LTx_fr (h1 _ (by omega) (by omega)) (fun i hi => h1 _ (by omega) (by omega)) (fun i hi => by rw [h2]) h
/-! what is held between two bounds -/
def Fr47 (u z : PoS) : Prop := ∀ j, j ≠ 47 → z.1 j = u.1 j
def Fr56 (u z : PoS) : Prop := ∀ j, j ≠ 56 → z.1 j = u.1 j
/-- scratch of the reference: named, truth, far -/
def FrS (u z : PoS) : Prop := ∀ j, j ≠ 54 → j ≠ 56 → j ≠ 57 → z.1 j = u.1 j
def clI (lo hi v : Int) : Int := if v < lo then lo else if hi < v then hi else v
def cl32 (lo hi v : Int) : Int32 := Int32.ofInt (clI lo hi v)
theorem clI_b {lo hi : Int} (h : lo ≤ hi) (v : Int) : lo ≤ clI lo hi v ∧ clI lo hi v ≤ hi := by
  unfold clI
  split
  · omega
  · split <;> omega
theorem i32_eq {x y : Int32} (h : x.toInt = y.toInt) : x = y := Int32.toInt_inj.mp h
theorem cl32_t {lo hi v : Int} (h : lo ≤ hi) (h1 : -2 ^ 31 ≤ lo) (h2 : hi < 2 ^ 31) : (cl32 lo hi v).toInt = clI lo hi v := by
  have := clI_b h v
  unfold cl32
  exact Int32.toInt_ofInt_of_le (by omega) (by omega)
theorem clX {lo hi : Int} {l h x : Int32} (hl : l.toInt = lo) (hh : h.toInt = hi) (hlh : lo ≤ hi) : imax l (imin h x) = cl32 lo hi x.toInt := by
  have b1 := Int32.le_toInt l
  have b2 := Int32.toInt_lt h
  apply i32_eq
  rw [cl32_t hlh (by omega) (by omega)]
  unfold imax imin clI
  simp only [Int32.lt_iff_toInt_lt]
  by_cases q1 : x.toInt < h.toInt
  · rw [if_pos q1]
    by_cases q2 : l.toInt < x.toInt
    · rw [if_pos q2, if_neg (by omega), if_neg (by omega)]
    · rw [if_neg q2]
      split
      · exact hl
      · split <;> omega
  · rw [if_neg q1]
    by_cases q2 : l.toInt < h.toInt
    · rw [if_pos q2, if_neg (by omega)]
      split <;> omega
    · rw [if_neg q2]
      split
      · exact hl
      · split <;> omega
theorem lgc (x y : Int64) : (0 ≤ lg_cmp x y ↔ y.toInt ≤ x.toInt) ∧ (lg_cmp x y ≤ 0 ↔ x.toInt ≤ y.toInt) := by
  unfold lg_cmp
  by_cases q1 : x > y
  · have h1 := Int64.lt_iff_toInt_lt.mp q1
    rw [if_pos q1]
    exact ⟨⟨fun _ => by omega, fun _ => by decide⟩, ⟨fun h => absurd h (by decide), fun h => by omega⟩⟩
  · have h1 : ¬ y.toInt < x.toInt := fun h => q1 (Int64.lt_iff_toInt_lt.mpr h)
    rw [if_neg q1]
    by_cases q2 : x = y
    · rw [if_pos q2, q2]
      exact ⟨⟨fun _ => by omega, fun _ => by decide⟩, ⟨fun _ => by omega, fun _ => by decide⟩⟩
    · have h2 : ¬ x.toInt = y.toInt := fun h => q2 (Int64.toInt_inj.mp h)
      rw [if_neg q2]
      exact ⟨⟨fun h => absurd h (by decide), fun h => by omega⟩, ⟨fun _ => by omega, fun _ => by decide⟩⟩
theorem heldM {x : Int64} {l h : Int32} {lo hi : Int} (hl : l.toInt = lo) (hh : h.toInt = hi) (hlh : lo ≤ hi) {u : PoS} {post : Int32 → PoS → Prop} (K : post (cl32 lo hi x.toInt) u) : wp_X12_held x l h u post := by
  have b1 := Int32.le_toInt l
  have b2 := Int32.toInt_lt h
  have e : ∀ y : Int32, y.toInt64.toInt = y.toInt := fun y => Int32.toInt_toInt64 y
  unfold wp_X12_held
  rw [(lgc x _).1, (lgc x _).2, e, e]
  have fin : ∀ v : Int32, v.toInt = clI lo hi x.toInt → post v u := fun v hv => by
    have : v = cl32 lo hi x.toInt := i32_eq (by rw [hv, cl32_t hlh (by omega) (by omega)])
    rw [this]; exact K
  refine ⟨fun q1 => ⟨fun q2 => fin _ ?_, fun q2 => fin _ ?_⟩, fun q1 => fin _ ?_⟩
  · unfold clI
    rw [if_neg (by omega), if_neg (by omega), Int64.toInt_toInt32, Int.bmod_eq_of_le (by omega) (by omega)]
  · unfold clI; rw [if_neg (by omega), if_pos (by omega)]; exact hh
  · unfold clI; rw [if_pos (by omega)]; exact hl
/-! wants -/
def WX (u : PoS) (t : Nat) (w : (Nat → Int32) → Nat → Int32 → Int32) : Prop := ∀ (u' : PoS) (b p : Nat) (s : Int32) (a : Nat → Int32) (post : Int32 → PoS → Prop), (∀ j, 7 ≤ j → j ≤ 26 → u'.1 j = u.1 j) → EnvX u' b p a → Sm 99 s → (∀ z, Fr47 u' z → post (w a p s) z) → wj_X8_wantsBy_11 b post (nI t) (nI p) s u'
def WM (u : PoS) (t : Nat) (w : (Nat → Int32) → Nat → Int32 → Int32) : Prop := ∀ (u' : PoS) (p : Nat) (s : Int32) (post : Int32 → PoS → Prop), u'.1 51 = u.1 51 → EnvM u' p s → Sm 99 s → (∀ z, Fr56 u' z → post (w (u'.1 49) p s) z) → wp_X12_says (nI t) 0 (99 - s) (-999) 999 u' post
def PX (u : PoS) (t : Nat) (q : (Nat → Int32) → Nat → Int32) : Prop := ∀ (u' : PoS) (b p : Nat) (a : Nat → Int32) (post : Int32 → PoS → Prop), (∀ j, 7 ≤ j → j ≤ 26 → u'.1 j = u.1 j) → EnvX u' b p a → a 2 = nI t → (∀ z, Fr47 u' z → post (q a p) z) → wp_X8_poursOn b (nI p) u' post
def PM (u : PoS) (t : Nat) (q : (Nat → Int32) → Nat → Int32) : Prop := ∀ (u' : PoS) (p : Nat) (s : Int32) (post : Int32 → PoS → Prop), u'.1 51 = u.1 51 → EnvM u' p s → (∀ z, Fr56 u' z → post (q (u'.1 49) p) z) → wp_X12_says (nI t) 1 3 0 9 u' post
theorem saysM_loop {u : PoS} {t n sort : Nat} (ht : t < 4) (hn : n ≤ 24) (en : u.1 51 (681 * t) = nI n) (hs : sort < 2) {k64 : Int32 → Int32 → Int32 → PoS → Prop} {k43 : Int32 → Int32 → Int32 → Int32 → PoS → Prop} {post : Int32 → PoS → Prop} {v3 v4 v5 : Int32} (k : Nat) (hk : k ≤ n) (hno : ∀ j, j < k → ¬ u.1 51 (681 * t + 1 + 3 * j) = nI sort) (hend : k = n → k64 v3 v4 v5 u) (hyes : k < n → u.1 51 (681 * t + 1 + 3 * k) = nI sort ∧ k43 (nI t) v4 v5 (nI k) u) : ∀ m j, j + m = k → wl_X12_says_3 k64 k43 post (m + 1) (nI t) (nI sort) v3 v4 v5 (nI j) u := by
  intro m
  induction m with
  | zero =>
    intro j hj
    obtain rfl : j = k := by omega
    rw [wl_X12_says_3]
    rw [show (681 : Int32) * nI t = nI (681 * t) by simp (disch := omega) only [q_lit, nI_add, pk_mul, q_sub, q_rem, q_div, q_vp, q_cl, q_lt, q_le, q_eq, q_neg1, gI_def], show nI (681 * t) + 1 + 3 * nI j = nI (681 * t + 1 + 3 * j) by simp (disch := omega) only [q_lit, nI_add, pk_mul, q_sub, q_rem, q_div, q_vp, q_cl, q_lt, q_le, q_eq, q_neg1, gI_def], q_vp (by omega) (by omega), q_vp (by omega) (by omega), q_cl (by omega), q_cl (by omega), gI_def, gI_def, en, q_le (by omega) (by omega)]
    refine ⟨fun q => absurd q (nI_pos (by omega)), fun _ => ⟨by omega, fun q => hend (by omega), fun q => ⟨by omega, fun z => absurd (hyes (by omega)).1 z, fun z => (hyes (by omega)).2⟩⟩⟩
  | succ m ih =>
    intro j hj
    rw [wl_X12_says_3]
    rw [show (681 : Int32) * nI t = nI (681 * t) by simp (disch := omega) only [q_lit, nI_add, pk_mul, q_sub, q_rem, q_div, q_vp, q_cl, q_lt, q_le, q_eq, q_neg1, gI_def], show nI (681 * t) + 1 + 3 * nI j = nI (681 * t + 1 + 3 * j) by simp (disch := omega) only [q_lit, nI_add, pk_mul, q_sub, q_rem, q_div, q_vp, q_cl, q_lt, q_le, q_eq, q_neg1, gI_def], q_vp (by omega) (by omega), q_vp (by omega) (by omega), q_cl (by omega), q_cl (by omega), gI_def, gI_def, en, q_le (by omega) (by omega)]
    refine ⟨fun q => absurd q (nI_pos (by omega)), fun _ => ⟨by omega, fun q => by omega, fun q => ⟨by omega, fun z => ?_, fun z => absurd z (hno j (by omega))⟩⟩⟩
    rw [nI_1]; exact ih (j + 1) (by omega)
theorem toInt64_sub (s : Nat) (hs : s ≤ 99) : ((99 : Int32) - nI s).toInt = 99 - (s : Int) := by
  rw [show (99 : Int32) = nI 99 from rfl, pk_sub_toInt (by omega) (by omega)]; rfl
theorem wants_of {t : Nat} {u : PoS} (h : LTx t u) : ∃ w, WX u t w ∧ WM u t w := by
  obtain ⟨ht, n, hn, a1, a2, a3, a4, a5⟩ := h
  rcases a4 with ⟨g1, g2⟩ | ⟨g1, k, g2, g3, g4, F, g5, g6, g7⟩
  · refine ⟨fun a p s => 99 - s, ?_, ?_⟩
    · intro u' b p s a post h1 h2 h3 K
      refine ⟨fun _ => K u' (fun _ _ => rfl), fun _ => ⟨vp_in_nI ht (by decide), ?_⟩⟩
      rw [q_cl (by omega), gI_def, h1 (7 + t) (by omega) (by omega)]
      exact ⟨fun q => absurd g1 q, fun _ => K u' (fun _ _ => rfl)⟩
    · intro u' p s post h1 h2 h3 K
      refine ⟨n + 1, saysM_loop ht hn (by rw [h1]; exact a2) (by decide) n (Nat.le_refl n) (fun j hj => by rw [h1]; exact g2 j hj) (fun _ => ?_) (fun q => absurd q (Nat.lt_irrefl n)) n 0 (Nat.zero_add n)⟩
      obtain ⟨s, hs, rfl⟩ := h3
      refine heldM (lo := -999) (hi := 999) (by decide) (by decide) (by decide) ?_
      have := K u' (fun _ _ => rfl)
      rw [show cl32 (-999) 999 (Int32.toInt64 (99 - nI s)).toInt = 99 - nI s from i32_eq (by
        rw [cl32_t (by decide) (by decide) (by decide), Int32.toInt_toInt64, toInt64_sub s hs]
        unfold clI; rw [if_neg (by omega), if_neg (by omega)])]
      exact this
  · refine ⟨fun a p s => cl32 (-999) 999 (F (env a p s)), ?_, ?_⟩
    · intro u' b p s a post h1 h2 h3 K
      refine ⟨fun q => by rw [show (1 : Int32) = nI 1 from rfl, q_neg1 (by omega)] at q; exact q.elim, fun _ => ⟨vp_in_nI ht (by decide), ?_⟩⟩
      rw [q_cl (by omega), gI_def, h1 (7 + t) (by omega) (by omega)]
      refine ⟨fun _ => ⟨vp_in_nI ht (by decide), vp_in_nI ht (by decide), g5 u' b p s a _ (h1 _ (by omega) (by omega)) (h1 _ (by omega) (by omega)) h2 h3 (fun z x hz hx => ?_)⟩, fun q => absurd q g1⟩
      rw [clX (lo := -999) (hi := 999) (by decide) (by decide) (by decide), hx]
      exact K z hz
    · intro u' p s post h1 h2 h3 K
      refine ⟨k + 1, saysM_loop ht hn (by rw [h1]; exact a2) (by decide) k (by omega) (fun j hj => by rw [h1]; exact g4 j hj) (fun q => absurd g2 (by omega)) (fun _ => ⟨by rw [h1]; exact g3, ?_⟩) k 0 (Nat.zero_add k)⟩
      refine g6 u' p s _ (fun i hi => by rw [h1]) h2 (fun _ => h3) (fun z x hz hx => heldM (lo := -999) (hi := 999) (by decide) (by decide) (by decide) ?_)
      rw [hx]; exact K z hz
theorem pours_of {t : Nat} {u : PoS} (h : LTx t u) : ∃ q, PX u t q ∧ PM u t q ∧ ∀ a p, ∃ k, k ≤ 9 ∧ q a p = nI k := by
  obtain ⟨ht, n, hn, a1, a2, a3, a4, a5⟩ := h
  rcases a5 with ⟨g1, g2⟩ | ⟨g1, k, g2, g3, g4, F, g5, g6, g7⟩
  · refine ⟨fun a p => 3, ?_, ?_, fun _ _ => ⟨3, by decide, rfl⟩⟩
    · intro u' b p a post h1 h2 h3 K
      refine ⟨rl_in (k := 116) (by decide), fun x1 ex => ?_⟩
      rw [gI_def, h2.2.1.1.2.1, h3] at ex
      subst ex
      refine ⟨fun q => by rw [show (1 : Int32) = nI 1 from rfl, q_neg1 (by omega)] at q; exact q.elim, fun _ => ⟨vp_in_nI ht (by decide), ?_⟩⟩
      rw [q_cl (by omega), gI_def, h1 (7 + t) (by omega) (by omega)]
      exact ⟨fun q => absurd g1 q, fun _ => K u' (fun _ _ => rfl)⟩
    · intro u' p s post h1 h2 K
      refine ⟨n + 1, saysM_loop ht hn (by rw [h1]; exact a2) (by decide) n (Nat.le_refl n) (fun j hj => by rw [h1]; exact g2 j hj) (fun _ => ?_) (fun q => absurd q (Nat.lt_irrefl n)) n 0 (Nat.zero_add n)⟩
      refine heldM (lo := 0) (hi := 9) (by decide) (by decide) (by decide) ?_
      have := K u' (fun _ _ => rfl)
      rw [show cl32 0 9 (Int32.toInt64 3).toInt = 3 from by decide]
      exact this
  · have cl9 : ∀ v : Int, ∃ k, k ≤ 9 ∧ cl32 0 9 v = nI k := fun v => by
      have := clI_b (lo := 0) (hi := 9) (by decide) v
      refine ⟨(clI 0 9 v).toNat, by omega, i32_eq ?_⟩
      rw [cl32_t (by decide) (by decide) (by decide), nI_toInt (by omega)]; omega
    refine ⟨fun a p => cl32 0 9 (F (env a p 99)), ?_, ?_, fun a p => cl9 _⟩
    · intro u' b p a post h1 h2 h3 K
      refine ⟨rl_in (k := 116) (by decide), fun x1 ex => ?_⟩
      rw [gI_def, h2.2.1.1.2.1, h3] at ex
      subst ex
      refine ⟨fun q => by rw [show (1 : Int32) = nI 1 from rfl, q_neg1 (by omega)] at q; exact q.elim, fun _ => ⟨vp_in_nI ht (by decide), ?_⟩⟩
      rw [q_cl (by omega), gI_def, h1 (7 + t) (by omega) (by omega)]
      refine ⟨fun _ => ⟨vp_in_nI ht (by decide), vp_in_nI ht (by decide), g5 u' b p 99 a _ (h1 _ (by omega) (by omega)) (h1 _ (by omega) (by omega)) h2 ⟨99, by decide, rfl⟩ (fun z x hz hx => ?_)⟩, fun q => absurd q g1⟩
      rw [clX (lo := 0) (hi := 9) (by decide) (by decide) (by decide), hx]
      exact K z hz
    · intro u' p s post h1 h2 K
      refine ⟨k + 1, saysM_loop ht hn (by rw [h1]; exact a2) (by decide) k (by omega) (fun j hj => by rw [h1]; exact g4 j hj) (fun q => absurd g2 (by omega)) (fun _ => ⟨by rw [h1]; exact g3, ?_⟩) k 0 (Nat.zero_add k)⟩
      refine g6 u' p s _ (fun i hi => by rw [h1]) h2 (fun q => absurd q (by decide)) (fun z x hz hx => heldM (lo := 0) (hi := 9) (by decide) (by decide) (by decide) ?_)
      rw [hx, g7 rfl (env (u'.1 49) p s) (env (u'.1 49) p 99) (fun i hi => by
        unfold env
        by_cases q0 : i = 0
        · rw [if_pos q0, if_pos q0]
        by_cases q1 : i = 1
        · rw [if_neg q0, if_pos q1, if_neg q0, if_pos q1]
        by_cases q2 : i = 2
        · rw [if_neg q0, if_neg q1, if_pos q2, if_neg q0, if_neg q1, if_pos q2]
        by_cases q3 : i = 3
        · rw [if_neg q0, if_neg q1, if_neg q2, if_pos q3, if_neg q0, if_neg q1, if_neg q2, if_pos q3]
        by_cases q4 : i = 4
        · rw [if_neg q0, if_neg q1, if_neg q2, if_neg q3, if_pos q4, if_neg q0, if_neg q1, if_neg q2, if_neg q3, if_pos q4]
        by_cases q5 : i = 5
        · rw [if_neg q0, if_neg q1, if_neg q2, if_neg q3, if_neg q4, if_pos q5, if_neg q0, if_neg q1, if_neg q2, if_neg q3, if_neg q4, if_pos q5]
        by_cases q6 : i = 6
        · rw [if_neg q0, if_neg q1, if_neg q2, if_neg q3, if_neg q4, if_neg q5, if_pos q6, if_neg q0, if_neg q1, if_neg q2, if_neg q3, if_neg q4, if_neg q5, if_pos q6]
        rw [if_neg q0, if_neg q1, if_neg q2, if_neg q3, if_neg q4, if_neg q5, if_neg q6, if_neg hi, if_neg q0, if_neg q1, if_neg q2, if_neg q3, if_neg q4, if_neg q5, if_neg q6, if_neg hi])]
      exact K z hz
