/-! YEARS -/
section YEARS
variable {w : Nat → (Nat → Int32) → Nat → Int32 → Int32} {q : Nat → (Nat → Int32) → Nat → Int32}
def hpA (w : Nat → (Nat → Int32) → Nat → Int32 → Int32) (q : Nat → (Nat → Int32) → Nat → Int32) (m : Nat) (a : Nat → Int32) : Nat → Int32 := if 3 ≤ m % 6 then (if nN (a 6) < 9999 then psA w q true a else a) else if nN (a 0) = 0 then a else if m % 6 = 2 then up a (11 + 6 * (m % nN (a 0))) (nI (if m % 4 = 0 then 0 else 1)) else if ∃ c, c < 30 ∧ sid (atF a (m % nN (a 0))) (m / 6 % 4) = nI c ∧ hb (opn a) c = true then up a (10 + 6 * (m % nN (a 0))) (sid (atF a (m % nN (a 0))) (m / 6 % 4)) else a
def hpR (w : Nat → (Nat → Int32) → Nat → Int32 → Int32) (q : Nat → (Nat → Int32) → Nat → Int32) (m : Nat) (r a : Nat → Int32) : Nat → Int32 := if 3 ≤ m % 6 then (if nN (a 6) < 9999 then prR w q r a else r) else if nN (a 0) = 0 then r else if m % 6 = 2 then up r (5 + m % nN (a 0)) (nI (if m % 4 = 0 then 0 else 1)) else if ∃ c, c < 30 ∧ sid (atF a (m % nN (a 0))) (m / 6 % 4) = nI c ∧ hb (opn a) c = true then up r (m % nN (a 0)) (sid (atF a (m % nN (a 0))) (m / 6 % 4)) else r
theorem hp_ok {u : PoS} {T : Nat} {r a : Nat → Int32} (h : RowOk r a) (hF : Fresh a) (hT : nN (a 1) = T) (hC : Ctx u T w q) (m : Nat) : RowOk (hpR w q m r a) (hpA w q m a) ∧ Fresh (hpA w q m a) ∧ hpA w q m a 1 = a 1 := by
  unfold hpR hpA
  by_cases c1 : 3 ≤ m % 6
  · rw [if_pos c1, if_pos c1]
    by_cases c2 : nN (a 6) < 9999
    · rw [if_pos c2, if_pos c2]
      obtain ⟨k9, hk9, e9⟩ := h.nine
      obtain ⟨l1, l2, l3, l4, l5⟩ := live_pass (w := w) (q := q) h.liv (pvl_sm (T := T) hC (by rw [← hT]; exact h.liv.txt)) hk9 e9 c2
      obtain ⟨b1, b2⟩ := l5 h.boo
      exact ⟨(row_live h hF l2 l3 l1 b1 b2).1, (row_live h hF l2 l3 l1 b1 b2).2, l3 1 (by omega)⟩
    · rw [if_neg c2, if_neg c2]; exact ⟨h, hF, rfl⟩
  · rw [if_neg c1, if_neg c1]
    by_cases c2 : nN (a 0) = 0
    · rw [if_pos c2, if_pos c2]; exact ⟨h, hF, rfl⟩
    · rw [if_neg c2, if_neg c2]
      have hp : m % nN (a 0) < nN (a 0) := Nat.mod_lt _ (by omega)
      by_cases c3 : m % 6 = 2
      · rw [if_pos c3, if_pos c3]
        have := row_per h hF (p := m % nN (a 0)) (k := 1) (m := 1) (v := nI (if m % 4 = 0 then 0 else 1)) hp (by decide) rfl ⟨_, by split <;> omega, rfl⟩
        rw [show 5 * 1 + m % nN (a 0) = 5 + m % nN (a 0) by omega, show 10 + 6 * (m % nN (a 0)) + 1 = 11 + 6 * (m % nN (a 0)) by omega] at this
        exact ⟨this.1, this.2, up_ne (by omega)⟩
      · rw [if_neg c3, if_neg c3]
        by_cases c4 : ∃ c, c < 30 ∧ sid (atF a (m % nN (a 0))) (m / 6 % 4) = nI c ∧ hb (opn a) c = true
        · rw [if_pos c4, if_pos c4]
          obtain ⟨c, hc, ec, -⟩ := c4
          have := row_per h hF (p := m % nN (a 0)) (k := 0) (m := 29) (v := sid (atF a (m % nN (a 0))) (m / 6 % 4)) hp (by decide) rfl ⟨c, by omega, ec⟩
          rw [show 5 * 0 + m % nN (a 0) = m % nN (a 0) by omega, Nat.add_zero] at this
          exact ⟨this.1, this.2, up_ne (by omega)⟩
        · rw [if_neg c4, if_neg c4]; exact ⟨h, hF, rfl⟩
theorem liveOnX {u : PoS} {T : Nat} {r a : Nat → Int32} (h : RowOk r a) (e3 : u.1 3 = r) (hT : nN (a 1) = T) (hC : Ctx u T w q) {m : Nat} (hm : m ≤ 30670) {post : PoS → Prop} (K : ∀ z, FrB 0 u z → z.1 3 = hpR w q m r a → post z) : wp_X8_liveOn 0 (nI m) u post := by
  have hL : Liv (u.1 (3 + 0)) a := by show Liv (u.1 3) a; rw [e3]; exact h.liv
  obtain ⟨n, hn, n1, n2, n3⟩ := h.liv.ppl
  obtain ⟨k9, hk9, e9⟩ := h.nine
  refine ⟨rl_in (k := 84) (by decide), fun x1 e1 x2 e2 => ?_⟩
  rw [gI_def, show u.1 (3 + 0) = r from e3, n2] at e1
  rw [show (6 : Int32) = nI 6 from rfl, q_rem (by omega) (by omega) (by omega)] at e2
  subst e1 e2
  unfold hpR at K
  refine ⟨fun c1 => ?_, fun c1 => ?_⟩
  · rw [show (3 : Int32) = nI 3 from rfl, q_lt (by omega) (by omega)] at c1
    rw [if_neg (by omega)] at K
    refine ⟨fun c2 => ?_, fun c2 => ?_⟩
    · rw [show (0 : Int32) = nI 0 from rfl, q_lt (by omega) (by omega)] at c2
      refine ⟨nI_ne0 c2 (by omega), fun x3 ex3 => ?_⟩
      rw [if_neg (by omega)] at K
      rw [q_rem (by omega) (by omega) (by omega)] at ex3
      subst ex3
      rw [n3] at K
      have hp : m % n < n := Nat.mod_lt _ (by omega)
      refine ⟨fun c3 => ?_, fun c3 => ?_⟩
      · rw [show (2 : Int32) = nI 2 from rfl, q_eq (by omega) (by omega)] at c3
        rw [if_neg c3] at K
        obtain ⟨a1, a2, a3, a4⟩ := atF_of h.liv (show m % n < nN (a 0) by omega)
        rw [zadd, q_cl (by omega), gI_def, show u.1 (3 + 0) = r from e3, a3, show (6 : Int32) = nI 6 from rfl, show (4 : Int32) = nI 4 from rfl, q_div (by omega) (by omega) (by omega), q_rem (by omega) (by omega) (by omega)]
        refine ⟨rl_in (by omega), sideX a1 (Nat.mod_lt _ (by decide)) (isOpenX (b := 0) hL.2.2.2.opn (fun c hc ec ho => ⟨fun z => absurd z (by decide), fun _ => ⟨rl_in (by omega), fun z8 e8 => K z8 (fun j h1 h2 => ?_) ?_⟩⟩) (fun hno => ⟨fun _ => K u (fun _ _ _ => rfl) ?_, fun z => absurd rfl z⟩))⟩
        · rw [e8]; simp (disch := omega) only [gI_def, pI_s, pI_o, cI_s, cI_o, pL_1, pR_1]
        · rw [if_pos ⟨c, hc, ec, ho⟩, e8]
          show (pI u 3 (m % n) _).1 3 = _
          simp (disch := omega) only [gI_def, pI_s, pI_o, cI_s, cI_o, pL_1, pR_1]
          rw [e3]
        · rw [if_neg]
          · exact e3
          · rintro ⟨c, hc, ec, ho⟩
            rw [hno c hc ec] at ho; exact Bool.noConfusion ho
      · rw [show (2 : Int32) = nI 2 from rfl, q_eq (by omega) (by omega)] at c3
        rw [if_pos c3] at K
        have fin : ∀ v : Int32, v = nI (if m % 4 = 0 then 0 else 1) → wj_X8_liveOn_65 0 post v (5 + nI (m % n)) u := by
          intro v hv
          unfold wj_X8_liveOn_65
          rw [show (5 : Int32) + nI (m % n) = nI (5 + m % n) by simp (disch := omega) only [q_lit, nI_add, pk_mul, q_sub, q_rem, q_div, q_vp, q_cl, q_lt, q_le, q_eq, q_neg1, gI_def], q_cl (by omega)]
          refine ⟨rl_in (by omega), fun z10 e10 => K z10 (fun j h1 h2 => by rw [e10]; simp (disch := omega) only [gI_def, pI_s, pI_o, cI_s, cI_o, pL_1, pR_1]) ?_⟩
          rw [e10]
          show (pI u 3 (5 + m % n) v).1 3 = _
          simp (disch := omega) only [gI_def, pI_s, pI_o, cI_s, cI_o, pL_1, pR_1]
          rw [e3, hv]
        rw [show (4 : Int32) = nI 4 from rfl, q_rem (by omega) (by omega) (by omega)]
        refine ⟨fun c4 => fin _ ?_, fun c4 => fin _ ?_⟩ <;> rw [show (0 : Int32) = nI 0 from rfl, q_le (by omega) (by omega)] at c4
        · rw [if_pos (by omega)]; rfl
        · rw [if_neg (by omega)]; rfl
    · rw [show (0 : Int32) = nI 0 from rfl, q_lt (by omega) (by omega)] at c2
      rw [if_pos (by omega)] at K
      exact K u (fun _ _ _ => rfl) e3
  · rw [show (3 : Int32) = nI 3 from rfl, q_lt (by omega) (by omega)] at c1
    rw [if_pos (by omega)] at K
    refine canX (b := 0) hL (fun h6 => ⟨fun z => absurd z (by decide), fun _ => passX (b := 0) (by decide) (a := a) (by rw [hT]; exact hC) hL hk9 e9 (fun z6 f6 g6 => ?_)⟩) (fun h6 => ⟨fun _ => ?_, fun z => absurd rfl z⟩)
    · rw [if_pos h6] at K
      refine K z6 f6 ?_
      rw [show u.1 (3 + 0) = r from e3] at g6
      exact g6
    · rw [if_neg (by omega)] at K
      exact K u (fun _ _ _ => rfl) e3
theorem happensM {u : PoS} {T : Nat} {r a : Nat → Int32} (h : RowOk r a) (e49 : u.1 49 = a) (hw : u.1 48 24 = 1) (hT : nN (a 1) = T) (hC : Ctx u T w q) {m : Nat} (hm : m ≤ 30670) {post : PoS → Prop} (K : ∀ z, FrR u z → z.1 49 = hpA w q m a → post z) : wp_X12_happens (nI m) u post := by
  obtain ⟨n, hn, n1, n2, n3⟩ := h.liv.ppl
  obtain ⟨k9, hk9, e9⟩ := h.nine
  obtain ⟨i1, i2, i3⟩ := h.liv.min
  unfold wp_X12_happens
  rw [gI_def, gI_def, e49, n1, i2, show (6 : Int32) = nI 6 from rfl, q_rem (by omega) (by omega) (by omega)]
  have fu : FrR u u := ⟨fun _ _ _ _ _ _ => rfl, fun _ _ => rfl⟩
  unfold hpA at K
  refine ⟨fun c1 => ?_, fun c1 => ?_⟩
  · rw [show (2 : Int32) = nI 2 from rfl, q_le (by omega) (by omega)] at c1
    rw [if_neg (by omega)] at K
    refine ⟨fun c2 => ⟨c2, fun x1 ex1 => ?_⟩, fun c2 => ?_⟩
    · rw [show (0 : Int32) = nI 0 from rfl, q_eq (by omega) (by omega)] at c2
      rw [if_neg (by omega)] at K
      rw [q_rem (by omega) (by omega) (by omega)] at ex1
      subst ex1
      rw [n3] at K
      have hp : m % n < n := Nat.mod_lt _ (by omega)
      refine ⟨fun c3 => ?_, fun c3 => ?_⟩
      · rw [show (2 : Int32) = nI 2 from rfl, q_eq (by omega) (by omega)] at c3
        rw [if_neg c3] at K
        obtain ⟨a1, a2, a3, a4⟩ := atF_of h.liv (show m % n < nN (a 0) by omega)
        refine getM (o := 0) a4 (by decide) ?_
        rw [Nat.add_zero, e49, a2, show (4 : Int32) = nI 4 from rfl, q_div (by omega) (by omega) (by omega), q_rem (by omega) (by omega) (by omega)]
        refine sideM a1 (Nat.mod_lt _ (by decide)) (isFreeM (r := r) (fun c hc ec ho => ⟨fun z => absurd z (by decide), fun _ => putM (o := 0) a4 (by decide) (K _ ?_ ?_)⟩) (fun hno => ⟨fun _ => K u fu ?_, fun z => absurd rfl z⟩))
        · exact (((FrA.refl u).put _ _)).r
        · rw [e49] at ho
          rw [if_pos ⟨c, hc, ec, ho⟩]; simp (disch := omega) only [gI_def, pI_s, pI_o, cI_s, cI_o, pL_1, pR_1]; rw [e49, Nat.add_zero]
        · rw [if_neg]
          · exact e49
          · rintro ⟨c, hc, ec, ho⟩
            have := hno c hc ec
            rw [e49] at this
            rw [this] at ho; exact Bool.noConfusion ho
      · rw [show (2 : Int32) = nI 2 from rfl, q_eq (by omega) (by omega)] at c3
        rw [if_pos c3] at K
        have fin : ∀ v : Int32, v = nI (if m % 4 = 0 then 0 else 1) → wj_X12_happens_67 post v 1 (nI (m % n)) u := by
          intro v hv
          refine putM (o := 1) (by omega) (by decide) (K _ ?_ ?_)
          · exact (((FrA.refl u).put _ _)).r
          · simp (disch := omega) only [gI_def, pI_s, pI_o, cI_s, cI_o, pL_1, pR_1]; rw [e49, hv, show 10 + 6 * (m % n) + 1 = 11 + 6 * (m % n) by omega]
        rw [show (4 : Int32) = nI 4 from rfl, q_rem (by omega) (by omega) (by omega)]
        refine ⟨fun c4 => fin _ ?_, fun c4 => fin _ ?_⟩ <;> rw [show (0 : Int32) = nI 0 from rfl, q_le (by omega) (by omega)] at c4
        · rw [if_pos (by omega)]; rfl
        · rw [if_neg (by omega)]; rfl
    · rw [show (0 : Int32) = nI 0 from rfl, q_eq (by omega) (by omega)] at c2
      rw [if_pos (by omega)] at K
      exact K u fu e49
  · rw [show (2 : Int32) = nI 2 from rfl, q_le (by omega) (by omega)] at c1
    rw [if_pos (by omega)] at K
    rw [show (9999 : Int32) = nI 9999 from rfl, q_le (by omega) (by omega)]
    refine ⟨fun h6 => ?_, fun h6 => passM (ρ := r) (wr := true) (by rw [e49, hT]; exact hC) (by rw [e49]; exact h.liv) hk9 (by rw [e49]; exact e9) (by rw [hw]; rfl) (fun z5 f5 r5 g5 => ?_)⟩
    · rw [if_neg (by omega)] at K
      exact K u fu e49
    · rw [if_pos (by omega)] at K
      exact K z5 f5 (by rw [g5, e49])
/-- behind k draws of YEARS -/
def yrA (w : Nat → (Nat → Int32) → Nat → Int32 → Int32) (q : Nat → (Nat → Int32) → Nat → Int32) (a : Nat → Int32) (s : Nat) : Nat → Nat → Int32
  | 0 => up (keepA a) 8 (nI (s * 2 + 241))
  | k + 1 => hpA w q (nN (yrA w q a s k 8)) (up (yrA w q a s k) 8 (nI (nx (nN (yrA w q a s k 8)))))
def yrR (w : Nat → (Nat → Int32) → Nat → Int32 → Int32) (q : Nat → (Nat → Int32) → Nat → Int32) (r a : Nat → Int32) (s : Nat) : Nat → Nat → Int32
  | 0 => up (remR r (nN (r 184)) (nN (a 3))) 52 (nI (s * 2 + 241))
  | k + 1 => hpR w q (nN (yrA w q a s k 8)) (up (yrR w q r a s k) 52 (nI (nx (nN (yrA w q a s k 8))))) (up (yrA w q a s k) 8 (nI (nx (nN (yrA w q a s k 8)))))
theorem yr_ok {u : PoS} {T : Nat} {r a : Nat → Int32} (h : RowOk r a) (hT : nN (a 1) = T) (hC : Ctx u T w q) {s : Nat} (hs : s ≤ 9999) : ∀ k, RowOk (yrR w q r a s k) (yrA w q a s k) ∧ Fresh (yrA w q a s k) ∧ yrA w q a s k 1 = a 1 := by
  intro k
  induction k with
  | zero =>
    obtain ⟨hK1, hK2⟩ := row_keep h
    obtain ⟨x1, x2⟩ := row_x hK1 hK2 (v := nI (s * 2 + 241)) ⟨_, by omega, rfl⟩
    exact ⟨x1, x2, by rw [yrA, up_ne (by decide)]; exact kp_lo h (by decide) (by decide)⟩
  | succ k ih =>
    obtain ⟨i1, i2, i3⟩ := ih
    obtain ⟨x1, x2⟩ := row_x i1 i2 (v := nI (nx (nN (yrA w q a s k 8)))) ⟨_, nx_le _, rfl⟩
    have e1 : up (yrA w q a s k) 8 (nI (nx (nN (yrA w q a s k 8)))) 1 = a 1 := by rw [up_ne (by decide)]; exact i3
    obtain ⟨y1, y2, y3⟩ := hp_ok x1 x2 (T := T) (by rw [e1]; exact hT) hC (nN (yrA w q a s k 8))
    exact ⟨y1, y2, by rw [yrA, y3]; exact e1⟩
theorem act_years (T : Nat) (w : Nat → (Nat → Int32) → Nat → Int32 → Int32) (q : Nat → (Nat → Int32) → Nat → Int32) (x y : Int32) : Act T w q (wp_X11_years x y) (wp_X12_years x y) := by
  intro r a hR hT hc
  have no : ∀ (hf : (x < 0 ∨ nI 9999 < x) ∨ (y < 1 ∨ (40 : Int32) < y)), ∃ F r' a', RowOk r' a' ∧ a' 1 = a 1 ∧ (∀ (u : PoS) (K : Int32 → PoS → Prop), u.1 3 = r → Ctx u T w q → (∀ z, FrB 0 u z → z.1 3 = r' → K F z) → wp_X11_years x y u K) ∧ (∀ (u : PoS) (K : Int32 → PoS → Prop), u.1 49 = a → u.1 48 24 = 1 → Ctx u T w q → (∀ z, FrR u z → z.1 49 = a' → K F z) → wp_X12_years x y u K) := by
    intro hf
    refine ⟨-1, r, a, hR, rfl, fun u K e hC hK => ?_, fun u K e hw hC hK => ?_⟩
    · have K0 := hK u (fun _ _ _ => rfl) e
      rcases hf with hf | hf
      · exact within_f hf ⟨fun _ => K0, fun z => absurd rfl z⟩
      · by_cases hx : x < 0 ∨ nI 9999 < x
        · exact within_f hx ⟨fun _ => K0, fun z => absurd rfl z⟩
        · exact within_t (fun z => hx (Or.inl z)) (fun z => hx (Or.inr z)) ⟨fun z => absurd z (by decide), fun _ => within_f hf ⟨fun z => absurd rfl z, fun _ => K0⟩⟩
    · have K0 := hK u ⟨fun _ _ _ _ _ _ => rfl, fun _ _ => rfl⟩ e
      rcases hf with hf | hf
      · exact isIn_f hf ⟨fun _ => K0, fun z => absurd rfl z⟩
      · by_cases hx : x < 0 ∨ nI 9999 < x
        · exact isIn_f hx ⟨fun _ => K0, fun z => absurd rfl z⟩
        · exact isIn_t (fun z => hx (Or.inl z)) (fun z => hx (Or.inr z)) ⟨fun z => absurd z (by decide), fun _ => isIn_f hf ⟨fun z => absurd rfl z, fun _ => K0⟩⟩
  rcases rng 9999 (by decide) x with ⟨s, hs, rfl⟩ | hx
  · by_cases hy : y < 1 ∨ (40 : Int32) < y
    · exact no (Or.inr hy)
    · obtain ⟨u0, hC0⟩ := hc
      have hy1 : ¬ y < 1 := fun z => hy (Or.inl z)
      have hy2 : ¬ (40 : Int32) < y := fun z => hy (Or.inr z)
      obtain ⟨n, hn, rfl⟩ : ∃ n, n ≤ 40 ∧ y = nI n := by
        rcases rng 40 (by decide) y with ⟨n, hn, e⟩ | z | z
        · exact ⟨n, hn, e⟩
        · exfalso
          apply hy1
          rw [Int32.lt_iff_toInt_lt] at z ⊢
          have e0 : (0 : Int32).toInt = 0 := rfl
          have e1 : (1 : Int32).toInt = 1 := rfl
          omega
        · exact absurd z hy2
      have ok := fun k => yr_ok hR hT hC0 hs k
      have xx := fun k => (ok k).1.liv.xx
      obtain ⟨st, hst, est⟩ := hR.st
      refine ⟨yrA w q a s n 6, yrR w q r a s n, yrA w q a s n, (ok n).1, (ok n).2.2, fun u K e hC hK => ?_, fun u K e hw hC hK => ?_⟩
      · refine within_t (nI_pos (by omega)) (nI_nlt (b := s) (a := 9999) hs (by decide)) ⟨fun z => absurd z (by decide), fun _ => within_t hy1 hy2 ⟨fun _ => remX (a := a) (by rw [e]; exact hR) (fun z6 f6 g6 z7 e7 => ⟨n + 1, ?_⟩), fun z => absurd z (by decide)⟩⟩
        rw [show nI s * 2 + 241 = nI (s * 2 + 241) by simp (disch := omega) only [q_lit, nI_add, pk_mul, q_sub, q_rem, q_div, q_vp, q_cl, q_lt, q_le, q_eq, q_neg1, gI_def]] at e7
        have g7 : z7.1 3 = yrR w q r a s 0 := by rw [e7]; simp (disch := omega) only [gI_def, pI_s, pI_o, cI_s, cI_o, pL_1, pR_1]; rw [g6, e]; rfl
        have f7 : FrB 0 u z7 := fun j h1 h2 => by rw [e7, pI_o (by omega)]; exact f6 j h1
        have lp : ∀ m k, k + m = n → ∀ z, FrB 0 u z → z.1 3 = yrR w q r a s k → wl_X11_years_43 K (m + 1) (nI n) (nI k) z := by
          intro m
          induction m with
          | zero =>
            intro k hk z fz gz
            obtain rfl : k = n := by omega
            rw [wl_X11_years_43]
            refine ⟨fun _ => ?_, fun hh => absurd (nI_le (Nat.le_refl k) (by omega)) hh⟩
            rw [gI_def, gz, (ok k).1.liv.1.2.2.1]; exact hK z fz gz
          | succ m ih =>
            intro k hk z fz gz
            obtain ⟨x1, x2, x3⟩ := xx k
            rw [wl_X11_years_43, q_le (by omega) (by omega)]
            refine ⟨fun hh => by omega, fun _ => nextX (b := 0) x1 (by rw [show z.1 (3 + 0) = yrR w q r a s k from gz]; exact x3) ?_⟩
            have e1 : up (yrA w q a s k) 8 (nI (nx (nN (yrA w q a s k 8)))) 1 = a 1 := by rw [up_ne (by decide)]; exact (ok k).2.2
            obtain ⟨y1, y2⟩ := row_x (ok k).1 (ok k).2.1 (v := nI (nx (nN (yrA w q a s k 8)))) ⟨_, nx_le _, rfl⟩
            refine liveOnX (w := w) (q := q) (T := T) y1 (by show (pI z 3 52 _).1 3 = _; simp (disch := omega) only [gI_def, pI_s, pI_o, cI_s, cI_o, pL_1, pR_1]; rw [gz]) (by rw [e1]; exact hT) ?_ x1 (fun z2 f2 g2 => ?_)
            · exact hC.mv ⟨fun j h1 h2 => by rw [pI_o (by omega)]; exact fz j (by omega) (by omega), by rw [pI_o (by omega)]; exact fz 51 (by decide) (by decide)⟩
            · rw [nI_1]
              exact ih (k + 1) (by omega) z2 (fun j h1 h2 => by rw [f2 j h1 h2, pI_o (by omega)]; exact fz j h1 h2) g2
        exact lp n 0 (Nat.zero_add n) z7 f7 g7
      · refine isIn_t (nI_pos (by omega)) (nI_nlt (b := s) (a := 9999) hs (by decide)) ⟨fun z => absurd z (by decide), fun _ => isIn_t hy1 hy2 ⟨fun _ => keepM hst (by rw [e]; exact est) (fun z6 f6 g6 z7 e7 => ⟨n + 1, ?_⟩), fun z => absurd z (by decide)⟩⟩
        rw [show nI s * 2 + 241 = nI (s * 2 + 241) by simp (disch := omega) only [q_lit, nI_add, pk_mul, q_sub, q_rem, q_div, q_vp, q_cl, q_lt, q_le, q_eq, q_neg1, gI_def]] at e7
        have g7 : z7.1 49 = yrA w q a s 0 := by rw [e7]; simp (disch := omega) only [gI_def, pI_s, pI_o, cI_s, cI_o, pL_1, pR_1]; rw [g6, e]; rfl
        have f7 : FrR u z7 := by rw [e7]; exact (f6.put _ _).r
        have lp : ∀ m k, k + m = n → ∀ z, FrR u z → z.1 49 = yrA w q a s k → wl_X12_years_43 K (m + 1) (nI n) (nI k) z := by
          intro m
          induction m with
          | zero =>
            intro k hk z fz gz
            obtain rfl : k = n := by omega
            rw [wl_X12_years_43]
            refine ⟨fun _ => ?_, fun hh => absurd (nI_le (Nat.le_refl k) (by omega)) hh⟩
            rw [gI_def, gz]; exact hK z fz gz
          | succ m ih =>
            intro k hk z fz gz
            obtain ⟨x1, x2, x3⟩ := xx k
            rw [wl_X12_years_43, q_le (by omega) (by omega)]
            refine ⟨fun hh => by omega, fun _ x8 e8 => anewM x1 (by rw [gz]; exact x2) ?_⟩
            rw [gI_def, gz, x2] at e8
            subst e8
            have e1 : up (yrA w q a s k) 8 (nI (nx (nN (yrA w q a s k 8)))) 1 = a 1 := by rw [up_ne (by decide)]; exact (ok k).2.2
            obtain ⟨y1, y2⟩ := row_x (ok k).1 (ok k).2.1 (v := nI (nx (nN (yrA w q a s k 8)))) ⟨_, nx_le _, rfl⟩
            have fz' : FrR u (pI z 49 8 (nI (nx (nN (yrA w q a s k 8))))) := fz.tr ((FrA.refl z).put _ _).r
            refine happensM (w := w) (q := q) (T := T) y1 (by simp (disch := omega) only [gI_def, pI_s, pI_o, cI_s, cI_o, pL_1, pR_1]; rw [gz]) (by rw [fz'.2 24 (by decide)]; exact hw) (by rw [e1]; exact hT) (hC.mv fz'.law) x1 (fun z2 f2 g2 => ?_)
            rw [nI_1]
            exact ih (k + 1) (by omega) z2 (fz'.tr f2) g2
        exact lp n 0 (Nat.zero_add n) z7 f7 g7
  · exact no (Or.inl hx)
theorem ob_years (x y : Int32) : Ob32 (wp_X11_years x y) (wp_X12_years x y) (Inv LTx) := ob_act (fun T w q => act_years T w q x y)
end YEARS
