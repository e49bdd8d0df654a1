/-! walk, hat, draw -/
/-- the CELL on a side; -1: none -/
def sid (c w : Nat) : Int32 := if w = 0 then (if c < 6 then -1 else nI (c - 6)) else if w = 1 then (if c % 6 = 0 then -1 else nI (c - 1)) else if w = 2 then (if 5 ≤ c % 6 then -1 else nI (c + 1)) else if 24 ≤ c then -1 else nI (c + 6)
theorem side_gen {c w : Nat} (hc : c < 30) (hw : w < 4) {P : Int32 → Prop} (K : P (sid c w)) : ((nI w = 0 → ((nI c < 6 → P (-1)) ∧ (¬ nI c < 6 → P (nI c - 6)))) ∧ (nI w = 1 → (((irem (nI c) 6) ≤ 0 → P (-1)) ∧ (¬ (irem (nI c) 6) ≤ 0 → P (nI c - 1)))) ∧ (nI w = 2 → ((5 ≤ (irem (nI c) 6) → P (-1)) ∧ (¬ 5 ≤ (irem (nI c) 6) → P (nI c + 1)))) ∧ (¬ nI w = 0 → ¬ nI w = 1 → ¬ nI w = 2 → ((24 ≤ nI c → P (-1)) ∧ (¬ 24 ≤ nI c → P (nI c + 6))))) := by
  have e6 : irem (nI c) 6 = nI (c % 6) := by simp (disch := omega) only [q_lit, nI_add, pk_mul, q_sub, q_rem, q_div, q_vp, q_cl, q_lt, q_le, q_eq, q_neg1, gI_def]
  rw [e6]
  unfold sid at K
  refine ⟨fun q => ?_, fun q => ?_, fun q => ?_, fun q0 q1 q2 => ?_⟩
  · rw [show (0 : Int32) = nI 0 from rfl, q_eq (by omega) (by decide)] at q
    rw [if_pos q] at K
    rw [show (6 : Int32) = nI 6 from rfl, q_lt (by omega) (by decide)]
    refine ⟨fun z => by rw [if_pos z] at K; exact K, fun z => ?_⟩
    rw [if_neg z] at K; rw [q_sub (by omega)]; exact K
  · rw [show (1 : Int32) = nI 1 from rfl, q_eq (by omega) (by decide)] at q
    rw [if_neg (by omega), if_pos q] at K
    rw [show (0 : Int32) = nI 0 from rfl, q_le (by omega) (by decide)]
    refine ⟨fun z => by rw [if_pos (by omega)] at K; exact K, fun z => ?_⟩
    rw [if_neg (by omega)] at K; rw [show (1 : Int32) = nI 1 from rfl, q_sub (by omega)]; exact K
  · rw [show (2 : Int32) = nI 2 from rfl, q_eq (by omega) (by decide)] at q
    rw [if_neg (by omega), if_neg (by omega), if_pos q] at K
    rw [show (5 : Int32) = nI 5 from rfl, q_le (by decide) (by omega)]
    refine ⟨fun z => by rw [if_pos z] at K; exact K, fun z => ?_⟩
    rw [if_neg z] at K; rw [nI_1]; exact K
  · rw [show (0 : Int32) = nI 0 from rfl, q_eq (by omega) (by decide)] at q0
    rw [show (1 : Int32) = nI 1 from rfl, q_eq (by omega) (by decide)] at q1
    rw [show (2 : Int32) = nI 2 from rfl, q_eq (by omega) (by decide)] at q2
    rw [if_neg q0, if_neg q1, if_neg q2] at K
    rw [show (24 : Int32) = nI 24 from rfl, q_le (by decide) (by omega)]
    refine ⟨fun z => by rw [if_pos z] at K; exact K, fun z => ?_⟩
    rw [if_neg z] at K; rw [show (6 : Int32) = nI 6 from rfl, nI_add]; exact K
theorem sideM {c w : Nat} (hc : c < 30) (hw : w < 4) {u : PoS} {post : Int32 → PoS → Prop} (K : post (sid c w) u) : wp_X12_sideOf (nI c) (nI w) u post := side_gen (P := fun x => post x u) hc hw K
theorem sideX {c w : Nat} (hc : c < 30) (hw : w < 4) {u : PoS} {post : Int32 → PoS → Prop} (K : post (sid c w) u) : wp_X1_toSide (nI c) (nI w) u post := side_gen (P := fun x => post x u) hc hw K
def sbt (c w : Nat) : Int32 := if sid c w = -1 then 0 else 1 <<< (sid c w &&& 31)
theorem nbs : ∀ c, c < 30 → ((((0 ||| sbt c 0) ||| sbt c 1) ||| sbt c 2) ||| sbt c 3) = bes (bt1 c) := by decide +kernel
theorem besM1 {c : Nat} (hc : c < 30) {u : PoS} {post : Int32 → PoS → Prop} (K : post (bes (bt1 c)) u) : wp_X12_beside (nI c) u post := by
  refine ⟨5, ?_⟩
  have st : ∀ (n w : Nat) (x : Int32), w < 4 → wl_X12_beside_4 post n (nI c) (x ||| sbt c w) (nI (w + 1)) u → wl_X12_beside_4 post (n + 1) (nI c) x (nI w) u := by
    intro n w x hw H
    simp only [wl_X12_beside_4]
    refine ⟨fun q => absurd q (nI_ge (b := 4) hw (by decide)), fun _ => sideM hc hw ⟨fun q => sideM hc hw (fun x5 e5 => ?_), fun q x5 e5 => ?_⟩⟩
    · unfold sbt at H; rw [if_neg q] at H; rw [e5, nI_1]; exact H
    · unfold sbt at H; rw [if_pos q] at H; rw [e5, nI_1]; exact H
  refine st 4 0 0 (by decide) (st 3 1 _ (by decide) (st 2 2 _ (by decide) (st 1 3 _ (by decide) ?_)))
  simp only [wl_X12_beside_4]
  exact ⟨fun _ => by rw [nbs c hc]; exact K, fun q => absurd (by decide) q⟩
theorem zadd (p : Nat) : (0 : Int32) + nI p = nI p := by rw [show (0 : Int32) = nI 0 from rfl, nI_add, Nat.zero_add]
/-- a PERSON at c may walk to x -/
def canW (a : Nat → Int32) (p : Nat) (x : Int32) : Prop := ∃ c d, a (10 + 6 * p) = nI c ∧ c < 30 ∧ d < 30 ∧ x = nI d ∧ hb (opn a) d = true ∧ hb (bes (bt1 c)) d = true
theorem canWX {b : Nat} {a : Nat → Int32} {u : PoS} (h : Liv (u.1 (3 + b)) a) {p : Nat} (hp : p < nN (a 0)) {x : Int32} {post : Int32 → PoS → Prop} (h1 : canW a p x → post 1 u) (h0 : ¬ canW a p x → post 0 u) : wp_X8_canWalk b (nI p) x u post := by
  obtain ⟨c, w, t, b', hc, hw, ht, hb', h5, g1, g2, -⟩ := h.per hp
  refine isOpenX (b := b) h.2.2.2.opn (fun d hd e ho => ⟨fun q => absurd q (by decide), fun _ => ?_⟩) (fun hn => ⟨fun _ => h0 ?_, fun q => absurd rfl q⟩)
  · rw [zadd, q_cl (by omega), gI_def, g2]
    refine ⟨rl_in (by omega), besX (x := bt1 c) (bt1_30 (by omega)) ?_⟩
    subst e
    cases e : hb (bes (bt1 c)) d
    · refine hasX_f hd e ⟨fun _ => h0 ?_, fun q => absurd rfl q⟩
      rintro ⟨c', d', k1, k2, k3, k4, k5, k6⟩
      obtain rfl : c = c' := (nI_eq (by omega) (by omega)).mp (g1.symm.trans k1)
      obtain rfl : d = d' := (nI_eq (by omega) (by omega)).mp k4
      rw [e] at k6; exact Bool.noConfusion k6
    · exact hasX_t hd e ⟨fun q => absurd q (by decide), fun _ => h1 ⟨c, d, g1, by omega, hd, rfl, ho, e⟩⟩
  · rintro ⟨c', d', k1, k2, k3, k4, k5, k6⟩
    rw [hn d' k3 k4] at k5; exact Bool.noConfusion k5
theorem canWM {ρ : Nat → Int32} {u : PoS} (h : Liv ρ (u.1 49)) {y x : Int32} {post : Int32 → PoS → Prop} (h1 : ∀ p, p < nN (u.1 49 0) → y = nI p → canW (u.1 49) p x → post 1 u) (h0 : (∀ p, p < nN (u.1 49 0) → y = nI p → ¬ canW (u.1 49) p x) → post 0 u) : wp_X12_canWalk y x u post := by
  obtain ⟨n, hn, e1, e2, e3⟩ := h.ppl
  unfold wp_X12_canWalk wp_X12_isPerson
  rw [gI_def, e1]
  refine inM1 (by omega) (fun p hp e => ⟨Or.inr rfl, fun q => absurd q (by decide), fun _ => ?_⟩) (fun q => ⟨Or.inl rfl, fun _ => h0 (fun p hp e => ?_), fun q => absurd rfl q⟩)
  · subst e
    obtain ⟨c, w, t, b', hc, hw, ht, hb', h5, g1, g2, -⟩ := h.per (show p < nN (u.1 49 0) by omega)
    refine isFreeM (r := ρ) (fun d hd e ho => ⟨fun q => absurd q (by decide), fun _ => getM (o := 0) h5 (by decide) ?_⟩) (fun hn => ⟨fun _ => h0 ?_, fun q => absurd rfl q⟩)
    · rw [Nat.add_zero, g1]
      refine besM1 (by omega) ?_
      subst e
      cases e : hb (bes (bt1 c)) d
      · refine hasM_f (by omega) e ⟨fun _ => h0 ?_, fun q => absurd rfl q⟩
        rintro p' hp' ep ⟨c', d', k1, k2, k3, k4, k5, k6⟩
        obtain rfl : p = p' := (nI_eq (by omega) (by omega)).mp ep
        obtain rfl : c = c' := (nI_eq (by omega) (by omega)).mp (g1.symm.trans k1)
        obtain rfl : d = d' := (nI_eq (by omega) (by omega)).mp k4
        rw [e] at k6; exact Bool.noConfusion k6
      · exact hasM_t (by omega) e ⟨fun q => absurd q (by decide), fun _ => h1 p (by omega) rfl ⟨c, d, g1, by omega, hd, rfl, ho, e⟩⟩
    · rintro p' hp' ep ⟨c', d', k1, k2, k3, k4, k5, k6⟩
      rw [hn d' k3 k4] at k5; exact Bool.noConfusion k5
  · rw [e] at q
    rcases q with q | q
    · exact absurd q (nI_pos (by omega))
    · rw [q_le (by omega) (by omega)] at q; omega
theorem RowOk.st {r a : Nat → Int32} (h : RowOk r a) : ∃ s, s ≤ 30 ∧ a 3 = nI s := h.2.1.2.2.2.1
theorem RowOk.boo {r a : Nat → Int32} (h : RowOk r a) : r 53 = a 9 ∧ Boo r a := ⟨h.1.2.2.2.2.2.2.2.2.2, h.2.2.2.2.2.2.2.1⟩
theorem no_per {a : Nat → Int32} {ρ : Nat → Int32} (h : Liv ρ a) {x : Int32} (hx : x < 0 ∨ nI (nN (a 0)) ≤ x) : ∀ p, p < nN (a 0) → ¬ x = nI p := fun p hp e => by
  obtain ⟨n, hn, e1, e2, e3⟩ := h.ppl
  rw [e] at hx
  rcases hx with q | q
  · exact absurd q (nI_pos (by omega))
  · rw [q_le (by omega) (by omega)] at q; omega
theorem kp_lo {r a : Nat → Int32} (h : RowOk r a) {i : Nat} (hi : i < 193) (h3 : i ≠ 3) : keepA a i = a i := by
  obtain ⟨s, hs, es⟩ := h.st
  exact kp_out hs es (by omega) h3
theorem inv_live {LT : Nat → PoS → Prop} (hLT : LTok LT) {u z : PoS} (hI : Inv LT u) {ρ α : Nat → Int32} (hz : ∀ j, j ≠ 3 → j ≠ 49 → j ≠ 48 → j < 53 → z.1 j = u.1 j) (h48 : ∀ k, k = 4 ∨ k = 5 ∨ k = 6 ∨ k = 24 → z.1 48 k = u.1 48 k) (e3 : z.1 3 = ρ) (e49 : z.1 49 = α) (h1 : α 1 = u.1 49 1) (hR : RowOk ρ α) : Inv LT z :=
  inv_row hLT hI (by rw [e3, e49]; exact hR) (by rw [e49]; exact h1) (fun j hj => hz j (by omega) (by omega) (by omega) (by omega)) h48
theorem live_per {r a : Nat → Int32} (h : Liv r a) {p k : Nat} (hp : p < nN (a 0)) (hk : k < 4) {v : Int32} {m : Nat} (hm : m = if k = 0 then 29 else if k = 1 then 1 else if k = 2 then 99 else 999) (hv : Sm m v) : Liv (up r (5 * k + p) v) (up a (10 + 6 * p + k) v) := by
  obtain ⟨n, hn, e1, e2, e3⟩ := h.ppl
  obtain ⟨⟨l0, l2, l6, l7, l8⟩, ⟨m0, m1, m2, m6, m7, m8, m9⟩, l3, l4⟩ := h
  have hp5 : p < 5 := by omega
  refine ⟨⟨by simp (disch := omega) only [gI_def, pI_s, pI_o, cI_s, cI_o, pL_1, pR_1, up_eq, up_ne]; exact l0, by simp (disch := omega) only [gI_def, pI_s, pI_o, cI_s, cI_o, pL_1, pR_1, up_eq, up_ne]; exact l2, by simp (disch := omega) only [gI_def, pI_s, pI_o, cI_s, cI_o, pL_1, pR_1, up_eq, up_ne]; exact l6, by simp (disch := omega) only [gI_def, pI_s, pI_o, cI_s, cI_o, pL_1, pR_1, up_eq, up_ne]; exact l7, by simp (disch := omega) only [gI_def, pI_s, pI_o, cI_s, cI_o, pL_1, pR_1, up_eq, up_ne]; exact l8⟩, ⟨by simp (disch := omega) only [gI_def, pI_s, pI_o, cI_s, cI_o, pL_1, pR_1, up_eq, up_ne]; exact m0, by simp (disch := omega) only [gI_def, pI_s, pI_o, cI_s, cI_o, pL_1, pR_1, up_eq, up_ne]; exact m1, by simp (disch := omega) only [gI_def, pI_s, pI_o, cI_s, cI_o, pL_1, pR_1, up_eq, up_ne]; exact m2, by simp (disch := omega) only [gI_def, pI_s, pI_o, cI_s, cI_o, pL_1, pR_1, up_eq, up_ne]; exact m6, by simp (disch := omega) only [gI_def, pI_s, pI_o, cI_s, cI_o, pL_1, pR_1, up_eq, up_ne]; exact m7, by simp (disch := omega) only [gI_def, pI_s, pI_o, cI_s, cI_o, pL_1, pR_1, up_eq, up_ne]; exact m8, by simp (disch := omega) only [gI_def, pI_s, pI_o, cI_s, cI_o, pL_1, pR_1, up_eq, up_ne]; exact m9⟩, fun q h5 hq => ?_, ?_⟩
  · simp (disch := omega) only [gI_def, pI_s, pI_o, cI_s, cI_o, pL_1, pR_1, up_eq, up_ne] at hq
    have old := l3 q h5 hq
    rcases (show k = 0 ∨ k = 1 ∨ k = 2 ∨ k = 3 by omega) with rfl | rfl | rfl | rfl
    · by_cases e : q = p
      · subst e
        rw [show 5 * 0 + q = q by omega, Nat.add_zero]
        simp (disch := omega) only [gI_def, pI_s, pI_o, cI_s, cI_o, pL_1, pR_1, up_eq, up_ne]
        rw [if_pos rfl] at hm; subst hm
        exact ⟨⟨trivial, old.1.2⟩, hv, old.2.2⟩
      · simp (disch := omega) only [gI_def, pI_s, pI_o, cI_s, cI_o, pL_1, pR_1, up_eq, up_ne]; exact old
    · by_cases e : q = p
      · subst e
        rw [show 5 * 1 + q = 5 + q by omega, show 10 + 6 * q + 1 = 11 + 6 * q by omega]
        simp (disch := omega) only [gI_def, pI_s, pI_o, cI_s, cI_o, pL_1, pR_1, up_eq, up_ne]
        rw [if_neg (by omega), if_pos rfl] at hm; subst hm
        exact ⟨⟨old.1.1, trivial, old.1.2.2⟩, old.2.1, hv, old.2.2.2⟩
      · simp (disch := omega) only [gI_def, pI_s, pI_o, cI_s, cI_o, pL_1, pR_1, up_eq, up_ne]; exact old
    · by_cases e : q = p
      · subst e
        rw [show 5 * 2 + q = 10 + q by omega, show 10 + 6 * q + 2 = 12 + 6 * q by omega]
        simp (disch := omega) only [gI_def, pI_s, pI_o, cI_s, cI_o, pL_1, pR_1, up_eq, up_ne]
        rw [if_neg (by omega), if_neg (by omega), if_pos rfl] at hm; subst hm
        exact ⟨⟨old.1.1, old.1.2.1, trivial, old.1.2.2.2⟩, old.2.1, old.2.2.1, hv, old.2.2.2.2⟩
      · simp (disch := omega) only [gI_def, pI_s, pI_o, cI_s, cI_o, pL_1, pR_1, up_eq, up_ne]; exact old
    · by_cases e : q = p
      · subst e
        rw [show 5 * 3 + q = 15 + q by omega, show 10 + 6 * q + 3 = 13 + 6 * q by omega]
        simp (disch := omega) only [gI_def, pI_s, pI_o, cI_s, cI_o, pL_1, pR_1, up_eq, up_ne]
        rw [if_neg (by omega), if_neg (by omega), if_neg (by omega)] at hm; subst hm
        exact ⟨⟨old.1.1, old.1.2.1, old.1.2.2.1, trivial⟩, old.2.1, old.2.2.1, old.2.2.2.1, hv, old.2.2.2.2.2⟩
      · simp (disch := omega) only [gI_def, pI_s, pI_o, cI_s, cI_o, pL_1, pR_1, up_eq, up_ne]; exact old
  · exact l4.congr (fun i _ _ => by simp (disch := omega) only [gI_def, pI_s, pI_o, cI_s, cI_o, pL_1, pR_1, up_eq, up_ne]) (by simp (disch := omega) only [gI_def, pI_s, pI_o, cI_s, cI_o, pL_1, pR_1, up_eq, up_ne]) (fun i _ _ => by simp (disch := omega) only [gI_def, pI_s, pI_o, cI_s, cI_o, pL_1, pR_1, up_eq, up_ne]) (fun i _ _ => by simp (disch := omega) only [gI_def, pI_s, pI_o, cI_s, cI_o, pL_1, pR_1, up_eq, up_ne])
theorem row_per {r a : Nat → Int32} (h : RowOk r a) (hF : Fresh a) {p k : Nat} (hp : p < nN (a 0)) (hk : k < 4) {v : Int32} {m : Nat} (hm : m = if k = 0 then 29 else if k = 1 then 1 else if k = 2 then 99 else 999) (hv : Sm m v) : RowOk (up r (5 * k + p) v) (up a (10 + 6 * p + k) v) ∧ Fresh (up a (10 + 6 * p + k) v) := by
  obtain ⟨n, hn, e1, e2, e3⟩ := h.liv.ppl
  exact row_live h hF (fun i hi => by simp (disch := omega) only [gI_def, pI_s, pI_o, cI_s, cI_o, pL_1, pR_1, up_eq, up_ne]) (fun i hi => by simp (disch := omega) only [gI_def, pI_s, pI_o, cI_s, cI_o, pL_1, pR_1, up_eq, up_ne]) (live_per h.liv hp hk hm hv) (by simp (disch := omega) only [gI_def, pI_s, pI_o, cI_s, cI_o, pL_1, pR_1, up_eq, up_ne]; exact h.boo.1) (h.boo.2.congr (fun i _ _ => by simp (disch := omega) only [gI_def, pI_s, pI_o, cI_s, cI_o, pL_1, pR_1, up_eq, up_ne]) (by simp (disch := omega) only [gI_def, pI_s, pI_o, cI_s, cI_o, pL_1, pR_1, up_eq, up_ne]) (fun i _ _ => by simp (disch := omega) only [gI_def, pI_s, pI_o, cI_s, cI_o, pL_1, pR_1, up_eq, up_ne]))
theorem ob_walk {LT : Nat → PoS → Prop} (hLT : LTok LT) (y x : Int32) : Ob32 (wp_X11_walk y x) (wp_X12_walk y x) (Inv LT) := by
  intro u hI
  have hR := hI.1
  have hL := hR.liv
  obtain ⟨n, hn, e1, e2, e3⟩ := hL.ppl
  obtain ⟨s, hs, es⟩ := hR.st
  by_cases ok : ∃ p, p < nN (u.1 49 0) ∧ y = nI p ∧ canW (u.1 49) p x
  · obtain ⟨p, hp, rfl, hc⟩ := ok
    obtain ⟨hK1, hK2⟩ := row_keep hR
    have hp' : p < nN (keepA (u.1 49) 0) := by rw [kp_lo hR (by decide) (by decide)]; exact hp
    obtain ⟨c, d, -, -, hd, rfl, -, -⟩ := id hc
    have hfin := row_per hK1 hK2 (k := 0) (m := 29) hp' (by decide) rfl ⟨d, by omega, rfl⟩
    rw [show 5 * 0 + p = p by omega, Nat.add_zero] at hfin
    refine ⟨fun r u1 => r = 1 ∧ (∀ j, j ≠ 3 → u1.1 j = u.1 j) ∧ u1.1 3 = up (remR (u.1 3) (nN (u.1 3 184)) (nN (u.1 49 3))) p (nI d), fun K hK => ?_, fun r u1 hr K hK => ?_⟩
    · refine perX hR (fun p' hp' e => ⟨fun q => absurd q (by decide), fun _ => ?_⟩) (fun q => absurd rfl (no_per hL q p hp))
      refine canWX (b := 0) hL hp (fun _ => ⟨fun _ => remX hR (fun z h1 h2 => ?_), fun q => absurd q (by decide)⟩) (fun q => absurd hc q)
      rw [zadd, q_vp (by omega) (by omega), q_cl (by omega)]
      refine ⟨by omega, fun z7 e7 => hK _ _ ⟨rfl, fun j hj => ?_, ?_⟩⟩
      · rw [e7]; simp (disch := omega) only [gI_def, pI_s, pI_o, cI_s, cI_o, pL_1, pR_1]; exact h1 j hj
      · rw [e7]; simp (disch := omega) only [gI_def, pI_s, pI_o, cI_s, cI_o, pL_1, pR_1]; rw [h2]
    · obtain ⟨rfl, hx1, hx2⟩ := hr
      have e49 := hx1 49 (by decide)
      refine canWM (ρ := u.1 3) (by rw [e49]; exact hL) (fun p' hp' e _ => ⟨fun _ => keepM hs (by rw [e49]; exact es) (fun z f g => putM (o := 0) (by omega) (by decide) (hK _ ?_)), fun q => absurd q (by decide)⟩) (fun q => absurd hc (by rw [e49] at q; exact q p hp rfl))
      refine inv_live hLT hI (fun j h3 h49 _ _ => ?_) (fun k _ => ?_) (ρ := up (remR (u.1 3) (nN (u.1 3 184)) (nN (u.1 49 3))) p (nI d)) (α := up (keepA (u.1 49)) (10 + 6 * p) (nI d)) ?_ ?_ ?_ hfin.1
      · simp (disch := omega) only [gI_def, pI_s, pI_o, cI_s, cI_o, pL_1, pR_1]; rw [f j h49, hx1 j h3]
      · simp (disch := omega) only [gI_def, pI_s, pI_o, cI_s, cI_o, pL_1, pR_1]; rw [f 48 (by decide), hx1 48 (by decide)]
      · simp (disch := omega) only [gI_def, pI_s, pI_o, cI_s, cI_o, pL_1, pR_1]; rw [f 3 (by decide), hx2]
      · simp (disch := omega) only [gI_def, pI_s, pI_o, cI_s, cI_o, pL_1, pR_1]; rw [g, e49, Nat.add_zero]
      · simp (disch := omega) only [gI_def, pI_s, pI_o, cI_s, cI_o, pL_1, pR_1, up_eq, up_ne]; exact kp_lo hR (by decide) (by decide)
  · refine ⟨fun r u1 => r = 0 ∧ u1 = u, fun K hK => ?_, fun r u1 hr K hK => ?_⟩
    · exact perX hR (fun p hp e => ⟨fun q => absurd q (by decide), fun _ => by subst e; exact canWX (b := 0) hL hp (fun q => absurd ⟨p, hp, rfl, q⟩ ok) (fun _ => ⟨fun q => absurd rfl q, fun _ => hK _ _ ⟨rfl, rfl⟩⟩)⟩) (fun _ => ⟨fun _ => hK _ _ ⟨rfl, rfl⟩, fun q => absurd rfl q⟩)
    · obtain ⟨rfl, rfl⟩ := hr
      exact canWM hL (fun p hp e q => absurd ⟨p, hp, e, q⟩ ok) (fun _ => ⟨fun q => absurd rfl q, fun _ => hK _ hI⟩)
theorem ob_hat {LT : Nat → PoS → Prop} (hLT : LTok LT) (y x : Int32) (hx : IsB x) : Ob32 (wp_X11_hat y x) (wp_X12_hat y x) (Inv LT) := by
  intro u hI
  have hR := hI.1
  have hL := hR.liv
  obtain ⟨n, hn, e1, e2, e3⟩ := hL.ppl
  obtain ⟨s, hs, es⟩ := hR.st
  have hx1 : Sm 1 x := by
    rcases hx with q | q
    · exact ⟨0, by decide, q⟩
    · exact ⟨1, by decide, q⟩
  have xin : ∀ K : Int32 → PoS → Prop, wj_X11_hat_9 K y x u → wp_X11_hat y x u K := by
    intro K h
    refine ⟨fun q => ?_, fun q => ?_⟩
    · rw [q] at h; exact h
    · rw [hx.resolve_left q] at h; exact h
  by_cases hp : ∃ p, p < nN (u.1 49 0) ∧ y = nI p
  · obtain ⟨p, hp, rfl⟩ := hp
    obtain ⟨c, w, t, b', hc, hw, ht, hb', h5, g1, g2, g3, g4, -⟩ := hL.per hp
    by_cases ok : nI w = x
    · refine ⟨fun r u1 => r = 0 ∧ u1 = u, fun K hK => xin K ?_, fun r u1 hr K hK => ?_⟩
      · refine perX hR (fun p' hp' e => ⟨fun q => absurd q (by decide), fun _ => ?_⟩) (fun q => absurd rfl (no_per hL q p hp))
        rw [show (5 : Int32) + nI p = nI (5 + p) by simp (disch := omega) only [q_lit, nI_add, pk_mul, q_sub, q_rem, q_div, q_vp, q_cl, q_lt, q_le, q_eq, q_neg1, gI_def], q_vp (by omega) (by omega), q_cl (by omega), gI_def, g4]
        exact ⟨by omega, fun q => absurd ok q, fun _ => hK _ _ ⟨rfl, rfl⟩⟩
      · obtain ⟨rfl, rfl⟩ := hr
        refine perM hR (fun p' hp' e => ⟨fun q => absurd q (by decide), fun _ => getM (o := 1) h5 (by decide) ?_⟩) (fun q => absurd rfl (no_per hL q p hp))
        rw [show 10 + 6 * p + 1 = 11 + 6 * p by omega, g3]
        rcases (show w = 0 ∨ w = 1 by omega) with rfl | rfl
        · exact ⟨fun _ => ⟨fun q => absurd ok q, fun _ => hK _ hI⟩, fun q => absurd q (by decide)⟩
        · exact ⟨fun q => absurd rfl q, fun _ => ⟨fun q => absurd ok q, fun _ => hK _ hI⟩⟩
    · obtain ⟨hK1, hK2⟩ := row_keep hR
      have hp' : p < nN (keepA (u.1 49) 0) := by rw [kp_lo hR (by decide) (by decide)]; exact hp
      have hfin := row_per hK1 hK2 (k := 1) hp' (by decide) rfl hx1
      rw [show 5 * 1 + p = 5 + p by omega, show 10 + 6 * p + 1 = 11 + 6 * p by omega] at hfin
      refine ⟨fun r u1 => r = 1 ∧ (∀ j, j ≠ 3 → u1.1 j = u.1 j) ∧ u1.1 3 = up (remR (u.1 3) (nN (u.1 3 184)) (nN (u.1 49 3))) (5 + p) x, fun K hK => xin K ?_, fun r u1 hr K hK => ?_⟩
      · refine perX hR (fun p' hp' e => ⟨fun q => absurd q (by decide), fun _ => ?_⟩) (fun q => absurd rfl (no_per hL q p hp))
        rw [show (5 : Int32) + nI p = nI (5 + p) by simp (disch := omega) only [q_lit, nI_add, pk_mul, q_sub, q_rem, q_div, q_vp, q_cl, q_lt, q_le, q_eq, q_neg1, gI_def], q_vp (by omega) (by omega), q_cl (by omega), gI_def, g4]
        refine ⟨by omega, fun _ => remX hR (fun z h1 h2 => ⟨by omega, fun z5 e5 => hK _ _ ⟨rfl, fun j hj => ?_, ?_⟩⟩), fun q => absurd q ok⟩
        · rw [e5]; simp (disch := omega) only [gI_def, pI_s, pI_o, cI_s, cI_o, pL_1, pR_1]; exact h1 j hj
        · rw [e5]; simp (disch := omega) only [gI_def, pI_s, pI_o, cI_s, cI_o, pL_1, pR_1]; rw [h2]
      · obtain ⟨rfl, hx1', hx2⟩ := hr
        have e49 := hx1' 49 (by decide)
        have hR' : RowOk (u.1 3) (u1.1 49) := by rw [e49]; exact hR
        have fin : ∀ z, FrA u1 z → z.1 49 = keepA (u1.1 49) → wj_X12_hat_45 K x 1 (nI p) z := by
          intro z f g
          refine putM (o := 1) h5 (by decide) (hK _ ?_)
          refine inv_live hLT hI (fun j h3 h49 _ _ => ?_) (fun k _ => ?_) (ρ := up (remR (u.1 3) (nN (u.1 3 184)) (nN (u.1 49 3))) (5 + p) x) (α := up (keepA (u.1 49)) (11 + 6 * p) x) ?_ ?_ ?_ hfin.1
          · simp (disch := omega) only [gI_def, pI_s, pI_o, cI_s, cI_o, pL_1, pR_1]; rw [f j h49, hx1' j h3]
          · simp (disch := omega) only [gI_def, pI_s, pI_o, cI_s, cI_o, pL_1, pR_1]; rw [f 48 (by decide), hx1' 48 (by decide)]
          · simp (disch := omega) only [gI_def, pI_s, pI_o, cI_s, cI_o, pL_1, pR_1]; rw [f 3 (by decide), hx2]
          · simp (disch := omega) only [gI_def, pI_s, pI_o, cI_s, cI_o, pL_1, pR_1]; rw [g, e49, show 10 + 6 * p + 1 = 11 + 6 * p by omega]
          · simp (disch := omega) only [gI_def, pI_s, pI_o, cI_s, cI_o, pL_1, pR_1, up_eq, up_ne]; exact kp_lo hR (by decide) (by decide)
        have fin2 : ∀ v : Int32, v = nI w → wj_X12_hat_23 K (nI p) x v u1 := by
          intro v hv
          refine ⟨fun _ => keepM hs (by rw [e49]; exact es) (fun z f g => ⟨fun q => ?_, fun q => ?_⟩), fun q => absurd (hv.symm.trans q) ok⟩
          · have := fin z f g; rw [q] at this; exact this
          · have := fin z f g; rw [hx.resolve_left q] at this; exact this
        refine perM hR' (fun p' hp' e => ⟨fun q => absurd q (by decide), fun _ => getM (o := 1) h5 (by decide) ?_⟩) (fun q => absurd rfl (no_per (ρ := u.1 3) (by rw [e49]; exact hL) q p (by rw [e49]; exact hp)))
        rw [show 10 + 6 * p + 1 = 11 + 6 * p by omega, e49, g3]
        rcases (show w = 0 ∨ w = 1 by omega) with rfl | rfl
        · exact ⟨fun _ => fin2 0 rfl, fun q => absurd q (by decide)⟩
        · exact ⟨fun q => absurd rfl q, fun _ => fin2 1 rfl⟩
  · refine ⟨fun r u1 => r = 0 ∧ u1 = u, fun K hK => xin K ?_, fun r u1 hr K hK => ?_⟩
    · exact perX hR (fun p hp' e => absurd ⟨p, hp', e⟩ hp) (fun _ => ⟨fun _ => hK _ _ ⟨rfl, rfl⟩, fun q => absurd rfl q⟩)
    · obtain ⟨rfl, rfl⟩ := hr
      exact perM hR (fun p hp' e => absurd ⟨p, hp', e⟩ hp) (fun _ => ⟨fun _ => hK _ hI, fun q => absurd rfl q⟩)
