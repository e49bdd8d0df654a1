/-! A STEP is kept: remember, keep -/
theorem Snap.move {r a r' a' : Nat → Int32} {o x o' x' : Nat} (h : Snap r a o x) (h0 : nN (a 0) ≤ nN (a' 0)) (hr : ∀ i, i < 85 → r' (o' + i) = r (o + i)) (ha : ∀ i, i < 115 → a' (x' + i) = a (x + i)) : Snap r' a' o' x' := by
  obtain ⟨⟨e1, e2, e3, e4, e5⟩, ⟨b1, b2, b3, b4, b5, b6⟩, hp, hc, hk⟩ := h
  have ax : a' x' = a x := ha 0 (by omega)
  refine ⟨⟨?_, ?_, ?_, ?_, ?_⟩, ⟨?_, ?_, ?_, ?_, ?_, ?_⟩, fun p h5 hn => ?_, fun c h30 => ?_, fun k h30 hn => ?_⟩
  · rw [hr 84 (by omega), ax]; exact e1
  · rw [hr 51 (by omega), ha 1 (by omega)]; exact e2
  · rw [hr 50 (by omega), ha 2 (by omega)]; exact e3
  · rw [hr 52 (by omega), ha 3 (by omega)]; exact e4
  · rw [hr 53 (by omega), ha 4 (by omega)]; exact e5
  · rw [ax]; exact b1
  · rw [ax]; omega
  · rw [ha 1 (by omega)]; exact b3
  · rw [ha 2 (by omega)]; exact b4
  · rw [ha 3 (by omega)]; exact b5
  · rw [ha 4 (by omega)]; exact b6
  · rw [ax] at hn
    have := hp p h5 hn
    rw [hr p (by omega), hr (5 + p) (by omega), hr (10 + p) (by omega), hr (15 + p) (by omega), show x' + 5 + 4 * p = x' + (5 + 4 * p) by omega, show x' + 6 + 4 * p = x' + (6 + 4 * p) by omega, show x' + 7 + 4 * p = x' + (7 + 4 * p) by omega, show x' + 8 + 4 * p = x' + (8 + 4 * p) by omega, ha (5 + 4 * p) (by omega), ha (6 + 4 * p) (by omega), ha (7 + 4 * p) (by omega), ha (8 + 4 * p) (by omega)]
    rw [show x + 5 + 4 * p = x + (5 + 4 * p) by omega, show x + 6 + 4 * p = x + (6 + 4 * p) by omega, show x + 7 + 4 * p = x + (7 + 4 * p) by omega, show x + 8 + 4 * p = x + (8 + 4 * p) by omega] at this
    exact this
  · have := hc c h30
    rw [hr (20 + c) (by omega), show x' + 25 + c = x' + (25 + c) by omega, ha (25 + c) (by omega)]
    rw [show x + 25 + c = x + (25 + c) by omega] at this
    exact this
  · rw [ha 4 (by omega)] at hn
    have := hk k h30 hn
    rw [hr (54 + k) (by omega), show x' + 55 + 2 * k = x' + (55 + 2 * k) by omega, show x' + 56 + 2 * k = x' + (56 + 2 * k) by omega, ha (55 + 2 * k) (by omega), ha (56 + 2 * k) (by omega)]
    rw [show x + 55 + 2 * k = x + (55 + 2 * k) by omega, show x + 56 + 2 * k = x + (56 + 2 * k) by omega] at this
    exact this
def k0 (a : Nat → Int32) : Nat → Int32 := if a 3 = 30 then up (va_cpy a a 308 193 3335) 3 29 else a
def kx (a : Nat → Int32) : Nat := 193 + 115 * nN (k0 a 3)
def k1 (a : Nat → Int32) : Nat → Int32 := up (k0 a) (kx a) (k0 a 0)
def k2 (a : Nat → Int32) : Nat → Int32 := va_cpy (k1 a) (k1 a) 6 (kx a + 1) 4
def k3 (a : Nat → Int32) : Nat → Int32 := fun i => if kx a + 5 ≤ i ∧ i < kx a + 25 then k2 a (10 + 6 * ((i - (kx a + 5)) / 4) + (i - (kx a + 5)) % 4) else k2 a i
def k4 (a : Nat → Int32) : Nat → Int32 := va_cpy (k3 a) (k3 a) 40 (kx a + 25) 30
def k5 (a : Nat → Int32) : Nat → Int32 := va_cpy (k4 a) (k4 a) 3643 (kx a + 55) 60
def keepA (a : Nat → Int32) : Nat → Int32 := up (k5 a) 3 (k5 a 3 + 1)
section KEEP
variable {a : Nat → Int32} {s : Nat}
theorem k0_eq (hs : s ≤ 30) (e : a 3 = nI s) : k0 a = if s = 30 then up (va_cpy a a 308 193 3335) 3 29 else a := by
  unfold k0
  by_cases q : s = 30
  · rw [if_pos q, if_pos (by rw [e, q]; rfl)]
  · rw [if_neg q, if_neg (by rw [e, show (30 : Int32) = nI 30 from rfl, q_eq (by omega) (by omega)]; exact q)]
theorem k0_3 (hs : s ≤ 30) (e : a 3 = nI s) : k0 a 3 = nI (if s = 30 then 29 else s) := by
  rw [k0_eq hs e]
  by_cases q : s = 30
  · rw [if_pos q, if_pos q, up_eq]; rfl
  · rw [if_neg q, if_neg q, e]
theorem kx_is (hs : s ≤ 30) (e : a 3 = nI s) : kx a = 193 + 115 * (if s = 30 then 29 else s) := by
  unfold kx
  rw [k0_3 hs e, nN_nI (by split <;> omega)]
theorem k0_out (i : Nat) (h : i < 193 ∨ 3528 ≤ i) (h3 : i ≠ 3) : k0 a i = a i := by
  unfold k0
  by_cases q : a 3 = 30
  · rw [if_pos q, up_ne h3, pk_cpy_out (by omega)]
  · rw [if_neg q]
theorem k5_of (hs : s ≤ 30) (e : a 3 = nI s) (i : Nat) : k5 a i = if kx a ≤ i ∧ i < kx a + 115 then (if i = kx a then a 0 else if i < kx a + 5 then a (6 + (i - (kx a + 1))) else if i < kx a + 25 then a (10 + 6 * ((i - (kx a + 5)) / 4) + (i - (kx a + 5)) % 4) else if i < kx a + 55 then a (40 + (i - (kx a + 25))) else a (3643 + (i - (kx a + 55)))) else k0 a i := by
  have hx := kx_is hs e
  have hx1 : 193 ≤ kx a ∧ kx a + 115 ≤ 3643 := by rw [hx]; split <;> omega
  have c1 : ∀ j, j < 193 ∨ 3643 ≤ j → j ≠ 3 → k4 a j = a j ∧ k3 a j = a j ∧ k2 a j = a j ∧ k1 a j = a j := by
    intro j hj h3
    have a1 : k1 a j = a j := by unfold k1; rw [up_ne (by omega), k0_out j (by omega) h3]
    have a2 : k2 a j = a j := by unfold k2; rw [pk_cpy_out (by omega), a1]
    have a3 : k3 a j = a j := by unfold k3; rw [if_neg (by omega), a2]
    have a4 : k4 a j = a j := by unfold k4; rw [pk_cpy_out (by omega), a3]
    exact ⟨a4, a3, a2, a1⟩
  by_cases h : kx a ≤ i ∧ i < kx a + 115
  · rw [if_pos h]
    unfold k5
    by_cases q5 : kx a + 55 ≤ i
    · rw [pk_cpy_in q5 (by omega), if_neg (by omega), if_neg (by omega), if_neg (by omega), if_neg (by omega)]
      exact (c1 _ (by omega) (by omega)).1
    rw [pk_cpy_out (by omega)]
    unfold k4
    by_cases q4 : kx a + 25 ≤ i
    · rw [pk_cpy_in q4 (by omega), if_neg (by omega), if_neg (by omega), if_neg (by omega), if_pos (by omega)]
      exact (c1 _ (by omega) (by omega)).2.1
    rw [pk_cpy_out (by omega)]
    unfold k3
    by_cases q3 : kx a + 5 ≤ i
    · rw [if_pos ⟨q3, by omega⟩, if_neg (by omega), if_neg (by omega), if_pos (by omega)]
      exact (c1 _ (by omega) (by omega)).2.2.1
    rw [if_neg (by omega)]
    unfold k2
    by_cases q2 : kx a + 1 ≤ i
    · rw [pk_cpy_in q2 (by omega), if_neg (by omega), if_pos (by omega)]
      exact (c1 _ (by omega) (by omega)).2.2.2
    rw [pk_cpy_out (by omega)]
    unfold k1
    rw [if_pos (by omega), show i = kx a by omega, up_eq]
    exact k0_out 0 (by omega) (by omega)
  · rw [if_neg h]
    unfold k5 k4 k3 k2 k1
    rw [pk_cpy_out (by omega), pk_cpy_out (by omega), if_neg (by omega), pk_cpy_out (by omega), up_ne (by omega)]
theorem kp_3 (hs : s ≤ 30) (e : a 3 = nI s) : keepA a 3 = nI (if s = 30 then 30 else s + 1) := by
  unfold keepA
  have hx := kx_is hs e
  have : 193 ≤ kx a := by rw [hx]; omega
  rw [up_eq, k5_of hs e, if_neg (by omega), k0_3 hs e, nI_1]
  by_cases q : s = 30
  · rw [if_pos q, if_pos q]
  · rw [if_neg q, if_neg q]
theorem kp_out (hs : s ≤ 30) (e : a 3 = nI s) {i : Nat} (h : i < 193 ∨ 3643 ≤ i) (h3 : i ≠ 3) : keepA a i = a i := by
  unfold keepA
  have hx := kx_is hs e
  have : 193 ≤ kx a ∧ kx a + 115 ≤ 3643 := by rw [hx]; split <;> omega
  rw [up_ne h3, k5_of hs e, if_neg (by omega), k0_out i (by omega) h3]
theorem kp_old (hs : s ≤ 30) (e : a 3 = nI s) {j m : Nat} (hj : j < (if s = 30 then 29 else s)) (hm : m < 115) : keepA a (193 + 115 * j + m) = a (193 + 115 * (if s = 30 then j + 1 else j) + m) := by
  unfold keepA
  have hx := kx_is hs e
  have hlt : 193 + 115 * j + m < kx a := by rw [hx]; omega
  rw [up_ne (by omega), k5_of hs e, if_neg (by omega)]
  rw [k0_eq hs e]
  by_cases q : s = 30
  · rw [if_pos q] at hj
    rw [if_pos q, if_pos q, up_ne (by omega), pk_cpy_in (by omega) (by omega), show 308 + (193 + 115 * j + m - 193) = 193 + 115 * (j + 1) + m by omega]
  · rw [if_neg q, if_neg q]
theorem kp_new (hs : s ≤ 30) (e : a 3 = nI s) {m : Nat} (hm : m < 115) : keepA a (193 + 115 * (if s = 30 then 29 else s) + m) = (if m = 0 then a 0 else if m < 5 then a (6 + (m - 1)) else if m < 25 then a (10 + 6 * ((m - 5) / 4) + (m - 5) % 4) else if m < 55 then a (40 + (m - 25)) else a (3643 + (m - 55))) := by
  have hx := kx_is hs e
  rw [← hx]
  have h193 : 193 ≤ kx a := by rw [hx]; omega
  unfold keepA
  rw [up_ne (by omega), k5_of hs e, if_pos (by omega)]
  by_cases q0 : m = 0
  · rw [if_pos q0, if_pos (by omega)]
  rw [if_neg q0, if_neg (by omega)]
  by_cases q1 : m < 5
  · rw [if_pos q1, if_pos (by omega), show kx a + m - (kx a + 1) = m - 1 by omega]
  rw [if_neg q1, if_neg (by omega)]
  by_cases q2 : m < 25
  · rw [if_pos q2, if_pos (by omega), show kx a + m - (kx a + 5) = m - 5 by omega]
  rw [if_neg q2, if_neg (by omega)]
  by_cases q3 : m < 55
  · rw [if_pos q3, if_pos (by omega), show kx a + m - (kx a + 25) = m - 25 by omega]
  rw [if_neg q3, if_neg (by omega), show kx a + m - (kx a + 55) = m - 55 by omega]
end KEEP
/-- the last that was kept has all PEOPLE: nobody was told since -/
def Fresh (a : Nat → Int32) : Prop := ∃ s, s < 30 ∧ nN (a 3) = s + 1 ∧ nN (a (193 + 115 * s)) = nN (a 0)
def remR (ρ : Nat → Int32) (e d : Nat) : Nat → Int32 := if d = 30 then up (va_cpy ρ ρ 0 (185 + 85 * ((e + d) % 30)) 85) 184 (nI ((e + 1) % 30)) else up (va_cpy ρ ρ 0 (185 + 85 * ((e + d) % 30)) 85) 183 (nI (d + 1))
theorem remX {a : Nat → Int32} {u : PoS} (h : RowOk (u.1 3) a) {post : PoS → Prop} (K : ∀ z : PoS, (∀ j, j ≠ 3 → z.1 j = u.1 j) → z.1 3 = remR (u.1 3) (nN (u.1 3 184)) (nN (a 3)) → post z) : wp_X11_remember u post := by
  obtain ⟨s, hs, es⟩ := h.2.1.2.2.2.1
  obtain ⟨d, hd, ed⟩ := h.2.1.2.2.2.2.2.2.2.2.2.2
  have es' : u.1 3 183 = nI s := by rw [h.1.2.2.2.1, es]
  rw [es, nN_nI (by omega), ed, nN_nI (by omega)] at K
  intro x1 ex
  have ex1 : x1 = nI ((d + s) % 30) := by rw [ex, gI_def, gI_def, ed, es']; simp (disch := omega) only [q_lit, nI_add, pk_mul, q_sub, q_rem, q_div, q_vp, q_cl, q_lt, q_le, q_eq, q_neg1, gI_def]
  subst ex1
  have ex2 : (185 : Int32) + nI ((d + s) % 30) * 85 = nI (185 + 85 * ((d + s) % 30)) := by simp (disch := omega) only [q_lit, nI_add, pk_mul, q_sub, q_rem, q_div, q_vp, q_cl, q_lt, q_le, q_eq, q_neg1, gI_def]; congr 1; omega
  rw [ex2, q_cl (by omega), show Int32.toNatClampNeg 0 = 0 from rfl, show Int32.toNatClampNeg 85 = 85 from rfl]
  refine ⟨⟨by decide, nI_pos (by omega), by decide, by omega, by omega⟩, fun z2 e2 => ?_⟩
  subst e2
  have g183 : gI (cI u 3 3 0 (185 + 85 * ((d + s) % 30)) 85) 3 183 = nI s := by simp (disch := omega) only [gI_def, pI_s, pI_o, cI_s, cI_o, pL_1, pR_1]; rw [pk_cpy_out (by omega), es']
  have g184 : gI (cI u 3 3 0 (185 + 85 * ((d + s) % 30)) 85) 3 184 = nI d := by simp (disch := omega) only [gI_def, pI_s, pI_o, cI_s, cI_o, pL_1, pR_1]; rw [pk_cpy_out (by omega), ed]
  rw [g183, g184, show (30 : Int32) = nI 30 from rfl, q_le (by omega) (by omega)]
  refine ⟨fun q z3 e3 => K z3 (fun j hj => by subst e3; simp (disch := omega) only [gI_def, pI_s, pI_o, cI_s, cI_o, pL_1, pR_1]) ?_, fun q z4 e4 => K z4 (fun j hj => by subst e4; simp (disch := omega) only [gI_def, pI_s, pI_o, cI_s, cI_o, pL_1, pR_1]) ?_⟩
  · subst e3; unfold remR; rw [if_pos (by omega)]; simp (disch := omega) only [gI_def, pI_s, pI_o, cI_s, cI_o, pL_1, pR_1]; congr 1; simp (disch := omega) only [q_lit, nI_add, pk_mul, q_sub, q_rem, q_div, q_vp, q_cl, q_lt, q_le, q_eq, q_neg1, gI_def]
  · subst e4; unfold remR; rw [if_neg (by omega)]; simp (disch := omega) only [gI_def, pI_s, pI_o, cI_s, cI_o, pL_1, pR_1]; congr 1; simp (disch := omega) only [q_lit, nI_add, pk_mul, q_sub, q_rem, q_div, q_vp, q_cl, q_lt, q_le, q_eq, q_neg1, gI_def]
theorem remR_out {ρ : Nat → Int32} {e d i : Nat} (h : i < 183) : remR ρ e d i = ρ i := by
  unfold remR
  by_cases q : d = 30
  · rw [if_pos q, up_ne (by omega), pk_cpy_out (by omega)]
  · rw [if_neg q, up_ne (by omega), pk_cpy_out (by omega)]
theorem remR_183 {ρ : Nat → Int32} {e d : Nat} (hd : d ≤ 30) (h : ρ 183 = nI d) : remR ρ e d 183 = nI (if d = 30 then 30 else d + 1) := by
  unfold remR
  by_cases q : d = 30
  · rw [if_pos q, if_pos q, up_ne (by omega), pk_cpy_out (by omega), h, q]
  · rw [if_neg q, if_neg q, up_eq]
theorem remR_184 {ρ : Nat → Int32} {e d : Nat} (h : ρ 184 = nI e) : remR ρ e d 184 = nI (if d = 30 then (e + 1) % 30 else e) := by
  unfold remR
  by_cases q : d = 30
  · rw [if_pos q, if_pos q, up_eq]
  · rw [if_neg q, if_neg q, up_ne (by omega), pk_cpy_out (by omega), h]
theorem remR_new {ρ : Nat → Int32} {e d i : Nat} (hi : i < 85) : remR ρ e d (185 + 85 * ((e + d) % 30) + i) = ρ i := by
  unfold remR
  by_cases q : d = 30
  · rw [if_pos q, up_ne (by omega), pk_cpy_in (by omega) (by omega)]; congr 1; omega
  · rw [if_neg q, up_ne (by omega), pk_cpy_in (by omega) (by omega)]; congr 1; omega
theorem remR_old {ρ : Nat → Int32} {e d i k : Nat} (hk : k < 30) (hne : k ≠ (e + d) % 30) (hi : i < 85) : remR ρ e d (185 + 85 * k + i) = ρ (185 + 85 * k + i) := by
  unfold remR
  by_cases q : d = 30
  · rw [if_pos q, up_ne (by omega), pk_cpy_out (by omega)]
  · rw [if_neg q, up_ne (by omega), pk_cpy_out (by omega)]
theorem row_keep {r a : Nat → Int32} (h : RowOk r a) : RowOk (remR r (nN (r 184)) (nN (a 3))) (keepA a) ∧ Fresh (keepA a) := by
  have hL := h.liv
  obtain ⟨n, hn, p1, p2, p3⟩ := hL.ppl
  obtain ⟨h1, h2, h3, h4, h5, h6, h7, h8, h9, ⟨t1, t2, t3⟩⟩ := h
  obtain ⟨e0, e1, e2, e3, e4, e5, e6, e7, e8, e9⟩ := h1
  obtain ⟨g0, g1, g2, g3, g4, g5, g6, g7, g8, g9, g10⟩ := h2
  obtain ⟨s, hs, es⟩ := id g3
  obtain ⟨d, hd, ed⟩ := id g10
  have er : r 183 = nI s := by rw [e3, es]
  have esN : nN (a 3) = s := by rw [es, nN_nI (by omega)]
  rw [esN, ed, nN_nI (by omega)]
  have hA : ∀ i, i < 193 ∨ 3643 ≤ i → i ≠ 3 → keepA a i = a i := fun i hi h3 => kp_out hs es hi h3
  have hA3 := kp_3 hs es
  have hR : ∀ i, i < 183 → remR r d s i = r i := fun i hi => remR_out hi
  have hR3 := remR_183 (e := d) hs er
  have hR4 := remR_184 (d := s) ed
  have a0 : keepA a 0 = a 0 := hA 0 (by omega) (by omega)
  have N3 : nN (keepA a 3) = if s = 30 then 30 else s + 1 := by rw [hA3, nN_nI (by split <;> omega)]
  have N4 : nN (remR r d s 184) = if s = 30 then (d + 1) % 30 else d := by rw [hR4, nN_nI (by split <;> omega)]
  have hnew : Snap (remR r d s) (keepA a) (185 + 85 * ((d + s) % 30)) (193 + 115 * (if s = 30 then 29 else s)) := by
    have hr : ∀ i, i < 85 → remR r d s (185 + 85 * ((d + s) % 30) + i) = r i := fun i hi => remR_new hi
    have K := fun (m : Nat) (hm : m < 115) => kp_new hs es hm
    generalize hx : 193 + 115 * (if s = 30 then 29 else s) = x at K ⊢
    generalize ho : 185 + 85 * ((d + s) % 30) = o at hr ⊢
    have K0 : keepA a x = a 0 := by have := K 0 (by omega); rw [if_pos rfl] at this; exact this
    have K1 : ∀ j, 1 ≤ j → j < 5 → keepA a (x + j) = a (6 + (j - 1)) := fun j q1 q2 => by rw [K j (by omega), if_neg (by omega), if_pos q2]
    have K2 : ∀ j, 5 ≤ j → j < 25 → keepA a (x + j) = a (10 + 6 * ((j - 5) / 4) + (j - 5) % 4) := fun j q1 q2 => by rw [K j (by omega), if_neg (by omega), if_neg (by omega), if_pos q2]
    have K3 : ∀ j, 25 ≤ j → j < 55 → keepA a (x + j) = a (40 + (j - 25)) := fun j q1 q2 => by rw [K j (by omega), if_neg (by omega), if_neg (by omega), if_neg (by omega), if_pos q2]
    have K4 : ∀ j, 55 ≤ j → j < 115 → keepA a (x + j) = a (3643 + (j - 55)) := fun j q1 q2 => by rw [K j (by omega), if_neg (by omega), if_neg (by omega), if_neg (by omega), if_neg (by omega)]
    have k1' : keepA a (x + 1) = a 6 := K1 1 (by omega) (by omega)
    have k2' : keepA a (x + 2) = a 7 := K1 2 (by omega) (by omega)
    have k3' : keepA a (x + 3) = a 8 := K1 3 (by omega) (by omega)
    have k4' : keepA a (x + 4) = a 9 := K1 4 (by omega) (by omega)
    refine ⟨⟨?_, ?_, ?_, ?_, ?_⟩, ⟨?_, ?_, ?_, ?_, ?_, ?_⟩, fun p q5 hp => ?_, fun c hc => ?_, fun k hk hkn => ?_⟩
    · rw [hr 84 (by omega), K0]; exact e0
    · rw [hr 51 (by omega), k1']; exact e6
    · rw [hr 50 (by omega), k2']; exact e7
    · rw [hr 52 (by omega), k3']; exact e8
    · rw [hr 53 (by omega), k4']; exact e9
    · rw [K0]; exact g0
    · rw [K0, a0]; exact Nat.le_refl _
    · rw [k1']; exact g6
    · rw [k2']; exact g7
    · rw [k3']; exact g8
    · rw [k4']; exact g9
    · rw [K0] at hp
      have := h3 p q5 hp
      rw [hr p (by omega), hr (5 + p) (by omega), hr (10 + p) (by omega), hr (15 + p) (by omega), show x + 5 + 4 * p = x + (5 + 4 * p) by omega, show x + 6 + 4 * p = x + (6 + 4 * p) by omega, show x + 7 + 4 * p = x + (7 + 4 * p) by omega, show x + 8 + 4 * p = x + (8 + 4 * p) by omega, K2 (5 + 4 * p) (by omega) (by omega), K2 (6 + 4 * p) (by omega) (by omega), K2 (7 + 4 * p) (by omega) (by omega), K2 (8 + 4 * p) (by omega) (by omega)]
      rw [show 10 + 6 * ((5 + 4 * p - 5) / 4) + (5 + 4 * p - 5) % 4 = 10 + 6 * p by omega, show 10 + 6 * ((6 + 4 * p - 5) / 4) + (6 + 4 * p - 5) % 4 = 11 + 6 * p by omega, show 10 + 6 * ((7 + 4 * p - 5) / 4) + (7 + 4 * p - 5) % 4 = 12 + 6 * p by omega, show 10 + 6 * ((8 + 4 * p - 5) / 4) + (8 + 4 * p - 5) % 4 = 13 + 6 * p by omega]
      exact ⟨this.1, this.2.1, this.2.2.1, this.2.2.2.1, this.2.2.2.2.1⟩
    · have := h4.1 c hc
      rw [hr (20 + c) (by omega), show x + 25 + c = x + (25 + c) by omega, K3 (25 + c) (by omega) (by omega), show 40 + (25 + c - 25) = 40 + c by omega]
      exact ⟨this.1, this.2.1⟩
    · rw [k4'] at hkn
      have := h8 k hk hkn
      rw [hr (54 + k) (by omega), show x + 55 + 2 * k = x + (55 + 2 * k) by omega, show x + 56 + 2 * k = x + (56 + 2 * k) by omega, K4 (55 + 2 * k) (by omega) (by omega), K4 (56 + 2 * k) (by omega) (by omega), show 3643 + (55 + 2 * k - 55) = 3643 + 2 * k by omega, show 3643 + (56 + 2 * k - 55) = 3644 + 2 * k by omega]
      exact this
  have hnp : nN (keepA a (193 + 115 * (if s = 30 then 29 else s))) = n := by
    have := kp_new hs es (m := 0) (by omega)
    rw [if_pos rfl, Nat.add_zero] at this
    rw [this]; exact p3
  refine ⟨⟨⟨?_, ?_, ?_, ?_, ?_, ?_, ?_, ?_, ?_, ?_⟩, ⟨?_, ?_, ?_, ?_, ?_, ?_, ?_, ?_, ?_, ?_, ?_⟩, ?_, ?_, ?_, ?_, ?_, ?_, ?_, ?_⟩, ?_⟩
  · rw [hR _ (by omega), a0]; exact e0
  · rw [hR _ (by omega), hA _ (by omega) (by omega)]; exact e1
  · rw [hR _ (by omega), hA _ (by omega) (by omega)]; exact e2
  · rw [hR3, hA3]
  · rw [hR _ (by omega), hA _ (by omega) (by omega)]; exact e4
  · rw [hR _ (by omega), hA _ (by omega) (by omega)]; exact e5
  · rw [hR _ (by omega), hA _ (by omega) (by omega)]; exact e6
  · rw [hR _ (by omega), hA _ (by omega) (by omega)]; exact e7
  · rw [hR _ (by omega), hA _ (by omega) (by omega)]; exact e8
  · rw [hR _ (by omega), hA _ (by omega) (by omega)]; exact e9
  · rw [a0]; exact g0
  · rw [hA _ (by omega) (by omega)]; exact g1
  · rw [hA _ (by omega) (by omega), hA _ (by omega) (by omega)]; exact g2
  · rw [hA3]; exact ⟨_, by split <;> omega, rfl⟩
  · rw [hA _ (by omega) (by omega)]; exact g4
  · rw [hA _ (by omega) (by omega)]; exact g5
  · rw [hA _ (by omega) (by omega)]; exact g6
  · rw [hA _ (by omega) (by omega)]; exact g7
  · rw [hA _ (by omega) (by omega)]; exact g8
  · rw [hA _ (by omega) (by omega)]; exact g9
  · rw [hR4]; exact ⟨_, by split <;> omega, rfl⟩
  · exact h3.congr (fun i hi => hR i (by omega)) a0 (fun i _ hi => hA i (by omega) (by omega))
  · exact h4.congr (fun i _ hi => hR i (by omega)) (hR 85 (by omega)) (fun i _ hi => hR i (by omega)) (fun i _ hi => hA i (by omega) (by omega))
  · exact h5.congr (fun i _ hi => hR i (by omega)) (fun i _ hi => hA i (by omega) (by omega))
  · exact h6.congr (fun i _ hi => hR i (by omega)) (hA 4 (by omega) (by omega)) (fun i _ hi => hA i (by omega) (by omega))
  · exact h7.congr (fun i _ hi => hR i (by omega)) (by rw [a0]; exact Nat.le_refl _) (hA 5 (by omega) (by omega)) (fun i _ hi => hA i (by omega) (by omega))
  · exact h8.congr (fun i _ hi => hR i (by omega)) (hA 9 (by omega) (by omega)) (fun i _ hi => hA i (by omega) (by omega))
  · intro i hi hin
    rw [N3] at hin
    rw [N4]
    by_cases q : s = 30
    · rw [if_pos q] at hin
      rw [if_pos q]
      by_cases ql : i = 29
      · rw [if_pos q] at hnew
        rw [ql, show ((d + 1) % 30 + 29) % 30 = (d + s) % 30 by omega]; exact hnew
      · have hsn := h9 (i + 1) (by omega) (by omega)
        rw [ed, nN_nI (by omega)] at hsn
        rw [show ((d + 1) % 30 + i) % 30 = (d + (i + 1)) % 30 by omega]
        refine hsn.move (by rw [a0]; exact Nat.le_refl _) (fun j hj => remR_old (by omega) (by omega) hj) (fun j hj => ?_)
        rw [kp_old hs es (by rw [if_pos q]; omega) hj, if_pos q]
    · rw [if_neg q] at hin
      rw [if_neg q]
      rw [if_neg q] at hnew
      by_cases ql : i = s
      · rw [ql]; exact hnew
      · have hsn := h9 i (by omega) (by omega)
        rw [ed, nN_nI (by omega)] at hsn
        refine hsn.move (by rw [a0]; exact Nat.le_refl _) (fun j hj => remR_old (by omega) (by omega) hj) (fun j hj => ?_)
        rw [kp_old hs es (by rw [if_neg q]; omega) hj, if_neg q]
  · have old : ∀ j m, j < (if s = 30 then 29 else s) → m < 115 → keepA a (193 + 115 * j + m) = a (193 + 115 * (if s = 30 then j + 1 else j) + m) := fun j m hj hm => kp_old hs es hj hm
    have new := fun (m : Nat) (hm : m < 115) => kp_new hs es hm
    have told : ∀ p, p < 5 → ∀ k, 14 ≤ k → k < 16 → keepA a (k + 6 * p) = a (k + 6 * p) := fun p hp k hk1 hk2 => hA _ (by omega) (by omega)
    refine ⟨fun i p hi hin hp hx hy => ?_, fun i p hi hin hp hx hy => ?_, fun i hi hin => ?_⟩
    · rw [N3] at hin
      rw [told p hp 14 (by omega) (by omega), told p hp 15 (by omega) (by omega)]
      have ox : keepA a (193 + 115 * i) = a (193 + 115 * (if s = 30 then i + 1 else i)) := by
        have := old i 0 (by split at hin <;> (rename_i q; simp only [q, if_true, if_false]; omega)) (by omega)
        exact this
      rw [ox] at hx
      by_cases ql : i + 1 = (if s = 30 then 29 else s)
      · have nx : ∀ m, m < 115 → keepA a (308 + 115 * i + m) = (if m = 0 then a 0 else if m < 5 then a (6 + (m - 1)) else if m < 25 then a (10 + 6 * ((m - 5) / 4) + (m - 5) % 4) else if m < 55 then a (40 + (m - 25)) else a (3643 + (m - 55))) := fun m hm => by
          have := new m hm
          rw [← ql, show 193 + 115 * (i + 1) + m = 308 + 115 * i + m by omega] at this
          exact this
        have n0 : keepA a (308 + 115 * i) = a 0 := by have := nx 0 (by omega); rw [if_pos rfl] at this; exact this
        rw [n0] at hy
        have f : ∀ j, j < 4 → keepA a (308 + 115 * i + (5 + j) + 4 * p) = a (10 + 6 * p + j) := fun j hj => by
          rw [show 308 + 115 * i + (5 + j) + 4 * p = 308 + 115 * i + (5 + j + 4 * p) by omega, nx _ (by omega), if_neg (by omega), if_neg (by omega), if_pos (by omega)]
          congr 1; omega
        have f0 := f 0 (by omega)
        have f1 := f 1 (by omega)
        have f2 := f 2 (by omega)
        have f3 := f 3 (by omega)
        have key := t2 (if s = 30 then i + 1 else i) p (by split at ql <;> (rename_i q; simp only [q, if_true, if_false]; omega)) (by rw [esN]; split at ql <;> (rename_i q; simp only [q, if_true, if_false]; omega)) hp hx hy
        rw [show 308 + 115 * i + 5 + 4 * p = 308 + 115 * i + (5 + 0) + 4 * p by omega, f0, show 308 + 115 * i + 6 + 4 * p = 308 + 115 * i + (5 + 1) + 4 * p by omega, f1, show 308 + 115 * i + 7 + 4 * p = 308 + 115 * i + (5 + 2) + 4 * p by omega, f2, show 308 + 115 * i + 8 + 4 * p = 308 + 115 * i + (5 + 3) + 4 * p by omega, f3, show 10 + 6 * p + 0 = 10 + 6 * p by omega, show 10 + 6 * p + 1 = 11 + 6 * p by omega, show 10 + 6 * p + 2 = 12 + 6 * p by omega, show 10 + 6 * p + 3 = 13 + 6 * p by omega]
        exact key
      · have oy : ∀ m, m < 115 → keepA a (308 + 115 * i + m) = a (308 + 115 * (if s = 30 then i + 1 else i) + m) := fun m hm => by
          have := old (i + 1) m (by split at hin <;> (rename_i q; simp only [q, if_true, if_false] at ql ⊢; omega)) hm
          rw [show 193 + 115 * (i + 1) + m = 308 + 115 * i + m by omega] at this
          rw [this]
          by_cases q : s = 30
          · rw [if_pos q, if_pos q]; congr 1; omega
          · rw [if_neg q, if_neg q]; congr 1; omega
        have oy0 := oy 0 (by omega)
        rw [Nat.add_zero, Nat.add_zero] at oy0
        rw [oy0] at hy
        have key := t1 (if s = 30 then i + 1 else i) p (by split at hin <;> (rename_i q; simp only [q, if_true, if_false] at ql ⊢; omega)) (by rw [esN]; split at hin <;> (rename_i q; simp only [q, if_true, if_false] at ql ⊢; omega)) hp hx hy
        have o5 := oy (5 + 4 * p) (by omega)
        have o6 := oy (6 + 4 * p) (by omega)
        have o7 := oy (7 + 4 * p) (by omega)
        have o8 := oy (8 + 4 * p) (by omega)
        rw [← Nat.add_assoc, ← Nat.add_assoc] at o5 o6 o7 o8
        rw [o5, o6, o7, o8]
        exact key
    · rw [N3] at hin
      rw [a0, p3] at hy
      have : i = if s = 30 then 29 else s := by
        by_cases q : s = 30
        · rw [if_pos q] at hin ⊢; omega
        · rw [if_neg q] at hin ⊢; omega
      rw [this, hnp] at hx
      omega
    · rw [N3] at hin
      have ox : keepA a (193 + 115 * i) = a (193 + 115 * (if s = 30 then i + 1 else i)) := by
        have := old i 0 (by split at hin <;> (rename_i q; simp only [q, if_true, if_false]; omega)) (by omega)
        exact this
      rw [ox]
      by_cases ql : i + 1 = (if s = 30 then 29 else s)
      · have n0 : keepA a (308 + 115 * i) = a 0 := by
          have := new 0 (by omega)
          rw [← ql, show 193 + 115 * (i + 1) + 0 = 308 + 115 * i by omega, if_pos rfl] at this
          exact this
        rw [n0]
        have := (h9 (if s = 30 then i + 1 else i) (by split at ql <;> (rename_i q; simp only [q, if_true, if_false]; omega)) (by rw [esN]; split at ql <;> (rename_i q; simp only [q, if_true, if_false]; omega))).2.1.2.1
        exact this
      · have oy0 : keepA a (308 + 115 * i) = a (308 + 115 * (if s = 30 then i + 1 else i)) := by
          have := old (i + 1) 0 (by split at hin <;> (rename_i q; simp only [q, if_true, if_false] at ql ⊢; omega)) (by omega)
          rw [show 193 + 115 * (i + 1) + 0 = 308 + 115 * i by omega] at this
          rw [this]
          by_cases q : s = 30
          · rw [if_pos q, if_pos q]; congr 1; omega
          · rw [if_neg q, if_neg q]; congr 1; omega
        rw [oy0]
        exact t3 (if s = 30 then i + 1 else i) (by split at hin <;> (rename_i q; simp only [q, if_true, if_false] at ql ⊢; omega)) (by rw [esN]; split at hin <;> (rename_i q; simp only [q, if_true, if_false] at ql ⊢; omega))
  · refine ⟨if s = 30 then 29 else s, by split <;> omega, ?_, ?_⟩
    · rw [N3]; split <;> omega
    · rw [hnp, a0, p3]
