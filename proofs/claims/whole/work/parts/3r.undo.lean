/-! undo -/
/-- the row while those told since are laid into the place f: up to PERSON c -/
def unG (ρ : Nat → Int32) (f c0 c : Nat) : Nat → Int32 := fun i => if f ≤ i ∧ i < f + 20 ∧ c0 ≤ (i - f) % 5 ∧ (i - f) % 5 < c then ρ (i - f) else ρ i
def unR (ρ : Nat → Int32) (f c0 n d : Nat) : Nat → Int32 := up (va_cpy (up (unG ρ f c0 n) (f + 84) (ρ 84)) (up (unG ρ f c0 n) (f + 84) (ρ 84)) f 0 85) 183 (nI d)
def unH (g : Nat → Int32) (x N c : Nat) : Nat → Int32 := fun i => if 10 ≤ i ∧ i < 40 ∧ (i - 10) % 6 < 4 ∧ (i - 10) / 6 < c then (if (i - 10) / 6 < N then g (x + 5 + 4 * ((i - 10) / 6) + (i - 10) % 6) else if (i - 10) % 6 < 2 then g (i + 4) else 0) else g i
def un2 (a : Nat → Int32) (x d : Nat) : Nat → Int32 := va_cpy (up a 3 (nI d)) (up a 3 (nI d)) (x + 1) 6 4
def un3 (a : Nat → Int32) (x d n : Nat) : Nat → Int32 := unH (un2 a x d) x (nN (a x)) n
def un4 (a : Nat → Int32) (x d n : Nat) : Nat → Int32 := va_cpy (un3 a x d n) (un3 a x d n) (x + 25) 40 30
def unA (a : Nat → Int32) (x d n : Nat) : Nat → Int32 := va_cpy (un4 a x d n) (un4 a x d n) (x + 55) 3643 60
section UNDO
variable {a : Nat → Int32} {x d n : Nat}
theorem un2_hi (hx : 193 ≤ x) {i : Nat} (h : 10 ≤ i) : un2 a x d i = a i := by unfold un2; rw [pk_cpy_out (by omega), up_ne (by omega)]
theorem un3_hi (hx : 193 ≤ x) (hn : n ≤ 5) {i : Nat} (h : 40 ≤ i) : un3 a x d n i = a i := by unfold un3 unH; rw [if_neg (by omega), un2_hi hx (by omega)]
theorem unA_lo (hx : 193 ≤ x) {i : Nat} (h : i < 6) (h3 : i ≠ 3) : unA a x d n i = a i := by
  unfold unA un4 un3 unH un2
  rw [pk_cpy_out (by omega), pk_cpy_out (by omega), if_neg (by omega), pk_cpy_out (by omega), up_ne h3]
theorem unA_3 (hx : 193 ≤ x) : unA a x d n 3 = nI d := by
  unfold unA un4 un3 unH un2
  rw [pk_cpy_out (by omega), pk_cpy_out (by omega), if_neg (by omega), pk_cpy_out (by omega), up_eq]
theorem unA_sc (hx : 193 ≤ x) {k : Nat} (hk : k < 4) : unA a x d n (6 + k) = a (x + 1 + k) := by
  unfold unA un4 un3 unH un2
  rw [pk_cpy_out (by omega), pk_cpy_out (by omega), if_neg (by omega), pk_cpy_in (by omega) (by omega), up_ne (by omega), show 6 + k - 6 = k by omega]
theorem unA_per (hx : 193 ≤ x) (hn : n ≤ 5) {p k : Nat} (hp : p < n) (hk : k < 4) : unA a x d n (10 + 6 * p + k) = if p < nN (a x) then a (x + 5 + 4 * p + k) else if k < 2 then a (14 + 6 * p + k) else 0 := by
  unfold unA un4 un3 unH
  rw [pk_cpy_out (by omega), pk_cpy_out (by omega), if_pos (by omega), show (10 + 6 * p + k - 10) / 6 = p by omega, show (10 + 6 * p + k - 10) % 6 = k by omega, un2_hi hx (by omega), un2_hi hx (by omega), show 10 + 6 * p + k + 4 = 14 + 6 * p + k by omega]
theorem unA_told (hx : 193 ≤ x) {p k : Nat} (hp : p < 5) (hk : 14 ≤ k) (hk2 : k < 16) : unA a x d n (k + 6 * p) = a (k + 6 * p) := by
  unfold unA un4 un3 unH
  rw [pk_cpy_out (by omega), pk_cpy_out (by omega), if_neg (by omega), un2_hi hx (by omega)]
theorem unA_wat (hx : 193 ≤ x) (hn : n ≤ 5) {c : Nat} (hc : c < 30) : unA a x d n (40 + c) = a (x + 25 + c) := by
  unfold unA un4
  rw [pk_cpy_out (by omega), pk_cpy_in (by omega) (by omega), un3_hi hx hn (by omega), show 40 + c - 40 = c by omega]
theorem unA_mid (hx : 193 ≤ x) (hn : n ≤ 5) {i : Nat} (h1 : 70 ≤ i) (h2 : i < 3643) : unA a x d n i = a i := by
  unfold unA un4
  rw [pk_cpy_out (by omega), pk_cpy_out (by omega), un3_hi hx hn (by omega)]
theorem unA_boo (hx : 193 ≤ x) (hn : n ≤ 5) {k : Nat} (hk : k < 60) : unA a x d n (3643 + k) = a (x + 55 + k) := by
  unfold unA un4
  rw [pk_cpy_in (by omega) (by omega), pk_cpy_out (by omega), un3_hi hx hn (by omega), show 3643 + k - 3643 = k by omega]
end UNDO
theorem unR_lo {ρ : Nat → Int32} {f c0 n d : Nat} (hf : 185 ≤ f) {i : Nat} (hi : i < 85) : unR ρ f c0 n d i = if i = 84 then ρ 84 else if i < 20 ∧ c0 ≤ i % 5 ∧ i % 5 < n then ρ i else ρ (f + i) := by
  unfold unR
  rw [up_ne (by omega), pk_cpy_in (by omega) (by omega), show f + (i - 0) = f + i by omega]
  by_cases q : i = 84
  · rw [if_pos q, q, up_eq]
  · rw [if_neg q, up_ne (by omega)]
    unfold unG
    rw [show f + i - f = i by omega]
    by_cases z : i < 20 ∧ c0 ≤ i % 5 ∧ i % 5 < n
    · rw [if_pos z, if_pos (by omega)]
    · rw [if_neg z, if_neg (by omega)]
theorem unR_hi {ρ : Nat → Int32} {f c0 n d : Nat} (hf : 185 ≤ f) {i : Nat} (hi : 85 ≤ i) (h1 : i ≠ 183) (h2 : i < f ∨ f + 85 ≤ i) : unR ρ f c0 n d i = ρ i := by
  unfold unR
  rw [up_ne h1, pk_cpy_out (by omega), up_ne (by omega)]
  unfold unG
  rw [if_neg (by omega)]
theorem row_undo {r a : Nat → Int32} (h : RowOk r a) {s : Nat} (hs : s < 30) (es : a 3 = nI (s + 1)) : RowOk (unR r (185 + 85 * ((nN (r 184) + s) % 30)) (nN (a (193 + 115 * s))) (nN (a 0)) s) (unA a (193 + 115 * s) s (nN (a 0))) := by
  have hL := h.liv
  obtain ⟨n, hn, p1, p2, p3⟩ := hL.ppl
  obtain ⟨h1, h2, h3, h4, h5, h6, h7, h8, h9, ⟨t1, t2, t3⟩⟩ := h
  obtain ⟨e0, e1, e2, e3, e4, e5, e6, e7, e8, e9⟩ := h1
  obtain ⟨g0, g1, g2, g3, g4, g5, g6, g7, g8, g9, g10⟩ := h2
  have esN : nN (a 3) = s + 1 := by rw [es, nN_nI (by omega)]
  obtain ⟨⟨s0, s1, s2, s3, s4⟩, ⟨b0, b1, b2, b3, b4, b5⟩, sp, sc, sb⟩ := h9 s hs (by omega)
  rw [p3]
  rw [p3] at b1
  generalize hx : 193 + 115 * s = x at *
  generalize hE : nN (r 184) = E at *
  generalize hf : 185 + 85 * ((E + s) % 30) = f at *
  generalize hN : nN (a x) = N at *
  have hx1 : 193 ≤ x := by omega
  have hx2 : x + 115 ≤ 3643 := by omega
  have hf1 : 185 ≤ f := by omega
  have R : ∀ i, i < 85 → unR r f N n s i = if i = 84 then r 84 else if i < 20 ∧ N ≤ i % 5 ∧ i % 5 < n then r i else r (f + i) := fun i hi => unR_lo hf1 hi
  have R2 : ∀ i, 20 ≤ i → i < 84 → unR r f N n s i = r (f + i) := fun i q1 q2 => by rw [R i (by omega), if_neg (by omega), if_neg (by omega)]
  have RH : ∀ i, 85 ≤ i → i ≠ 183 → (i < f ∨ f + 85 ≤ i) → unR r f N n s i = r i := fun i q1 q2 q3 => unR_hi hf1 q1 q2 q3
  have A0 : unA a x s n 0 = a 0 := unA_lo hx1 (by omega) (by omega)
  have A3 : unA a x s n 3 = nI s := unA_3 hx1
  have AS : ∀ k, k < 4 → unA a x s n (6 + k) = a (x + 1 + k) := fun k hk => unA_sc hx1 hk
  have AM : ∀ i, 70 ≤ i → i < 3643 → unA a x s n i = a i := fun i q1 q2 => unA_mid hx1 hn q1 q2
  have AL : ∀ i, i < 6 → i ≠ 3 → unA a x s n i = a i := fun i q1 q2 => unA_lo hx1 q1 q2
  have N3 : nN (unA a x s n 3) = s := by rw [A3, nN_nI (by omega)]
  have A6 := AS 0 (by omega)
  have A7 := AS 1 (by omega)
  have A8 := AS 2 (by omega)
  have A9 := AS 3 (by omega)
  rw [Nat.add_zero, Nat.add_zero] at A6
  rw [show x + 1 + 1 = x + 2 by omega, show 6 + 1 = 7 by omega] at A7
  rw [show x + 1 + 2 = x + 3 by omega, show 6 + 2 = 8 by omega] at A8
  rw [show x + 1 + 3 = x + 4 by omega, show 6 + 3 = 9 by omega] at A9
  have PR : ∀ p k, p < n → k < 4 → unA a x s n (10 + 6 * p + k) = if p < N then a (x + 5 + 4 * p + k) else if k < 2 then a (14 + 6 * p + k) else 0 := fun p k hp hk => by rw [unA_per hx1 hn hp hk, hN]
  refine ⟨⟨?_, ?_, ?_, ?_, ?_, ?_, ?_, ?_, ?_, ?_⟩, ⟨?_, ?_, ?_, ?_, ?_, ?_, ?_, ?_, ?_, ?_, ?_⟩, ?_, ⟨?_, ?_⟩, ?_, ?_, ?_, ?_, ?_, ?_⟩
  · rw [R 84 (by omega), if_pos rfl, A0]; exact e0
  · rw [RH 117 (by omega) (by omega) (by omega), AL 1 (by omega) (by omega)]; exact e1
  · rw [RH 116 (by omega) (by omega) (by omega), AL 2 (by omega) (by omega)]; exact e2
  · rw [A3]; unfold unR; rw [up_eq]
  · rw [RH 153 (by omega) (by omega) (by omega), AL 4 (by omega) (by omega)]; exact e4
  · rw [RH 166 (by omega) (by omega) (by omega), AL 5 (by omega) (by omega)]; exact e5
  · rw [R2 51 (by omega) (by omega), A6]; exact s1
  · rw [R2 50 (by omega) (by omega), A7]; exact s2
  · rw [R2 52 (by omega) (by omega), A8]; exact s3
  · rw [R2 53 (by omega) (by omega), A9]; exact s4
  · rw [A0]; exact g0
  · rw [AL 1 (by omega) (by omega)]; exact g1
  · rw [AL 1 (by omega) (by omega), AL 2 (by omega) (by omega)]; exact g2
  · rw [A3]; exact ⟨s, by omega, rfl⟩
  · rw [AL 4 (by omega) (by omega)]; exact g4
  · rw [AL 5 (by omega) (by omega)]; exact g5
  · rw [A6]; exact b2
  · rw [A7]; exact b3
  · rw [A8]; exact b4
  · rw [A9]; exact b5
  · rw [RH 184 (by omega) (by omega) (by omega)]; exact g10
  · intro p hp5 hp
    rw [A0, p3] at hp
    have q0 := PR p 0 hp (by omega)
    have q1 := PR p 1 hp (by omega)
    have q2 := PR p 2 hp (by omega)
    have q3 := PR p 3 hp (by omega)
    simp only [Nat.add_zero] at q0
    rw [show 10 + 6 * p + 1 = 11 + 6 * p by omega, show x + 5 + 4 * p + 1 = x + 6 + 4 * p by omega, show 14 + 6 * p + 1 = 15 + 6 * p by omega] at q1
    rw [show 10 + 6 * p + 2 = 12 + 6 * p by omega, show x + 5 + 4 * p + 2 = x + 7 + 4 * p by omega] at q2
    rw [show 10 + 6 * p + 3 = 13 + 6 * p by omega, show x + 5 + 4 * p + 3 = x + 8 + 4 * p by omega] at q3
    have old := h3 p hp5 (by omega)
    rw [unA_told hx1 hp5 (k := 14) (by omega) (by omega), unA_told hx1 hp5 (k := 15) (by omega) (by omega)]
    by_cases q : p < N
    · rw [if_pos q] at q0 q1 q2 q3
      have r0 : unR r f N n s p = r (f + p) := by rw [R p (by omega), if_neg (by omega), if_neg (by omega)]
      have r1 : unR r f N n s (5 + p) = r (f + (5 + p)) := by rw [R (5 + p) (by omega), if_neg (by omega), if_neg (by omega)]
      have r2 : unR r f N n s (10 + p) = r (f + (10 + p)) := by rw [R (10 + p) (by omega), if_neg (by omega), if_neg (by omega)]
      have r3 : unR r f N n s (15 + p) = r (f + (15 + p)) := by rw [R (15 + p) (by omega), if_neg (by omega), if_neg (by omega)]
      rw [q0, q1, q2, q3, r0, r1, r2, r3]
      have := sp p hp5 q
      exact ⟨this.1, this.2.1, this.2.2.1, this.2.2.2.1, this.2.2.2.2, old.2.2.2.2.2.1, old.2.2.2.2.2.2⟩
    · rw [if_neg q, if_pos (by omega)] at q0 q1
      rw [if_neg q, if_neg (by omega)] at q2 q3
      have r0 : unR r f N n s p = r p := by rw [R p (by omega), if_neg (by omega), if_pos (by omega)]
      have r1 : unR r f N n s (5 + p) = r (5 + p) := by rw [R (5 + p) (by omega), if_neg (by omega), if_pos (by omega)]
      have r2 : unR r f N n s (10 + p) = r (10 + p) := by rw [R (10 + p) (by omega), if_neg (by omega), if_pos (by omega)]
      have r3 : unR r f N n s (15 + p) = r (15 + p) := by rw [R (15 + p) (by omega), if_neg (by omega), if_pos (by omega)]
      rw [q0, q1, q2, q3, r0, r1, r2, r3]
      have tl := t2 s p hs (by omega) hp5 (by rw [hx, hN]; omega) (by omega)
      obtain ⟨⟨o1, o2, o3, o4⟩, o5, o6, o7, o8, o9, o10⟩ := old
      exact ⟨⟨by rw [o1, tl.1], by rw [o2, tl.2.1], by rw [o3, tl.2.2.1], by rw [o4, tl.2.2.2]⟩, o9, o10, ⟨0, by omega, rfl⟩, ⟨0, by omega, rfl⟩, o9, o10⟩
  · intro c hc
    obtain ⟨c1, c2, c3, c4, c5⟩ := h4.1 c hc
    obtain ⟨d1, d2⟩ := sc c hc
    rw [R2 (20 + c) (by omega) (by omega), unA_wat hx1 hn hc, RH (86 + c) (by omega) (by omega) (by omega), AM (70 + c) (by omega) (by omega), AM (100 + c) (by omega) (by omega)]
    exact ⟨d1, d2, c3, c4, c5⟩
  · obtain ⟨m, hm, m1, m2⟩ := h4.2
    refine ⟨m, hm, by rw [RH 85 (by omega) (by omega) (by omega)]; exact m1, fun c hc => ?_⟩
    rw [AM (100 + c) (by omega) (by omega)]; exact m2 c hc
  · exact h5.congr (fun i q1 q2 => RH i (by omega) (by omega) (by omega)) (fun i q1 q2 => AM i (by omega) (by omega))
  · exact h6.congr (fun i q1 q2 => RH i (by omega) (by omega) (by omega)) (AL 4 (by omega) (by omega)) (fun i q1 q2 => AM i (by omega) (by omega))
  · exact h7.congr (fun i q1 q2 => RH i (by omega) (by omega) (by omega)) (by rw [A0]; exact Nat.le_refl _) (AL 5 (by omega) (by omega)) (fun i q1 q2 => AM i (by omega) (by omega))
  · intro k hk hk2
    rw [A9] at hk2
    have := sb k hk hk2
    rw [R2 (54 + k) (by omega) (by omega), unA_boo hx1 hn (k := 2 * k) (by omega), show 3644 + 2 * k = 3643 + (2 * k + 1) by omega, unA_boo hx1 hn (k := 2 * k + 1) (by omega), show x + 55 + (2 * k + 1) = x + 56 + 2 * k by omega]
    exact this
  · intro i hi hin
    rw [N3] at hin
    rw [RH 184 (by omega) (by omega) (by omega), hE]
    have hsn := h9 i hi (by omega)
    rw [hE] at hsn
    refine hsn.congr (by rw [A0]; exact Nat.le_refl _) (fun j hj => ?_) (fun j hj => AM _ (by omega) (by omega))
    exact RH _ (by omega) (by omega) (by omega)
  · refine ⟨fun i p hi hin hp hy hz => ?_, fun i p hi hin hp hy hz => ?_, fun i hi hin => ?_⟩
    · rw [N3] at hin
      rw [AM (193 + 115 * i) (by omega) (by omega)] at hy
      rw [AM (308 + 115 * i) (by omega) (by omega)] at hz
      rw [AM (308 + 115 * i + 5 + 4 * p) (by omega) (by omega), AM (308 + 115 * i + 6 + 4 * p) (by omega) (by omega), AM (308 + 115 * i + 7 + 4 * p) (by omega) (by omega), AM (308 + 115 * i + 8 + 4 * p) (by omega) (by omega), unA_told hx1 hp (k := 14) (by omega) (by omega), unA_told hx1 hp (k := 15) (by omega) (by omega)]
      exact t1 i p hi (by omega) hp hy hz
    · rw [N3] at hin
      rw [AM (193 + 115 * i) (by omega) (by omega)] at hy
      rw [A0, p3] at hz
      have q0 := PR p 0 hz (by omega)
      have q1 := PR p 1 hz (by omega)
      have q2 := PR p 2 hz (by omega)
      have q3 := PR p 3 hz (by omega)
      simp only [Nat.add_zero] at q0
      rw [show 10 + 6 * p + 1 = 11 + 6 * p by omega, show x + 5 + 4 * p + 1 = x + 6 + 4 * p by omega, show 14 + 6 * p + 1 = 15 + 6 * p by omega] at q1
      rw [show 10 + 6 * p + 2 = 12 + 6 * p by omega, show x + 5 + 4 * p + 2 = x + 7 + 4 * p by omega] at q2
      rw [show 10 + 6 * p + 3 = 13 + 6 * p by omega, show x + 5 + 4 * p + 3 = x + 8 + 4 * p by omega] at q3
      rw [unA_told hx1 hp (k := 14) (by omega) (by omega), unA_told hx1 hp (k := 15) (by omega) (by omega)]
      by_cases q : p < N
      · rw [if_pos q] at q0 q1 q2 q3
        rw [q0, q1, q2, q3]
        have ex : x = 308 + 115 * i := by omega
        have := t1 i p (by omega) (by omega) hp hy (by rw [← ex, hN]; exact q)
        rw [← ex] at this
        exact this
      · rw [if_neg q, if_pos (by omega)] at q0 q1
        rw [if_neg q, if_neg (by omega)] at q2 q3
        rw [q0, q1, q2, q3]
        exact ⟨rfl, rfl, rfl, rfl⟩
    · rw [N3] at hin
      rw [AM (193 + 115 * i) (by omega) (by omega), AM (308 + 115 * i) (by omega) (by omega)]
      exact t3 i hi (by omega)
theorem undoX {a : Nat → Int32} {u : PoS} (h : RowOk (u.1 3) a) {s : Nat} (hs : s < 30) (es : a 3 = nI (s + 1)) {post : Int32 → PoS → Prop} (K : ∀ z : PoS, (∀ j, j ≠ 3 → z.1 j = u.1 j) → z.1 3 = unR (u.1 3) (185 + 85 * ((nN (u.1 3 184) + s) % 30)) (nN (a (193 + 115 * s))) (nN (a 0)) s → post (nI s) z) : wp_X11_undo u post := by
  obtain ⟨n, hn, p1, p2, p3⟩ := h.liv.ppl
  obtain ⟨d, hd, ed⟩ := h.2.1.2.2.2.2.2.2.2.2.2.2
  have es' : u.1 3 183 = nI (s + 1) := by rw [h.1.2.2.2.1, es]
  have esN : nN (a 3) = s + 1 := by rw [es, nN_nI (by omega)]
  obtain ⟨⟨s0, -⟩, ⟨⟨N, hN5, hN⟩, b1, -⟩, -⟩ := h.2.2.2.2.2.2.2.2.1 s hs (by omega)
  rw [p3, hN, nN_nI (by omega)] at K
  rw [p3, hN, nN_nI (by omega)] at b1
  rw [hN] at s0
  rw [ed, nN_nI (by omega)] at K s0
  intro x1 ex
  rw [gI_def, es', show (1 : Int32) = nI 1 from rfl, q_sub (by omega), show s + 1 - 1 = s by omega] at ex
  subst ex
  refine ⟨fun _ x2 ex2 => ?_, fun q => absurd (nI_pos' (by omega)) q⟩
  have ex2' : x2 = nI (185 + 85 * ((d + s) % 30)) := by
    rw [ex2, gI_def, ed]; simp (disch := omega) only [q_lit, nI_add, pk_mul, q_sub, q_rem, q_div, q_vp, q_cl, q_lt, q_le, q_eq, q_neg1, gI_def]; congr 1; omega
  subst ex2'
  clear ex2
  generalize hf : 185 + 85 * ((d + s) % 30) = f at *
  have hf1 : 185 ≤ f := by omega
  have hf2 : f + 85 ≤ 2735 := by omega
  rw [show nI f + 84 = nI (f + 84) by simp (disch := omega) only [q_lit, nI_add, pk_mul, q_sub, q_rem, q_div, q_vp, q_cl, q_lt, q_le, q_eq, q_neg1, gI_def], q_vp (by omega) (by omega), q_cl (by omega), gI_def, s0]
  refine ⟨by omega, fun x3 ex3 => ?_⟩
  subst ex3
  refine ⟨n - N + 1, ?_⟩
  have lp : ∀ k c, c + k = n → N ≤ c → ∀ z : PoS, (∀ j, j ≠ 3 → z.1 j = u.1 j) → z.1 3 = unG (u.1 3) f N c → wl_X11_undo_48 (fun (v19 : Int32) (v29 : Int32) (u9 : PoS) => vp_in (v29 + 84) 2735 ∧ ∀ z10 : PoS, z10 = pI u9 3 (Int32.toNatClampNeg (v29 + 84)) (gI u9 3 84) → (¬ v29 < 0 ∧ ¬ (0 : Int32) < 0 ∧ ¬ (85 : Int32) < 0 ∧ Int32.toNatClampNeg v29 + Int32.toNatClampNeg 85 ≤ 2735 ∧ Int32.toNatClampNeg 0 + Int32.toNatClampNeg 85 ≤ 2735) ∧ ∀ z11 : PoS, z11 = cI z10 3 3 (Int32.toNatClampNeg v29) (Int32.toNatClampNeg 0) (Int32.toNatClampNeg 85) → ∀ z12 : PoS, z12 = pI z11 3 183 v19 → post v19 z12) post (k + 1) (nI s) (nI f) (nI c) z := by
    intro k
    induction k with
    | zero =>
      intro c hc hNc z fz gz
      obtain rfl : c = n := by omega
      have g84 : z.1 3 84 = nI c := by rw [gz]; unfold unG; rw [if_neg (by omega), p2]
      rw [wl_X11_undo_48, gI_def, g84]
      refine ⟨fun _ => ?_, fun q => absurd (nI_le (Nat.le_refl c) (by omega)) q⟩
      rw [show nI f + 84 = nI (f + 84) by simp (disch := omega) only [q_lit, nI_add, pk_mul, q_sub, q_rem, q_div, q_vp, q_cl, q_lt, q_le, q_eq, q_neg1, gI_def], q_vp (by omega) (by omega), q_cl (by omega), q_cl (by omega)]
      refine ⟨by omega, fun z10 e10 => ⟨⟨nI_pos (by omega), by decide, by decide, by rw [show Int32.toNatClampNeg 85 = 85 from rfl]; omega, by decide⟩, fun z11 e11 z12 e12 => K z12 (fun j hj => ?_) ?_⟩⟩
      · rw [e12, e11, e10]; simp (disch := omega) only [gI_def, pI_s, pI_o, cI_s, cI_o, pL_1, pR_1]; exact fz j hj
      · rw [e12, e11, e10]; simp (disch := omega) only [gI_def, pI_s, pI_o, cI_s, cI_o, pL_1, pR_1]; rw [gz]; unfold unR; rw [p2]; rfl
    | succ k ih =>
      intro c hc hNc z fz gz
      have g84 : z.1 3 84 = nI n := by rw [gz]; unfold unG; rw [if_neg (by omega), p2]
      rw [wl_X11_undo_48, gI_def, g84, q_le (by omega) (by omega)]
      refine ⟨fun q => by omega, fun _ => ?_⟩
      rw [show (0 : Int32) + nI c = nI c from zadd c, show nI f + 0 + nI c = nI (f + c) by simp (disch := omega) only [q_lit, nI_add, pk_mul, q_sub, q_rem, q_div, q_vp, q_cl, q_lt, q_le, q_eq, q_neg1, gI_def]; rfl, show (5 : Int32) + nI c = nI (5 + c) by simp (disch := omega) only [q_lit, nI_add, pk_mul, q_sub, q_rem, q_div, q_vp, q_cl, q_lt, q_le, q_eq, q_neg1, gI_def], show nI f + 5 + nI c = nI (f + 5 + c) by simp (disch := omega) only [q_lit, nI_add, pk_mul, q_sub, q_rem, q_div, q_vp, q_cl, q_lt, q_le, q_eq, q_neg1, gI_def], show (10 : Int32) + nI c = nI (10 + c) by simp (disch := omega) only [q_lit, nI_add, pk_mul, q_sub, q_rem, q_div, q_vp, q_cl, q_lt, q_le, q_eq, q_neg1, gI_def], show nI f + 10 + nI c = nI (f + 10 + c) by simp (disch := omega) only [q_lit, nI_add, pk_mul, q_sub, q_rem, q_div, q_vp, q_cl, q_lt, q_le, q_eq, q_neg1, gI_def], show (15 : Int32) + nI c = nI (15 + c) by simp (disch := omega) only [q_lit, nI_add, pk_mul, q_sub, q_rem, q_div, q_vp, q_cl, q_lt, q_le, q_eq, q_neg1, gI_def], show nI f + 15 + nI c = nI (f + 15 + c) by simp (disch := omega) only [q_lit, nI_add, pk_mul, q_sub, q_rem, q_div, q_vp, q_cl, q_lt, q_le, q_eq, q_neg1, gI_def], nI_1]
      simp (disch := omega) only [q_vp, q_cl]
      refine ⟨by omega, by omega, fun z4 e4 => ⟨by omega, by omega, fun z5 e5 => ⟨by omega, by omega, fun z6 e6 => ⟨by omega, by omega, fun z7 e7 => ih (c + 1) (by omega) (by omega) z7 (fun j hj => ?_) ?_⟩⟩⟩⟩
      · rw [e7, e6, e5, e4]; simp (disch := omega) only [gI_def, pI_s, pI_o, cI_s, cI_o, pL_1, pR_1]; exact fz j hj
      · rw [e7, e6, e5, e4]
        simp (disch := omega) only [gI_def, pI_s, pI_o, cI_s, cI_o, pL_1, pR_1, up_eq, up_ne]
        rw [gz]
        have v : ∀ i, i < 20 → unG (u.1 3) f N c i = u.1 3 i := fun i hi => by unfold unG; rw [if_neg (by omega)]
        rw [v c (by omega), v (5 + c) (by omega), v (10 + c) (by omega), v (15 + c) (by omega)]
        funext i
        by_cases i1 : i = f + 15 + c
        · rw [i1, up_eq]; unfold unG; rw [if_pos (by omega), show f + 15 + c - f = 15 + c by omega]
        rw [up_ne i1]
        by_cases i2 : i = f + 10 + c
        · rw [i2, up_eq]; unfold unG; rw [if_pos (by omega), show f + 10 + c - f = 10 + c by omega]
        rw [up_ne i2]
        by_cases i3 : i = f + 5 + c
        · rw [i3, up_eq]; unfold unG; rw [if_pos (by omega), show f + 5 + c - f = 5 + c by omega]
        rw [up_ne i3]
        by_cases i4 : i = f + c
        · rw [i4, up_eq]; unfold unG; rw [if_pos (by omega), show f + c - f = c by omega]
        rw [up_ne i4]
        unfold unG
        by_cases q : f ≤ i ∧ i < f + 20 ∧ N ≤ (i - f) % 5 ∧ (i - f) % 5 < c
        · rw [if_pos q, if_pos (by omega)]
        · rw [if_neg q, if_neg (by omega)]
  exact lp (n - N) N (by omega) (Nat.le_refl N) u (fun _ _ => rfl) (by funext i; unfold unG; rw [if_neg (by omega)])
theorem undoM {ρ : Nat → Int32} {u : PoS} (h : RowOk ρ (u.1 49)) {s : Nat} (hs : s < 30) (es : u.1 49 3 = nI (s + 1)) {post : Int32 → PoS → Prop} (K : ∀ z : PoS, FrA u z → z.1 49 = unA (u.1 49) (193 + 115 * s) s (nN (u.1 49 0)) → post (nI s) z) : wp_X12_undo u post := by
  obtain ⟨n, hn, p1, p2, p3⟩ := h.liv.ppl
  have esN : nN (u.1 49 3) = s + 1 := by rw [es, nN_nI (by omega)]
  obtain ⟨-, ⟨⟨N, hN5, hN⟩, b1, -⟩, -⟩ := h.2.2.2.2.2.2.2.2.1 s hs (by omega)
  rw [p3] at K b1
  unfold wp_X12_undo
  rw [gI_def, es]
  refine ⟨fun _ z1 e1 x2 ex2 => ?_, fun q => by rw [show (0 : Int32) = nI 0 from rfl, q_eq (by omega) (by omega)] at q; omega⟩
  rw [show (1 : Int32) = nI 1 from rfl, q_sub (by omega), show s + 1 - 1 = s by omega] at e1
  have g1 : z1.1 49 = up (u.1 49) 3 (nI s) := by rw [e1]; simp (disch := omega) only [gI_def, pI_s, pI_o, cI_s, cI_o, pL_1, pR_1]
  have f1 : FrA u z1 := fun j hj => by rw [e1]; simp (disch := omega) only [gI_def, pI_s, pI_o, cI_s, cI_o, pL_1, pR_1]
  have ex2' : x2 = nI (193 + 115 * s) := by rw [ex2, gI_def, g1, up_eq]; simp (disch := omega) only [q_lit, nI_add, pk_mul, q_sub, q_rem, q_div, q_vp, q_cl, q_lt, q_le, q_eq, q_neg1, gI_def]
  subst ex2'
  clear ex2 e1
  generalize hX : 193 + 115 * s = X at *
  have hX1 : 193 ≤ X := by omega
  have hX2 : X + 115 ≤ 3643 := by omega
  refine ⟨5, cpy_loop (fun n k z => wl_X12_undo_37 _ post n (nI X) (nI k) z) z1 (X + 1) 6 4 (by omega) (fun n' z2 f2 g2 => ?_) (fun n' k z hk H => ?_) 4 0 rfl z1 (fun _ _ => rfl) cpy_0.symm⟩
  · simp only [wl_X12_undo_37]
    refine ⟨fun _ => ⟨n + 1, ?_⟩, fun q => absurd (by decide) q⟩
    have g2' : z2.1 49 = un2 (u.1 49) X s := by rw [g2, g1]; rfl
    have f2' : FrA u z2 := fun j hj => by rw [f2 j hj, f1 j hj]
    have lp : ∀ k c, c + k = n → ∀ z : PoS, FrA u z → z.1 49 = unH (un2 (u.1 49) X s) X (nN (u.1 49 X)) c → wl_X12_undo_69 (fun (v115 : Int32) (u15 : PoS) => (∃ n145, wl_X12_undo_145 (fun (v118 : Int32) (u18 : PoS) => (∃ n179, wl_X12_undo_179 post n179 v118 0 u18)) post n145 v115 0 u15)) post (k + 1) (nI X) (nI c) z := by
      intro k
      induction k with
      | zero =>
        intro c hc z f3 g3
        obtain rfl : c = n := by omega
        have g0 : z.1 49 0 = nI c := by
          rw [g3]; unfold unH un2; rw [if_neg (by omega), pk_cpy_out (by omega), up_ne (by omega), p1]
        simp only [wl_X12_undo_69, gI_def, g0]
        refine ⟨fun _ => ?_, fun q => absurd (nI_le (Nat.le_refl c) (by omega)) q⟩
        refine ⟨31, cpy_loop (fun n k z => wl_X12_undo_145 _ post n (nI X) (nI k) z) z (X + 25) 40 30 (by omega) (fun n' z4 f4 g4 => ?_) (fun n' k z hk H => ?_) 30 0 rfl z (fun _ _ => rfl) cpy_0.symm⟩
        · simp only [wl_X12_undo_145]
          refine ⟨fun _ => ?_, fun q => absurd (by decide) q⟩
          refine ⟨61, cpy_loop (fun n k z => wl_X12_undo_179 post n (nI X) (nI k) z) z4 (X + 55) 3643 60 (by omega) (fun n' z5 f5 g5 => ?_) (fun n' k z hk H => ?_) 60 0 rfl z4 (fun _ _ => rfl) cpy_0.symm⟩
          · simp only [wl_X12_undo_179]
            refine ⟨fun _ => ?_, fun q => absurd (by decide) q⟩
            have g5' : z5.1 49 = unA (u.1 49) X s c := by rw [g5, g4, g3]; rfl
            rw [gI_def, g5', unA_3 hX1]
            exact K z5 (fun j hj => by rw [f5 j hj, f4 j hj, f3 j hj]) g5'
          · simp only [wl_X12_undo_179]
            simp (disch := omega) only [q_lit, nI_add, pk_mul, q_sub, q_rem, q_div, q_vp, q_cl, q_lt, q_le, q_eq, q_neg1, gI_def]
            exact ⟨fun q => by omega, fun _ => ⟨by omega, by omega, fun z1 e => H z1 e⟩⟩
        · simp only [wl_X12_undo_145]
          simp (disch := omega) only [q_lit, nI_add, pk_mul, q_sub, q_rem, q_div, q_vp, q_cl, q_lt, q_le, q_eq, q_neg1, gI_def]
          exact ⟨fun q => by omega, fun _ => ⟨by omega, by omega, fun z1 e => H z1 e⟩⟩
      | succ k ih =>
        intro c hc z f3 g3
        have g0 : z.1 49 0 = nI n := by
          rw [g3]; unfold unH un2; rw [if_neg (by omega), pk_cpy_out (by omega), up_ne (by omega), p1]
        have gX : z.1 49 X = nI N := by
          rw [g3]; unfold unH un2; rw [if_neg (by omega), pk_cpy_out (by omega), up_ne (by omega), hN]
        have hNN : nN (u.1 49 X) = N := by rw [hN, nN_nI (by omega)]
        rw [hNN] at g3 ih
        have v2 : ∀ i, 40 ≤ i → i < 3643 → z.1 49 i = u.1 49 i := fun i q1 q2 => by rw [g3]; unfold unH; rw [if_neg (by omega), un2_hi hX1 (by omega)]
        simp only [wl_X12_undo_69, gI_def, g0]
        rw [q_le (by omega) (by omega), q_vp (by omega) (by omega), q_cl (by omega), gX, q_lt (by omega) (by omega)]
        refine ⟨fun q => by omega, fun _ => ⟨by omega, fun q => ⟨5, ?_⟩, fun q => beginM (by omega) ⟨1, ?_⟩⟩⟩
        · have inner : ∀ m j, j + m = 4 → ∀ z' : PoS, FrA u z' → (z'.1 49 = fun i => if 10 + 6 * c ≤ i ∧ i < 10 + 6 * c + j then u.1 49 (X + 5 + 4 * c + (i - (10 + 6 * c))) else z.1 49 i) → wl_X12_undo_96 (fun (v110 : Int32) (v210 : Int32) (u10 : PoS) => wj_X12_undo_137 (wl_X12_undo_69 (fun (v115 : Int32) (u15 : PoS) => (∃ n145, wl_X12_undo_145 (fun (v118 : Int32) (u18 : PoS) => (∃ n179, wl_X12_undo_179 post n179 v118 0 u18)) post n145 v115 0 u15)) post (k + 1)) post v110 v210 u10) post (m + 1) (nI X) (nI c) (nI j) z' := by
            intro m
            induction m with
            | zero =>
              intro j hj z' f4 g4
              obtain rfl : j = 4 := by omega
              simp only [wl_X12_undo_96]
              refine ⟨fun _ => ?_, fun q => absurd (by decide) q⟩
              unfold wj_X12_undo_137
              rw [nI_1]
              refine ih (c + 1) (by omega) z' f4 ?_
              rw [g4, g3]
              funext i
              unfold unH
              by_cases q1 : 10 + 6 * c ≤ i ∧ i < 10 + 6 * c + 4
              · rw [if_pos q1, if_pos (show 10 ≤ i ∧ i < 40 ∧ (i - 10) % 6 < 4 ∧ (i - 10) / 6 < c + 1 by omega), if_pos (by omega), un2_hi hX1 (by omega), show X + 5 + 4 * c + (i - (10 + 6 * c)) = X + 5 + 4 * ((i - 10) / 6) + (i - 10) % 6 by omega]
              · rw [if_neg q1]
                by_cases q2 : 10 ≤ i ∧ i < 40 ∧ (i - 10) % 6 < 4 ∧ (i - 10) / 6 < c
                · rw [if_pos q2, if_pos (show 10 ≤ i ∧ i < 40 ∧ (i - 10) % 6 < 4 ∧ (i - 10) / 6 < c + 1 by omega)]
                · rw [if_neg q2, if_neg (show ¬ (10 ≤ i ∧ i < 40 ∧ (i - 10) % 6 < 4 ∧ (i - 10) / 6 < c + 1) by omega)]
            | succ m ih' =>
              intro j hj z' f4 g4
              have gX' : z'.1 49 X = nI N := by rw [g4]; show (if _ then _ else _) = _; rw [if_neg (by omega), gX]
              rw [wl_X12_undo_96]
              simp only [gI_def]
              rw [show (4 : Int32) = nI 4 from rfl, q_le (by omega) (by omega), q_vp (by omega) (by omega), q_cl (by omega), gX', q_le (by omega) (by omega)]
              refine ⟨fun q => by omega, fun _ => ⟨by omega, fun q => by omega, fun _ => ?_⟩⟩
              rw [show nI X + 5 + nI 4 * nI c + nI j = nI (X + 5 + 4 * c + j) by simp (disch := omega) only [q_lit, nI_add, pk_mul, q_sub, q_rem, q_div, q_vp, q_cl, q_lt, q_le, q_eq, q_neg1, gI_def], q_vp (by omega) (by omega), q_cl (by omega)]
              refine ⟨by omega, putM (by omega) (by omega) ?_⟩
              rw [nI_1]
              refine ih' (j + 1) (by omega) _ (f4.put _ _) ?_
              simp (disch := omega) only [gI_def, pI_s, pI_o, cI_s, cI_o, pL_1, pR_1]
              have gv : z'.1 49 (X + 5 + 4 * c + j) = u.1 49 (X + 5 + 4 * c + j) := by rw [g4]; show (if _ then _ else _) = _; rw [if_neg (by omega), v2 _ (by omega) (by omega)]
              rw [gv, g4]
              funext i
              by_cases e : i = 10 + 6 * c + j
              · rw [e, up_eq, if_pos (by omega), show 10 + 6 * c + j - (10 + 6 * c) = j by omega]
              · rw [up_ne e]
                by_cases q1 : 10 + 6 * c ≤ i ∧ i < 10 + 6 * c + j
                · rw [if_pos q1, if_pos (by omega)]
                · rw [if_neg q1, if_neg (by omega)]
          exact inner 4 0 rfl z f3 (by funext i; rw [if_neg (by omega)])
        · have gX' : (beg z c).1 49 X = nI N := by unfold beg; simp (disch := omega) only [gI_def, pI_s, pI_o, cI_s, cI_o, pL_1, pR_1, up_eq, up_ne]; exact gX
          simp only [wl_X12_undo_96, gI_def]
          rw [show (4 : Int32) ≤ 0 ↔ False from ⟨fun h => absurd h (by decide), False.elim⟩, q_vp (by omega) (by omega), q_cl (by omega), gX', q_le (by omega) (by omega)]
          refine ⟨fun q => q.elim, fun _ => ⟨by omega, fun _ => ?_, fun q => by omega⟩⟩
          unfold wj_X12_undo_137
          rw [nI_1]
          refine ih (c + 1) (by omega) _ (fun j hj => by unfold beg; simp (disch := omega) only [gI_def, pI_s, pI_o, cI_s, cI_o, pL_1, pR_1]; exact f3 j hj) ?_
          unfold beg
          simp (disch := omega) only [gI_def, pI_s, pI_o, cI_s, cI_o, pL_1, pR_1, up_eq, up_ne]
          have v1 : ∀ i, (i = 14 + 6 * c ∨ i = 15 + 6 * c) → z.1 49 i = un2 (u.1 49) X s i := fun i hi => by rw [g3]; unfold unH; rw [if_neg (by omega)]
          rw [v1 _ (Or.inl rfl), v1 _ (Or.inr rfl), g3]
          funext i
          by_cases i1 : i = 13 + 6 * c
          · rw [i1, up_eq]; unfold unH; rw [if_pos (by omega), if_neg (by omega), if_neg (by omega)]
          rw [up_ne i1]
          by_cases i2 : i = 12 + 6 * c
          · rw [i2, up_eq]; unfold unH; rw [if_pos (by omega), if_neg (by omega), if_neg (by omega)]
          rw [up_ne i2]
          by_cases i3 : i = 11 + 6 * c
          · rw [i3, up_eq]; unfold unH; rw [if_pos (by omega), if_neg (by omega), if_pos (by omega), show 11 + 6 * c + 4 = 15 + 6 * c by omega]
          rw [up_ne i3]
          by_cases i4 : i = 10 + 6 * c
          · rw [i4, up_eq]; unfold unH; rw [if_pos (by omega), if_neg (by omega), if_pos (by omega), show 10 + 6 * c + 4 = 14 + 6 * c by omega]
          rw [up_ne i4]
          unfold unH
          by_cases q2 : 10 ≤ i ∧ i < 40 ∧ (i - 10) % 6 < 4 ∧ (i - 10) / 6 < c
          · rw [if_pos q2, if_pos (show 10 ≤ i ∧ i < 40 ∧ (i - 10) % 6 < 4 ∧ (i - 10) / 6 < c + 1 by omega)]
          · rw [if_neg q2, if_neg (show ¬ (10 ≤ i ∧ i < 40 ∧ (i - 10) % 6 < 4 ∧ (i - 10) / 6 < c + 1) by omega)]
    exact lp n 0 (Nat.zero_add n) z2 f2' (by rw [g2']; funext i; unfold unH; rw [if_neg (by omega)])
  · simp only [wl_X12_undo_37]
    simp (disch := omega) only [q_lit, nI_add, pk_mul, q_sub, q_rem, q_div, q_vp, q_cl, q_lt, q_le, q_eq, q_neg1, gI_def]
    exact ⟨fun q => by omega, fun _ => ⟨by omega, by omega, fun z1 e => H z1 e⟩⟩
theorem ob_undo {LT : Nat → PoS → Prop} (hLT : LTok LT) : Ob32 wp_X11_undo wp_X12_undo (Inv LT) := by
  intro u hI
  have hR := hI.1
  obtain ⟨s, hs, es⟩ := hR.st
  have es' : u.1 3 183 = nI s := by rw [hR.1.2.2.2.1, es]
  cases s with
  | zero =>
    refine ⟨fun r u1 => r = -1 ∧ u1 = u, fun K hK => ?_, fun r u1 hr K hK => ?_⟩
    · intro x1 ex
      rw [gI_def, es'] at ex
      exact ⟨fun q => by rw [ex] at q; exact absurd q (by decide), fun _ => hK _ _ ⟨rfl, rfl⟩⟩
    · obtain ⟨rfl, rfl⟩ := hr
      exact ⟨fun q => absurd (by rw [gI_def, es]; rfl) q, fun _ => hK _ hI⟩
  | succ s =>
    have hfin := row_undo hR (by omega) es
    refine ⟨fun r u1 => r = nI s ∧ (∀ j, j ≠ 3 → u1.1 j = u.1 j) ∧ u1.1 3 = unR (u.1 3) (185 + 85 * ((nN (u.1 3 184) + s) % 30)) (nN (u.1 49 (193 + 115 * s))) (nN (u.1 49 0)) s, fun K hK => undoX hR (by omega) es (fun z h1 h2 => hK _ _ ⟨rfl, h1, h2⟩), fun r u1 hr K hK => ?_⟩
    obtain ⟨rfl, hx1, hx2⟩ := hr
    have e49 := hx1 49 (by decide)
    refine undoM (ρ := u.1 3) (by rw [e49]; exact hR) (by omega) (by rw [e49]; exact es) (fun z f g => hK _ ?_)
    rw [e49] at g
    refine inv_live hLT hI (fun j h3 h49 _ _ => ?_) (fun k _ => ?_) ?_ g ?_ hfin
    · rw [f j h49, hx1 j h3]
    · rw [f 48 (by decide), hx1 48 (by decide)]
    · rw [f 3 (by decide), hx2]
    · exact unA_lo (by omega) (by omega) (by omega)
