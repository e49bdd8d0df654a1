/-! THE INVARIANT: what couples the class's row (r, component 3; its image: 5) with the reference's array (a, component 49; its image: 50). Each clause has a 'congr' row: it stays where the places that it speaks of stay. -/
def nN (x : Int32) : Nat := x.toNatClampNeg
def Sm (m : Nat) (x : Int32) : Prop := ∃ n, n ≤ m ∧ x = nI n
def up (f : Nat → Int32) (k : Nat) (v : Int32) : Nat → Int32 := fun b => if b = k then v else f b
theorem up_eq (f : Nat → Int32) (k : Nat) (v : Int32) : up f k v k = v := if_pos rfl
theorem up_ne {f : Nat → Int32} {k : Nat} {v : Int32} {j : Nat} (h : j ≠ k) : up f k v j = f j := if_neg h
theorem pI_1 (u : PoS) (j k : Nat) (v : Int32) (i : Nat) : (pI u j k v).1 i = if i = j then up (u.1 j) k v else u.1 i := by
  funext b
  by_cases h : i = j
  · subst h; simp [pI, up]
  · simp [pI, h]
theorem pI_2 (u : PoS) (j k : Nat) (v : Int32) : (pI u j k v).2 = u.2 := rfl
theorem pL_1 (u : PoS) (j k : Nat) (v : Int64) : (pL u j k v).1 = u.1 := rfl
theorem pR_1 (u : PoS) (j k v : Nat) : (pR u j k v).1 = u.1 := rfl
theorem cI_1 (u : PoS) (j0 j1 sp dp n i : Nat) : (cI u j0 j1 sp dp n).1 i = if i = j1 then va_cpy (u.1 j0) (u.1 j1) sp dp n else u.1 i := by
  funext b
  by_cases h : i = j1
  · subst h; simp [cI]
  · simp [cI, h]
theorem cI_2 (u : PoS) (j0 j1 sp dp n : Nat) : (cI u j0 j1 sp dp n).2 = u.2 := rfl
theorem gI_def (u : PoS) (j k : Nat) : gI u j k = u.1 j k := rfl
theorem nN_nI {n : Nat} (h : n < 2 ^ 31) : nN (nI n) = n := nI_clamp h
theorem Sm.eq {m : Nat} {x : Int32} (h : Sm m x) (hm : m < 2 ^ 31) : x = nI (nN x) ∧ nN x ≤ m := by
  obtain ⟨n, hn, rfl⟩ := h
  rw [nN_nI (by omega)]
  exact ⟨rfl, hn⟩
theorem Sm.of {m n : Nat} (h : n ≤ m) : Sm m (nI n) := ⟨n, h, rfl⟩
theorem Sm.le {m m' : Nat} {x : Int32} (h : Sm m x) (hm : m ≤ m') : Sm m' x := by
  obtain ⟨n, hn, rfl⟩ := h
  exact ⟨n, by omega, rfl⟩
/-- a number between two small ones is a small one -/
theorem Sm.in {x : Int32} {m : Nat} (hm : m < 2 ^ 31) (h0 : ¬ x < 0) (h1 : ¬ nI m < x) : Sm m x := by
  obtain ⟨j, hj, rfl⟩ := nI_of h0
  refine ⟨j, ?_, rfl⟩
  rcases Nat.lt_or_ge m j with q | q
  · exact absurd (nI_lt q hj) h1
  · exact q
def Scal (r a : Nat → Int32) : Prop := r 84 = a 0 ∧ r 117 = a 1 ∧ r 116 = a 2 ∧ r 183 = a 3 ∧ r 153 = a 4 ∧ r 166 = a 5 ∧ r 51 = a 6 ∧ r 50 = a 7 ∧ r 52 = a 8 ∧ r 53 = a 9
def Bnd (r a : Nat → Int32) : Prop := Sm 5 (a 0) ∧ Sm 4 (a 1) ∧ (a 2 = -1 ∨ ∃ t, t < nN (a 1) ∧ a 2 = nI t) ∧ Sm 30 (a 3) ∧ Sm 6 (a 4) ∧ Sm 8 (a 5) ∧ Sm 9999 (a 6) ∧ Sm 29 (a 7) ∧ Sm 30670 (a 8) ∧ Sm 30 (a 9) ∧ Sm 29 (r 184)
def Peo (r a : Nat → Int32) : Prop := ∀ p, p < 5 → p < nN (a 0) → (r p = a (10 + 6 * p) ∧ r (5 + p) = a (11 + 6 * p) ∧ r (10 + p) = a (12 + 6 * p) ∧ r (15 + p) = a (13 + 6 * p)) ∧ Sm 29 (a (10 + 6 * p)) ∧ Sm 1 (a (11 + 6 * p)) ∧ Sm 99 (a (12 + 6 * p)) ∧ Sm 999 (a (13 + 6 * p)) ∧ Sm 29 (a (14 + 6 * p)) ∧ Sm 1 (a (15 + 6 * p))
def Cels (r a : Nat → Int32) : Prop := (∀ c, c < 30 → r (20 + c) = a (40 + c) ∧ Sm 99 (a (40 + c)) ∧ r (86 + c) = a (70 + c) ∧ Sm 99 (a (70 + c)) ∧ Sm 1 (a (100 + c))) ∧ ∃ m, m < 2 ^ 30 ∧ r 85 = nI m ∧ ∀ c, c < 30 → (m.testBit c = true ↔ a (100 + c) = 1)
def Cst (r a : Nat → Int32) : Prop := ∀ k, k < 35 → r (118 + k) = a (130 + k) ∧ Sm 99 (a (130 + k))
def See (r a : Nat → Int32) : Prop := ∀ k, k < 6 → k < nN (a 4) → r (154 + k) = a (165 + 2 * k) ∧ Sm 29 (a (165 + 2 * k)) ∧ r (160 + k) = a (166 + 2 * k) ∧ Sm 30 (a (166 + 2 * k))
def Sai (r a : Nat → Int32) : Prop := ∀ k, k < 8 → k < nN (a 5) → r (167 + k) = a (177 + 2 * k) ∧ (∃ p, p < nN (a 0) ∧ a (177 + 2 * k) = nI p) ∧ r (175 + k) = a (178 + 2 * k)
/-- a rain, as the class and as the reference writes it -/
def Rn (x y z : Int32) : Prop := ∃ m p c w : Nat, m ≤ 9999 ∧ p < 5 ∧ c < 30 ∧ w < 10 ∧ x = nI (((m * 5 + p) * 30 + c) * 10 + w) ∧ y = nI m ∧ z = nI ((p * 30 + c) * 100 + w)
def Boo (r a : Nat → Int32) : Prop := ∀ k, k < 30 → k < nN (a 9) → Rn (r (54 + k)) (a (3643 + 2 * k)) (a (3644 + 2 * k))
/-- what a STEP kept: at o in the row, at x in the array -/
def Snap (r a : Nat → Int32) (o x : Nat) : Prop :=
  (r (o + 84) = a x ∧ r (o + 51) = a (x + 1) ∧ r (o + 50) = a (x + 2) ∧ r (o + 52) = a (x + 3) ∧ r (o + 53) = a (x + 4)) ∧ (Sm 5 (a x) ∧ nN (a x) ≤ nN (a 0) ∧ Sm 9999 (a (x + 1)) ∧ Sm 29 (a (x + 2)) ∧ Sm 30670 (a (x + 3)) ∧ Sm 30 (a (x + 4))) ∧
  (∀ p, p < 5 → p < nN (a x) → (r (o + p) = a (x + 5 + 4 * p) ∧ r (o + (5 + p)) = a (x + 6 + 4 * p) ∧ r (o + (10 + p)) = a (x + 7 + 4 * p) ∧ r (o + (15 + p)) = a (x + 8 + 4 * p)) ∧ Sm 29 (a (x + 5 + 4 * p)) ∧ Sm 1 (a (x + 6 + 4 * p)) ∧ Sm 99 (a (x + 7 + 4 * p)) ∧ Sm 999 (a (x + 8 + 4 * p))) ∧
  (∀ c, c < 30 → r (o + (20 + c)) = a (x + 25 + c) ∧ Sm 99 (a (x + 25 + c))) ∧
  (∀ k, k < 30 → k < nN (a (x + 4)) → Rn (r (o + (54 + k))) (a (x + 55 + 2 * k)) (a (x + 56 + 2 * k)))
def Snp (r a : Nat → Int32) : Prop := ∀ i, i < 30 → i < nN (a 3) → Snap r a (185 + 85 * ((nN (r 184) + i) % 30)) (193 + 115 * i)
/-- a person that was told behind a STEP is as told in the next one that was kept, and, behind the last, now -/
def Tld (a : Nat → Int32) : Prop :=
  (∀ i p, i < 29 → i + 1 < nN (a 3) → p < 5 → nN (a (193 + 115 * i)) ≤ p → p < nN (a (308 + 115 * i)) → a (308 + 115 * i + 5 + 4 * p) = a (14 + 6 * p) ∧ a (308 + 115 * i + 6 + 4 * p) = a (15 + 6 * p) ∧ a (308 + 115 * i + 7 + 4 * p) = 0 ∧ a (308 + 115 * i + 8 + 4 * p) = 0) ∧
  (∀ i p, i < 30 → i + 1 = nN (a 3) → p < 5 → nN (a (193 + 115 * i)) ≤ p → p < nN (a 0) → a (10 + 6 * p) = a (14 + 6 * p) ∧ a (11 + 6 * p) = a (15 + 6 * p) ∧ a (12 + 6 * p) = 0 ∧ a (13 + 6 * p) = 0) ∧
  (∀ i, i < 29 → i + 1 < nN (a 3) → nN (a (193 + 115 * i)) ≤ nN (a (308 + 115 * i)))
def RowOk (r a : Nat → Int32) : Prop := Scal r a ∧ Bnd r a ∧ Peo r a ∧ Cels r a ∧ Cst r a ∧ See r a ∧ Sai r a ∧ Boo r a ∧ Snp r a ∧ Tld a
section CONGR
variable {r a r' a' : Nat → Int32}
theorem Scal.congr (h : Scal r a) (hr : ∀ i, i = 84 ∨ i = 117 ∨ i = 116 ∨ i = 183 ∨ i = 153 ∨ i = 166 ∨ i = 51 ∨ i = 50 ∨ i = 52 ∨ i = 53 → r' i = r i) (ha : ∀ i, i < 10 → a' i = a i) : Scal r' a' := by
  unfold Scal
  rw [hr 84 (by omega), hr 117 (by omega), hr 116 (by omega), hr 183 (by omega), hr 153 (by omega), hr 166 (by omega), hr 51 (by omega), hr 50 (by omega), hr 52 (by omega), hr 53 (by omega), ha 0 (by omega), ha 1 (by omega), ha 2 (by omega), ha 3 (by omega), ha 4 (by omega), ha 5 (by omega), ha 6 (by omega), ha 7 (by omega), ha 8 (by omega), ha 9 (by omega)]
  exact h
theorem Bnd.congr (h : Bnd r a) (hr : r' 184 = r 184) (ha : ∀ i, i < 10 → a' i = a i) : Bnd r' a' := by
  unfold Bnd
  rw [hr, ha 0 (by omega), ha 1 (by omega), ha 2 (by omega), ha 3 (by omega), ha 4 (by omega), ha 5 (by omega), ha 6 (by omega), ha 7 (by omega), ha 8 (by omega), ha 9 (by omega)]
  exact h
theorem Peo.congr (h : Peo r a) (hr : ∀ i, i < 20 → r' i = r i) (h0 : a' 0 = a 0) (ha : ∀ i, 10 ≤ i → i < 40 → a' i = a i) : Peo r' a' := by
  intro p hp hn
  rw [h0] at hn
  have := h p hp hn
  rw [hr p (by omega), hr (5 + p) (by omega), hr (10 + p) (by omega), hr (15 + p) (by omega), ha (10 + 6 * p) (by omega) (by omega), ha (11 + 6 * p) (by omega) (by omega), ha (12 + 6 * p) (by omega) (by omega), ha (13 + 6 * p) (by omega) (by omega), ha (14 + 6 * p) (by omega) (by omega), ha (15 + 6 * p) (by omega) (by omega)]
  exact this
theorem Cels.congr (h : Cels r a) (hr : ∀ i, 20 ≤ i → i < 50 → r' i = r i) (h85 : r' 85 = r 85) (hr2 : ∀ i, 86 ≤ i → i < 116 → r' i = r i) (ha : ∀ i, 40 ≤ i → i < 130 → a' i = a i) : Cels r' a' := by
  obtain ⟨h1, m, hm, h2, h3⟩ := h
  refine ⟨fun c hc => ?_, m, hm, by rw [h85]; exact h2, fun c hc => ?_⟩
  · rw [hr (20 + c) (by omega) (by omega), hr2 (86 + c) (by omega) (by omega), ha (40 + c) (by omega) (by omega), ha (70 + c) (by omega) (by omega), ha (100 + c) (by omega) (by omega)]
    exact h1 c hc
  · rw [ha (100 + c) (by omega) (by omega)]
    exact h3 c hc
theorem Cst.congr (h : Cst r a) (hr : ∀ i, 118 ≤ i → i < 153 → r' i = r i) (ha : ∀ i, 130 ≤ i → i < 165 → a' i = a i) : Cst r' a' := by
  intro k hk
  rw [hr (118 + k) (by omega) (by omega), ha (130 + k) (by omega) (by omega)]
  exact h k hk
theorem See.congr (h : See r a) (hr : ∀ i, 154 ≤ i → i < 166 → r' i = r i) (h4 : a' 4 = a 4) (ha : ∀ i, 165 ≤ i → i < 177 → a' i = a i) : See r' a' := by
  intro k hk hn
  rw [h4] at hn
  rw [hr (154 + k) (by omega) (by omega), hr (160 + k) (by omega) (by omega), ha (165 + 2 * k) (by omega) (by omega), ha (166 + 2 * k) (by omega) (by omega)]
  exact h k hk hn
theorem Sai.congr (h : Sai r a) (hr : ∀ i, 167 ≤ i → i < 183 → r' i = r i) (h0 : nN (a 0) ≤ nN (a' 0)) (h5 : a' 5 = a 5) (ha : ∀ i, 177 ≤ i → i < 193 → a' i = a i) : Sai r' a' := by
  intro k hk hn
  rw [h5] at hn
  rw [hr (167 + k) (by omega) (by omega), hr (175 + k) (by omega) (by omega), ha (177 + 2 * k) (by omega) (by omega), ha (178 + 2 * k) (by omega) (by omega)]
  obtain ⟨h1, ⟨p, hp, h2⟩, h3⟩ := h k hk hn
  exact ⟨h1, ⟨p, by omega, h2⟩, h3⟩
theorem Boo.congr (h : Boo r a) (hr : ∀ i, 54 ≤ i → i < 84 → r' i = r i) (h9 : a' 9 = a 9) (ha : ∀ i, 3643 ≤ i → i < 3703 → a' i = a i) : Boo r' a' := by
  intro k hk hn
  rw [h9] at hn
  rw [hr (54 + k) (by omega) (by omega), ha (3643 + 2 * k) (by omega) (by omega), ha (3644 + 2 * k) (by omega) (by omega)]
  exact h k hk hn
theorem Snap.congr {o x : Nat} (h : Snap r a o x) (h0 : nN (a 0) ≤ nN (a' 0)) (hr : ∀ i, i < 85 → r' (o + i) = r (o + i)) (ha : ∀ i, i < 115 → a' (x + i) = a (x + i)) : Snap r' a' o x := by
  obtain ⟨⟨e1, e2, e3, e4, e5⟩, ⟨b1, b2, b3, b4, b5, b6⟩, hp, hc, hk⟩ := h
  have ax : a' x = a x := ha 0 (by omega)
  refine ⟨⟨?_, ?_, ?_, ?_, ?_⟩, ⟨?_, ?_, ?_, ?_, ?_, ?_⟩, fun p h5 hn => ?_, fun c h30 => ?_, fun k h30 hn => ?_⟩
  · rw [hr 84 (by omega), ax]; exact e1
  · rw [hr 51 (by omega), ha 1 (by omega)]; exact e2
  · rw [hr 50 (by omega), ha 2 (by omega)]; exact e3
  · rw [hr 52 (by omega), ha 3 (by omega)]; exact e4
  · rw [hr 53 (by omega), ha 4 (by omega)]; exact e5
  · rw [ax]; exact b1
  · rw [ax]; omega
  · rw [ha 1 (by omega)]; exact b3
  · rw [ha 2 (by omega)]; exact b4
  · rw [ha 3 (by omega)]; exact b5
  · rw [ha 4 (by omega)]; exact b6
  · rw [ax] at hn
    have := hp p h5 hn
    rw [hr p (by omega), hr (5 + p) (by omega), hr (10 + p) (by omega), hr (15 + p) (by omega), show x + 5 + 4 * p = x + (5 + 4 * p) by omega, show x + 6 + 4 * p = x + (6 + 4 * p) by omega, show x + 7 + 4 * p = x + (7 + 4 * p) by omega, show x + 8 + 4 * p = x + (8 + 4 * p) by omega, ha (5 + 4 * p) (by omega), ha (6 + 4 * p) (by omega), ha (7 + 4 * p) (by omega), ha (8 + 4 * p) (by omega)]
    rw [show x + 5 + 4 * p = x + (5 + 4 * p) by omega, show x + 6 + 4 * p = x + (6 + 4 * p) by omega, show x + 7 + 4 * p = x + (7 + 4 * p) by omega, show x + 8 + 4 * p = x + (8 + 4 * p) by omega] at this
    exact this
  · have := hc c h30
    rw [hr (20 + c) (by omega), show x + 25 + c = x + (25 + c) by omega, ha (25 + c) (by omega)]
    rw [show x + 25 + c = x + (25 + c) by omega] at this
    exact this
  · rw [ha 4 (by omega)] at hn
    have := hk k h30 hn
    rw [hr (54 + k) (by omega), show x + 55 + 2 * k = x + (55 + 2 * k) by omega, show x + 56 + 2 * k = x + (56 + 2 * k) by omega, ha (55 + 2 * k) (by omega), ha (56 + 2 * k) (by omega)]
    rw [show x + 55 + 2 * k = x + (55 + 2 * k) by omega, show x + 56 + 2 * k = x + (56 + 2 * k) by omega] at this
    exact this
theorem Snp.congr (h : Snp r a) (h84 : r' 184 = r 184) (h0 : nN (a 0) ≤ nN (a' 0)) (h3 : a' 3 = a 3) (hr : ∀ i, 185 ≤ i → i < 2735 → r' i = r i) (ha : ∀ i, 193 ≤ i → i < 3643 → a' i = a i) : Snp r' a' := by
  intro i hi hn
  rw [h3] at hn
  rw [h84]
  exact (h i hi hn).congr h0 (fun k hk => hr _ (by omega) (by omega)) (fun k hk => ha _ (by omega) (by omega))
theorem Tld.congr (h : Tld a) (h0 : a' 0 = a 0) (h3 : a' 3 = a 3) (h1 : ∀ i, 10 ≤ i → i < 40 → a' i = a i) (ha : ∀ i, 193 ≤ i → i < 3643 → a' i = a i) : Tld a' := by
  obtain ⟨t1, t2, t3⟩ := h
  refine ⟨fun i p hi hn hp hx hy => ?_, fun i p hi hn hp hx hy => ?_, fun i hi hn => ?_⟩
  · rw [h3] at hn
    rw [ha (193 + 115 * i) (by omega) (by omega)] at hx
    rw [ha (308 + 115 * i) (by omega) (by omega)] at hy
    rw [ha (308 + 115 * i + 5 + 4 * p) (by omega) (by omega), ha (308 + 115 * i + 6 + 4 * p) (by omega) (by omega), ha (308 + 115 * i + 7 + 4 * p) (by omega) (by omega), ha (308 + 115 * i + 8 + 4 * p) (by omega) (by omega), h1 (14 + 6 * p) (by omega) (by omega), h1 (15 + 6 * p) (by omega) (by omega)]
    exact t1 i p hi hn hp hx hy
  · rw [h3] at hn
    rw [ha (193 + 115 * i) (by omega) (by omega)] at hx
    rw [h0] at hy
    rw [h1 (10 + 6 * p) (by omega) (by omega), h1 (11 + 6 * p) (by omega) (by omega), h1 (12 + 6 * p) (by omega) (by omega), h1 (13 + 6 * p) (by omega) (by omega), h1 (14 + 6 * p) (by omega) (by omega), h1 (15 + 6 * p) (by omega) (by omega)]
    exact t2 i p hi hn hp hx hy
  · rw [h3] at hn
    rw [ha (193 + 115 * i) (by omega) (by omega), ha (308 + 115 * i) (by omega) (by omega)]
    exact t3 i hi hn
theorem RowOk.congr (h : RowOk r a) (hr : ∀ i, i < 2735 → r' i = r i) (ha : ∀ i, i < 3703 → a' i = a i) : RowOk r' a' := by
  obtain ⟨h1, h2, h3, h4, h5, h6, h7, h8, h9, h10⟩ := h
  exact ⟨h1.congr (fun i hi => hr i (by omega)) (fun i hi => ha i (by omega)), h2.congr (hr 184 (by omega)) (fun i hi => ha i (by omega)), h3.congr (fun i hi => hr i (by omega)) (ha 0 (by omega)) (fun i _ hi => ha i (by omega)), h4.congr (fun i _ hi => hr i (by omega)) (hr 85 (by omega)) (fun i _ hi => hr i (by omega)) (fun i _ hi => ha i (by omega)), h5.congr (fun i _ hi => hr i (by omega)) (fun i _ hi => ha i (by omega)), h6.congr (fun i _ hi => hr i (by omega)) (ha 4 (by omega)) (fun i _ hi => ha i (by omega)), h7.congr (fun i _ hi => hr i (by omega)) (by rw [ha 0 (by omega)]; exact Nat.le_refl _) (ha 5 (by omega)) (fun i _ hi => ha i (by omega)), h8.congr (fun i _ hi => hr i (by omega)) (ha 9 (by omega)) (fun i _ hi => ha i (by omega)), h9.congr (hr 184 (by omega)) (by rw [ha 0 (by omega)]; exact Nat.le_refl _) (ha 3 (by omega)) (fun i _ hi => hr i (by omega)) (fun i _ hi => ha i (by omega)), h10.congr (ha 0 (by omega)) (ha 3 (by omega)) (fun i _ hi => ha i (by omega)) (fun i _ hi => ha i (by omega))⟩
end CONGR
/-- the tapes, and the latest FAULT -/
def Tape (u : PoS) : Prop := u.1 0 7 = u.1 48 4 ∧ Sm 300 (u.1 48 4) ∧ ∀ j, j < 300 → j < nN (u.1 48 4) → u.1 31 j = u.1 52 j ∧ Sm 255 (u.1 52 j)
def Flt (u : PoS) : Prop := (u.1 0 8 = 0 ∧ u.1 48 5 = -1 ∧ u.1 48 6 = -1) ∨ (u.1 0 8 = 1 ∧ u.1 27 0 = u.1 48 5 ∧ u.1 27 1 = u.1 48 6)
/-- LT t: the class's law t and the reference's text t are one (said where texts are read) -/
def Inv (LT : Nat → PoS → Prop) (u : PoS) : Prop := RowOk (u.1 3) (u.1 49) ∧ RowOk (u.1 5) (u.1 50) ∧ nN (u.1 50 1) ≤ nN (u.1 49 1) ∧ Tape u ∧ Flt u ∧ u.1 48 24 = 1 ∧ ∀ t, t < 4 → t < nN (u.1 49 1) → LT t u
/-- what LT t speaks of: the laws' components and the reference's texts -/
def LTok (LT : Nat → PoS → Prop) : Prop := ∀ t u u', (∀ j, 7 ≤ j → j ≤ 26 → u'.1 j = u.1 j) → u'.1 51 = u.1 51 → LT t u → LT t u'
