/-! what a MINUTE changes, piece by piece -/
def LO (a a' : Nat → Int32) : Prop := ∀ i, i < 6 ∨ (10 ≤ i ∧ i < 40 ∧ 4 ≤ (i - 10) % 6) ∨ (70 ≤ i ∧ i < 3643) → a' i = a i
def RO (ρ ρ' : Nat → Int32) : Prop := ∀ i, 84 ≤ i → ρ' i = ρ i
theorem LO.tr {a b c : Nat → Int32} (h1 : LO a b) (h2 : LO b c) : LO a c := fun i hi => by rw [h2 i hi, h1 i hi]
theorem RO.tr {a b c : Nat → Int32} (h1 : RO a b) (h2 : RO b c) : RO a c := fun i hi => by rw [h2 i hi, h1 i hi]
theorem LO.up {a : Nat → Int32} {k : Nat} {v : Int32} (h : ¬ (k < 6 ∨ (10 ≤ k ∧ k < 40 ∧ 4 ≤ (k - 10) % 6) ∨ (70 ≤ k ∧ k < 3643))) : LO a (up a k v) := fun i hi => up_ne (fun e => h (e ▸ hi))
theorem RO.up {a : Nat → Int32} {k : Nat} {v : Int32} (h : k < 84) : RO a (up a k v) := fun i hi => up_ne (by omega)
theorem Liv.bk {ρ a ρ' a' : Nat → Int32} (h : Liv ρ a) (hr : ∀ i, i < 53 ∨ 84 ≤ i → ρ' i = ρ i) (h53 : Sm 30 (ρ' 53)) (ha : ∀ i, i ≠ 9 → i < 3643 → a' i = a i) : Liv ρ' a' := by
  obtain ⟨⟨l0, l2, l6, l7, l8⟩, ⟨m0, m1, m2, m6, m7, m8, m9⟩, l3, l4⟩ := h
  refine ⟨⟨?_, ?_, ?_, ?_, ?_⟩, ⟨?_, ?_, ?_, ?_, ?_, ?_, h53⟩, l3.congr (fun i hi => hr i (by omega)) (ha 0 (by omega) (by omega)) (fun i _ hi => ha i (by omega) (by omega)), l4.congr (fun i _ hi => hr i (by omega)) (hr 85 (by omega)) (fun i _ hi => hr i (by omega)) (fun i _ hi => ha i (by omega) (by omega))⟩
  · rw [hr 84 (by omega), ha 0 (by omega) (by omega)]; exact l0
  · rw [hr 116 (by omega), ha 2 (by omega) (by omega)]; exact l2
  · rw [hr 51 (by omega), ha 6 (by omega) (by omega)]; exact l6
  · rw [hr 50 (by omega), ha 7 (by omega) (by omega)]; exact l7
  · rw [hr 52 (by omega), ha 8 (by omega) (by omega)]; exact l8
  · rw [ha 0 (by omega) (by omega)]; exact m0
  · rw [ha 1 (by omega) (by omega)]; exact m1
  · rw [ha 1 (by omega) (by omega), ha 2 (by omega) (by omega)]; exact m2
  · rw [ha 6 (by omega) (by omega)]; exact m6
  · rw [ha 7 (by omega) (by omega)]; exact m7
  · rw [ha 8 (by omega) (by omega)]; exact m8
theorem live_sh {r a : Nat → Int32} (h : Liv r a) {v : Int32} (hv : Sm 29 v) : Liv (up r 50 v) (up a 7 v) := by
  obtain ⟨⟨l0, l2, l6, l7, l8⟩, ⟨m0, m1, m2, m6, m7, m8, m9⟩, l3, l4⟩ := h
  exact ⟨⟨by simp (disch := omega) only [gI_def, pI_s, pI_o, cI_s, cI_o, pL_1, pR_1, up_eq, up_ne]; exact l0, by simp (disch := omega) only [gI_def, pI_s, pI_o, cI_s, cI_o, pL_1, pR_1, up_eq, up_ne]; exact l2, by simp (disch := omega) only [gI_def, pI_s, pI_o, cI_s, cI_o, pL_1, pR_1, up_eq, up_ne]; exact l6, by simp (disch := omega) only [gI_def, pI_s, pI_o, cI_s, cI_o, pL_1, pR_1, up_eq, up_ne], by simp (disch := omega) only [gI_def, pI_s, pI_o, cI_s, cI_o, pL_1, pR_1, up_eq, up_ne]; exact l8⟩, ⟨by simp (disch := omega) only [gI_def, pI_s, pI_o, cI_s, cI_o, pL_1, pR_1, up_eq, up_ne]; exact m0, by simp (disch := omega) only [gI_def, pI_s, pI_o, cI_s, cI_o, pL_1, pR_1, up_eq, up_ne]; exact m1, by simp (disch := omega) only [gI_def, pI_s, pI_o, cI_s, cI_o, pL_1, pR_1, up_eq, up_ne]; exact m2, by simp (disch := omega) only [gI_def, pI_s, pI_o, cI_s, cI_o, pL_1, pR_1, up_eq, up_ne]; exact m6, by simp (disch := omega) only [gI_def, pI_s, pI_o, cI_s, cI_o, pL_1, pR_1, up_eq, up_ne]; exact hv, by simp (disch := omega) only [gI_def, pI_s, pI_o, cI_s, cI_o, pL_1, pR_1, up_eq, up_ne]; exact m8, by simp (disch := omega) only [gI_def, pI_s, pI_o, cI_s, cI_o, pL_1, pR_1, up_eq, up_ne]; exact m9⟩, l3.congr (fun i _ => by simp (disch := omega) only [gI_def, pI_s, pI_o, cI_s, cI_o, pL_1, pR_1, up_eq, up_ne]) (by simp (disch := omega) only [gI_def, pI_s, pI_o, cI_s, cI_o, pL_1, pR_1, up_eq, up_ne]) (fun i _ _ => by simp (disch := omega) only [gI_def, pI_s, pI_o, cI_s, cI_o, pL_1, pR_1, up_eq, up_ne]), l4.congr (fun i _ _ => by simp (disch := omega) only [gI_def, pI_s, pI_o, cI_s, cI_o, pL_1, pR_1, up_eq, up_ne]) (by simp (disch := omega) only [gI_def, pI_s, pI_o, cI_s, cI_o, pL_1, pR_1, up_eq, up_ne]) (fun i _ _ => by simp (disch := omega) only [gI_def, pI_s, pI_o, cI_s, cI_o, pL_1, pR_1, up_eq, up_ne]) (fun i _ _ => by simp (disch := omega) only [gI_def, pI_s, pI_o, cI_s, cI_o, pL_1, pR_1, up_eq, up_ne])⟩
theorem live_mi {r a : Nat → Int32} (h : Liv r a) {v : Int32} (hv : Sm 9999 v) : Liv (up r 51 v) (up a 6 v) := by
  obtain ⟨⟨l0, l2, l6, l7, l8⟩, ⟨m0, m1, m2, m6, m7, m8, m9⟩, l3, l4⟩ := h
  exact ⟨⟨by simp (disch := omega) only [gI_def, pI_s, pI_o, cI_s, cI_o, pL_1, pR_1, up_eq, up_ne]; exact l0, by simp (disch := omega) only [gI_def, pI_s, pI_o, cI_s, cI_o, pL_1, pR_1, up_eq, up_ne]; exact l2, by simp (disch := omega) only [gI_def, pI_s, pI_o, cI_s, cI_o, pL_1, pR_1, up_eq, up_ne], by simp (disch := omega) only [gI_def, pI_s, pI_o, cI_s, cI_o, pL_1, pR_1, up_eq, up_ne]; exact l7, by simp (disch := omega) only [gI_def, pI_s, pI_o, cI_s, cI_o, pL_1, pR_1, up_eq, up_ne]; exact l8⟩, ⟨by simp (disch := omega) only [gI_def, pI_s, pI_o, cI_s, cI_o, pL_1, pR_1, up_eq, up_ne]; exact m0, by simp (disch := omega) only [gI_def, pI_s, pI_o, cI_s, cI_o, pL_1, pR_1, up_eq, up_ne]; exact m1, by simp (disch := omega) only [gI_def, pI_s, pI_o, cI_s, cI_o, pL_1, pR_1, up_eq, up_ne]; exact m2, by simp (disch := omega) only [gI_def, pI_s, pI_o, cI_s, cI_o, pL_1, pR_1, up_eq, up_ne]; exact hv, by simp (disch := omega) only [gI_def, pI_s, pI_o, cI_s, cI_o, pL_1, pR_1, up_eq, up_ne]; exact m7, by simp (disch := omega) only [gI_def, pI_s, pI_o, cI_s, cI_o, pL_1, pR_1, up_eq, up_ne]; exact m8, by simp (disch := omega) only [gI_def, pI_s, pI_o, cI_s, cI_o, pL_1, pR_1, up_eq, up_ne]; exact m9⟩, l3.congr (fun i _ => by simp (disch := omega) only [gI_def, pI_s, pI_o, cI_s, cI_o, pL_1, pR_1, up_eq, up_ne]) (by simp (disch := omega) only [gI_def, pI_s, pI_o, cI_s, cI_o, pL_1, pR_1, up_eq, up_ne]) (fun i _ _ => by simp (disch := omega) only [gI_def, pI_s, pI_o, cI_s, cI_o, pL_1, pR_1, up_eq, up_ne]), l4.congr (fun i _ _ => by simp (disch := omega) only [gI_def, pI_s, pI_o, cI_s, cI_o, pL_1, pR_1, up_eq, up_ne]) (by simp (disch := omega) only [gI_def, pI_s, pI_o, cI_s, cI_o, pL_1, pR_1, up_eq, up_ne]) (fun i _ _ => by simp (disch := omega) only [gI_def, pI_s, pI_o, cI_s, cI_o, pL_1, pR_1, up_eq, up_ne]) (fun i _ _ => by simp (disch := omega) only [gI_def, pI_s, pI_o, cI_s, cI_o, pL_1, pR_1, up_eq, up_ne])⟩
theorem live_wa {r a : Nat → Int32} (h : Liv r a) {c : Nat} (hc : c < 30) {v : Int32} (hv : Sm 99 v) : Liv (up r (20 + c) v) (up a (40 + c) v) := by
  obtain ⟨⟨l0, l2, l6, l7, l8⟩, ⟨m0, m1, m2, m6, m7, m8, m9⟩, l3, l4⟩ := h
  refine ⟨⟨by simp (disch := omega) only [gI_def, pI_s, pI_o, cI_s, cI_o, pL_1, pR_1, up_eq, up_ne]; exact l0, by simp (disch := omega) only [gI_def, pI_s, pI_o, cI_s, cI_o, pL_1, pR_1, up_eq, up_ne]; exact l2, by simp (disch := omega) only [gI_def, pI_s, pI_o, cI_s, cI_o, pL_1, pR_1, up_eq, up_ne]; exact l6, by simp (disch := omega) only [gI_def, pI_s, pI_o, cI_s, cI_o, pL_1, pR_1, up_eq, up_ne]; exact l7, by simp (disch := omega) only [gI_def, pI_s, pI_o, cI_s, cI_o, pL_1, pR_1, up_eq, up_ne]; exact l8⟩, ⟨by simp (disch := omega) only [gI_def, pI_s, pI_o, cI_s, cI_o, pL_1, pR_1, up_eq, up_ne]; exact m0, by simp (disch := omega) only [gI_def, pI_s, pI_o, cI_s, cI_o, pL_1, pR_1, up_eq, up_ne]; exact m1, by simp (disch := omega) only [gI_def, pI_s, pI_o, cI_s, cI_o, pL_1, pR_1, up_eq, up_ne]; exact m2, by simp (disch := omega) only [gI_def, pI_s, pI_o, cI_s, cI_o, pL_1, pR_1, up_eq, up_ne]; exact m6, by simp (disch := omega) only [gI_def, pI_s, pI_o, cI_s, cI_o, pL_1, pR_1, up_eq, up_ne]; exact m7, by simp (disch := omega) only [gI_def, pI_s, pI_o, cI_s, cI_o, pL_1, pR_1, up_eq, up_ne]; exact m8, by simp (disch := omega) only [gI_def, pI_s, pI_o, cI_s, cI_o, pL_1, pR_1, up_eq, up_ne]; exact m9⟩, l3.congr (fun i _ => by simp (disch := omega) only [gI_def, pI_s, pI_o, cI_s, cI_o, pL_1, pR_1, up_eq, up_ne]) (by simp (disch := omega) only [gI_def, pI_s, pI_o, cI_s, cI_o, pL_1, pR_1, up_eq, up_ne]) (fun i _ _ => by simp (disch := omega) only [gI_def, pI_s, pI_o, cI_s, cI_o, pL_1, pR_1, up_eq, up_ne]), fun d hd => ?_, ?_⟩
  · have := l4.1 d hd
    by_cases e : d = c
    · subst e
      simp (disch := omega) only [gI_def, pI_s, pI_o, cI_s, cI_o, pL_1, pR_1, up_eq, up_ne]
      exact ⟨trivial, hv, this.2.2⟩
    · simp (disch := omega) only [gI_def, pI_s, pI_o, cI_s, cI_o, pL_1, pR_1, up_eq, up_ne]; exact this
  · obtain ⟨m, hm, e1, e2⟩ := l4.2
    exact ⟨m, hm, by simp (disch := omega) only [gI_def, pI_s, pI_o, cI_s, cI_o, pL_1, pR_1, up_eq, up_ne]; exact e1, fun d hd => by simp (disch := omega) only [gI_def, pI_s, pI_o, cI_s, cI_o, pL_1, pR_1, up_eq, up_ne]; exact e2 d hd⟩
/-! the BOOK -/
def Bk (ρ a : Nat → Int32) : Prop := ρ 53 = a 9 ∧ Boo ρ a
def bk0 (a : Nat → Int32) : Nat → Int32 := if a 9 = 30 then up (va_cpy a a 3645 3643 58) 9 29 else a
def bkA (a : Nat → Int32) (y : Int32) : Nat → Int32 := up (up (up (bk0 a) (3643 + 2 * nN (bk0 a 9)) (a 6)) (3644 + 2 * nN (bk0 a 9)) y) 9 (nI (nN (bk0 a 9) + 1))
def br0 (ρ : Nat → Int32) : Nat → Int32 := if ρ 53 < 30 then ρ else up (va_cpy ρ ρ 55 54 29) 53 29
def bkR (ρ : Nat → Int32) (x : Int32) : Nat → Int32 := up (up (br0 ρ) (54 + nN (br0 ρ 53)) x) 53 (nI (nN (br0 ρ 53) + 1))
theorem br0_of {ρ : Nat → Int32} {k : Nat} (hk : k ≤ 30) (e : ρ 53 = nI k) : (k < 30 ∧ br0 ρ = ρ ∧ nN (br0 ρ 53) = k) ∨ (k = 30 ∧ br0 ρ = up (va_cpy ρ ρ 55 54 29) 53 29 ∧ nN (br0 ρ 53) = 29) := by
  by_cases q : k < 30
  · left
    have : br0 ρ = ρ := by unfold br0; rw [if_pos (by rw [e]; exact nI_lt (b := 30) q (by decide))]
    exact ⟨q, this, by rw [this, e, nN_nI (by omega)]⟩
  · right
    have : br0 ρ = up (va_cpy ρ ρ 55 54 29) 53 29 := by unfold br0; rw [if_neg (by rw [e]; exact nI_nlt (b := 30) (by omega) (by omega))]
    exact ⟨by omega, this, by rw [this, up_eq]; rfl⟩
theorem bk0_of {a : Nat → Int32} {k : Nat} (hk : k ≤ 30) (e : a 9 = nI k) : (k < 30 ∧ bk0 a = a ∧ nN (bk0 a 9) = k) ∨ (k = 30 ∧ bk0 a = up (va_cpy a a 3645 3643 58) 9 29 ∧ nN (bk0 a 9) = 29) := by
  by_cases q : k = 30
  · right
    have : bk0 a = up (va_cpy a a 3645 3643 58) 9 29 := by unfold bk0; rw [if_pos (by rw [e, q]; rfl)]
    exact ⟨q, this, by rw [this, up_eq]; rfl⟩
  · left
    have : bk0 a = a := by unfold bk0; rw [if_neg (by rw [e, show (30 : Int32) = nI 30 from rfl, q_eq (by omega) (by omega)]; exact q)]
    exact ⟨by omega, this, by rw [this, e, nN_nI (by omega)]⟩
theorem bkR_out {ρ : Nat → Int32} {k : Nat} (hk : k ≤ 30) (e : ρ 53 = nI k) {x : Int32} {i : Nat} (hi : i < 53 ∨ 84 ≤ i) : bkR ρ x i = ρ i := by
  unfold bkR
  rcases br0_of hk e with ⟨h1, h2, h3⟩ | ⟨h1, h2, h3⟩
  · rw [h3, up_ne (by omega), up_ne (by omega), h2]
  · rw [h3, up_ne (by omega), up_ne (by omega), h2, up_ne (by omega), pk_cpy_out (by omega)]
theorem bkR_53 {ρ : Nat → Int32} {k : Nat} (hk : k ≤ 30) (e : ρ 53 = nI k) {x : Int32} : Sm 30 (bkR ρ x 53) := by
  unfold bkR
  rw [up_eq]
  rcases br0_of hk e with ⟨h1, h2, h3⟩ | ⟨h1, h2, h3⟩
  · rw [h3]; exact ⟨k + 1, by omega, rfl⟩
  · rw [h3]; exact ⟨30, by omega, rfl⟩
theorem bkA_out {a : Nat → Int32} {k : Nat} (hk : k ≤ 30) (e : a 9 = nI k) {y : Int32} {i : Nat} (hi : i < 3643) (h9 : i ≠ 9) : bkA a y i = a i := by
  unfold bkA
  rcases bk0_of hk e with ⟨h1, h2, h3⟩ | ⟨h1, h2, h3⟩
  · rw [h3, up_ne (by omega), up_ne (by omega), up_ne (by omega), h2]
  · rw [h3, up_ne (by omega), up_ne (by omega), up_ne (by omega), h2, up_ne (by omega), pk_cpy_out (by omega)]
theorem bk_Bk {ρ a : Nat → Int32} (h : Bk ρ a) {k : Nat} (hk : k ≤ 30) (e : a 9 = nI k) {x y : Int32} (hR : Rn x (a 6) y) : Bk (bkR ρ x) (bkA a y) := by
  have e' : ρ 53 = nI k := by rw [h.1, e]
  unfold bkR bkA
  rcases br0_of hk e' with ⟨h1, h2, h3⟩ | ⟨h1, h2, h3⟩ <;> rcases bk0_of hk e with ⟨g1, g2, g3⟩ | ⟨g1, g2, g3⟩
  · rw [h3, g3, h2, g2]
    refine ⟨by rw [up_eq, up_eq], fun j hj hj2 => ?_⟩
    rw [up_eq, nN_nI (by omega)] at hj2
    by_cases q : j = k
    · subst q
      simp (disch := omega) only [gI_def, pI_s, pI_o, cI_s, cI_o, pL_1, pR_1, up_eq, up_ne]; exact hR
    · simp (disch := omega) only [gI_def, pI_s, pI_o, cI_s, cI_o, pL_1, pR_1, up_eq, up_ne]
      exact h.2 j hj (by rw [e, nN_nI (by omega)]; omega)
  · omega
  · omega
  · rw [h3, g3, h2, g2]
    refine ⟨by rw [up_eq, up_eq], fun j hj hj2 => ?_⟩
    rw [up_eq, nN_nI (by omega)] at hj2
    by_cases q : j = 29
    · subst q
      simp (disch := omega) only [gI_def, pI_s, pI_o, cI_s, cI_o, pL_1, pR_1, up_eq, up_ne]; exact hR
    · simp (disch := omega) only [gI_def, pI_s, pI_o, cI_s, cI_o, pL_1, pR_1, up_eq, up_ne]
      rw [pk_cpy_in (by omega) (by omega), pk_cpy_in (by omega) (by omega), pk_cpy_in (by omega) (by omega)]
      have := h.2 (j + 1) (by omega) (by rw [e, nN_nI (by omega)]; omega)
      rw [show 55 + (54 + j - 54) = 54 + (j + 1) by omega, show 3645 + (3643 + 2 * j - 3643) = 3643 + 2 * (j + 1) by omega, show 3645 + (3644 + 2 * j - 3643) = 3644 + 2 * (j + 1) by omega]
      exact this
/-! what dries -/
def dcA (a : Nat → Int32) (x : Int32) : Nat → Nat → Int32
  | 0 => a
  | p + 1 => if nI p = x then dcA a x p else up (dcA a x p) (12 + 6 * p) (nI (nN (a (12 + 6 * p)) - 1))
def dcR (ρ a : Nat → Int32) (x : Int32) : Nat → Nat → Int32
  | 0 => ρ
  | p + 1 => if nI p = x then dcR ρ a x p else up (dcR ρ a x p) (10 + p) (nI (nN (a (12 + 6 * p)) - 1))
theorem dcA_out (a : Nat → Int32) (x : Int32) : ∀ n i, (∀ p, p < n → i ≠ 12 + 6 * p) → dcA a x n i = a i := by
  intro n
  induction n with
  | zero => intro i _; rfl
  | succ n ih =>
    intro i hi
    rw [dcA]
    by_cases q : nI n = x
    · rw [if_pos q]; exact ih i (fun p hp => hi p (by omega))
    · rw [if_neg q, up_ne (hi n (by omega))]; exact ih i (fun p hp => hi p (by omega))
theorem dcR_out (ρ a : Nat → Int32) (x : Int32) : ∀ n i, (∀ p, p < n → i ≠ 10 + p) → dcR ρ a x n i = ρ i := by
  intro n
  induction n with
  | zero => intro i _; rfl
  | succ n ih =>
    intro i hi
    rw [dcR]
    by_cases q : nI n = x
    · rw [if_pos q]; exact ih i (fun p hp => hi p (by omega))
    · rw [if_neg q, up_ne (hi n (by omega))]; exact ih i (fun p hp => hi p (by omega))
theorem live_dc {ρ a : Nat → Int32} (h : Liv ρ a) (x : Int32) : ∀ n, n ≤ nN (a 0) → Liv (dcR ρ a x n) (dcA a x n) := by
  intro n
  obtain ⟨N, hN, e1, e2, e3⟩ := h.ppl
  induction n with
  | zero => intro _; exact h
  | succ n ih =>
    intro hn
    have ih := ih (by omega)
    rw [dcR, dcA]
    by_cases q : nI n = x
    · rw [if_pos q, if_pos q]; exact ih
    · rw [if_neg q, if_neg q]
      obtain ⟨c, w, t, b, hc, hw, ht, hb, h5, g1, g2, g3, g4, g5, -⟩ := h.per (show n < nN (a 0) by omega)
      have := live_per ih (p := n) (k := 2) (m := 99) (v := nI (nN (a (12 + 6 * n)) - 1)) (by rw [dcA_out a x n 0 (fun p hp => by omega)]; omega) (by decide) rfl ⟨_, by rw [g5, nN_nI (by omega)]; omega, rfl⟩
      rw [show 5 * 2 + n = 10 + n by omega, show 10 + 6 * n + 2 = 12 + 6 * n by omega] at this
      exact this
theorem dc_LO (a : Nat → Int32) (x : Int32) {n : Nat} (hn : n ≤ 5) : LO a (dcA a x n) := fun i hi => dcA_out a x n i (fun p hp => by omega)
theorem dc_RO (ρ a : Nat → Int32) (x : Int32) {n : Nat} (hn : n ≤ 5) : RO ρ (dcR ρ a x n) := fun i hi => dcR_out ρ a x n i (fun p hp => by omega)
theorem dc_Bk {ρ a : Nat → Int32} (h : Bk ρ a) (x : Int32) {n : Nat} (hn : n ≤ 5) (b : Nat → Int32) : Bk (dcR ρ b x n) (dcA a x n) := by
  refine ⟨by rw [dcR_out ρ b x n 53 (fun p hp => by omega), dcA_out a x n 9 (fun p hp => by omega)]; exact h.1, h.2.congr (fun i _ _ => dcR_out ρ b x n i (fun p hp => by omega)) (dcA_out a x n 9 (fun p hp => by omega)) (fun i _ _ => dcA_out a x n i (fun p hp => by omega))⟩
theorem Bk.up {ρ a : Nat → Int32} (h : Bk ρ a) {i j : Nat} (hi : i < 53 ∨ 84 ≤ i) (hj : j ≠ 9) (hj2 : j < 3643) (v v' : Int32) : Bk (up ρ i v) (up a j v') := by
  refine ⟨by simp (disch := omega) only [gI_def, pI_s, pI_o, cI_s, cI_o, pL_1, pR_1, up_eq, up_ne]; exact h.1, h.2.congr (fun k _ _ => by simp (disch := omega) only [gI_def, pI_s, pI_o, cI_s, cI_o, pL_1, pR_1, up_eq, up_ne]) (by simp (disch := omega) only [gI_def, pI_s, pI_o, cI_s, cI_o, pL_1, pR_1, up_eq, up_ne]) (fun k _ _ => by simp (disch := omega) only [gI_def, pI_s, pI_o, cI_s, cI_o, pL_1, pR_1, up_eq, up_ne])⟩
/-! numbers that are held -/
theorem heldN {k h : Nat} (hk : k < 2 ^ 30) (hh : h < 2 ^ 30) {u : PoS} {post : Int32 → PoS → Prop} (K : post (nI (min k h)) u) : wp_X12_held (Int32.toInt64 (nI k)) 0 (nI h) u post := by
  refine heldM (lo := 0) (hi := h) (by decide) (nI_toInt (by omega)) (by omega) ?_
  have : cl32 0 h (Int32.toInt64 (nI k)).toInt = nI (min k h) := i32_eq (by
    rw [cl32_t (by omega) (by omega) (by omega), Int32.toInt_toInt64, nI_toInt (by omega), nI_toInt (by omega)]
    unfold clI
    rw [if_neg (by omega)]
    split <;> omega)
  rw [this]; exact K
theorem heldD {k : Nat} (hk : k ≤ 99) {u : PoS} {post : Int32 → PoS → Prop} (K : post (nI (k - 1)) u) : wp_X12_held (Int32.toInt64 (nI k - 1)) 0 99 u post := by
  refine heldM (lo := 0) (hi := 99) (by decide) (by decide) (by decide) ?_
  have : cl32 0 99 (Int32.toInt64 (nI k - 1)).toInt = nI (k - 1) := i32_eq (by
    rw [cl32_t (by decide) (by decide) (by decide), Int32.toInt_toInt64, show (1 : Int32) = nI 1 from rfl, pk_sub_toInt (by omega) (by omega), nI_toInt (by omega)]
    unfold clI
    split
    · omega
    · rw [if_neg (by omega)]; omega)
  rw [this]; exact K
theorem imin_n {a b : Nat} (ha : a < 2 ^ 31) (hb : b < 2 ^ 31) : imin (nI a) (nI b) = nI (min a b) := by
  unfold imin
  rw [Nat.min_def]
  by_cases q : nI b < nI a
  · rw [if_pos q]; rw [q_lt hb ha] at q; rw [if_neg (by omega)]
  · rw [if_neg q]; rw [q_lt hb ha] at q; rw [if_pos (by omega)]
theorem imax_d {k : Nat} (hk : k ≤ 99) : imax 0 (nI k - 1) = nI (k - 1) := by
  unfold imax
  by_cases q : k = 0
  · subst q; rfl
  · rw [show (1 : Int32) = nI 1 from rfl, q_sub (by omega), show (0 : Int32) = nI 0 from rfl]
    by_cases z : nI 0 < nI (k - 1)
    · rw [if_pos z]
    · rw [if_neg z]; rw [q_lt (by omega) (by omega)] at z; congr 1; omega
