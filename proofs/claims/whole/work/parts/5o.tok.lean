/-! TOKENS of a tape: bytes b, length L -/
theorem shl8 (m b : Nat) (hm : m < 2 ^ 48) (hb : b < 256) : (Int64.ofNat m <<< (Int32.toInt64 8 &&& 63)) ||| Int64.ofNat b = Int64.ofNat (m * 256 + b) := by
  rw [show (Int32.toInt64 8 &&& 63) = (8 : Int64) by decide]
  apply Int64.toBitVec_inj.mp
  rw [Int64.toBitVec_or, Int64.toBitVec_shiftLeft, show (Int64.toBitVec 8).smod 64 = 8#64 by decide]
  apply BitVec.eq_of_toNat_eq
  have e : ∀ n : Nat, (Int64.ofNat n).toBitVec = BitVec.ofNat 64 n := fun n => rfl
  rw [e, e, e, BitVec.toNat_or, BitVec.toNat_ofNat, BitVec.toNat_ofNat, BitVec.shiftLeft_eq', BitVec.toNat_shiftLeft, BitVec.toNat_ofNat, show (8#64).toNat = 8 by decide, Nat.mod_eq_of_lt (a := m) (by omega), Nat.mod_eq_of_lt (a := b) (by omega)]
  rw [Nat.mod_eq_of_lt (a := m <<< 8) (by rw [Nat.shiftLeft_eq]; omega), Nat.mod_eq_of_lt (by omega), ← Nat.shiftLeft_add_eq_or_of_lt (by omega), Nat.shiftLeft_eq]
theorem shr48 (m : Nat) (hm : m < 2 ^ 63) : (Int64.ofNat m >>> (Int32.toInt64 48 &&& 63)) = Int64.ofNat (m / 2 ^ 48) := by
  rw [show (Int32.toInt64 48 &&& 63) = (48 : Int64) by decide]
  apply Int64.toBitVec_inj.mp
  rw [Int64.toBitVec_shiftRight, show (Int64.toBitVec 48).smod 64 = 48#64 by decide]
  have e : ∀ n : Nat, (Int64.ofNat n).toBitVec = BitVec.ofNat 64 n := fun n => rfl
  apply BitVec.eq_of_toNat_eq
  rw [e, e, BitVec.toNat_sshiftRight'_of_msb_false (by rw [BitVec.msb_eq_false_iff_two_mul_lt, BitVec.toNat_ofNat, Nat.mod_eq_of_lt (by omega)]; omega), show (48#64).toNat = 48 by decide, BitVec.toNat_ofNat, BitVec.toNat_ofNat, Nat.mod_eq_of_lt (a := m) (by omega), Nat.shiftRight_eq_div_pow, Nat.mod_eq_of_lt (by omega)]
def isD (c : Nat) : Bool := decide (48 ≤ c ∧ c ≤ 57)
def isL (c : Nat) : Bool := decide ((97 ≤ c ∧ c ≤ 122) ∨ (65 ≤ c ∧ c ≤ 90))
def rnE (P : Nat → Bool) (b : Nat → Nat) (L : Nat) : Nat → Nat → Nat
  | 0, q => q
  | f + 1, q => if q < L ∧ P (b q) = true then rnE P b L f (q + 1) else q
def nmC (b : Nat → Nat) : Nat → Nat → Nat → Nat
  | 0, _, v => v
  | c + 1, p, v => nmC b c (p + 1) (min 10000 (v * 10 + b p - 48))
def nmM (b : Nat → Nat) : Nat → Nat → Nat → Nat
  | 0, _, v => v
  | c + 1, p, v => nmM b c (p + 1) (if v ≤ 99999 then 10 * v + b p - 48 else v)
def stW : Nat → Nat
  | 0 => 0
  | x + 1 => if jsC 0 x = 32 then x + 1 else stW x
def wiW : Nat → Nat
  | 0 => 0
  | x + 1 => if jsC 0 x = 32 then wiW x + 1 else wiW x
def wkW (b : Nat → Nat) (p e : Nat) : Nat → Nat → Bool → Nat
  | 0, _, _ => 42
  | m + 1, x, ok => if jsC 0 x = 32 then (if ok = true ∧ p + (x - stW x) = e then wiW x else wkW b p e m (x + 1) true) else wkW b p e m (x + 1) (ok && decide (p + (x - stW x) < e ∧ nI (b (p + (x - stW x))) = jsC 0 x))
def sgS (c : Nat) : Nat := if c = 60 then 28 else if c = 62 then 29 else if c = 61 then 30 else if c = 35 then 31 else if c = 43 then 32 else if c = 45 then 33 else if c = 42 then 34 else if c = 47 then 35 else if c = 40 then 36 else if c = 41 then 37 else if c = 59 then 38 else 42
def sgK (c d : Nat) : Nat := if d = 61 ∧ c = 60 then 39 else if d = 61 ∧ c = 62 then 40 else sgS c
def nbE (b : Nat → Nat) (L p : Nat) : Nat := if p + 1 < L then b (p + 1) else 0
def tkE (b : Nat → Nat) (L p : Nat) : Nat := if isD (b p) = true then rnE isD b L L (p + 1) else if isL (b p) = true then rnE isL b L L (p + 1) else if 39 ≤ sgK (b p) (nbE b L p) ∧ sgK (b p) (nbE b L p) ≤ 40 then p + 2 else p + 1
def tkN (b : Nat → Nat) (L p : Nat) : Nat := if isD (b p) = true then nmC b (tkE b L p - p) p 0 else 0
def tkK (b : Nat → Nat) (L p : Nat) : Nat := if isD (b p) = true then 41 else if isL (b p) = true then wkW b p (tkE b L p) 136 0 true else sgK (b p) (nbE b L p)
abbrev Tk := Nat × Nat × Nat × Nat
def toks (b : Nat → Nat) (L : Nat) : Nat → Nat → List Tk
  | 0, _ => [(43, 0, L, L)]
  | f + 1, p => if L ≤ p then [(43, 0, L, L)] else if b p = 32 ∨ b p = 10 then toks b L f (p + 1) else (tkK b L p, tkN b L p, p, tkE b L p) :: toks b L f (tkE b L p)
theorem rn_b {P : Nat → Bool} {b : Nat → Nat} {L : Nat} : ∀ {f q : Nat}, q ≤ L → q ≤ rnE P b L f q ∧ rnE P b L f q ≤ L := by
  intro f
  induction f with
  | zero => intro q h; exact ⟨Nat.le_refl q, h⟩
  | succ f ih =>
    intro q h
    rw [rnE]
    split
    · have := ih (q := q + 1) (by omega)
      omega
    · omega
theorem rn_in {P : Nat → Bool} {b : Nat → Nat} {L : Nat} : ∀ {f q i : Nat}, q ≤ i → i < rnE P b L f q → P (b i) = true := by
  intro f
  induction f with
  | zero => intro q i h h2; rw [rnE] at h2; omega
  | succ f ih =>
    intro q i h h2
    rw [rnE] at h2
    split at h2
    · by_cases e : q = i
      · subst e; exact (by assumption : _ ∧ _).2
      · exact ih (q := q + 1) (by omega) h2
    · omega
theorem sgS_b (c : Nat) : 28 ≤ sgS c ∧ sgS c ≤ 42 ∧ sgS c ≠ 41 ∧ sgS c ≠ 39 ∧ sgS c ≠ 40 := by
  generalize h : sgS c = v
  unfold sgS at h
  repeat' (first | (subst h; decide) | split at h)
theorem sg_b (c d : Nat) : 28 ≤ sgK c d ∧ sgK c d ≤ 42 ∧ sgK c d ≠ 41 ∧ (39 ≤ sgK c d ∧ sgK c d ≤ 40 → d = 61) := by
  have hs := sgS_b c
  by_cases h1 : d = 61 ∧ c = 60
  · rw [sgK, if_pos h1]; omega
  by_cases h2 : d = 61 ∧ c = 62
  · rw [sgK, if_neg h1, if_pos h2]; omega
  rw [sgK, if_neg h1, if_neg h2]
  omega
theorem tkE_b {b : Nat → Nat} {L p : Nat} (h : p < L) : p < tkE b L p ∧ tkE b L p ≤ L := by
  unfold tkE
  split
  · have := rn_b (P := isD) (b := b) (f := L) (show p + 1 ≤ L by omega); omega
  · split
    · have := rn_b (P := isL) (b := b) (f := L) (show p + 1 ≤ L by omega); omega
    · split
      · have h1 := (sg_b (b p) (nbE b L p)).2.2.2 (by assumption)
        unfold nbE at h1
        split at h1
        · omega
        · omega
      · omega
theorem nmC_b (b : Nat → Nat) : ∀ c p v, v ≤ 10000 → nmC b c p v ≤ 10000 := by
  intro c
  induction c with
  | zero => intro p v h; exact h
  | succ c ih => intro p v h; exact ih (p + 1) _ (by omega)
theorem nm_rel (b : Nat → Nat) : ∀ c p v m, (∀ i, p ≤ i → i < p + c → 48 ≤ b i ∧ b i ≤ 57) → m ≤ 999999 → v ≤ 10000 → (m = v ∨ (9999 < m ∧ 9999 < v)) → nmM b c p m ≤ 999999 ∧ (nmM b c p m = nmC b c p v ∨ (9999 < nmM b c p m ∧ 9999 < nmC b c p v)) := by
  intro c
  induction c with
  | zero => intro p v m _ h1 h2 h3; exact ⟨h1, h3⟩
  | succ c ih =>
    intro p v m hd h1 h2 h3
    have := hd p (by omega) (by omega)
    rw [nmM, nmC]
    refine ih (p + 1) _ _ (fun i q1 q2 => hd i (by omega) (by omega)) ?_ (by omega) ?_
    · split <;> omega
    · split <;> omega
theorem st_le : ∀ x, stW x ≤ x := by
  intro x
  induction x with
  | zero => exact Nat.le_refl 0
  | succ x ih =>
    rw [stW]
    split <;> omega
def MtW (b : Nat → Nat) (p e y : Nat) : Prop := jsC 0 y = 32 ∧ p + (y - stW y) = e ∧ ∀ i, i < y - stW y → jsC 0 (stW y + i) = nI (b (p + i))
theorem wk_mean {b : Nat → Nat} {p e : Nat} (hpe : p ≤ e) : ∀ m x ok, x + m = 136 → (ok = true ↔ p + (x - stW x) ≤ e ∧ ∀ i, i < x - stW x → jsC 0 (stW x + i) = nI (b (p + i))) → (∃ y, y < 136 ∧ MtW b p e y ∧ wkW b p e m x ok = wiW y) ∨ (wkW b p e m x ok = 42 ∧ ∀ y, x ≤ y → y < 136 → ¬ MtW b p e y) := by
  intro m
  induction m with
  | zero => intro x ok hx _; exact Or.inr ⟨rfl, fun y q1 q2 => by omega⟩
  | succ m ih =>
    intro x ok hx hok
    have hst := st_le x
    rw [wkW]
    by_cases c : jsC 0 x = 32
    · rw [if_pos c]
      by_cases g : ok = true ∧ p + (x - stW x) = e
      · rw [if_pos g]
        exact Or.inl ⟨x, by omega, ⟨c, g.2, (hok.mp g.1).2⟩, rfl⟩
      · rw [if_neg g]
        have e0 : stW (x + 1) = x + 1 := by rw [stW, if_pos c]
        rcases ih (x + 1) true (by omega) (by rw [e0, Nat.sub_self]; exact ⟨fun _ => ⟨by omega, fun i hi => by omega⟩, fun _ => rfl⟩) with h | ⟨h1, h2⟩
        · exact Or.inl h
        · refine Or.inr ⟨h1, fun y q1 q2 hm => ?_⟩
          by_cases q : y = x
          · subst q
            exact g ⟨hok.mpr ⟨by rw [hm.2.1]; exact Nat.le_refl e, hm.2.2⟩, hm.2.1⟩
          · exact h2 y (by omega) q2 hm
    · rw [if_neg c]
      have e0 : stW (x + 1) = stW x := by rw [stW, if_neg c]
      have e1 : x + 1 - stW x = (x - stW x) + 1 := by omega
      have e2 : stW x + (x - stW x) = x := by omega
      rcases ih (x + 1) (ok && decide (p + (x - stW x) < e ∧ nI (b (p + (x - stW x))) = jsC 0 x)) (by omega) (by
        rw [e0, e1, Bool.and_eq_true, decide_eq_true_iff, hok]
        refine ⟨fun h => ⟨by omega, fun i hi => ?_⟩, fun h => ⟨⟨by omega, fun i hi => h.2 i (by omega)⟩, by omega, ?_⟩⟩
        · by_cases q : i = x - stW x
          · subst q; rw [e2]; exact h.2.2.symm
          · exact h.1.2 i (by omega)
        · have := h.2 (x - stW x) (by omega)
          rw [e2] at this; exact this.symm) with h | ⟨h1, h2⟩
      · exact Or.inl h
      · refine Or.inr ⟨h1, fun y q1 q2 hm => ?_⟩
        by_cases q : y = x
        · subst q; exact c hm.1
        · exact h2 y (by omega) q2 hm
/-- the number that letters are, base 256 -/
def cvF (g : Nat → Nat) : Nat → Nat
  | 0 => 0
  | c + 1 => cvF g c * 256 + g c
theorem cv_inj {g h : Nat → Nat} : ∀ c c', (∀ i, i < c → 1 ≤ g i ∧ g i ≤ 255) → (∀ i, i < c' → 1 ≤ h i ∧ h i ≤ 255) → cvF g c = cvF h c' → c = c' ∧ ∀ i, i < c → g i = h i := by
  intro c
  induction c with
  | zero =>
    intro c' _ hh e
    cases c' with
    | zero => exact ⟨rfl, fun i hi => by omega⟩
    | succ c' => rw [cvF, cvF] at e; have := hh c' (by omega); omega
  | succ c ih =>
    intro c' hg hh e
    cases c' with
    | zero => rw [cvF, cvF] at e; have := hg c (by omega); omega
    | succ c' =>
      rw [cvF, cvF] at e
      have h1 := hg c (by omega)
      have h2 := hh c' (by omega)
      obtain ⟨e1, e2⟩ := ih c' (fun i hi => hg i (by omega)) (fun i hi => hh i (by omega)) (by omega)
      subst e1
      refine ⟨rfl, fun i hi => ?_⟩
      by_cases q : i = c
      · subst q; omega
      · exact e2 i (by omega)
theorem cv_b {g : Nat → Nat} : ∀ c, (∀ i, i < c → g i ≤ 255) → cvF g c < 256 ^ c := by
  intro c
  induction c with
  | zero => intro _; exact Nat.one_pos
  | succ c ih =>
    intro h
    rw [cvF, Nat.pow_succ]
    have := ih (fun i hi => h i (by omega))
    have := h c (by omega)
    omega
theorem cv_eq {g h : Nat → Nat} : ∀ c, (∀ i, i < c → g i = h i) → cvF g c = cvF h c := by
  intro c
  induction c with
  | zero => intro _; rfl
  | succ c ih => intro e; rw [cvF, cvF, ih (fun i hi => e i (by omega)), e c (by omega)]
theorem tblA : ∀ y, y < 136 → jsC 0 y = 32 → wiW y ≤ 27 ∧ y - stW y ≤ 6 ∧ Int64.ofNat (cvF (fun i => nN (jsC 0 (stW y + i))) (y - stW y)) = WD (wiW y) ∧ ∀ i, i < 6 → i < y - stW y → 1 ≤ nN (jsC 0 (stW y + i)) ∧ nN (jsC 0 (stW y + i)) ≤ 255 := by decide +kernel
def poW (j : Nat) : Nat := [5, 11, 18, 24, 29, 34, 38, 43, 48, 55, 59, 63, 68, 71, 76, 82, 88, 94, 101, 104, 108, 111, 114, 119, 124, 128, 131, 135].getD j 0
theorem tblB : ∀ j, j < 28 → poW j < 136 ∧ jsC 0 (poW j) = 32 ∧ wiW (poW j) = j := by decide +kernel
theorem wd_mean {b : Nat → Nat} {p e : Nat} (hpe : p ≤ e) (hl : ∀ i, p ≤ i → i < e → 1 ≤ b i ∧ b i ≤ 255) : (wkW b p e 136 0 true ≤ 27 ∧ e - p ≤ 6 ∧ Int64.ofNat (cvF (fun i => b (p + i)) (e - p)) = WD (wkW b p e 136 0 true)) ∨ (wkW b p e 136 0 true = 42 ∧ (e - p ≤ 7 → ∀ j, j ≤ 27 → Int64.ofNat (cvF (fun i => b (p + i)) (e - p)) ≠ WD j)) := by
  rcases wk_mean (b := b) hpe 136 0 true rfl ⟨fun _ => ⟨hpe, fun i hi => absurd hi (Nat.not_lt_zero i)⟩, fun _ => rfl⟩ with ⟨y, hy, ⟨m1, m2, m3⟩, h⟩ | ⟨h, hn⟩
  · obtain ⟨a1, a2, a3, a4⟩ := tblA y hy m1
    refine Or.inl ⟨by rw [h]; exact a1, by omega, ?_⟩
    rw [h, ← a3, show e - p = y - stW y by omega]
    congr 1
    refine cv_eq _ (fun i hi => ?_)
    have := hl (p + i) (by omega) (by omega)
    rw [m3 i hi, nN_nI (by omega)]
  · refine Or.inr ⟨h, fun h7 j hj he => ?_⟩
    obtain ⟨y1, y2, y3⟩ := tblB j (by omega)
    obtain ⟨a1, a2, a3, a4⟩ := tblA (poW j) y1 y2
    rw [y3] at a3
    have b1 := cv_b (g := fun i => b (p + i)) (e - p) (fun i hi => (hl (p + i) (by omega) (by omega)).2)
    have b2 := cv_b (g := fun i => nN (jsC 0 (stW (poW j) + i))) (poW j - stW (poW j)) (fun i hi => (a4 i (by omega) hi).2)
    have c1 : 256 ^ (e - p) ≤ 256 ^ 7 := Nat.pow_le_pow_right (by decide) h7
    have c2 : 256 ^ (poW j - stW (poW j)) ≤ 256 ^ 7 := Nat.pow_le_pow_right (by decide) (by omega)
    have c3 : (256 : Nat) ^ 7 < 2 ^ 63 := by decide
    have e1 := congrArg Int64.toInt (he.trans a3.symm)
    rw [Int64.toInt_ofNat_of_lt (by omega), Int64.toInt_ofNat_of_lt (by omega)] at e1
    obtain ⟨f1, f2⟩ := cv_inj (e - p) (poW j - stW (poW j)) (fun i hi => hl (p + i) (by omega) (by omega)) (fun i hi => a4 i (by omega) hi) (by omega)
    refine hn (poW j) (Nat.zero_le _) y1 ⟨y2, by omega, fun i hi => ?_⟩
    have := f2 i (by omega)
    have a5 := a4 i (by omega) hi
    rw [show b (p + i) = nN (jsC 0 (stW (poW j) + i)) from this]
    have js : ∀ x, x < 136 → jsC 0 x = nI (nN (jsC 0 x)) := by decide +kernel
    have := st_le (poW j)
    exact js _ (by omega)
theorem tkK_b {b : Nat → Nat} {L p : Nat} (hp : p < L) : tkK b L p ≤ 42 := by
  have hb := tkE_b (b := b) hp
  unfold tkK
  split
  · omega
  · split
    · rcases wk_mean (b := b) (p := p) (e := tkE b L p) (by omega) 136 0 true rfl ⟨fun _ => ⟨by omega, fun i hi => absurd hi (Nat.not_lt_zero i)⟩, fun _ => rfl⟩ with ⟨y, hy, ⟨m1, m2, m3⟩, h⟩ | ⟨h, hn⟩
      · have := (tblA y hy m1).1
        omega
      · omega
    · exact (sg_b _ _).2.1
theorem toks_len {b : Nat → Nat} {L : Nat} : ∀ f p, p ≤ L → (toks b L f p).length ≤ L - p + 1 := by
  intro f
  induction f with
  | zero => intro p h; show 1 ≤ _; omega
  | succ f ih =>
    intro p h
    rw [toks]
    split
    · show 1 ≤ _; omega
    · split
      · have := ih (p + 1) (by omega); omega
      · have hb := tkE_b (b := b) (L := L) (p := p) (by omega)
        have := ih (tkE b L p) (by omega)
        rw [List.length_cons]; omega
theorem toks_last {b : Nat → Nat} {L : Nat} : ∀ f p, ∃ T0, toks b L f p = T0 ++ [(43, 0, L, L)] := by
  intro f
  induction f with
  | zero => intro p; exact ⟨[], rfl⟩
  | succ f ih =>
    intro p
    rw [toks]
    split
    · exact ⟨[], rfl⟩
    · split
      · exact ih (p + 1)
      · obtain ⟨T0, h⟩ := ih (tkE b L p)
        exact ⟨_ :: T0, by rw [h]; rfl⟩
theorem tkN_b {b : Nat → Nat} {L p : Nat} : tkN b L p ≤ 10000 := by
  unfold tkN
  split
  · exact nmC_b b _ _ _ (by omega)
  · omega
theorem toks_bd {b : Nat → Nat} {L : Nat} : ∀ (f p k : Nat) (x : Tk), p ≤ L → (toks b L f p)[k]? = some x → x.1 ≤ 43 ∧ x.2.1 ≤ 10000 ∧ x.2.2.1 ≤ L ∧ x.2.2.2 ≤ L := by
  have one : ∀ (k : Nat) (x : Tk), [((43, 0, L, L) : Tk)][k]? = some x → x.1 ≤ 43 ∧ x.2.1 ≤ 10000 ∧ x.2.2.1 ≤ L ∧ x.2.2.2 ≤ L := by
    intro k x h
    cases k with
    | zero => obtain rfl := Option.some.inj h; exact ⟨Nat.le_refl _, Nat.zero_le _, Nat.le_refl _, Nat.le_refl _⟩
    | succ k => exact absurd h (by simp)
  intro f
  induction f with
  | zero => intro p k x _ h; exact one k x h
  | succ f ih =>
    intro p k x hp h
    rw [toks] at h
    split at h
    · exact one k x h
    · split at h
      · exact ih (p + 1) k x (by omega) h
      · have hb := tkE_b (b := b) (L := L) (p := p) (by omega)
        cases k with
        | zero =>
          obtain rfl := Option.some.inj h
          have := tkK_b (b := b) (L := L) (p := p) (by omega)
          exact ⟨by show tkK b L p ≤ 43; omega, tkN_b, by show p ≤ L; omega, hb.2⟩
        | succ k => exact ih (tkE b L p) k x hb.2 (by simpa using h)
theorem toks_tl {b : Nat → Nat} {L : Nat} : ∀ (f p k : Nat) (x : Tk), p ≤ L → L - p < f → (toks b L f p)[k]? = some x → x.1 ≠ 43 → ∃ f', L - x.2.2.2 < f' ∧ (toks b L f p).drop (k + 1) = toks b L f' x.2.2.2 := by
  intro f
  induction f with
  | zero => intro p k x _ h; omega
  | succ f ih =>
    intro p k x hp hf h hx
    rw [toks] at h ⊢
    by_cases q : L ≤ p
    · rw [if_pos q] at h
      cases k with
      | zero => obtain rfl := Option.some.inj h; exact absurd rfl hx
      | succ k => exact absurd h (by simp)
    · rw [if_neg q] at h ⊢
      by_cases q2 : b p = 32 ∨ b p = 10
      · rw [if_pos q2] at h ⊢
        exact ih (p + 1) k x (by omega) (by omega) h hx
      · rw [if_neg q2] at h ⊢
        have hb := tkE_b (b := b) (L := L) (p := p) (by omega)
        cases k with
        | zero =>
          obtain rfl := Option.some.inj h
          exact ⟨f, by show L - tkE b L p < f; omega, rfl⟩
        | succ k =>
          exact ih (tkE b L p) k x hb.2 (by omega) (by simpa using h) hx
