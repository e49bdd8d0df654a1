/-! HOW MANY bits are set -/
theorem ld_split {a ma : Nat} (b mb : Nat) (ha : a < 2 ^ 8) (hm : ma < 2 ^ 8) : (2 ^ 8 * b + a) &&& (2 ^ 8 * mb + ma) = 2 ^ 8 * (b &&& mb) + (a &&& ma) := by
  apply Nat.eq_of_testBit_eq
  intro i
  rw [Nat.testBit_and, Nat.testBit_two_pow_mul_add _ ha, Nat.testBit_two_pow_mul_add _ hm, Nat.testBit_two_pow_mul_add _ (Nat.and_lt_two_pow _ hm)]
  by_cases h : i < 8
  · rw [if_pos h, if_pos h, if_pos h, Nat.testBit_and]
  · rw [if_neg h, if_neg h, if_neg h, Nat.testBit_and]
theorem ld_a1 : ∀ t, t < 2 → ∀ l, l < 128 → (128 * t + l) &&& 85 = l &&& 85 := by decide +kernel
theorem ld_b1 : ∀ t, t < 4 → ∀ l, l < 64 → (64 * t + l) &&& 51 = l &&& 51 := by decide +kernel
theorem ld_A (hi : Nat) {lo : Nat} (h : lo < 256) (m : Nat) : ((256 * hi + lo) / 2) &&& (256 * m + 85) = 256 * ((hi / 2) &&& m) + ((lo / 2) &&& 85) := by
  rw [show (256 * hi + lo) / 2 = 2 ^ 8 * (hi / 2) + (128 * (hi % 2) + lo / 2) by omega, show 256 * m + 85 = 2 ^ 8 * m + 85 by omega, ld_split _ _ (by omega) (by decide), ld_a1 _ (by omega) _ (by omega)]
theorem ld_B (hi : Nat) {lo : Nat} (h : lo < 256) (m : Nat) : ((256 * hi + lo) / 4) &&& (256 * m + 51) = 256 * ((hi / 4) &&& m) + ((lo / 4) &&& 51) := by
  rw [show (256 * hi + lo) / 4 = 2 ^ 8 * (hi / 4) + (64 * (hi % 4) + lo / 4) by omega, show 256 * m + 51 = 2 ^ 8 * m + 51 by omega, ld_split _ _ (by omega) (by decide), ld_b1 _ (by omega) _ (by omega)]
theorem ld_c1 : ∀ t, t < 5 → ∀ l, l < 5 → ∀ k, k < 5 → (16 * t + (17 * l + k)) &&& 15 = (17 * l + k) &&& 15 := by decide +kernel
theorem ld_C (hi : Nat) {lo : Nat} (h1 : lo % 16 ≤ 4) (h2 : lo / 16 ≤ 4) (h3 : hi % 16 ≤ 4) (m : Nat) : ((256 * hi + lo) + (256 * hi + lo) / 16) &&& (256 * m + 15) = 256 * ((hi + hi / 16) &&& m) + ((lo + lo / 16) &&& 15) := by
  rw [show (256 * hi + lo) + (256 * hi + lo) / 16 = 2 ^ 8 * (hi + hi / 16) + (16 * (hi % 16) + (17 * (lo / 16) + lo % 16)) by omega, show 256 * m + 15 = 2 ^ 8 * m + 15 by omega, ld_split _ _ (by omega) (by decide), ld_c1 _ (by omega) _ (by omega) _ (by omega), show lo + lo / 16 = 17 * (lo / 16) + lo % 16 by omega]
/-- the steps for a byte -/
def g1 (b : Nat) : Nat := b - ((b / 2) &&& 85)
def g2 (b : Nat) : Nat := (g1 b &&& 51) + ((g1 b / 4) &&& 51)
def g3 (b : Nat) : Nat := (g2 b + g2 b / 16) &&& 15
def cn (x : Nat) : Nat → Nat
  | 0 => 0
  | k + 1 => cn x k + (if x.testBit k = true then 1 else 0)
theorem g_all : ∀ b, b < 256 → ((b / 2) &&& 85) ≤ b ∧ g1 b < 256 ∧ g2 b % 16 ≤ 4 ∧ g2 b / 16 ≤ 4 ∧ g3 b ≤ 8 ∧ g3 b = cn b 8 ∧ (g1 b &&& 51) ≤ 51 ∧ ((g1 b / 4) &&& 51) ≤ 51 := by decide +kernel
theorem cn_add (hi : Nat) {lo : Nat} (h : lo < 2 ^ 8) : ∀ k, cn (2 ^ 8 * hi + lo) (8 + k) = cn lo 8 + cn hi k := by
  intro k
  induction k with
  | zero =>
    have : ∀ j, j ≤ 8 → cn (2 ^ 8 * hi + lo) j = cn lo j := by
      intro j
      induction j with
      | zero => intro _; rfl
      | succ j ih => intro hj; rw [cn, cn, ih (by omega), Nat.testBit_two_pow_mul_add _ h, if_pos (show j < 8 by omega)]
    exact this 8 (Nat.le_refl 8)
  | succ k ih =>
    have e : cn (2 ^ 8 * hi + lo) (8 + (k + 1)) = cn (2 ^ 8 * hi + lo) (8 + k) + (if (2 ^ 8 * hi + lo).testBit (8 + k) = true then 1 else 0) := rfl
    rw [e, ih, show cn hi (k + 1) = cn hi k + (if hi.testBit k = true then 1 else 0) from rfl, Nat.testBit_two_pow_mul_add _ h, if_neg (show ¬ 8 + k < 8 by omega), show 8 + k - 8 = k by omega]
    omega
theorem cnt_cn (x : Int32) : ∀ k, cnt x k = cn x.toBitVec.toNat k := by
  intro k
  induction k with
  | zero => rfl
  | succ k ih => rw [cnt, cn, ih, hb_tn]
theorem ld_m (m : Nat) : 256 * m + 51 = 2 ^ 8 * m + 51 := rfl
theorem bc_all (x : Int32) : bcF x = nI (cnt x 32) := by
  have hX : x.toBitVec.toNat < 2 ^ 32 := x.toBitVec.isLt
  obtain ⟨a, b, c, d, ha, hb', hc, hd, eX⟩ : ∃ a b c d, a < 256 ∧ b < 256 ∧ c < 256 ∧ d < 256 ∧ x.toBitVec.toNat = 256 * (256 * (256 * d + c) + b) + a := ⟨x.toBitVec.toNat % 256, x.toBitVec.toNat / 256 % 256, x.toBitVec.toNat / 65536 % 256, x.toBitVec.toNat / 16777216, by omega, by omega, by omega, by omega, by omega⟩
  obtain ⟨a1, a2, a3, a4, a5, a6, a7, a8⟩ := g_all a ha
  obtain ⟨b1, b2, b3, b4, b5, b6, b7, b8⟩ := g_all b hb'
  obtain ⟨c1, c2, c3, c4, c5, c6, c7, c8⟩ := g_all c hc
  obtain ⟨d1, d2, d3, d4, d5, d6, d7, d8⟩ := g_all d hd
  have hcnt : cnt x 32 = g3 a + (g3 b + (g3 c + g3 d)) := by
    rw [cnt_cn, eX, show 256 * (256 * (256 * d + c) + b) + a = 2 ^ 8 * (2 ^ 8 * (2 ^ 8 * d + c) + b) + a by omega, show 32 = 8 + (8 + (8 + 8)) from rfl, cn_add _ (by omega), cn_add _ (by omega), cn_add _ (by omega), a6, b6, c6, d6]
  -- stage 1
  obtain ⟨y1, hy1⟩ : ∃ y, y = x - ((ushr x 1) &&& 1431655765) := ⟨_, rfl⟩
  have n1 : y1.toBitVec.toNat = 256 * (256 * (256 * g1 d + g1 c) + g1 b) + g1 a := by
    have hm : ((ushr x 1) &&& 1431655765).toBitVec.toNat = 256 * (256 * (256 * ((d / 2) &&& 85) + ((c / 2) &&& 85)) + ((b / 2) &&& 85)) + ((a / 2) &&& 85) := by
      rw [Int32.toBitVec_and, BitVec.toNat_and, show (ushr x 1).toBitVec.toNat = x.toBitVec.toNat / 2 ^ 1 from pk_ushr x 1 1 rfl, show (1431655765 : Int32).toBitVec.toNat = 256 * (256 * (256 * 85 + 85) + 85) + 85 from rfl, eX, show (2 : Nat) ^ 1 = 2 from rfl, ld_A _ ha, ld_A _ hb', ld_A _ hc]
    rw [hy1, Int32.toBitVec_sub, BitVec.toNat_sub, hm, eX]
    unfold g1
    omega
  obtain ⟨y2, hy2⟩ : ∃ y, y = (y1 &&& 858993459) + ((ushr y1 2) &&& 858993459) := ⟨_, rfl⟩
  have n2 : y2.toBitVec.toNat = 256 * (256 * (256 * g2 d + g2 c) + g2 b) + g2 a := by
    have h1 : (y1 &&& 858993459).toBitVec.toNat = 256 * (256 * (256 * (g1 d &&& 51) + (g1 c &&& 51)) + (g1 b &&& 51)) + (g1 a &&& 51) := by
      rw [Int32.toBitVec_and, BitVec.toNat_and, n1, show (858993459 : Int32).toBitVec.toNat = 2 ^ 8 * (2 ^ 8 * (2 ^ 8 * 51 + 51) + 51) + 51 from rfl, show 256 * (256 * (256 * g1 d + g1 c) + g1 b) + g1 a = 2 ^ 8 * (2 ^ 8 * (2 ^ 8 * g1 d + g1 c) + g1 b) + g1 a by omega, ld_split _ _ a2 (by decide), ld_split _ _ b2 (by decide), ld_split _ _ c2 (by decide)]
    have h2 : ((ushr y1 2) &&& 858993459).toBitVec.toNat = 256 * (256 * (256 * ((g1 d / 4) &&& 51) + ((g1 c / 4) &&& 51)) + ((g1 b / 4) &&& 51)) + ((g1 a / 4) &&& 51) := by
      rw [Int32.toBitVec_and, BitVec.toNat_and, show (ushr y1 2).toBitVec.toNat = y1.toBitVec.toNat / 2 ^ 2 from pk_ushr y1 2 2 rfl, show (858993459 : Int32).toBitVec.toNat = 256 * (256 * (256 * 51 + 51) + 51) + 51 from rfl, n1, show (2 : Nat) ^ 2 = 4 from rfl, ld_B _ a2, ld_B _ b2, ld_B _ c2]
    rw [hy2, Int32.toBitVec_add, BitVec.toNat_add, h1, h2]
    unfold g2
    omega
  obtain ⟨y3, hy3⟩ : ∃ y, y = (y2 + (ushr y2 4)) &&& 252645135 := ⟨_, rfl⟩
  have n3 : y3.toBitVec.toNat = 256 * (256 * (256 * g3 d + g3 c) + g3 b) + g3 a := by
    rw [hy3, Int32.toBitVec_and, BitVec.toNat_and, Int32.toBitVec_add, BitVec.toNat_add, show (ushr y2 4).toBitVec.toNat = y2.toBitVec.toNat / 2 ^ 4 from pk_ushr y2 4 4 rfl, show (252645135 : Int32).toBitVec.toNat = 256 * (256 * (256 * 15 + 15) + 15) + 15 from rfl, n2, show (2 : Nat) ^ 4 = 16 from rfl, Nat.mod_eq_of_lt (by omega), ld_C _ a3 a4 (by omega), ld_C _ b3 b4 (by omega), ld_C _ c3 c4 (by omega)]
    rfl
  obtain ⟨y4, hy4⟩ : ∃ y, y = y3 + (ushr y3 8) := ⟨_, rfl⟩
  have n4 : y4.toBitVec.toNat = 256 * (256 * (256 * g3 d + (g3 c + g3 d)) + (g3 b + g3 c)) + (g3 a + g3 b) := by
    rw [hy4, Int32.toBitVec_add, BitVec.toNat_add, show (ushr y3 8).toBitVec.toNat = y3.toBitVec.toNat / 2 ^ 8 from pk_ushr y3 8 8 rfl, n3, show (2 : Nat) ^ 8 = 256 from rfl]
    omega
  have hF : bcF x = (y4 + (ushr y4 16)) &&& 63 := by rw [hy4, hy3, hy2, hy1]; rfl
  rw [hF, pk_and _ 6 rfl, hcnt, Int32.toBitVec_add, BitVec.toNat_add, show (ushr y4 16).toBitVec.toNat = y4.toBitVec.toNat / 2 ^ 16 from pk_ushr y4 16 16 rfl, n4]
  generalize g3 a = p at *
  generalize g3 b = q at *
  generalize g3 c = r at *
  generalize g3 d = s at *
  clear n1 n2 n3 n4 hF hcnt eX hX a1 a2 a3 a4 a6 a7 a8 b1 b2 b3 b4 b6 b7 b8 c1 c2 c3 c4 c6 c7 c8 d1 d2 d3 d4 d6 d7 d8
  have e1 : (256 * (256 * (256 * s + (r + s)) + (q + r)) + (p + q)) / 2 ^ 16 = 256 * s + (r + s) := by omega
  rw [e1]
  generalize hT : 256 * (256 * (256 * s + (r + s)) + (q + r)) + (p + q) + (256 * s + (r + s)) = T
  have e2 : T % 2 ^ 32 = T := Nat.mod_eq_of_lt (by omega)
  rw [e2]
  congr 1
  omega
theorem cnt_del {x y : Int32} {c : Nat} (h1 : hb x c = true) (h2 : hb y c = false) (h : ∀ i, i ≠ c → hb y i = hb x i) : ∀ n, cnt y n + (if c < n then 1 else 0) = cnt x n := by
  intro n
  induction n with
  | zero => rfl
  | succ n ih =>
    rw [cnt, cnt]
    by_cases e : n = c
    · subst e
      rw [h1, h2, if_pos (show n < n + 1 by omega), if_neg (show ¬ false = true by decide), if_pos rfl]
      rw [if_neg (show ¬ n < n by omega)] at ih
      omega
    · rw [h n e]
      by_cases z : c < n
      · rw [if_pos (show c < n + 1 by omega)]; rw [if_pos z] at ih; omega
      · rw [if_neg (show ¬ c < n + 1 by omega)]; rw [if_neg z] at ih; omega
theorem sub1n (x : Int32) : (x - 1) ^^^ -1 = -x := by
  apply Int32.toBitVec_inj.mp
  rw [Int32.toBitVec_xor, show (-1 : Int32).toBitVec = BitVec.allOnes 32 from rfl, BitVec.xor_allOnes, Int32.toBitVec_sub, Int32.toBitVec_neg]
  apply BitVec.eq_of_toNat_eq
  rw [BitVec.toNat_not, BitVec.toNat_sub, BitVec.toNat_neg, show (1 : Int32).toBitVec.toNat = 1 from rfl]
  have := x.toBitVec.isLt
  omega
theorem hb_pre (x : Int32) {i : Nat} (hi : i < 32) : hb (x &&& (x - 1)) i = (hb x i && decide (∃ j, j < i ∧ hb x j = true)) := by
  have h := hb_neg x hi
  rw [← sub1n x, hb_not _ hi] at h
  rw [hb_and]
  cases h1 : hb x i
  · rfl
  · rw [h1] at h
    cases h2 : decide (∃ j, j < i ∧ hb x j = true)
    · rw [h2] at h
      cases h3 : hb (x - 1) i
      · rfl
      · rw [h3] at h; exact Bool.noConfusion h
    · rw [h2] at h
      cases h3 : hb (x - 1) i
      · rw [h3] at h; exact Bool.noConfusion h
      · rfl
theorem hb_low {x : Int32} (h : ¬ x = 0) : ∃ c, c < 32 ∧ hb x c = true ∧ ∀ d, d < c → hb x d = false := by
  have : ∃ c, c < 32 ∧ hb x c = true := by
    apply Classical.byContradiction
    intro hn
    apply h
    refine hb_ext (fun c hc => ?_)
    rw [hb_0]
    cases e : hb x c
    · rfl
    · exact absurd ⟨c, hc, e⟩ hn
  obtain ⟨c, h1, h2, h3⟩ := nx_least (fun c => hb x c = true) 32 this
  exact ⟨c, h1, h2, fun d hd => by
    cases e : hb x d
    · rfl
    · exact absurd e (h3 d hd)⟩
theorem cnt_pre {x : Int32} (h : ¬ x = 0) : cnt (x &&& (x - 1)) 32 + 1 = cnt x 32 := by
  obtain ⟨c, h1, h2, h3⟩ := hb_low h
  have := cnt_del (x := x) (y := x &&& (x - 1)) (c := c) h2 (by
    rw [hb_pre x h1, h2, decide_eq_false]
    · rfl
    · rintro ⟨j, hj, e⟩; rw [h3 j hj] at e; exact Bool.noConfusion e) (fun i hi => by
    rcases Nat.lt_or_ge i 32 with z | z
    · rw [hb_pre x z]
      rcases Nat.lt_or_ge i c with y | y
      · rw [h3 i y]; rfl
      · rw [decide_eq_true ⟨c, by omega, h2⟩, Bool.and_true]
    · rw [hb_big z, hb_big z]) 32
  rw [if_pos h1] at this
  exact this
theorem cnt_0 : cnt 0 32 = 0 := by
  have : ∀ n, cnt 0 n = 0 := by
    intro n
    induction n with
    | zero => rfl
    | succ n ih => rw [cnt, ih, hb_0]; rfl
  exact this 32
theorem bitsM {x : Int32} {u : PoS} {post : Int32 → PoS → Prop} (K : post (nI (cnt x 32)) u) : wp_X12_bits x u post := by
  refine ⟨cnt x 32 + 1, ?_⟩
  have lp : ∀ m k (y : Int32), cnt y 32 = m → k + m = cnt x 32 → wl_X12_bits_4 post (m + 1) (nI k) y u := by
    intro m
    induction m with
    | zero =>
      intro k y hy hk
      have y0 : y = 0 := by
        apply Classical.byContradiction
        intro h
        have := cnt_pre h
        omega
      rw [wl_X12_bits_4]
      exact ⟨fun _ => by rw [show k = cnt x 32 by omega]; exact K, fun h => absurd y0 h⟩
    | succ m ih =>
      intro k y hy hk
      have y0 : ¬ y = 0 := fun e => by rw [e, cnt_0] at hy; omega
      rw [wl_X12_bits_4]
      refine ⟨fun h => absurd h y0, fun _ x1 e1 => ?_⟩
      rw [e1, nI_1]
      exact ih (k + 1) _ (by have := cnt_pre y0; omega) (by omega)
  exact lp (cnt x 32) 0 x rfl (Nat.zero_add _)
theorem bcN {x : Int32} {u : PoS} {post : Int32 → PoS → Prop} (K : post (nI (cnt x 32)) u) : wp_J6_bitCount_0f7a4 x u post := bcX (by rw [bc_all]; exact K)
