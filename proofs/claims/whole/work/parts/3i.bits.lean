/-! BITS of a number as a set of CELLS -/
def hb (x : Int32) (c : Nat) : Bool := x.toBitVec.getLsbD c
theorem hb_ext {x y : Int32} (h : ∀ c, c < 32 → hb x c = hb y c) : x = y := by
  apply Int32.toBitVec_inj.mp
  exact BitVec.eq_of_getLsbD_eq (fun i hi => h i hi)
theorem hb_big {x : Int32} {c : Nat} (h : 32 ≤ c) : hb x c = false := BitVec.getLsbD_of_ge _ _ h
theorem hb_and (x y : Int32) (c : Nat) : hb (x &&& y) c = (hb x c && hb y c) := by
  unfold hb; rw [Int32.toBitVec_and, BitVec.getLsbD_and]
theorem hb_or (x y : Int32) (c : Nat) : hb (x ||| y) c = (hb x c || hb y c) := by
  unfold hb; rw [Int32.toBitVec_or, BitVec.getLsbD_or]
theorem hb_xor (x y : Int32) (c : Nat) : hb (x ^^^ y) c = (hb x c ^^ hb y c) := by
  unfold hb; rw [Int32.toBitVec_xor, BitVec.getLsbD_xor]
theorem hb_m1 (c : Nat) : hb (-1) c = decide (c < 32) := by
  unfold hb
  rw [show (-1 : Int32).toBitVec = BitVec.allOnes 32 from rfl, BitVec.getLsbD_allOnes]
theorem hb_not (x : Int32) {c : Nat} (h : c < 32) : hb (x ^^^ -1) c = !hb x c := by
  rw [hb_xor, hb_m1, decide_eq_true h]; cases hb x c <;> rfl
theorem hb_0 (c : Nat) : hb 0 c = false := by
  unfold hb; rw [show (0 : Int32).toBitVec = 0#32 from rfl]; exact BitVec.getLsbD_zero
theorem hb_tn (x : Int32) (c : Nat) : hb x c = x.toBitVec.toNat.testBit c := rfl
theorem hb_ushr (x s : Int32) (k : Nat) (hs : ((s.toUInt32 &&& Int32.toUInt32 31).toBitVec % 32).toNat = k) (c : Nat) : hb (ushr x s) c = hb x (k + c) := by
  rw [hb_tn, hb_tn, show (ushr x s).toBitVec.toNat = x.toBitVec.toNat / 2 ^ k from pk_ushr x s k hs, Nat.testBit_div_two_pow, Nat.add_comm]
theorem hb_shl (x s : Int32) (k : Nat) (hs : (s.toBitVec.smod 32).toNat = k) {c : Nat} (hc : c < 32) : hb (x <<< s) c = (decide (k ≤ c) && hb x (c - k)) := by
  unfold hb
  rw [Int32.toBitVec_shiftLeft, BitVec.shiftLeft_eq', hs, BitVec.getLsbD_shiftLeft, decide_eq_true hc, Bool.true_and]
  rcases Nat.lt_or_ge c k with q | q
  · rw [decide_eq_true q, decide_eq_false (by omega)]; rfl
  · rw [decide_eq_false (by omega), decide_eq_true q]; rfl
theorem hb_sshr (x s : Int32) (k : Nat) (hs : (s.toBitVec.smod 32).toNat = k) {c : Nat} (hc : c < 32) : hb (x >>> s) c = if k + c < 32 then hb x (k + c) else hb x 31 := by
  unfold hb
  rw [Int32.toBitVec_shiftRight, BitVec.sshiftRight_eq', hs, BitVec.getLsbD_sshiftRight, decide_eq_false (by omega)]
  by_cases q : k + c < 32
  · rw [if_pos q, if_pos q]; rfl
  · rw [if_neg q, if_neg q]; rfl
theorem sh_and {k : Nat} (h : k < 32) : ((nI k &&& 31).toBitVec.smod 32).toNat = k := by
  revert h; revert k; decide
theorem sh_u {k : Nat} (h : k < 32) : (((nI k).toUInt32 &&& Int32.toUInt32 31).toBitVec % 32).toNat = k := by
  revert h; revert k; decide
theorem bit1 (k : Nat) (hk : k < 32) {c : Nat} (hc : c < 32) : hb (1 <<< (nI k &&& 31)) c = decide (c = k) := by
  rw [hb_shl 1 _ k (sh_and hk) hc]
  by_cases q : c = k
  · subst q; rw [decide_eq_true (Nat.le_refl _), decide_eq_true rfl, Nat.sub_self]; rfl
  · rw [decide_eq_false q]
    rcases Nat.lt_or_ge c k with z | z
    · rw [decide_eq_false (by omega)]; rfl
    · rw [decide_eq_true z, Bool.true_and]
      have : ∀ j, j < 32 → 0 < j → hb 1 j = false := by decide
      exact this (c - k) (by omega) (by omega)
theorem bitT (x : Int32) {c : Nat} (hc : c < 32) : (ushr x (nI c) &&& 1 = 0) = (hb x c = false) := by
  rw [pk_and (ushr x (nI c)) 1 rfl, show (ushr x (nI c)).toBitVec.toNat = x.toBitVec.toNat / 2 ^ c from pk_ushr x _ c (sh_u hc), show (0 : Int32) = nI 0 from rfl, q_eq (by omega) (by decide), hb_tn, Nat.testBit_eq_decide_div_mod_eq]
  apply propext
  rw [show (2 : Nat) ^ 1 = 2 from rfl, decide_eq_false_iff_not]
  omega
theorem bitS (x : Int32) {c : Nat} (hc : c < 32) : ((x >>> (nI c &&& 31)) &&& 1 = 1) = (hb x c = true) := by
  have h1 : hb (x >>> (nI c &&& 31)) 0 = hb x c := by rw [hb_sshr x _ c (sh_and hc) (by decide), if_pos (by omega), Nat.add_zero]
  rw [← h1, pk_and (x >>> (nI c &&& 31)) 1 rfl, show (1 : Int32) = nI 1 from rfl, q_eq (by omega) (by decide), hb_tn]
  apply propext
  rw [show (2 : Nat) ^ 1 = 2 from rfl, Nat.testBit_zero, decide_eq_true_iff]
/-- nothing but CELLS -/
def S30 (x : Int32) : Prop := ∀ c, 30 ≤ c → hb x c = false
theorem S30.ext {x y : Int32} (hx : S30 x) (hy : S30 y) (h : ∀ c, c < 30 → hb x c = hb y c) : x = y :=
  hb_ext (fun c _ => by
    rcases Nat.lt_or_ge c 30 with q | q
    · exact h c q
    · rw [hx c q, hy c q])
theorem S30.lt {x : Int32} (hx : S30 x) {c : Nat} (h : hb x c = true) : c < 30 := by
  rcases Nat.lt_or_ge c 30 with q | q
  · exact q
  · rw [hx c q] at h; exact Bool.noConfusion h
theorem S30_0 : S30 0 := fun c _ => hb_0 c
theorem S30.and {x : Int32} (hx : S30 x) (y : Int32) : S30 (x &&& y) := fun c hc => by rw [hb_and, hx c hc]; rfl
theorem S30.and' {y : Int32} (hy : S30 y) (x : Int32) : S30 (x &&& y) := fun c hc => by rw [hb_and, hy c hc, Bool.and_false]
theorem S30.or {x y : Int32} (hx : S30 x) (hy : S30 y) : S30 (x ||| y) := fun c hc => by rw [hb_or, hx c hc, hy c hc]; rfl
theorem S30_bit {k : Nat} (hk : k < 30) : S30 (1 <<< (nI k &&& 31)) := fun c hc => by
  rcases Nat.lt_or_ge c 32 with q | q
  · rw [bit1 k (by omega) q, decide_eq_false (by omega)]
  · exact hb_big q
theorem hb_all (c : Nat) : hb 1073741823 c = decide (c < 30) := by
  rcases Nat.lt_or_ge c 32 with q | q
  · revert q; revert c; decide
  · rw [hb_big q, decide_eq_false (by omega)]
theorem S30_ne {x : Int32} (hx : S30 x) (h : ¬ x = 0) : ∃ c, c < 30 ∧ hb x c = true := by
  apply Classical.byContradiction
  intro q
  apply h
  refine hx.ext S30_0 (fun c hc => ?_)
  rw [hb_0]
  cases e : hb x c
  · rfl
  · exact absurd ⟨c, hc, e⟩ q
theorem ne_of_hb {x : Int32} {c : Nat} (h : hb x c = true) : ¬ x = 0 := fun q => by rw [q, hb_0] at h; exact Bool.noConfusion h
theorem S30_eq0 {x : Int32} (hx : S30 x) (h : ∀ c, c < 30 → hb x c = false) : x = 0 := hx.ext S30_0 (fun c hc => by rw [h c hc, hb_0])
/-- side by side -/
def adj (c d : Nat) : Prop := d = c + 6 ∨ c = d + 6 ∨ (d = c + 1 ∧ ¬ d % 6 = 0) ∨ (c = d + 1 ∧ ¬ c % 6 = 0)
theorem adj_sym {c d : Nat} (h : adj c d) : adj d c := by unfold adj at h ⊢; omega
/-- all CELLS side by side with one of these -/
def bes (x : Int32) : Int32 := (((((x &&& (-17043522)) >>> (1 &&& 31)) ||| ((x &&& (-545392673)) <<< (1 &&& 31))) ||| (x >>> (6 &&& 31))) ||| (x <<< (6 &&& 31))) &&& 1073741823
theorem hb_ls (c : Nat) (h : c < 30) : hb (-17043522) c = decide (¬ c % 6 = 0) := by revert h; revert c; decide
theorem hb_rs (c : Nat) (h : c < 30) : hb (-545392673) c = decide (¬ c % 6 = 5) := by revert h; revert c; decide
theorem bes_30 (x : Int32) : S30 (bes x) := fun c hc => by unfold bes; rw [hb_and, hb_all, decide_eq_false (by omega), Bool.and_false]
theorem bes_hb {x : Int32} (hx : S30 x) (d : Nat) : hb (bes x) d = true ↔ d < 30 ∧ ∃ c, hb x c = true ∧ adj c d := by
  rcases Nat.lt_or_ge d 30 with q | q
  · have e : hb (bes x) d = (((hb x (1 + d) && decide (¬ (1 + d) % 6 = 0)) || (decide (1 ≤ d) && (hb x (d - 1) && decide (¬ (d - 1) % 6 = 5)))) || hb x (6 + d) || (decide (6 ≤ d) && hb x (d - 6))) := by
      unfold bes
      rw [hb_and, hb_or, hb_or, hb_or, hb_all, decide_eq_true q, Bool.and_true, hb_sshr _ _ 1 rfl (by omega), if_pos (by omega), hb_and, hb_shl _ _ 1 rfl (by omega), hb_and, hb_sshr _ _ 6 rfl (by omega), hb_shl _ _ 6 rfl (by omega), hb_rs (d - 1) (by omega)]
      have e1 : (hb x (1 + d) && hb (-17043522) (1 + d)) = (hb x (1 + d) && decide (¬ (1 + d) % 6 = 0)) := by
        rcases Nat.lt_or_ge (1 + d) 30 with z | z
        · rw [hb_ls _ z]
        · rw [hx _ z]; rfl
      have e2 : (if 6 + d < 32 then hb x (6 + d) else hb x 31) = hb x (6 + d) := by
        by_cases z : 6 + d < 32
        · rw [if_pos z]
        · rw [if_neg z, hx 31 (by decide), hx (6 + d) (by omega)]
      rw [e1, e2]
    rw [e]
    simp only [Bool.or_eq_true, Bool.and_eq_true, decide_eq_true_eq]
    constructor
    · rintro (((⟨a, b⟩ | ⟨a, b, c⟩) | a) | ⟨a, b⟩)
      · exact ⟨q, _, a, by unfold adj; omega⟩
      · exact ⟨q, _, b, by unfold adj; omega⟩
      · exact ⟨q, _, a, by unfold adj; omega⟩
      · exact ⟨q, _, b, by unfold adj; omega⟩
    · rintro ⟨-, c, hc, h | h | ⟨h1, h2⟩ | ⟨h1, h2⟩⟩
      · right; exact ⟨by omega, by rw [show d - 6 = c by omega]; exact hc⟩
      · left; right; rw [show 6 + d = c by omega]; exact hc
      · left; left; right; exact ⟨by omega, by rw [show d - 1 = c by omega]; exact hc, by omega⟩
      · left; left; left; exact ⟨by rw [show 1 + d = c by omega]; exact hc, by omega⟩
  · rw [bes_30 x d q]
    exact ⟨fun h => Bool.noConfusion h, fun h => by omega⟩
theorem besM {x : Int32} {u : PoS} {post : Int32 → PoS → Prop} (K : post (bes x) u) : wp_X12_aside x u post := K
theorem besX {x : Int32} (hx : S30 x) {u : PoS} {post : Int32 → PoS → Prop} (K : post (bes x) u) : wp_X1_beside x u post := by
  intro x1 e1
  have : ((x1 ||| (ushr (x &&& (-17043522)) 1)) ||| ((x &&& (-545392673)) <<< (1 &&& 31))) = bes x := by
    rw [e1]
    apply hb_ext
    intro d hd
    unfold bes
    rw [hb_or, hb_or, hb_or, hb_and, hb_ushr _ 6 6 rfl, hb_ushr _ 1 1 rfl, hb_and, hb_and, hb_or, hb_or, hb_or, hb_all, hb_sshr _ _ 1 rfl hd, hb_and, hb_shl _ (1 &&& 31) 1 rfl hd, hb_and, hb_sshr _ _ 6 rfl hd, hb_shl _ (6 &&& 31) 6 rfl hd]
    have e2 : (if 6 + d < 32 then hb x (6 + d) else hb x 31) = hb x (6 + d) := by
      by_cases z : 6 + d < 32
      · rw [if_pos z]
      · rw [if_neg z, hx 31 (by decide), hx (6 + d) (by omega)]
    have e3 : (if 1 + d < 32 then (hb x (1 + d) && hb (-17043522) (1 + d)) else hb (x &&& (-17043522)) 31) = (hb x (1 + d) && hb (-17043522) (1 + d)) := by
      by_cases z : 1 + d < 32
      · rw [if_pos z]
      · rw [if_neg z, hb_and, hx 31 (by decide), hx (1 + d) (by omega)]; rfl
    rw [e2, e3]
    rcases Nat.lt_or_ge d 30 with q | q
    · rw [decide_eq_true q, Bool.and_true, Bool.and_true]
      cases hb x (6 + d) <;> cases (decide (6 ≤ d) && hb x (d - 6)) <;> cases (hb x (1 + d) && hb (-17043522) (1 + d)) <;> cases (decide (1 ≤ d) && (hb x (d - 1) && hb (-545392673) (d - 1))) <;> rfl
    · rw [decide_eq_false (show ¬ d < 30 by omega), Bool.and_false, Bool.and_false, hx (6 + d) (by omega), hx (1 + d) (by omega)]
      have e4 : (hb x (d - 1) && hb (-545392673) (d - 1)) = false := by
        rcases Nat.lt_or_ge (d - 1) 30 with z | z
        · obtain rfl : d = 30 := by omega
          rw [show hb (-545392673) (30 - 1) = false from rfl, Bool.and_false]
        · rw [hx _ z]; rfl
      rw [e4]
      cases decide (1 ≤ d) <;> rfl
  rw [this]; exact K
/-- a CELL has it -/
theorem hasX_t {x : Int32} {c : Nat} (hc : c < 30) (h : hb x c = true) {u : PoS} {post : Int32 → PoS → Prop} (K : post 1 u) : wp_X1_has x (nI c) u post :=
  ⟨fun q => absurd q (nI_pos (by omega)), fun _ => ⟨fun q => absurd q (nI_ge (b := 30) (by omega) (by decide)), fun _ => ⟨fun q => by rw [bitT x (by omega), h] at q; exact Bool.noConfusion q, fun _ => K⟩⟩⟩
theorem hasX_f {x : Int32} {c : Nat} (hc : c < 30) (h : hb x c = false) {u : PoS} {post : Int32 → PoS → Prop} (K : post 0 u) : wp_X1_has x (nI c) u post :=
  ⟨fun q => absurd q (nI_pos (by omega)), fun _ => ⟨fun q => absurd q (nI_ge (b := 30) (by omega) (by decide)), fun _ => ⟨fun _ => K, fun q => by rw [bitT x (by omega)] at q; exact absurd h q⟩⟩⟩
theorem hasX_o {x y : Int32} (hy : y < 0 ∨ nI 29 < y) {u : PoS} {post : Int32 → PoS → Prop} (K : post 0 u) : wp_X1_has x y u post := by
  refine ⟨fun _ => K, fun h0 => ⟨fun _ => K, fun h1 => ?_⟩⟩
  obtain ⟨j, hj, rfl⟩ := nI_of h0
  rcases hy with q | q
  · exact absurd q h0
  · exact absurd (nI_le (a := 30) (by have := (nI_ltI (a := 29) (by decide) hj).mp q; omega) hj) h1
theorem hasM_t {x : Int32} {c : Nat} (hc : c < 32) (h : hb x c = true) {u : PoS} {post : Int32 → PoS → Prop} (K : post 1 u) : wp_X12_has x (nI c) u post :=
  ⟨fun q => absurd (by rw [bitS x hc]; exact h) q, fun _ => K⟩
theorem hasM_f {x : Int32} {c : Nat} (hc : c < 32) (h : hb x c = false) {u : PoS} {post : Int32 → PoS → Prop} (K : post 0 u) : wp_X12_has x (nI c) u post :=
  ⟨fun _ => K, fun q => by rw [bitS x hc, h] at q; exact Bool.noConfusion q⟩
