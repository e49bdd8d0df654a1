/-! the reference's words, and its reading of a SUM -/
theorem lg0e (x y : Int64) : lg_cmp x y = 0 ↔ x = y := by
  have h := lgc x y
  constructor
  · intro e
    rw [e] at h
    have h1 := h.1.mp (by decide)
    have h2 := h.2.mp (by decide)
    exact Int64.toInt_inj.mp (by omega)
  · rintro rfl
    unfold lg_cmp
    rw [if_neg (fun q => absurd (Int64.lt_iff_toInt_lt.mp q) (Int.lt_irrefl _)), if_pos rfl]
theorem WD_inj : ∀ a, a ≤ 27 → ∀ b, b ≤ 27 → WD a = WD b → a = b := by decide +kernel
theorem sgO_inj : ∀ a, a ≤ 40 → ∀ b, b ≤ 40 → 28 ≤ a → 28 ≤ b → sgO a = sgO b → a = b := by decide +kernel
theorem sgO_b (a : Nat) : sgO a ≤ 62 ∧ sgO a ≠ 0 ∧ sgO a ≠ 1 ∧ sgO a ≠ 2 ∧ sgO a ≠ 3 ∧ sgO a ≠ 58 := by
  unfold sgO
  repeat' split
  all_goals decide
theorem wV_0 {u : PoS} {p : Int64 → PoS → Prop} (H : p (WD 0) u) : wp_X12_w5 119 97 110 116 115 u p := by
  have e : WD 0 = (((((((((Int32.toInt64 (119 : Int32)) <<< (Int32.toInt64 8 &&& 63)) ||| (Int32.toInt64 (97 : Int32))) <<< (Int32.toInt64 8 &&& 63)) ||| (Int32.toInt64 (110 : Int32))) <<< (Int32.toInt64 8 &&& 63)) ||| (Int32.toInt64 (116 : Int32))) <<< (Int32.toInt64 8 &&& 63)) ||| (Int32.toInt64 (115 : Int32))) := by decide +kernel
  rw [e] at H
  exact H
theorem wV_1 {u : PoS} {p : Int64 → PoS → Prop} (H : p (WD 1) u) : wp_X12_w5 112 111 117 114 115 u p := by
  have e : WD 1 = (((((((((Int32.toInt64 (112 : Int32)) <<< (Int32.toInt64 8 &&& 63)) ||| (Int32.toInt64 (111 : Int32))) <<< (Int32.toInt64 8 &&& 63)) ||| (Int32.toInt64 (117 : Int32))) <<< (Int32.toInt64 8 &&& 63)) ||| (Int32.toInt64 (114 : Int32))) <<< (Int32.toInt64 8 &&& 63)) ||| (Int32.toInt64 (115 : Int32))) := by decide +kernel
  rw [e] at H
  exact H
theorem wV_2 {u : PoS} {p : Int64 → PoS → Prop} (H : p (WD 2) u) : wp_X12_w6 112 101 114 115 111 110 u p := by
  have e : WD 2 = (((((((((((Int32.toInt64 (112 : Int32)) <<< (Int32.toInt64 8 &&& 63)) ||| (Int32.toInt64 (101 : Int32))) <<< (Int32.toInt64 8 &&& 63)) ||| (Int32.toInt64 (114 : Int32))) <<< (Int32.toInt64 8 &&& 63)) ||| (Int32.toInt64 (115 : Int32))) <<< (Int32.toInt64 8 &&& 63)) ||| (Int32.toInt64 (111 : Int32))) <<< (Int32.toInt64 8 &&& 63)) ||| (Int32.toInt64 (110 : Int32))) := by decide +kernel
  rw [e] at H
  exact H
theorem wV_3 {u : PoS} {p : Int64 → PoS → Prop} (H : p (WD 3) u) : wp_X12_w5 102 105 101 108 100 u p := by
  have e : WD 3 = (((((((((Int32.toInt64 (102 : Int32)) <<< (Int32.toInt64 8 &&& 63)) ||| (Int32.toInt64 (105 : Int32))) <<< (Int32.toInt64 8 &&& 63)) ||| (Int32.toInt64 (101 : Int32))) <<< (Int32.toInt64 8 &&& 63)) ||| (Int32.toInt64 (108 : Int32))) <<< (Int32.toInt64 8 &&& 63)) ||| (Int32.toInt64 (100 : Int32))) := by decide +kernel
  rw [e] at H
  exact H
theorem wV_4 {u : PoS} {p : Int64 → PoS → Prop} (H : p (WD 4) u) : wp_X12_w4 115 104 101 100 u p := by
  have e : WD 4 = (((((((Int32.toInt64 (115 : Int32)) <<< (Int32.toInt64 8 &&& 63)) ||| (Int32.toInt64 (104 : Int32))) <<< (Int32.toInt64 8 &&& 63)) ||| (Int32.toInt64 (101 : Int32))) <<< (Int32.toInt64 8 &&& 63)) ||| (Int32.toInt64 (100 : Int32))) := by decide +kernel
  rw [e] at H
  exact H
theorem wV_5 {u : PoS} {p : Int64 → PoS → Prop} (H : p (WD 5) u) : wp_X12_w4 119 97 108 107 u p := by
  have e : WD 5 = (((((((Int32.toInt64 (119 : Int32)) <<< (Int32.toInt64 8 &&& 63)) ||| (Int32.toInt64 (97 : Int32))) <<< (Int32.toInt64 8 &&& 63)) ||| (Int32.toInt64 (108 : Int32))) <<< (Int32.toInt64 8 &&& 63)) ||| (Int32.toInt64 (107 : Int32))) := by decide +kernel
  rw [e] at H
  exact H
theorem wV_6 {u : PoS} {p : Int64 → PoS → Prop} (H : p (WD 6) u) : wp_X12_w3 104 97 116 u p := by
  have e : WD 6 = (((((Int32.toInt64 (104 : Int32)) <<< (Int32.toInt64 8 &&& 63)) ||| (Int32.toInt64 (97 : Int32))) <<< (Int32.toInt64 8 &&& 63)) ||| (Int32.toInt64 (116 : Int32))) := by decide +kernel
  rw [e] at H
  exact H
theorem wV_7 {u : PoS} {p : Int64 → PoS → Prop} (H : p (WD 7) u) : wp_X12_w4 98 97 114 101 u p := by
  have e : WD 7 = (((((((Int32.toInt64 (98 : Int32)) <<< (Int32.toInt64 8 &&& 63)) ||| (Int32.toInt64 (97 : Int32))) <<< (Int32.toInt64 8 &&& 63)) ||| (Int32.toInt64 (114 : Int32))) <<< (Int32.toInt64 8 &&& 63)) ||| (Int32.toInt64 (101 : Int32))) := by decide +kernel
  rw [e] at H
  exact H
theorem wV_8 {u : PoS} {p : Int64 → PoS → Prop} (H : p (WD 8) u) : wp_X12_w4 100 114 97 119 u p := by
  have e : WD 8 = (((((((Int32.toInt64 (100 : Int32)) <<< (Int32.toInt64 8 &&& 63)) ||| (Int32.toInt64 (114 : Int32))) <<< (Int32.toInt64 8 &&& 63)) ||| (Int32.toInt64 (97 : Int32))) <<< (Int32.toInt64 8 &&& 63)) ||| (Int32.toInt64 (119 : Int32))) := by decide +kernel
  rw [e] at H
  exact H
theorem wV_9 {u : PoS} {p : Int64 → PoS → Prop} (H : p (WD 9) u) : wp_X12_w6 109 105 110 117 116 101 u p := by
  have e : WD 9 = (((((((((((Int32.toInt64 (109 : Int32)) <<< (Int32.toInt64 8 &&& 63)) ||| (Int32.toInt64 (105 : Int32))) <<< (Int32.toInt64 8 &&& 63)) ||| (Int32.toInt64 (110 : Int32))) <<< (Int32.toInt64 8 &&& 63)) ||| (Int32.toInt64 (117 : Int32))) <<< (Int32.toInt64 8 &&& 63)) ||| (Int32.toInt64 (116 : Int32))) <<< (Int32.toInt64 8 &&& 63)) ||| (Int32.toInt64 (101 : Int32))) := by decide +kernel
  rw [e] at H
  exact H
theorem wV_10 {u : PoS} {p : Int64 → PoS → Prop} (H : p (WD 10) u) : wp_X12_w3 119 104 111 u p := by
  have e : WD 10 = (((((Int32.toInt64 (119 : Int32)) <<< (Int32.toInt64 8 &&& 63)) ||| (Int32.toInt64 (104 : Int32))) <<< (Int32.toInt64 8 &&& 63)) ||| (Int32.toInt64 (111 : Int32))) := by decide +kernel
  rw [e] at H
  exact H
theorem wV_11 {u : PoS} {p : Int64 → PoS → Prop} (H : p (WD 11) u) : wp_X12_w3 119 101 116 u p := by
  have e : WD 11 = (((((Int32.toInt64 (119 : Int32)) <<< (Int32.toInt64 8 &&& 63)) ||| (Int32.toInt64 (101 : Int32))) <<< (Int32.toInt64 8 &&& 63)) ||| (Int32.toInt64 (116 : Int32))) := by decide +kernel
  rw [e] at H
  exact H
theorem wV_12 {u : PoS} {p : Int64 → PoS → Prop} (H : p (WD 12) u) : wp_X12_w4 98 101 101 110 u p := by
  have e : WD 12 = (((((((Int32.toInt64 (98 : Int32)) <<< (Int32.toInt64 8 &&& 63)) ||| (Int32.toInt64 (101 : Int32))) <<< (Int32.toInt64 8 &&& 63)) ||| (Int32.toInt64 (101 : Int32))) <<< (Int32.toInt64 8 &&& 63)) ||| (Int32.toInt64 (110 : Int32))) := by decide +kernel
  rw [e] at H
  exact H
theorem wV_13 {u : PoS} {p : Int64 → PoS → Prop} (H : p (WD 13) u) : wp_X12_w2 97 116 u p := by
  have e : WD 13 = (((Int32.toInt64 (97 : Int32)) <<< (Int32.toInt64 8 &&& 63)) ||| (Int32.toInt64 (116 : Int32))) := by decide +kernel
  rw [e] at H
  exact H
theorem wV_14 {u : PoS} {p : Int64 → PoS → Prop} (H : p (WD 14) u) : wp_X12_w4 110 101 101 100 u p := by
  have e : WD 14 = (((((((Int32.toInt64 (110 : Int32)) <<< (Int32.toInt64 8 &&& 63)) ||| (Int32.toInt64 (101 : Int32))) <<< (Int32.toInt64 8 &&& 63)) ||| (Int32.toInt64 (101 : Int32))) <<< (Int32.toInt64 8 &&& 63)) ||| (Int32.toInt64 (100 : Int32))) := by decide +kernel
  rw [e] at H
  exact H
theorem wV_15 {u : PoS} {p : Int64 → PoS → Prop} (H : p (WD 15) u) : wp_X12_w5 119 97 116 101 114 u p := by
  have e : WD 15 = (((((((((Int32.toInt64 (119 : Int32)) <<< (Int32.toInt64 8 &&& 63)) ||| (Int32.toInt64 (97 : Int32))) <<< (Int32.toInt64 8 &&& 63)) ||| (Int32.toInt64 (116 : Int32))) <<< (Int32.toInt64 8 &&& 63)) ||| (Int32.toInt64 (101 : Int32))) <<< (Int32.toInt64 8 &&& 63)) ||| (Int32.toInt64 (114 : Int32))) := by decide +kernel
  rw [e] at H
  exact H
theorem wV_16 {u : PoS} {p : Int64 → PoS → Prop} (H : p (WD 16) u) : wp_X12_w5 115 116 101 112 115 u p := by
  have e : WD 16 = (((((((((Int32.toInt64 (115 : Int32)) <<< (Int32.toInt64 8 &&& 63)) ||| (Int32.toInt64 (116 : Int32))) <<< (Int32.toInt64 8 &&& 63)) ||| (Int32.toInt64 (101 : Int32))) <<< (Int32.toInt64 8 &&& 63)) ||| (Int32.toInt64 (112 : Int32))) <<< (Int32.toInt64 8 &&& 63)) ||| (Int32.toInt64 (115 : Int32))) := by decide +kernel
  rw [e] at H
  exact H
theorem wV_17 {u : PoS} {p : Int64 → PoS → Prop} (H : p (WD 17) u) : wp_X12_w5 115 104 97 114 101 u p := by
  have e : WD 17 = (((((((((Int32.toInt64 (115 : Int32)) <<< (Int32.toInt64 8 &&& 63)) ||| (Int32.toInt64 (104 : Int32))) <<< (Int32.toInt64 8 &&& 63)) ||| (Int32.toInt64 (97 : Int32))) <<< (Int32.toInt64 8 &&& 63)) ||| (Int32.toInt64 (114 : Int32))) <<< (Int32.toInt64 8 &&& 63)) ||| (Int32.toInt64 (101 : Int32))) := by decide +kernel
  rw [e] at H
  exact H
theorem wV_18 {u : PoS} {p : Int64 → PoS → Prop} (H : p (WD 18) u) : wp_X12_w6 119 97 116 101 114 115 u p := by
  have e : WD 18 = (((((((((((Int32.toInt64 (119 : Int32)) <<< (Int32.toInt64 8 &&& 63)) ||| (Int32.toInt64 (97 : Int32))) <<< (Int32.toInt64 8 &&& 63)) ||| (Int32.toInt64 (116 : Int32))) <<< (Int32.toInt64 8 &&& 63)) ||| (Int32.toInt64 (101 : Int32))) <<< (Int32.toInt64 8 &&& 63)) ||| (Int32.toInt64 (114 : Int32))) <<< (Int32.toInt64 8 &&& 63)) ||| (Int32.toInt64 (115 : Int32))) := by decide +kernel
  rw [e] at H
  exact H
theorem wV_19 {u : PoS} {p : Int64 → PoS → Prop} (H : p (WD 19) u) : wp_X12_w2 105 102 u p := by
  have e : WD 19 = (((Int32.toInt64 (105 : Int32)) <<< (Int32.toInt64 8 &&& 63)) ||| (Int32.toInt64 (102 : Int32))) := by decide +kernel
  rw [e] at H
  exact H
theorem wV_20 {u : PoS} {p : Int64 → PoS → Prop} (H : p (WD 20) u) : wp_X12_w3 110 111 116 u p := by
  have e : WD 20 = (((((Int32.toInt64 (110 : Int32)) <<< (Int32.toInt64 8 &&& 63)) ||| (Int32.toInt64 (111 : Int32))) <<< (Int32.toInt64 8 &&& 63)) ||| (Int32.toInt64 (116 : Int32))) := by decide +kernel
  rw [e] at H
  exact H
theorem wV_21 {u : PoS} {p : Int64 → PoS → Prop} (H : p (WD 21) u) : wp_X12_w2 111 102 u p := by
  have e : WD 21 = (((Int32.toInt64 (111 : Int32)) <<< (Int32.toInt64 8 &&& 63)) ||| (Int32.toInt64 (102 : Int32))) := by decide +kernel
  rw [e] at H
  exact H
theorem wV_22 {u : PoS} {p : Int64 → PoS → Prop} (H : p (WD 22) u) : wp_X12_w2 116 111 u p := by
  have e : WD 22 = (((Int32.toInt64 (116 : Int32)) <<< (Int32.toInt64 8 &&& 63)) ||| (Int32.toInt64 (111 : Int32))) := by decide +kernel
  rw [e] at H
  exact H
theorem wV_23 {u : PoS} {p : Int64 → PoS → Prop} (H : p (WD 23) u) : wp_X12_w4 116 104 101 110 u p := by
  have e : WD 23 = (((((((Int32.toInt64 (116 : Int32)) <<< (Int32.toInt64 8 &&& 63)) ||| (Int32.toInt64 (104 : Int32))) <<< (Int32.toInt64 8 &&& 63)) ||| (Int32.toInt64 (101 : Int32))) <<< (Int32.toInt64 8 &&& 63)) ||| (Int32.toInt64 (110 : Int32))) := by decide +kernel
  rw [e] at H
  exact H
theorem wV_24 {u : PoS} {p : Int64 → PoS → Prop} (H : p (WD 24) u) : wp_X12_w4 101 108 115 101 u p := by
  have e : WD 24 = (((((((Int32.toInt64 (101 : Int32)) <<< (Int32.toInt64 8 &&& 63)) ||| (Int32.toInt64 (108 : Int32))) <<< (Int32.toInt64 8 &&& 63)) ||| (Int32.toInt64 (115 : Int32))) <<< (Int32.toInt64 8 &&& 63)) ||| (Int32.toInt64 (101 : Int32))) := by decide +kernel
  rw [e] at H
  exact H
theorem wV_25 {u : PoS} {p : Int64 → PoS → Prop} (H : p (WD 25) u) : wp_X12_w3 101 110 100 u p := by
  have e : WD 25 = (((((Int32.toInt64 (101 : Int32)) <<< (Int32.toInt64 8 &&& 63)) ||| (Int32.toInt64 (110 : Int32))) <<< (Int32.toInt64 8 &&& 63)) ||| (Int32.toInt64 (100 : Int32))) := by decide +kernel
  rw [e] at H
  exact H
theorem wV_26 {u : PoS} {p : Int64 → PoS → Prop} (H : p (WD 26) u) : wp_X12_w2 111 114 u p := by
  have e : WD 26 = (((Int32.toInt64 (111 : Int32)) <<< (Int32.toInt64 8 &&& 63)) ||| (Int32.toInt64 (114 : Int32))) := by decide +kernel
  rw [e] at H
  exact H
theorem wV_27 {u : PoS} {p : Int64 → PoS → Prop} (H : p (WD 27) u) : wp_X12_w3 97 110 100 u p := by
  have e : WD 27 = (((((Int32.toInt64 (97 : Int32)) <<< (Int32.toInt64 8 &&& 63)) ||| (Int32.toInt64 (110 : Int32))) <<< (Int32.toInt64 8 &&& 63)) ||| (Int32.toInt64 (100 : Int32))) := by decide +kernel
  rw [e] at H
  exact H
section
variable {K N ST EN : Nat → Nat} {M L t n0 : Nat} {B : Nat → Int32} {pr : Bool} {u0 : PoS} {u : PoS} {k d : Nat} {π : List Nat} {c : Cd} {post : PoS → Prop}
theorem tk_sg {κ : Nat} (h : RT K N ST EN M L B u k) (h1 : 28 ≤ κ) (h2 : κ ≤ 40) {a : Nat} (ha : a = sgO κ) : gI u 48 9 = nI a ↔ K k = κ := by
  subst ha
  have b := sgO_b κ
  rw [gI_def]
  rcases h.2.2.2.1 with ⟨q1, q2, _⟩ | ⟨q0, q1, q2⟩ | ⟨q1, q2, _⟩ | ⟨q1, q2⟩ | ⟨q1, q2⟩
  · rw [q2, nI_eq (by decide) (by omega)]; omega
  · have b' := sgO_b (K k)
    rw [q2, nI_eq (by omega) (by omega)]
    exact ⟨fun e => sgO_inj _ q1 _ h2 q0 h1 e, fun e => by rw [e]⟩
  · rw [q2, nI_eq (by decide) (by omega)]; omega
  · rcases q2 with ⟨q2, _⟩ | q2 | q2
    · rw [q2, nI_eq (by decide) (by omega)]; omega
    · rw [q2, nI_eq (by decide) (by omega)]; omega
    · rw [q2, nI_eq (by decide) (by omega)]; omega
  · rw [q2, nI_eq (by decide) (by omega)]; omega
theorem tk_nu (h : RT K N ST EN M L B u k) : gI u 48 9 = nI 1 ↔ K k = 41 := by
  rw [gI_def]
  rcases h.2.2.2.1 with ⟨q1, q2, _⟩ | ⟨q0, q1, q2⟩ | ⟨q1, q2, _⟩ | ⟨q1, q2⟩ | ⟨q1, q2⟩
  · rw [q2, nI_eq (by decide) (by omega)]; omega
  · have b' := sgO_b (K k)
    rw [q2, nI_eq (by omega) (by omega)]; omega
  · rw [q2, nI_eq (by decide) (by omega)]; omega
  · rcases q2 with ⟨q2, _⟩ | q2 | q2
    · rw [q2, nI_eq (by decide) (by omega)]; omega
    · rw [q2, nI_eq (by decide) (by omega)]; omega
    · rw [q2, nI_eq (by decide) (by omega)]; omega
  · rw [q2, nI_eq (by decide) (by omega)]; omega
theorem tk_0 (h : RT K N ST EN M L B u k) : gI u 48 9 = nI 0 ↔ K k = 43 := by
  rw [gI_def]
  rcases h.2.2.2.1 with ⟨q1, q2, _⟩ | ⟨q0, q1, q2⟩ | ⟨q1, q2, _⟩ | ⟨q1, q2⟩ | ⟨q1, q2⟩
  · rw [q2, nI_eq (by decide) (by omega)]; omega
  · have b' := sgO_b (K k)
    rw [q2, nI_eq (by omega) (by omega)]; omega
  · rw [q2, nI_eq (by decide) (by omega)]; omega
  · rcases q2 with ⟨q2, _⟩ | q2 | q2
    · rw [q2, nI_eq (by decide) (by omega)]; omega
    · rw [q2, nI_eq (by decide) (by omega)]; omega
    · rw [q2, nI_eq (by decide) (by omega)]; omega
  · rw [q2, nI_eq (by decide) (by omega)]; omega
theorem tk_wd {j : Nat} (h : RT K N ST EN M L B u k) (hj : j ≤ 27) : (gI u 48 9 = nI 2 ∧ lg_cmp (gL u 48 11) (WD j) = 0) ↔ K k = j := by
  rw [gI_def, lg0e, show gL u 48 11 = u.2.1 48 11 from rfl]
  rcases h.2.2.2.1 with ⟨q1, q2, q3⟩ | ⟨q0, q1, q2⟩ | ⟨q1, q2, _⟩ | ⟨q1, q2⟩ | ⟨q1, q2⟩
  · rw [q2, q3]; exact ⟨fun e => WD_inj _ q1 _ hj e.2, fun e => ⟨rfl, by rw [e]⟩⟩
  · have b' := sgO_b (K k)
    rw [q2, nI_eq (by omega) (by omega)]; exact ⟨fun e => absurd e.1 (by omega), fun e => by omega⟩
  · rw [q2, nI_eq (by decide) (by omega)]; exact ⟨fun e => absurd e.1 (by decide), fun e => by omega⟩
  · rcases q2 with ⟨q2, q3⟩ | q2 | q2
    · exact ⟨fun e => absurd e.2 (q3 j hj), fun e => by omega⟩
    · rw [q2, nI_eq (by decide) (by omega)]; exact ⟨fun e => absurd e.1 (by decide), fun e => by omega⟩
    · rw [q2, nI_eq (by decide) (by omega)]; exact ⟨fun e => absurd e.1 (by decide), fun e => by omega⟩
  · rw [q2, nI_eq (by decide) (by omega)]; exact ⟨fun e => absurd e.1 (by decide), fun e => by omega⟩
theorem isWordM {j : Nat} (h : RT K N ST EN M L B u k) (hj : j ≤ 27) {p : Int32 → PoS → Prop} (h1 : K k = j → p 1 u) (h0 : K k ≠ j → p 0 u) : wp_X12_isWord (WD j) u p :=
  ⟨fun q => h0 (fun e => q ((tk_wd h hj).mpr e).1), fun q => ⟨fun q2 => h0 (fun e => q2 ((tk_wd h hj).mpr e).2), fun q2 => h1 ((tk_wd h hj).mp ⟨q, q2⟩)⟩⟩
theorem nameM' (h : RT K N ST EN M L B u k) {p : Int32 → PoS → Prop} (h1 : 9 ≤ K k → K k ≤ 16 → p (nI (K k - 9)) u) (h0 : ¬ (9 ≤ K k ∧ K k ≤ 16) → p (-1) u) : wp_X12_nameOf u p := by
  have no : ∀ j, j ≤ 27 → gI u 48 9 = 2 → ¬ lg_cmp (gL u 48 11) (WD j) = 0 → K k ≠ j := fun j hj q w e => w ((tk_wd h hj).mpr e).2
  have ys : ∀ j, 9 ≤ j → j ≤ 16 → gI u 48 9 = 2 → lg_cmp (gL u 48 11) (WD j) = 0 → p (nI (j - 9)) u := fun j g1 g2 q w => by
    have e := (tk_wd h (j := j) (by omega)).mp ⟨q, w⟩
    rw [← e]; exact h1 (by omega) (by omega)
  unfold wp_X12_nameOf
  refine ⟨fun q => wV_9 ⟨fun w9 => wV_10 ⟨fun w10 => wV_11 ⟨fun w11 => wV_12 ⟨fun w12 => wV_13 ⟨fun w13 => wV_14 ⟨fun w14 => wV_15 ⟨fun w15 => wV_16 ⟨fun w16 => h0 ?_, ys 16 (by decide) (by decide) q⟩, ys 15 (by decide) (by decide) q⟩, ys 14 (by decide) (by decide) q⟩, ys 13 (by decide) (by decide) q⟩, ys 12 (by decide) (by decide) q⟩, ys 11 (by decide) (by decide) q⟩, ys 10 (by decide) (by decide) q⟩, ys 9 (by decide) (by decide) q⟩, fun q => h0 (fun e => q ((tk_wd (j := K k) h (by omega)).mpr rfl).1)⟩
  have := no 9 (by decide) q w9
  have := no 10 (by decide) q w10
  have := no 11 (by decide) q w11
  have := no 12 (by decide) q w12
  have := no 13 (by decide) q w13
  have := no 14 (by decide) q w14
  have := no 15 (by decide) q w15
  have := no 16 (by decide) q w16
  omega
def OutM (K N ST EN : Nat → Nat) (M L t n0 : Nat) (B : Nat → Int32) (pr : Bool) (u0 : PoS) (X : MS ⊕ MR) (q : Int32 → PoS → Prop) : Prop := (∀ S', X = .inl S' → ∀ z, MSt K N ST EN M L t n0 B pr u0 z S'.1 S'.2.1 S'.2.2.1 S'.2.2.2.1 → z.1 48 18 = nI (if S'.2.2.2.2 = true then 1 else 0) → n0 + S'.2.2.2.1.length + S'.2.1.length ≤ S'.1 → cntO S'.2.1 = S'.2.2.1 → q 0 z) ∧ (∀ R, X = .inr R → R.1 ≠ 99 ∧ ∀ z π' d' c', MSt K N ST EN M L t n0 B pr u0 z R.2.1 π' d' c' → q (nI R.1) z)
theorem stl_len (l : Nat) : ∀ (π : List Nat) (d : Nat) (c : Cd), (stl l π d c).2.2.length + (stl l π d c).1.length = c.length + π.length := by
  intro π
  induction π with
  | nil => intro d c; rfl
  | cons o π ih =>
    intro d c
    rw [stl]
    split
    · rw [ih, List.length_append, List.length_cons]; simp only [List.length_cons, List.length_nil]; omega
    · rfl
theorem stl_cnt {l : Nat} (hl : 1 ≤ l) : ∀ (π : List Nat) (d : Nat) (c : Cd), cntO π = d → cntO (stl l π d c).1 = (stl l π d c).2.1 := by
  intro π
  induction π with
  | nil => intro d c h; exact h
  | cons o π ih =>
    intro d c h
    rw [stl]
    split
    · next q =>
      have h40 : o < 40 := rk_big (by omega)
      refine ih _ _ ?_
      rw [cntO] at h
      by_cases w : rkO o = 7 ∨ o = 20
      · rw [if_pos w]; rw [if_pos (Or.inr w)] at h; omega
      · rw [if_neg w]; rw [if_neg (by omega)] at h; omega
    · exact h
theorem settleW {l : Nat} (hl : 1 ≤ l) (hl7 : l ≤ 7) (h : MSt K N ST EN M L t n0 B pr u0 u k π d c) (hc : cntO π = d) (H : ∀ z, MSt K N ST EN M L t n0 B pr u0 z k (stl l π d c).1 (stl l π d c).2.1 (stl l π d c).2.2 → z.1 48 18 = u.1 48 18 → post z) : wp_X12_settle (nI l) u post := ⟨_, settleM hl hl7 π c d u h (by omega) H⟩
theorem pile_top {f : Nat → Int32} (h : PileAt f π) (hl : π.length ≠ 0) : f (π.length - 1) = nI (π.headD 0) ∧ π.headD 0 < 50 := by
  cases π with
  | nil => exact absurd rfl hl
  | cons o π => exact ⟨h.1, h.2.1⟩
theorem endOneM (hNT : NTok K N ST EN M L B) {q : Int32 → PoS → Prop} (h : MSt K N ST EN M L t n0 B pr u0 u k π d c) (hb : n0 + c.length + π.length ≤ k) (hc : cntO π = d) (H : OutM K N ST EN M L t n0 B pr u0 (endM K k π d c) q) : wp_X12_endOne u q := by
  unfold wp_X12_endOne
  refine settleW (by decide) (by decide) h hc (fun z g1 g2 => ?_)
  have sl := stl_len 7 π d c
  have sc := stl_cnt (l := 7) (by decide) π d c hc
  unfold endM at H
  generalize stl 7 π d c = s at *
  obtain ⟨π1, d1, c1⟩ := s
  simp only at g1 sl sc H
  intro z3 e3
  subst e3
  have g1' := ms18 (v := 1) g1
  have h14 := g1.2.2.2.2.2.2.2.2.2.2.2.2.2
  have e16 : gI (pI z 48 18 1) 48 16 = nI π1.length := g1'.2.2.2.2.1
  rw [e16]
  have fin : ¬ π1.headD 0 = 41 → q 0 (pI z 48 18 1) := fun w => by
    rw [if_neg w] at H
    exact H.1 _ rfl _ g1' (by rw [pI_s, up_eq]; rfl) (by show n0 + c1.length + π1.length ≤ k; omega) sc
  refine ⟨fun w => fin ?_, fun w => ?_⟩
  · rw [show (0 : Int32) = nI 0 from rfl, q_eq (by omega) (by omega)] at w
    rw [List.eq_nil_of_length_eq_zero w]; decide
  · rw [show (0 : Int32) = nI 0 from rfl, q_eq (by omega) (by omega)] at w
    obtain ⟨p1, p2⟩ := pile_top g1'.2.2.2.2.2.1 w
    have e53 : gI (pI z 48 18 1) 53 (π1.length - 1) = nI (π1.headD 0) := p1
    rw [show nI π1.length - 1 = nI (π1.length - 1) by simp (disch := omega) only [q_lit, nI_add, pk_mul, q_sub, q_rem, q_div, q_vp, q_cl, q_lt, q_le, q_eq, q_neg1, gI_def], q_cl (by omega), e53]
    refine ⟨by simp (disch := omega) only [q_lit, nI_add, pk_mul, q_sub, q_rem, q_div, q_vp, q_cl, q_lt, q_le, q_eq, q_neg1, gI_def]; omega, fun w2 => ?_, fun w2 => fin (fun e => w2 (by rw [e]; rfl))⟩
    have w3 : π1.headD 0 = 41 := (nI_eq (b := 41) (by omega) (by decide)).mp w2
    rw [if_pos w3] at H
    refine wV_21 (isWordM g1'.2.2.1 (by decide) (fun y => ⟨fun _ => ?_, fun y => absurd y (by decide)⟩) (fun y => ⟨fun y => absurd rfl y, fun _ => ?_⟩))
    · rw [if_pos y] at H
      refine nextM hNT g1' (by omega) (fun z9 m1 m2 => ?_)
      have e16 : gI z9 48 16 = nI π1.length := m1.2.2.2.2.1
      rw [e16, show nI π1.length - 1 = nI (π1.length - 1) by simp (disch := omega) only [q_lit, nI_add, pk_mul, q_sub, q_rem, q_div, q_vp, q_cl, q_lt, q_le, q_eq, q_neg1, gI_def], q_cl (by omega)]
      refine ⟨by simp (disch := omega) only [q_lit, nI_add, pk_mul, q_sub, q_rem, q_div, q_vp, q_cl, q_lt, q_le, q_eq, q_neg1, gI_def]; omega, fun z10 e10 z11 e11 => ?_⟩
      subst e10; subst e11
      cases π1 with
      | nil => exact absurd rfl w
      | cons o π2 =>
        rw [show (o :: π2).length - 1 = π2.length by simp only [List.length_cons]; omega]
        have w4 : o = 41 := w3
        rw [cntO, w4, if_pos (Or.inl (by decide))] at sc
        refine H.1 _ rfl _ (ms18 (msTop (o := 4) m1 (by decide) rfl)) (by rw [pI_s, up_eq]; rfl) ?_ ?_
        · show n0 + c1.length + (4 :: π2).length ≤ k + 1
          simp only [List.length_cons] at sl ⊢
          omega
        · show cntO (4 :: π2) = d1
          rw [cntO, if_pos (Or.inr (Or.inl (by decide)))]; exact sc
    · rw [if_neg y] at H
      exact (H.2 _ rfl).2 _ _ _ _ g1'
theorem openedM (hNT : NTok K N ST EN M L B) {q : Int32 → PoS → Prop} {o : Nat} (ho : o < 50) (hoc : 40 ≤ o ∨ rkO o = 7 ∨ o = 20) (hk : K k ≠ 43) (h : MSt K N ST EN M L t n0 B pr u0 u k π d c) (hw : u.1 48 18 = nI 0) (hb : n0 + c.length + π.length ≤ k) (hc : cntO π = d) (H : OutM K N ST EN M L t n0 B pr u0 (opnd k π d c o) q) : wp_X12_opened (nI o) u q := by
  have h14 := h.2.2.2.2.2.2.2.2.2.2.2.2.2
  have hd := h.2.2.2.2.2.2.2.1
  have hkM := h.2.2.1.1
  have hM := h.2.1
  have e17 : gI u 48 17 = nI d := h.2.2.2.2.2.2.1
  unfold wp_X12_opened opnd at *
  rw [e17]
  refine ⟨fun w => ?_, fun w => ?_⟩
  · have w2 : d ≠ 8 := fun e => w (by rw [e]; rfl)
    rw [if_neg w2] at H
    have hl : ¬ 159 < π.length := fun e => by rw [if_pos e] at H; exact (H.2 _ rfl).1 rfl
    rw [if_neg hl] at H
    intro z1 e1
    rw [nI_1] at e1
    subst e1
    have g1 := ms17 (d' := d + 1) (v := nI (d + 1)) h (by have := cntO_le π; omega) rfl
    have e16 : gI (pI u 48 17 (nI (d + 1))) 48 16 = nI π.length := g1.2.2.2.2.1
    rw [e16, q_cl (by omega)]
    refine ⟨by simp (disch := omega) only [q_lit, nI_add, pk_mul, q_sub, q_rem, q_div, q_vp, q_cl, q_lt, q_le, q_eq, q_neg1, gI_def]; omega, fun z2 e2 z3 e3 => ?_⟩
    subst e2
    rw [gI_def, pI_o (by decide), ← gI_def, e16, nI_1] at e3
    subst e3
    have hp := msPush (o := o) (a := nI o) (v := nI (π.length + 1)) g1 ho (by omega) (by omega) rfl rfl
    refine nextM hNT hp hk (fun z y1 y2 => ?_)
    refine H.1 _ rfl z y1 ?_ ?_ ?_
    · rw [y2, pI_s, up_ne (by decide), pI_o (by decide), pI_s, up_ne (by decide)]; exact hw
    · show n0 + c.length + (o :: π).length ≤ k + 1
      simp only [List.length_cons]; omega
    · show cntO (o :: π) = d + 1
      rw [cntO, if_pos hoc]; omega
  · have w2 : d = 8 := (nI_eq (b := 8) (by omega) (by decide)).mp w
    rw [if_pos w2] at H
    exact (H.2 _ rfl).2 u π d c h
end
