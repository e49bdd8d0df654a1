/-! OBLIGATIONS, first: tools; field, cost, end, about, fault, by -/
theorem q_lit (n : Nat) : (OfNat.ofNat n : Int32) = nI (OfNat.ofNat n) := rfl
theorem q_lt {a b : Nat} (ha : a < 2 ^ 31) (hb : b < 2 ^ 31) : (nI a < nI b) = (a < b) := propext (nI_ltI ha hb)
theorem q_le {a b : Nat} (ha : a < 2 ^ 31) (hb : b < 2 ^ 31) : (nI a ≤ nI b) = (a ≤ b) := propext (nI_leI ha hb)
theorem q_eq {a b : Nat} (ha : a < 2 ^ 31) (hb : b < 2 ^ 31) : (nI a = nI b) = (a = b) := propext (nI_eq ha hb)
theorem q_vp {n N : Nat} (hn : n < 2 ^ 31) (hN : N < 2 ^ 31) : vp_in (nI n) N = (n < N) := by
  apply propext
  constructor
  · intro h
    have := vp_in_iff.mp h
    rw [nI_toInt hn] at this
    omega
  · intro h
    exact vp_in_nI h hN
theorem q_cl {n : Nat} (h : n < 2 ^ 31) : Int32.toNatClampNeg (nI n) = n := nI_clamp h
theorem q_sub {a b : Nat} (h : b ≤ a) : nI a - nI b = nI (a - b) := pk_sub h
theorem q_neg1 {n : Nat} (h : n < 2 ^ 31) : (nI n = -nI 1) = False := by
  apply propext
  refine ⟨fun e => ?_, False.elim⟩
  have h1 : (nI n).toInt = (-nI 1).toInt := by rw [e]
  rw [nI_toInt h] at h1
  have h2 : (-nI 1 : Int32).toInt = -1 := by decide
  omega
theorem q_ltn {n : Nat} (h : n < 2 ^ 31) : (nI n < -nI 1) = False := by
  apply propext
  refine ⟨fun e => ?_, False.elim⟩
  have h1 := Int32.lt_iff_toInt_lt.mp e
  rw [nI_toInt h] at h1
  have h2 : (-nI 1 : Int32).toInt = -1 := by decide
  omega
/-- a number is one of 0 .. m, or it is outside -/
theorem rng (m : Nat) (hm : m < 2 ^ 31) (x : Int32) : (∃ j, j ≤ m ∧ x = nI j) ∨ (x < 0 ∨ nI m < x) := by
  by_cases h0 : x < 0
  · exact Or.inr (Or.inl h0)
  · obtain ⟨j, hj, rfl⟩ := nI_of h0
    rcases Nat.lt_or_ge m j with q | q
    · exact Or.inr (Or.inr (nI_lt q hj))
    · exact Or.inl ⟨j, q, rfl⟩
theorem isIn_c {x y z : Int32} {u : PoS} {post : Int32 → PoS → Prop} (h1 : ¬ x < y → ¬ z < x → post 1 u) (h0 : x < y ∨ z < x → post 0 u) : wp_X12_isIn x y z u post :=
  ⟨fun h => h0 (Or.inl h), fun h => ⟨fun h' => h0 (Or.inr h'), fun h' => h1 h h'⟩⟩
theorem isIn_t {x y z : Int32} {u : PoS} {post : Int32 → PoS → Prop} (h1 : ¬ x < y) (h2 : ¬ z < x) (h : post 1 u) : wp_X12_isIn x y z u post := isIn_c (fun _ _ => h) (fun q => q.elim (fun q => absurd q h1) (fun q => absurd q h2))
theorem isIn_f {x y z : Int32} {u : PoS} {post : Int32 → PoS → Prop} (h1 : x < y ∨ z < x) (h : post 0 u) : wp_X12_isIn x y z u post := isIn_c (fun a b => absurd h1 (fun q => q.elim a b)) (fun _ => h)
theorem within_t {x y z : Int32} {u : PoS} {post : Int32 → PoS → Prop} (h1 : ¬ x < y) (h2 : ¬ z < x) (h : post 1 u) : wp_X11_isWithin x y z u post := isIn_t h1 h2 h
theorem within_f {x y z : Int32} {u : PoS} {post : Int32 → PoS → Prop} (h1 : x < y ∨ z < x) (h : post 0 u) : wp_X11_isWithin x y z u post := isIn_f h1 h
theorem cellX_t {c : Nat} (hc : c < 30) {u : PoS} {post : Int32 → PoS → Prop} (h : post 1 u) : wp_X11_isCell (nI c) u post := ⟨fun q => absurd q (nI_pos (by omega)), fun _ => ⟨fun q => absurd q (nI_ge (b := 30) (by omega) (by decide)), fun _ => h⟩⟩
theorem cellX_f {x : Int32} (hx : x < 0 ∨ nI 29 < x) {u : PoS} {post : Int32 → PoS → Prop} (h : post 0 u) : wp_X11_isCell x u post := by
  refine ⟨fun _ => h, fun h0 => ⟨fun _ => h, fun h1 => ?_⟩⟩
  obtain ⟨j, hj, rfl⟩ := nI_of h0
  rcases hx with q | q
  · exact absurd q h0
  · exact absurd (nI_le (a := 30) (by have := (nI_ltI (a := 29) (by decide) hj).mp q; omega) hj) h1
theorem cellM_t {c : Nat} (hc : c < 30) {u : PoS} {post : Int32 → PoS → Prop} (h : post 1 u) : wp_X12_isCell (nI c) u post := isIn_t (nI_pos (by omega)) (nI_nlt (b := c) (a := 29) (by omega) (by decide)) ⟨Or.inr rfl, h⟩
theorem cellM_f {x : Int32} (hx : x < 0 ∨ nI 29 < x) {u : PoS} {post : Int32 → PoS → Prop} (h : post 0 u) : wp_X12_isCell x u post := isIn_f hx ⟨Or.inl rfl, h⟩
/-- an answer at which nothing is done -/
theorem ob_same {wx wm : PoS → (Int32 → PoS → Prop) → Prop} {Iv : PoS → Prop} (F : PoS → Int32) (hx : ∀ u, Iv u → ∀ K : Int32 → PoS → Prop, K (F u) u → wx u K) (hm : ∀ u, Iv u → ∀ K : Int32 → PoS → Prop, K (F u) u → wm u K) : Ob32 wx wm Iv := fun u hI => ⟨fun r u1 => r = F u ∧ u1 = u, fun K hK => hx u hI K (hK _ _ ⟨rfl, rfl⟩), fun r u1 hr K hK => by obtain ⟨rfl, rfl⟩ := hr; exact hm _ hI K (hK _ hI)⟩
/-- an answer, and one state behind the class's call, another behind the reference's -/
theorem ob_do {wx wm : PoS → (Int32 → PoS → Prop) → Prop} {Iv : PoS → Prop} (F : PoS → Int32) (X M : PoS → PoS) (hx : ∀ u, Iv u → ∀ K : Int32 → PoS → Prop, K (F u) (X u) → wx u K) (hm : ∀ u, Iv u → ∀ K : Int32 → PoS → Prop, K (F u) (M (X u)) → wm (X u) K) (hi : ∀ u, Iv u → Iv (M (X u))) : Ob32 wx wm Iv := fun u hI => ⟨fun r u1 => r = F u ∧ u1 = X u, fun K hK => hx u hI K (hK _ _ ⟨rfl, rfl⟩), fun r u1 hr K hK => by obtain ⟨rfl, rfl⟩ := hr; exact hm _ hI K (hK _ (hi u hI))⟩
/-- writes at like places of row and array -/
theorem inv_pp {LT : Nat → PoS → Prop} (hLT : LTok LT) {u : PoS} (h : Inv LT u) {k k' : Nat} {v v' : Int32} (hk : k' ≠ 1) (hR : RowOk (up (u.1 3) k v) (up (u.1 49) k' v')) : Inv LT (pI (pI u 3 k v) 49 k' v') := by
  obtain ⟨-, h2, h3, h4, h5, h6, h7⟩ := h
  refine ⟨?_, ?_, ?_, ?_, ?_, ?_, fun t ht hn => ?_⟩
  · simp only [pI_1]; exact hR
  · simp only [pI_1]; exact h2
  · simp only [pI_1]; rw [if_neg (by decide), if_neg (by decide), if_pos trivial, if_neg (by decide), up_ne (Ne.symm hk)]; exact h3
  · unfold Tape; simp only [pI_1]; exact h4
  · unfold Flt; simp only [pI_1]; exact h5
  · simp only [pI_1]; exact h6
  · simp only [pI_1] at hn
    rw [if_pos trivial, if_neg (by decide), up_ne (Ne.symm hk)] at hn
    exact hLT t u _ (fun j h1 h2 => by simp only [pI_1]; rw [if_neg (by omega), if_neg (by omega)]) (by simp only [pI_1]; rfl) (h7 t ht hn)
theorem row_need {r a : Nat → Int32} (h : RowOk r a) {c : Nat} (hc : c < 30) {v : Int32} (hv : Sm 99 v) : RowOk (up r (86 + c) v) (up a (70 + c) v) := by
  obtain ⟨h1, h2, h3, h4, h5, h6, h7, h8, h9, h10⟩ := h
  refine ⟨h1.congr (fun i hi => up_ne (by omega)) (fun i hi => up_ne (by omega)), h2.congr (up_ne (by omega)) (fun i hi => up_ne (by omega)), h3.congr (fun i hi => up_ne (by omega)) (up_ne (by omega)) (fun i _ hi => up_ne (by omega)), ?_, h5.congr (fun i _ hi => up_ne (by omega)) (fun i _ hi => up_ne (by omega)), h6.congr (fun i _ hi => up_ne (by omega)) (up_ne (by omega)) (fun i _ hi => up_ne (by omega)), h7.congr (fun i _ hi => up_ne (by omega)) (by rw [up_ne (by omega)]; exact Nat.le_refl _) (up_ne (by omega)) (fun i _ hi => up_ne (by omega)), h8.congr (fun i _ hi => up_ne (by omega)) (up_ne (by omega)) (fun i _ hi => up_ne (by omega)), h9.congr (up_ne (by omega)) (by rw [up_ne (by omega)]; exact Nat.le_refl _) (up_ne (by omega)) (fun i _ hi => up_ne (by omega)) (fun i _ hi => up_ne (by omega)), h10.congr (up_ne (by omega)) (up_ne (by omega)) (fun i _ hi => up_ne (by omega)) (fun i _ hi => up_ne (by omega))⟩
  obtain ⟨g1, m, hm, g2, g3⟩ := h4
  refine ⟨fun d hd => ?_, m, hm, by rw [up_ne (by omega)]; exact g2, fun d hd => by rw [up_ne (by omega)]; exact g3 d hd⟩
  obtain ⟨e1, e2, e3, e4, e5⟩ := g1 d hd
  rw [up_ne (show 20 + d ≠ 86 + c by omega), up_ne (show 40 + d ≠ 70 + c by omega), up_ne (show 100 + d ≠ 70 + c by omega)]
  by_cases hdc : d = c
  · subst hdc
    rw [up_eq, up_eq]
    exact ⟨e1, e2, rfl, hv, e5⟩
  · rw [up_ne (show 86 + d ≠ 86 + c by omega), up_ne (show 70 + d ≠ 70 + c by omega)]
    exact ⟨e1, e2, e3, e4, e5⟩
theorem ob_field {LT : Nat → PoS → Prop} (hLT : LTok LT) (a1 a2 : Int32) : Ob32 (wp_X11_field a1 a2) (wp_X12_field a1 a2) (Inv LT) := by
  rcases rng 29 (by decide) a1 with ⟨c, hc, rfl⟩ | hb
  · rcases rng 99 (by decide) a2 with ⟨n, hn, rfl⟩ | hb
    · refine ob_do (fun _ => 1) (fun u => pI u 3 (86 + c) (nI n)) (fun u => pI u 49 (70 + c) (nI n)) (fun u hI K hK => ?_) (fun u hI K hK => ?_) (fun u hI => inv_pp hLT hI (by omega) (row_need hI.1 (by omega) (Sm.of hn)))
      · refine cellX_t (by omega) ⟨fun q => absurd q (by decide), fun _ => within_t (nI_pos (by omega)) (nI_nlt (b := n) (a := 99) hn (by decide)) ⟨fun _ => ?_, fun q => absurd q (by decide)⟩⟩
        rw [q_lit, nI_add, q_vp (by omega) (by decide), q_cl (by omega)]
        exact ⟨by omega, fun z hz => by rw [hz]; exact hK⟩
      · refine cellM_t (by omega) ⟨fun q => absurd q (by decide), fun _ => isIn_t (nI_pos (by omega)) (nI_nlt (b := n) (a := 99) hn (by decide)) ⟨fun _ => ?_, fun q => absurd q (by decide)⟩⟩
        rw [q_lit, nI_add, q_vp (by omega) (by decide), q_cl (by omega)]
        exact ⟨by omega, fun z hz => by rw [hz]; exact hK⟩
    · exact ob_same (fun _ => 0) (fun u hI K hK => cellX_t (by omega) ⟨fun q => absurd q (by decide), fun _ => within_f hb ⟨fun q => absurd rfl q, fun _ => hK⟩⟩) (fun u hI K hK => cellM_t (by omega) ⟨fun q => absurd q (by decide), fun _ => isIn_f hb ⟨fun q => absurd rfl q, fun _ => hK⟩⟩)
  · exact ob_same (fun _ => 0) (fun u hI K hK => cellX_f hb ⟨fun _ => hK, fun q => absurd rfl q⟩) (fun u hI K hK => cellM_f hb ⟨fun _ => hK, fun q => absurd rfl q⟩)
