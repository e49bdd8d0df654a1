/-! OBLIGATIONS: thirsty, driest, wettest, ledger, book, end, seen, said, image, back -/
theorem q_rem {a d : Nat} (ha : a < 2 ^ 31) (h0 : 0 < d) (hd : d < 2 ^ 31) : irem (nI a) (nI d) = nI (a % d) := pk_rem ha h0 hd
theorem q_div {a d : Nat} (ha : a < 2 ^ 31) (h0 : 0 < d) (hd : d < 2 ^ 31) : nI a / nI d = nI (a / d) := pk_div ha h0 hd
theorem pI_s {u : PoS} {j k : Nat} {v : Int32} : (pI u j k v).1 j = up (u.1 j) k v := by rw [pI_1, if_pos rfl]
theorem pI_o {u : PoS} {j k : Nat} {v : Int32} {i : Nat} (h : i ≠ j) : (pI u j k v).1 i = u.1 i := by rw [pI_1, if_neg h]
theorem cI_s {u : PoS} {j0 j1 sp dp n : Nat} : (cI u j0 j1 sp dp n).1 j1 = va_cpy (u.1 j0) (u.1 j1) sp dp n := by rw [cI_1, if_pos rfl]
theorem cI_o {u : PoS} {j0 j1 sp dp n i : Nat} (h : i ≠ j1) : (cI u j0 j1 sp dp n).1 i = u.1 i := by rw [cI_1, if_neg h]
theorem inv_row {LT : Nat → PoS → Prop} (hLT : LTok LT) {u u' : PoS} (h : Inv LT u) (hR : RowOk (u'.1 3) (u'.1 49)) (h1 : u'.1 49 1 = u.1 49 1) (hj : ∀ j, j = 0 ∨ j = 5 ∨ (7 ≤ j ∧ j ≤ 27) ∨ j = 31 ∨ j = 50 ∨ j = 51 ∨ j = 52 → u'.1 j = u.1 j) (hk : ∀ k, k = 4 ∨ k = 5 ∨ k = 6 ∨ k = 24 → u'.1 48 k = u.1 48 k) : Inv LT u' := by
  obtain ⟨-, h2, h3, h4, h5, h6, h7⟩ := h
  refine ⟨hR, ?_, ?_, ?_, ?_, ?_, fun t ht hn => ?_⟩
  · rw [hj 5 (by omega), hj 50 (by omega)]; exact h2
  · rw [hj 50 (by omega), h1]; exact h3
  · unfold Tape; rw [hj 0 (by omega), hj 31 (by omega), hj 52 (by omega), hk 4 (by omega)]; exact h4
  · unfold Flt; rw [hj 0 (by omega), hj 27 (by omega), hk 5 (by omega), hk 6 (by omega)]; exact h5
  · rw [hk 24 (by omega)]; exact h6
  · rw [h1] at hn
    exact hLT t u _ (fun j h1 h2 => hj j (by omega)) (hj 51 (by omega)) (h7 t ht hn)
/-- water that is lacking -/
def lk (a : Nat → Int32) (c : Nat) : Nat := nN (a (70 + c)) - nN (a (40 + c))
theorem lk_of {r a : Nat → Int32} (h : RowOk r a) {c : Nat} (hc : c < 30) : ∃ n w : Nat, n ≤ 99 ∧ w ≤ 99 ∧ a (70 + c) = nI n ∧ r (86 + c) = nI n ∧ a (40 + c) = nI w ∧ r (20 + c) = nI w ∧ lk a c = n - w := by
  obtain ⟨e1, ⟨w, hw, e2⟩, e3, ⟨n, hn, e4⟩, -⟩ := h.2.2.2.1.1 c hc
  exact ⟨n, w, hn, hw, e4, by rw [e3, e4], e2, by rw [e1, e2], by unfold lk; rw [e2, e4, nN_nI (by omega), nN_nI (by omega)]⟩
theorem lk_le {r a : Nat → Int32} (h : RowOk r a) {c : Nat} (hc : c < 30) : lk a c ≤ 99 := by
  obtain ⟨n, w, hn, hw, -, -, -, -, e⟩ := lk_of h hc
  omega
theorem lacksX {a : Nat → Int32} {u : PoS} (h : RowOk (u.1 3) a) {c : Nat} (hc : c < 30) {post : Int32 → PoS → Prop} (K : ∀ x, (0 < lk a c → x = nI (lk a c)) → (lk a c = 0 → ∀ k, k < 2 ^ 30 → x ≤ nI k) → post x u) : wp_X11_lacks (nI c) u post := by
  obtain ⟨n, w, hn, hw, e1, e2, e3, e4, e5⟩ := lk_of h hc
  unfold wp_X11_lacks
  simp (disch := omega) only [q_lit, nI_add, pk_mul, q_sub, q_rem, q_div, q_vp, q_cl, q_lt, q_le, q_eq, q_neg1, gI_def, e2, e4]
  refine ⟨by omega, by omega, K _ (fun q => ?_) (fun q k hk => ?_)⟩
  · rw [q_sub (by omega), e5]
  · rw [Int32.le_iff_toInt_le, pk_sub_toInt (by omega) (by omega), nI_toInt (by omega)]; omega
theorem lackM {r : Nat → Int32} {u : PoS} (h : RowOk r (u.1 49)) {c : Nat} (hc : c < 30) {post : Int32 → PoS → Prop} (K : post (nI (lk (u.1 49) c)) u) : wp_X12_lackOf (nI c) u post := by
  obtain ⟨n, w, hn, hw, e1, e2, e3, e4, e5⟩ := lk_of h hc
  unfold wp_X12_lackOf
  simp (disch := omega) only [q_lit, nI_add, pk_mul, q_sub, q_rem, q_div, q_vp, q_cl, q_lt, q_le, q_eq, q_neg1, gI_def, e1, e3]
  rw [e5] at K
  refine ⟨by omega, by omega, fun q => ?_, fun q => ⟨by omega, by omega, ?_⟩⟩
  · rw [show n - w = 0 by omega] at K; exact K
  · rw [q_sub (by omega)]; exact K
def thB (a : Nat → Int32) : Nat → Int32
  | 0 => 0
  | c + 1 => if lk a c = 0 then thB a c else thB a c ||| (1 <<< (nI c &&& 31))
def thS (a : Nat → Int32) : Nat → Nat
  | 0 => 0
  | c + 1 => thS a c + lk a c
theorem thX {a : Nat → Int32} {u : PoS} (h : RowOk (u.1 3) a) (b : Int32) (K : Int32 → Int32 → Int32 → PoS → Prop) (post : Int32 → PoS → Prop) (hK : K b (thB a 30) (nI (thS a 30)) u) : ∀ k c, c + k = 30 → wl_X11_thirsty_7 K post (k + 1) b (thB a c) (nI (thS a c)) (nI c) u := by
  intro k
  induction k with
  | zero => intro c hc; obtain rfl : c = 30 := by omega
            rw [wl_X11_thirsty_7]; exact ⟨fun _ => hK, fun q => absurd (by decide) q⟩
  | succ k ih =>
    intro c hc
    rw [wl_X11_thirsty_7]
    refine ⟨fun q => absurd q (nI_ge (b := 30) (by omega) (by decide)), fun _ => lacksX h (by omega) (fun x hx h0 => ⟨fun q => ?_, fun q x3 e3 => lacksX h (by omega) (fun y hy h1 x6 e6 => ?_)⟩)⟩
    · unfold wj_X11_thirsty_39
      rw [nI_1]
      have hz : lk a c = 0 := by
        rcases Nat.eq_zero_or_pos (lk a c) with z | z
        · exact z
        · rw [hx z] at q; exact absurd q (nI_nle z (by have := lk_le h (show c < 30 by omega); omega))
      have := ih (c + 1) (by omega)
      rw [thB, if_pos hz, thS, hz] at this; exact this
    · unfold wj_X11_thirsty_39
      rw [nI_1]
      have hz : 0 < lk a c := by
        rcases Nat.eq_zero_or_pos (lk a c) with z | z
        · exact absurd (h0 z 0 (by decide)) q
        · exact z
      have := ih (c + 1) (by omega)
      rw [thB, if_neg (by omega), thS] at this
      rw [e6, e3, hy hz, nI_add]; exact this
theorem thM {r : Nat → Int32} {u : PoS} (h : RowOk r (u.1 49)) (b : Int32) (K : Int32 → Int32 → Int32 → PoS → Prop) (post : Int32 → PoS → Prop) (hK : K b (thB (u.1 49) 30) (nI (thS (u.1 49) 30)) u) : ∀ k c, c + k = 30 → wl_X12_thirsty_7 K post (k + 1) b (thB (u.1 49) c) (nI (thS (u.1 49) c)) (nI c) u := by
  intro k
  induction k with
  | zero => intro c hc; obtain rfl : c = 30 := by omega
            rw [wl_X12_thirsty_7]; exact ⟨fun _ => hK, fun q => absurd (by decide) q⟩
  | succ k ih =>
    intro c hc
    have hl := lk_le h (show c < 30 by omega)
    have := ih (c + 1) (by omega)
    rw [thB, thS] at this
    rw [wl_X12_thirsty_7]
    refine ⟨fun q => absurd q (nI_ge (b := 30) (by omega) (by decide)), fun _ => lackM h (by omega) ⟨fun q => ?_, fun q => ?_⟩⟩
    · intro x3 e3
      refine lackM h (by omega) (fun x6 e6 => ?_)
      rw [show (0 : Int32) = nI 0 from rfl, q_le (by omega) (by omega)] at q
      rw [if_pos (by omega)] at this
      rw [e3, e6, nI_add, nI_1, Int32.or_zero]; exact this
    · intro x3 e3
      refine lackM h (by omega) (fun x6 e6 => ?_)
      rw [show (0 : Int32) = nI 0 from rfl, q_le (by omega) (by omega)] at q
      rw [if_neg (by omega)] at this
      rw [e3, e6, nI_add, nI_1]; exact this
theorem ob_thirsty (LT : Nat → PoS → Prop) (b : Int32) (_ : IsB b) : Ob32 (wp_X11_thirsty b) (wp_X12_thirsty b) (Inv LT) :=
  ob_same (fun u => if b = 0 then thB (u.1 49) 30 else nI (thS (u.1 49) 30))
    (fun u hI K hK => ⟨31, thX hI.1 b _ _ ⟨fun q => by rw [if_pos q] at hK; exact hK, fun q => by rw [if_neg q] at hK; exact hK⟩ 30 0 rfl⟩)
    (fun u hI K hK => ⟨31, thM hI.1 b _ _ ⟨fun q => by rw [if_pos q] at hK; exact hK, fun q => by rw [if_neg q] at hK; exact hK⟩ 30 0 rfl⟩)
/-- the place of the most of c numbers, the first of them, if it is above 0; and that most -/
def mostF (f : Nat → Nat) : Nat → Int32 × Nat
  | 0 => (-1, 0)
  | c + 1 => if (mostF f c).2 < f c then (nI c, f c) else mostF f c
theorem mostF_is (f : Nat → Nat) : ∀ c, mostF f c = (-1, 0) ∨ ∃ j, j < c ∧ mostF f c = (nI j, f j) := by
  intro c
  induction c with
  | zero => exact Or.inl rfl
  | succ c ih =>
    rw [mostF]
    by_cases q : (mostF f c).2 < f c
    · rw [if_pos q]; exact Or.inr ⟨c, by omega, rfl⟩
    · rw [if_neg q]
      rcases ih with e | ⟨j, hj, e⟩
      · exact Or.inl e
      · exact Or.inr ⟨j, by omega, e⟩
theorem drX {a : Nat → Int32} {u : PoS} (h : RowOk (u.1 3) a) (post : Int32 → PoS → Prop) (hK : post (mostF (lk a) 30).1 u) : ∀ k c, c + k = 30 → wl_X11_driest_6 post (k + 1) (mostF (lk a) c).1 (nI (mostF (lk a) c).2) (nI c) u := by
  intro k
  induction k with
  | zero => intro c hc; obtain rfl : c = 30 := by omega
            rw [wl_X11_driest_6]; exact ⟨fun _ => hK, fun q => absurd (by decide) q⟩
  | succ k ih =>
    intro c hc
    have hl := lk_le h (show c < 30 by omega)
    have hm : (mostF (lk a) c).2 ≤ 99 := by
      rcases mostF_is (lk a) c with e | ⟨j, hj, e⟩
      · rw [e]; decide
      · rw [e]; exact lk_le h (by omega)
    have := ih (c + 1) (by omega)
    rw [mostF] at this
    rw [wl_X11_driest_6]
    refine ⟨fun q => absurd q (nI_ge (b := 30) (by omega) (by decide)), fun _ => lacksX h (by omega) (fun x hx h0 => ⟨fun q => ?_, fun q => lacksX h (by omega) (fun y hy h1 => ?_)⟩)⟩
    · unfold wj_X11_driest_29
      rw [nI_1]
      have hz : ¬ (mostF (lk a) c).2 < lk a c := by
        intro z
        rw [hx (by omega), q_le (by omega) (by omega)] at q; omega
      rw [if_neg hz] at this; exact this
    · unfold wj_X11_driest_29
      rw [nI_1]
      have hz : (mostF (lk a) c).2 < lk a c := by
        rcases Nat.eq_zero_or_pos (lk a c) with z | z
        · exact absurd (h0 z _ (by omega)) q
        · rw [hx z, q_le (by omega) (by omega)] at q; omega
      rw [if_pos hz] at this
      rw [hy (by omega)]; exact this
theorem drM {r : Nat → Int32} {u : PoS} (h : RowOk r (u.1 49)) (post : Int32 → PoS → Prop) (hK : post (mostF (lk (u.1 49)) 30).1 u) : ∀ k c, c + k = 30 → wl_X12_driest_4 post (k + 1) (mostF (lk (u.1 49)) c).1 (nI c) u := by
  intro k
  induction k with
  | zero => intro c hc; obtain rfl : c = 30 := by omega
            rw [wl_X12_driest_4]; exact ⟨fun _ => hK, fun q => absurd (by decide) q⟩
  | succ k ih =>
    intro c hc
    have hl := lk_le h (show c < 30 by omega)
    have := ih (c + 1) (by omega)
    rw [mostF] at this
    rw [wl_X12_driest_4]
    refine ⟨fun q => absurd q (nI_ge (b := 30) (by omega) (by decide)), fun _ => lackM h (by omega) ⟨fun q => ?_, fun q => ?_⟩⟩
    · rcases mostF_is (lk (u.1 49)) c with e | ⟨j, hj, e⟩
      · rw [e] at q; exact absurd rfl q
      · rw [e] at this ⊢
        refine lackM h (by omega) ⟨fun z => ?_, fun z => ?_⟩
        · have hj2 := lk_le h (show j < 30 by omega)
          rw [q_le (by omega) (by omega)] at z
          unfold wj_X12_driest_34; rw [nI_1]
          rw [if_neg (by simp only; omega)] at this; exact this
        · have hj2 := lk_le h (show j < 30 by omega)
          rw [q_le (by omega) (by omega)] at z
          unfold wj_X12_driest_34; rw [nI_1]
          rw [if_pos (by simp only; omega)] at this; exact this
    · rcases mostF_is (lk (u.1 49)) c with e | ⟨j, hj, e⟩
      · rw [e] at this ⊢
        refine ⟨fun z => ?_, fun z => ?_⟩
        · rw [show (0 : Int32) = nI 0 from rfl, q_le (by omega) (by omega)] at z
          unfold wj_X12_driest_34; rw [nI_1]
          rw [if_neg (by simp only; omega)] at this; exact this
        · rw [show (0 : Int32) = nI 0 from rfl, q_le (by omega) (by omega)] at z
          unfold wj_X12_driest_34; rw [nI_1]
          rw [if_pos (by simp only; omega)] at this; exact this
      · rw [e] at q
        rw [show (1 : Int32) = nI 1 from rfl] at q
        rw [q_neg1 (by omega)] at q; exact q.elim
theorem ob_driest (LT : Nat → PoS → Prop) : Ob32 wp_X11_driest wp_X12_driest (Inv LT) :=
  ob_same (fun u => (mostF (lk (u.1 49)) 30).1) (fun u hI K hK => ⟨31, drX hI.1 _ hK 30 0 rfl⟩) (fun u hI K hK => ⟨31, drM hI.1 _ hK 30 0 rfl⟩)
