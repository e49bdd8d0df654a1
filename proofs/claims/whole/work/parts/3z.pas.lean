/-! RUNS of steps: first the class does them, then the reference -/
def Act (T : Nat) (w : Nat → (Nat → Int32) → Nat → Int32 → Int32) (q : Nat → (Nat → Int32) → Nat → Int32) (wx wm : PoS → (Int32 → PoS → Prop) → Prop) : Prop :=
  ∀ r a, RowOk r a → nN (a 1) = T → (∃ u0, Ctx u0 T w q) → ∃ F r' a', RowOk r' a' ∧ a' 1 = a 1 ∧
    (∀ (u : PoS) (K : Int32 → PoS → Prop), u.1 3 = r → Ctx u T w q → (∀ z, FrB 0 u z → z.1 3 = r' → K F z) → wx u K) ∧
    (∀ (u : PoS) (K : Int32 → PoS → Prop), u.1 49 = a → u.1 48 24 = 1 → Ctx u T w q → (∀ z, FrR u z → z.1 49 = a' → K F z) → wm u K)
theorem FrB.law {b : Nat} (hb : b ≤ 1) {u z : PoS} (h : FrB b u z) : LawS u z := ⟨fun j _ _ => h j (by omega) (by omega), h 51 (by omega) (by decide)⟩
theorem inv_act {u u1 z : PoS} (hI : Inv LTx u) (h1 : FrB 0 u u1) (h2 : FrR u1 z) (e1 : z.1 49 1 = u.1 49 1) (hR : RowOk (u1.1 3) (z.1 49)) : Inv LTx z := by
  have z3 : z.1 3 = u1.1 3 := h2.1 3 (by decide) (by decide) (by decide) (by decide) (by decide)
  exact inv_row LTx_ok hI (by rw [z3]; exact hR) e1 (fun j hj => by rw [h2.1 j (by omega) (by omega) (by omega) (by omega) (by omega), h1 j (by omega) (by omega)]) (fun k hk => by rw [h2.2 k (by omega), h1 48 (by decide) (by decide)])
theorem ob_act {wx wm : PoS → (Int32 → PoS → Prop) → Prop} (h : ∀ T w q, Act T w q wx wm) : Ob32 wx wm (Inv LTx) := by
  intro u hI
  obtain ⟨w, q, hC⟩ := ctx_of hI
  obtain ⟨F, r', a', hR, e1, hx, hm⟩ := h (nN (u.1 49 1)) w q (u.1 3) (u.1 49) hI.1 rfl ⟨u, hC⟩
  refine ⟨fun r u1 => r = F ∧ FrB 0 u u1 ∧ u1.1 3 = r', fun K hK => hx u K rfl hC (fun z f g => hK _ _ ⟨rfl, f, g⟩), fun r u1 hr K hK => ?_⟩
  obtain ⟨rfl, f, g⟩ := hr
  refine hm u1 K (f 49 (by decide) (by decide)) (by rw [f 48 (by decide) (by decide)]; exact hI.2.2.2.2.2.1) (hC.mv (f.law (by decide))) (fun z fz gz => hK z (inv_act hI f fz (by rw [gz]; exact e1) (by rw [g, gz]; exact hR)))
theorem RowOk.nine {r a : Nat → Int32} (h : RowOk r a) : Sm 30 (a 9) := by
  obtain ⟨-, ⟨-, -, -, -, -, -, -, -, -, b9, -⟩, -⟩ := h
  exact b9
section PAS
variable {w : Nat → (Nat → Int32) → Nat → Int32 → Int32} {q : Nat → (Nat → Int32) → Nat → Int32}
def pas (w : Nat → (Nat → Int32) → Nat → Int32 → Int32) (q : Nat → (Nat → Int32) → Nat → Int32) (a : Nat → Int32) : Nat → Nat → Int32
  | 0 => a
  | k + 1 => psA w q true (keepA (pas w q a k))
def pasR (w : Nat → (Nat → Int32) → Nat → Int32 → Int32) (q : Nat → (Nat → Int32) → Nat → Int32) (r a : Nat → Int32) : Nat → Nat → Int32
  | 0 => r
  | k + 1 => prR w q (remR (pasR w q r a k) (nN (pasR w q r a k 184)) (nN (pas w q a k 3))) (keepA (pas w q a k))
def rnc (w : Nat → (Nat → Int32) → Nat → Int32 → Int32) (q : Nat → (Nat → Int32) → Nat → Int32) (a : Nat → Int32) : Nat → Nat
  | 0 => 0
  | k + 1 => rnc w q a k + if wt w (keepA (pas w q a k)) = -1 then 0 else 1
theorem rnc_le (a : Nat → Int32) : ∀ k, rnc w q a k ≤ k := by
  intro k
  induction k with
  | zero => exact Nat.le_refl 0
  | succ k ih => rw [rnc]; split <;> omega
theorem pas_ok {u : PoS} {T : Nat} {r a : Nat → Int32} (h : RowOk r a) (hT : nN (a 1) = T) (hC : Ctx u T w q) : ∀ k, nN (a 6) + k ≤ 9999 → RowOk (pasR w q r a k) (pas w q a k) ∧ pas w q a k 1 = a 1 ∧ pas w q a k 6 = nI (nN (a 6) + k) := by
  intro k
  induction k with
  | zero => intro _; exact ⟨h, rfl, h.liv.min.2.1⟩
  | succ k ih =>
    intro hk
    obtain ⟨i1, i2, i3⟩ := ih (by omega)
    obtain ⟨hK1, hK2⟩ := row_keep i1
    obtain ⟨k9, hk9, e9⟩ := hK1.nine
    have k1 := kp_lo i1 (i := 1) (by decide) (by decide)
    have k6 := kp_lo i1 (i := 6) (by decide) (by decide)
    have n6 : nN (keepA (pas w q a k) 6) = nN (a 6) + k := by rw [k6, i3, nN_nI (by omega)]
    obtain ⟨l1, l2, l3, l4, l5⟩ := live_pass (w := w) (q := q) hK1.liv (pvl_sm (T := T) hC (by
      have := hK1.liv.txt
      rw [k1, i2, hT] at this
      exact this)) hk9 e9 (by omega)
    obtain ⟨b1, b2⟩ := l5 hK1.boo
    rw [pasR, pas]
    refine ⟨(row_live hK1 hK2 l2 l3 l1 b1 b2).1, by rw [l3 1 (by omega), k1, i2], by rw [l4, n6, Nat.add_assoc]⟩
theorem canX {b : Nat} {a : Nat → Int32} {u : PoS} (h : Liv (u.1 (3 + b)) a) {post : Int32 → PoS → Prop} (h1 : nN (a 6) < 9999 → post 1 u) (h0 : nN (a 6) = 9999 → post 0 u) : wp_X8_canPass b u post := by
  obtain ⟨i1, i2, i3⟩ := h.min
  refine ⟨rl_in (k := 51) (by decide), ?_⟩
  rw [gI_def, i3, show (9999 : Int32) = nI 9999 from rfl, q_le (by omega) (by omega)]
  exact ⟨fun z => h0 (by omega), fun z => h1 (by omega)⟩
theorem passesX {u : PoS} {T : Nat} {r a : Nat → Int32} (h : RowOk r a) (hT : nN (a 1) = T) (hC : Ctx u T w q) (e3 : u.1 3 = r) {n N : Nat} (hn : n ≤ 60) (hN : N = min n (9999 - nN (a 6))) {post : Int32 → PoS → Prop} (K : ∀ z, FrB 0 u z → z.1 3 = pasR w q r a N → post (nI (rnc w q a N)) z) : wp_X11_pass (nI n) u post := by
  have m6 := h.liv.min.1
  refine ⟨N + 1, ?_⟩
  have lp : ∀ m k, k + m = N → ∀ z, FrB 0 u z → z.1 3 = pasR w q r a k → wl_X11_pass_4 post (m + 1) (nI n) (nI (rnc w q a k)) (nI k) z := by
    intro m
    induction m with
    | zero =>
      intro k hk z fz gz
      obtain rfl : k = N := by omega
      obtain ⟨i1, i2, i3⟩ := pas_ok h hT hC k (by omega)
      rw [wl_X11_pass_4, q_le (by omega) (by omega)]
      refine ⟨fun _ => K z fz gz, fun hh => canX (b := 0) (a := pas w q a k) (by rw [show z.1 (3 + 0) = pasR w q r a k from gz]; exact i1.liv) (fun h6 => ?_) (fun _ => ⟨fun _ => K z fz gz, fun z => absurd rfl z⟩)⟩
      rw [i3, nN_nI (by omega)] at h6
      omega
    | succ m ih =>
      intro k hk z fz gz
      obtain ⟨i1, i2, i3⟩ := pas_ok h hT hC k (by omega)
      have i1' : RowOk (z.1 3) (pas w q a k) := by rw [gz]; exact i1
      obtain ⟨hK1, hK2⟩ := row_keep i1
      obtain ⟨k9, hk9, e9⟩ := hK1.nine
      rw [wl_X11_pass_4, q_le (by omega) (by omega)]
      refine ⟨fun hh => by omega, fun _ => canX (b := 0) (a := pas w q a k) i1'.liv (fun h6 => ⟨fun z => absurd z (by decide), fun _ => remX i1' (fun z4 f4 g4 => ?_)⟩) (fun h6 => by rw [i3, nN_nI (by omega)] at h6; omega)⟩
      have g4' : z4.1 (3 + 0) = remR (pasR w q r a k) (nN (pasR w q r a k 184)) (nN (pas w q a k 3)) := by
        show z4.1 3 = _
        rw [g4, gz]
      have f4' : FrB 0 u z4 := fun j h1 h2 => by rw [f4 j h1, fz j h1 h2]
      refine passX (b := 0) (by decide) (a := keepA (pas w q a k)) (by rw [kp_lo i1 (by decide) (by decide), i2, hT]; exact hC.mv (f4'.law (by decide))) (by rw [g4']; exact hK1.liv) hk9 e9 (fun z6 f6 g6 => ?_)
      have ih := ih (k + 1) (by omega) z6 (fun j h1 h2 => by rw [f6 j h1 h2, f4' j h1 h2]) (by
        show z6.1 (3 + 0) = _
        rw [g6, g4']; rfl)
      rw [rnc] at ih
      refine ⟨fun e => ?_, fun e => ?_⟩
      · rw [if_pos e, Nat.add_zero] at ih
        unfold wj_X11_pass_37
        rw [nI_1]; exact ih
      · rw [if_neg e] at ih
        unfold wj_X11_pass_37
        rw [nI_1, nI_1]; exact ih
  exact lp N 0 (Nat.zero_add N) u (fun _ _ _ => rfl) e3
theorem passesM {u : PoS} {T : Nat} {r a : Nat → Int32} (h : RowOk r a) (hT : nN (a 1) = T) (hC : Ctx u T w q) (e49 : u.1 49 = a) (hw : u.1 48 24 = 1) {n N : Nat} (hn : n ≤ 60) (hN : N = min n (9999 - nN (a 6))) {post : Int32 → PoS → Prop} (K : ∀ z, FrR u z → z.1 48 25 = nI (rnc w q a N) → z.1 49 = pas w q a N → post (if n ≤ 9999 - nN (a 6) then 1 else 0) z) : wp_X12_arePassed (nI n) u post := by
  have m6 := h.liv.min.1
  intro z1 e1
  have f1 : FrR u z1 := ⟨fun j _ h2 _ _ _ => by rw [e1]; simp (disch := omega) only [gI_def, pI_s, pI_o, cI_s, cI_o, pL_1, pR_1], fun k hk => by rw [e1]; simp (disch := omega) only [gI_def, pI_s, pI_o, cI_s, cI_o, pL_1, pR_1, up_eq, up_ne]⟩
  refine ⟨N + 1, ?_⟩
  have lp : ∀ m k, k + m = N → ∀ z, FrR u z → z.1 48 25 = nI (rnc w q a k) → z.1 49 = pas w q a k → wl_X12_arePassed_7 post (m + 1) (nI n) (nI k) z := by
    intro m
    induction m with
    | zero =>
      intro k hk z fz gr gz
      obtain rfl : k = N := by omega
      obtain ⟨i1, i2, i3⟩ := pas_ok h hT hC k (by omega)
      rw [wl_X12_arePassed_7, q_le (by omega) (by omega), gI_def, gz, i3]
      have K := K z fz gr gz
      refine ⟨fun hh => ?_, fun hh => ⟨fun h6 => ?_, fun _ => ?_⟩⟩
      · rw [if_pos (by omega)] at K; exact K
      · exact absurd (by rw [show nN (a 6) + k = 9999 by omega]; rfl) h6
      · rw [if_neg (by omega)] at K; exact K
    | succ m ih =>
      intro k hk z fz gr gz
      obtain ⟨i1, i2, i3⟩ := pas_ok h hT hC k (by omega)
      obtain ⟨s, hs, es⟩ := i1.st
      obtain ⟨hK1, hK2⟩ := row_keep i1
      obtain ⟨k9, hk9, e9⟩ := hK1.nine
      rw [wl_X12_arePassed_7, q_le (by omega) (by omega), gI_def, gz, i3]
      refine ⟨fun hh => by omega, fun _ => ⟨fun _ => keepM hs (by rw [gz]; exact es) (fun z3 f3 g3 => ?_), fun h6 => ?_⟩⟩
      · rw [gz] at g3
        have f3' := fz.tr f3.r
        refine passM (ρ := remR (pasR w q r a k) (nN (pasR w q r a k 184)) (nN (pas w q a k 3))) (wr := true) (by rw [g3, kp_lo i1 (by decide) (by decide), i2, hT]; exact hC.mv f3'.law) (by rw [g3]; exact hK1.liv) hk9 (by rw [g3]; exact e9) (by rw [f3'.2 24 (by decide), hw]; rfl) (fun z5 f5 r5 g5 => ?_)
        rw [nI_1]
        refine ih (k + 1) (by omega) z5 (f3'.tr f5) ?_ (by rw [g5, g3]; rfl)
        rw [r5, g3, f3 48 (by decide), gr, rnc]
        by_cases e : wt w (keepA (pas w q a k)) = -1
        · rw [if_pos e, if_pos e, Nat.add_zero]
        · rw [if_neg e, if_neg e, nI_1]
      · rw [show (9999 : Int32) = nI 9999 from rfl, q_eq (by omega) (by omega)] at h6; omega
  exact lp N 0 (Nat.zero_add N) z1 f1 (by rw [e1]; simp (disch := omega) only [gI_def, pI_s, pI_o, cI_s, cI_o, pL_1, pR_1, up_eq, up_ne]; rfl) (by rw [e1]; simp (disch := omega) only [gI_def, pI_s, pI_o, cI_s, cI_o, pL_1, pR_1]; exact e49)
end PAS
theorem act_minute (T : Nat) (w : Nat → (Nat → Int32) → Nat → Int32 → Int32) (q : Nat → (Nat → Int32) → Nat → Int32) (x : Int32) : Act T w q (wp_X11_minute x) (wp_X12_minute x) := by
  intro r a hR hT hc
  obtain ⟨m1, m2, m3⟩ := hR.liv.min
  by_cases ok : ∃ n, 1 ≤ n ∧ n ≤ 60 ∧ x = nI n
  · obtain ⟨n, h1, h2, rfl⟩ := ok
    have hi : ¬ nI n < 1 := nI_nlt (b := 1) (a := n) (by omega) (by omega)
    have hi' : ¬ (60 : Int32) < nI n := nI_nlt (b := n) (a := 60) (by omega) (by omega)
    by_cases h3 : nN (a 6) + n ≤ 9999
    · obtain ⟨u0, hC0⟩ := hc
      obtain ⟨i1, i2, i3⟩ := pas_ok hR hT hC0 n (by omega)
      refine ⟨nI (rnc w q a n), pasR w q r a n, pas w q a n, i1, i2, fun u K e hC hK => ?_, fun u K e hw hC hK => ?_⟩
      · refine within_t hi hi' ⟨fun z => absurd z (by decide), fun _ => ⟨fun _ => passesX (N := n) hR hT hC e h2 (by omega) hK, fun hh => absurd ?_ hh⟩⟩
        rw [gI_def, e, m3, nI_add, show (9999 : Int32) = nI 9999 from rfl, q_le (by omega) (by omega)]
        exact h3
      · refine isIn_t hi hi' ⟨fun z => absurd z (by decide), fun _ => ⟨fun hh => ?_, fun _ => passesM (N := n) hR hT hC e hw h2 (by omega) (fun z fz gr gz => ?_)⟩⟩
        · rw [gI_def, e, m2, nI_add, show (9999 : Int32) = nI 9999 from rfl, q_lt (by omega) (by omega)] at hh; omega
        · rw [if_pos (by omega)]
          refine ⟨fun z => absurd z (by decide), fun _ => ?_⟩
          rw [gI_def, gr]; exact hK z fz gz
    · refine ⟨-1, r, a, hR, rfl, fun u K e hC hK => ?_, fun u K e hw hC hK => ?_⟩
      · refine within_t hi hi' ⟨fun z => absurd z (by decide), fun _ => ⟨fun hh => ?_, fun _ => hK u (fun _ _ _ => rfl) e⟩⟩
        rw [gI_def, e, m3, nI_add, show (9999 : Int32) = nI 9999 from rfl, q_le (by omega) (by omega)] at hh
        omega
      · refine isIn_t hi hi' ⟨fun z => absurd z (by decide), fun _ => ⟨fun _ => hK u ⟨fun _ _ _ _ _ _ => rfl, fun _ _ => rfl⟩ e, fun hh => absurd ?_ hh⟩⟩
        rw [gI_def, e, m2, nI_add, show (9999 : Int32) = nI 9999 from rfl, q_lt (by omega) (by omega)]; omega
  · have hf : x < 1 ∨ (60 : Int32) < x := by
      rcases rng 60 (by decide) x with ⟨j, hj, rfl⟩ | z | z
      · left
        rcases Nat.eq_zero_or_pos j with e | e
        · rw [e]; decide
        · exact absurd ⟨j, e, hj, rfl⟩ ok
      · left
        rw [Int32.lt_iff_toInt_lt] at z ⊢
        have e0 : (0 : Int32).toInt = 0 := rfl
        have e1 : (1 : Int32).toInt = 1 := rfl
        omega
      · exact Or.inr z
    refine ⟨-1, r, a, hR, rfl, fun u K e hC hK => ?_, fun u K e hw hC hK => ?_⟩
    · exact within_f hf ⟨fun _ => hK u (fun _ _ _ => rfl) e, fun z => absurd rfl z⟩
    · exact isIn_f hf ⟨fun _ => hK u ⟨fun _ _ _ _ _ _ => rfl, fun _ _ => rfl⟩ e, fun z => absurd rfl z⟩
theorem ob_minute (x : Int32) : Ob32 (wp_X11_minute x) (wp_X12_minute x) (Inv LTx) := ob_act (fun T w q => act_minute T w q x)
