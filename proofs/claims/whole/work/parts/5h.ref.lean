/-! the reference's reading of a SUM does what the machine does -/
def WD (j : Nat) : Int64 := Int64.ofNat (if j = 0 then 512735736947 else if j = 1 then 482906305139 else if j = 2 then 123581014175598 else if j = 3 then 439854918756 else if j = 4 then 1936221540 else if j = 5 then 2002873451 else if j = 6 then 6840692 else if j = 7 then 1650553445 else if j = 8 then 1685217655 else if j = 9 then 120299592184933 else if j = 10 then 7825519 else if j = 11 then 7824756 else if j = 12 then 1650812270 else if j = 13 then 24948 else if j = 14 then 1852138852 else if j = 15 then 512736126322 else if j = 16 then 495874044019 else if j = 17 then 495672455781 else if j = 18 then 131260448338547 else if j = 19 then 26982 else if j = 20 then 7237492 else if j = 21 then 28518 else if j = 22 then 29807 else if j = 23 then 1952998766 else if j = 24 then 1701606245 else if j = 25 then 6647396 else if j = 26 then 28530 else 6385252)
def sgO (κ : Nat) : Nat := if κ = 28 then 60 else if κ = 29 then 62 else if κ = 30 then 61 else if κ = 31 then 35 else if κ = 32 then 43 else if κ = 33 then 45 else if κ = 34 then 42 else if κ = 35 then 47 else if κ = 36 then 40 else if κ = 37 then 41 else if κ = 38 then 59 else if κ = 39 then 4 else 5
def TokM (κ n : Nat) (tk nu : Int32) (w : Int64) : Prop := (κ ≤ 27 ∧ tk = nI 2 ∧ w = WD κ) ∨ (28 ≤ κ ∧ κ ≤ 40 ∧ tk = nI (sgO κ)) ∨ (κ = 41 ∧ tk = nI 1 ∧ ∃ m, nu = nI m ∧ m ≤ 1000000 ∧ (m = n ∨ (9999 < m ∧ 9999 < n))) ∨ (κ = 42 ∧ ((tk = nI 2 ∧ ∀ j, j ≤ 27 → w ≠ WD j) ∨ tk = nI 3 ∨ tk = nI 58)) ∨ (κ = 43 ∧ tk = nI 0)
def RT (K N ST EN : Nat → Nat) (M L : Nat) (B : Nat → Int32) (u : PoS) (k : Nat) : Prop := k < M ∧ u.1 48 8 = nI (ST k) ∧ u.1 48 7 = nI (EN k) ∧ TokM (K k) (N k) (u.1 48 9) (u.1 48 10) (u.2.1 48 11) ∧ u.1 52 = B ∧ u.1 48 4 = nI L
def FrK (u z : PoS) : Prop := (∀ j, j ≠ 48 → z.1 j = u.1 j) ∧ (∀ i, i ≠ 7 → i ≠ 8 → i ≠ 9 → i ≠ 10 → z.1 48 i = u.1 48 i) ∧ (∀ j i, ¬ (j = 48 ∧ i = 11) → z.2.1 j i = u.2.1 j i) ∧ z.2.2 = u.2.2
/-- to the next TOKEN -/
def NTok (K N ST EN : Nat → Nat) (M L : Nat) (B : Nat → Int32) : Prop := ∀ u k post, RT K N ST EN M L B u k → K k ≠ 43 → (∀ z, RT K N ST EN M L B z (k + 1) → FrK u z → post z) → wp_X12_nextToken u post
def FrM (t n0 : Nat) (u0 u : PoS) : Prop := (∀ j, j ≠ 48 → j ≠ 51 → j ≠ 53 → u.1 j = u0.1 j) ∧ (∀ i, i ≠ 7 → i ≠ 8 → i ≠ 9 → i ≠ 10 → i ≠ 13 → i ≠ 16 → i ≠ 17 → i ≠ 18 → u.1 48 i = u0.1 48 i) ∧ (∀ i, i < 681 * t + 73 + 2 * n0 ∨ 681 * t + 681 ≤ i → u.1 51 i = u0.1 51 i) ∧ (∀ j i, ¬ (j = 48 ∧ i = 11) → u.2.1 j i = u0.2.1 j i) ∧ u.2.2 = u0.2.2
def PileAt (f : Nat → Int32) : List Nat → Prop
  | [] => True
  | o :: π => f π.length = nI o ∧ o < 50 ∧ PileAt f π
def cntO : List Nat → Nat
  | [] => 0
  | o :: π => (if 40 ≤ o ∨ rkO o = 7 ∨ o = 20 then 1 else 0) + cntO π
def CodeAt (t n0 : Nat) (f : Nat → Int32) (c : Cd) : Prop := ∀ i x, c[i]? = some x → f (681 * t + 73 + 2 * (n0 + i)) = nI x.1 ∧ f (681 * t + 73 + 2 * (n0 + i) + 1) = nI x.2
def MSt (K N ST EN : Nat → Nat) (M L t n0 : Nat) (B : Nat → Int32) (pr : Bool) (u0 : PoS) (u : PoS) (k : Nat) (π : List Nat) (d : Nat) (c : Cd) : Prop := t < 4 ∧ M ≤ 301 ∧ RT K N ST EN M L B u k ∧ FrM t n0 u0 u ∧ u.1 48 16 = nI π.length ∧ PileAt (u.1 53) π ∧ u.1 48 17 = nI d ∧ d ≤ 200 ∧ u.1 48 12 = nI (681 * t) ∧ u.1 48 13 = nI (n0 + c.length) ∧ CodeAt t n0 (u.1 51) c ∧ u.1 48 14 = nI (if pr = true then 1 else 0) ∧ n0 + c.length + π.length ≤ 302 ∧ π.length ≤ 160
theorem pile_up {f : Nat → Int32} {a : Nat} {v : Int32} : ∀ {π : List Nat}, PileAt f π → π.length ≤ a → PileAt (up f a v) π := by
  intro π
  induction π with
  | nil => intro _ _; exact trivial
  | cons o π ih =>
    rintro ⟨h1, h2, h3⟩ hl
    simp only [List.length_cons] at hl
    exact ⟨by rw [up_ne (by omega)]; exact h1, h2, ih h3 (by omega)⟩
theorem cntO_le : ∀ π : List Nat, cntO π ≤ π.length := by
  intro π
  induction π with
  | nil => exact Nat.le_refl 0
  | cons o π ih => rw [cntO, List.length_cons]; split <;> omega
theorem rankM {o : Nat} (ho : o < 50) {u : PoS} {p : Int32 → PoS → Prop} (H : p (nI (rkO o)) u) : wp_X12_rank (nI o) u p := by
  unfold wp_X12_rank
  simp (disch := omega) only [q_lit, q_lt, q_le, q_eq]
  unfold rkO at H
  refine ⟨fun a => ⟨fun b => ⟨fun c => ⟨fun d => ⟨fun e => ⟨fun f => ?_, fun f => ⟨fun g => ?_, fun g => ⟨fun h => ⟨fun i => ?_, fun i => ?_⟩, fun h => ?_⟩⟩⟩, fun e => ?_⟩, fun d => ?_⟩, fun c => ?_⟩, fun b => ?_⟩, fun a => ?_⟩
  · rw [if_neg (by omega), if_neg b, if_neg c, if_neg d, if_neg (by omega), if_pos (by omega)] at H; exact H
  · rw [if_neg (by omega), if_neg b, if_neg c, if_neg d, if_neg (by omega), if_pos (by omega)] at H; exact H
  · rw [if_neg (by omega), if_neg b, if_neg c, if_neg d, if_neg (by omega), if_neg (by omega), if_neg (by omega)] at H; exact H
  · rw [if_neg (by omega), if_neg b, if_neg c, if_neg d, if_neg (by omega), if_neg (by omega), if_pos (by omega)] at H; exact H
  · rw [if_neg (by omega), if_neg b, if_neg c, if_neg d, if_neg (by omega), if_pos (by omega)] at H; exact H
  · rw [if_neg (by omega), if_neg b, if_neg c, if_neg d, if_pos (by omega)] at H; exact H
  · rw [if_neg (by omega), if_neg b, if_neg c, if_pos d] at H; exact H
  · rw [if_neg (by omega), if_neg b, if_pos c] at H; exact H
  · rw [if_neg (by omega), if_pos b] at H; exact H
  · rw [if_pos (by omega)] at H; exact H
theorem rk_le (o : Nat) : rkO o ≤ 7 := by
  unfold rkO
  repeat' split
  all_goals omega
section
variable {K N ST EN : Nat → Nat} {M L t n0 : Nat} {B : Nat → Int32} {pr : Bool} {u0 : PoS} {u : PoS} {k d : Nat} {π : List Nat} {c : Cd} {post : PoS → Prop}
theorem rt_i {z : PoS} (h : RT K N ST EN M L B u k) (h4 : z.1 48 4 = u.1 48 4) (h7 : z.1 48 7 = u.1 48 7) (h8 : z.1 48 8 = u.1 48 8) (h9 : z.1 48 9 = u.1 48 9) (h10 : z.1 48 10 = u.1 48 10) (h52 : z.1 52 = u.1 52) (h2 : z.2 = u.2) : RT K N ST EN M L B z k := by
  unfold RT at *
  rw [h4, h7, h8, h9, h10, h52, h2]; exact h
theorem rt48 {a : Nat} {v : Int32} (h : RT K N ST EN M L B u k) (h4 : a ≠ 4) (h7 : a ≠ 7) (h8 : a ≠ 8) (h9 : a ≠ 9) (h10 : a ≠ 10) : RT K N ST EN M L B (pI u 48 a v) k :=
  rt_i h (by rw [pI_s, up_ne (by omega)]) (by rw [pI_s, up_ne (by omega)]) (by rw [pI_s, up_ne (by omega)]) (by rw [pI_s, up_ne (by omega)]) (by rw [pI_s, up_ne (by omega)]) (by rw [pI_o (by decide)]) rfl
theorem rtO {j a : Nat} {v : Int32} (h : RT K N ST EN M L B u k) (hj : j ≠ 48) (hj2 : j ≠ 52) : RT K N ST EN M L B (pI u j a v) k :=
  rt_i h (by rw [pI_o (by omega)]) (by rw [pI_o (by omega)]) (by rw [pI_o (by omega)]) (by rw [pI_o (by omega)]) (by rw [pI_o (by omega)]) (by rw [pI_o (by omega)]) rfl
theorem frm48 {a : Nat} {v : Int32} (h : FrM t n0 u0 u) (ha : a = 13 ∨ a = 16 ∨ a = 17 ∨ a = 18) : FrM t n0 u0 (pI u 48 a v) := by
  obtain ⟨h1, h2, h3, h4, h5⟩ := h
  exact ⟨fun j q1 q2 q3 => by rw [pI_o q1]; exact h1 j q1 q2 q3, fun i a1 a2 a3 a4 a5 a6 a7 a8 => by rw [pI_s, up_ne (by omega)]; exact h2 i a1 a2 a3 a4 a5 a6 a7 a8, fun i q => by rw [pI_o (by decide)]; exact h3 i q, h4, h5⟩
theorem frm53 {a : Nat} {v : Int32} (h : FrM t n0 u0 u) : FrM t n0 u0 (pI u 53 a v) := by
  obtain ⟨h1, h2, h3, h4, h5⟩ := h
  exact ⟨fun j q1 q2 q3 => by rw [pI_o q3]; exact h1 j q1 q2 q3, fun i a1 a2 a3 a4 a5 a6 a7 a8 => by rw [pI_o (by decide)]; exact h2 i a1 a2 a3 a4 a5 a6 a7 a8, fun i q => by rw [pI_o (by decide)]; exact h3 i q, h4, h5⟩
theorem frm51 {a : Nat} {v : Int32} (h : FrM t n0 u0 u) (ha : 681 * t + 73 + 2 * n0 ≤ a) (hb : a < 681 * t + 681) : FrM t n0 u0 (pI u 51 a v) := by
  obtain ⟨h1, h2, h3, h4, h5⟩ := h
  exact ⟨fun j q1 q2 q3 => by rw [pI_o q2]; exact h1 j q1 q2 q3, fun i a1 a2 a3 a4 a5 a6 a7 a8 => by rw [pI_o (by decide)]; exact h2 i a1 a2 a3 a4 a5 a6 a7 a8, fun i q => by rw [pI_s, up_ne (by omega)]; exact h3 i q, h4, h5⟩
theorem ms18 {v : Int32} (h : MSt K N ST EN M L t n0 B pr u0 u k π d c) : MSt K N ST EN M L t n0 B pr u0 (pI u 48 18 v) k π d c := by
  obtain ⟨h1, h2, h3, h4, h5, h6, h7, h8, h9, h10, h11, h12, h13, h14⟩ := h
  refine ⟨h1, h2, rt48 h3 (by decide) (by decide) (by decide) (by decide) (by decide), frm48 h4 (by decide), ?_, ?_, ?_, h8, ?_, ?_, ?_, ?_, h13, h14⟩
  · rw [pI_s, up_ne (by decide)]; exact h5
  · rw [pI_o (by decide)]; exact h6
  · rw [pI_s, up_ne (by decide)]; exact h7
  · rw [pI_s, up_ne (by decide)]; exact h9
  · rw [pI_s, up_ne (by decide)]; exact h10
  · rw [pI_o (by decide)]; exact h11
  · rw [pI_s, up_ne (by decide)]; exact h12
theorem nextM (hNT : NTok K N ST EN M L B) (h : MSt K N ST EN M L t n0 B pr u0 u k π d c) (hk : K k ≠ 43) (H : ∀ z, MSt K N ST EN M L t n0 B pr u0 z (k + 1) π d c → z.1 48 18 = u.1 48 18 → post z) : wp_X12_nextToken u post := by
  obtain ⟨h1, h2, h3, h4, h5, h6, h7, h8, h9, h10, h11, h12, h13, h14⟩ := h
  refine hNT u k post h3 hk (fun z g1 g2 => ?_)
  obtain ⟨f1, f2, f3, f4⟩ := g2
  obtain ⟨e1, e2, e3, e4, e5⟩ := h4
  refine H z ⟨h1, h2, g1, ⟨fun j q1 q2 q3 => by rw [f1 j q1]; exact e1 j q1 q2 q3, fun i a1 a2 a3 a4 a5 a6 a7 a8 => by rw [f2 i a1 a2 a3 a4]; exact e2 i a1 a2 a3 a4 a5 a6 a7 a8, fun i q => by rw [f1 51 (by decide)]; exact e3 i q, fun j i q => by rw [f3 j i q]; exact e4 j i q, by rw [f4]; exact e5⟩, ?_, ?_, ?_, h8, ?_, ?_, ?_, ?_, h13, h14⟩ (f2 18 (by decide) (by decide) (by decide) (by decide))
  · rw [f2 16 (by decide) (by decide) (by decide) (by decide)]; exact h5
  · rw [f1 53 (by decide)]; exact h6
  · rw [f2 17 (by decide) (by decide) (by decide) (by decide)]; exact h7
  · rw [f2 12 (by decide) (by decide) (by decide) (by decide)]; exact h9
  · rw [f2 13 (by decide) (by decide) (by decide) (by decide)]; exact h10
  · rw [f1 51 (by decide)]; exact h11
  · rw [f2 14 (by decide) (by decide) (by decide) (by decide)]; exact h12
theorem code_app {f : Nat → Int32} {o v : Nat} {x y : Int32} (h : CodeAt t n0 f c) (hx : x = nI o) (hy : y = nI v) : CodeAt t n0 (up (up f (681 * t + 73 + 2 * (n0 + c.length)) x) (681 * t + 73 + 2 * (n0 + c.length) + 1) y) (c ++ [(o, v)]) := by
  intro i z hz
  rcases Nat.lt_trichotomy i c.length with q | q | q
  · rw [List.getElem?_append_left q] at hz
    obtain ⟨h1, h2⟩ := h i z hz
    exact ⟨by rw [up_ne (by omega), up_ne (by omega)]; exact h1, by rw [up_ne (by omega), up_ne (by omega)]; exact h2⟩
  · subst q
    rw [List.getElem?_append_right (Nat.le_refl _), Nat.sub_self] at hz
    have : (o, v) = z := Option.some.inj hz
    subst this
    exact ⟨by rw [up_ne (by omega), up_eq]; exact hx, by rw [up_eq]; exact hy⟩
  · rw [List.getElem?_append_right (by omega)] at hz
    have : i - c.length = (i - c.length - 1) + 1 := by omega
    rw [this] at hz
    exact absurd hz (by simp)
theorem emitM {o v : Nat} (h : MSt K N ST EN M L t n0 B pr u0 u k π d c) (hr : n0 + c.length + π.length ≤ 301) (H : ∀ z, MSt K N ST EN M L t n0 B pr u0 z k π d (c ++ [(o, v)]) → z.1 48 18 = u.1 48 18 → z.1 53 = u.1 53 → post z) : wp_X12_emit (nI o) (nI v) u post := by
  obtain ⟨h1, h2, h3, h4, h5, h6, h7, h8, h9, h10, h11, h12, h13, h14⟩ := h
  have ea : nI (681 * t) + 73 + 2 * nI (n0 + c.length) = nI (681 * t + 73 + 2 * (n0 + c.length)) := by simp (disch := omega) only [q_lit, nI_add, pk_mul, q_sub, q_rem, q_div, q_vp, q_cl, q_lt, q_le, q_eq, q_neg1, gI_def]
  unfold wp_X12_emit
  simp only [gI_def]
  rw [h9, h10, ea]
  refine ⟨by simp (disch := omega) only [q_lit, nI_add, pk_mul, q_sub, q_rem, q_div, q_vp, q_cl, q_lt, q_le, q_eq, q_neg1, gI_def]; omega, fun z1 e1 => ?_⟩
  subst e1
  rw [pI_o (show 48 ≠ 51 by decide), h9, h10, ea, nI_1, q_cl (by omega), q_cl (by omega)]
  refine ⟨by simp (disch := omega) only [q_lit, nI_add, pk_mul, q_sub, q_rem, q_div, q_vp, q_cl, q_lt, q_le, q_eq, q_neg1, gI_def]; omega, fun z2 e2 z3 e3 => ?_⟩
  subst e2; subst e3
  refine H _ ⟨h1, h2, rt48 (rtO (rtO h3 (by decide) (by decide)) (by decide) (by decide)) (by decide) (by decide) (by decide) (by decide) (by decide), frm48 (frm51 (frm51 h4 (by omega) (by omega)) (by omega) (by omega)) (by decide), ?_, ?_, ?_, h8, ?_, ?_, ?_, ?_, by rw [List.length_append]; simp only [List.length_cons, List.length_nil]; omega, h14⟩ ?_ ?_
  · rw [pI_s, up_ne (by decide), pI_o (by decide), pI_o (by decide)]; exact h5
  · rw [pI_o (by decide), pI_o (by decide), pI_o (by decide)]; exact h6
  · rw [pI_s, up_ne (by decide), pI_o (by decide), pI_o (by decide)]; exact h7
  · rw [pI_s, up_ne (by decide), pI_o (by decide), pI_o (by decide)]; exact h9
  · rw [pI_s, up_eq, pI_o (by decide), pI_o (by decide), h10, nI_1, List.length_append]; rfl
  · rw [pI_o (by decide), pI_s, pI_s]; exact code_app h11 rfl rfl
  · rw [pI_s, up_ne (by decide), pI_o (by decide), pI_o (by decide)]; exact h12
  · rw [pI_s, up_ne (by decide), pI_o (by decide), pI_o (by decide)]
  · rw [pI_o (by decide), pI_o (by decide), pI_o (by decide)]
/-- one is taken from the pile -/
theorem ms16 {o : Nat} (h : MSt K N ST EN M L t n0 B pr u0 u k (o :: π) d c) : MSt K N ST EN M L t n0 B pr u0 (pI u 48 16 (nI π.length)) k π d c := by
  obtain ⟨h1, h2, h3, h4, h5, ⟨h6, h6a, h6b⟩, h7, h8, h9, h10, h11, h12, h13, h14⟩ := h
  simp only [List.length_cons] at h13 h14
  refine ⟨h1, h2, rt48 h3 (by decide) (by decide) (by decide) (by decide) (by decide), frm48 h4 (by decide), ?_, ?_, ?_, h8, ?_, ?_, ?_, ?_, by omega, by omega⟩
  · rw [pI_s, up_eq]
  · rw [pI_o (by decide)]; exact h6b
  · rw [pI_s, up_ne (by decide)]; exact h7
  · rw [pI_s, up_ne (by decide)]; exact h9
  · rw [pI_s, up_ne (by decide)]; exact h10
  · rw [pI_o (by decide)]; exact h11
  · rw [pI_s, up_ne (by decide)]; exact h12
theorem ms17 {d' : Nat} {v : Int32} (h : MSt K N ST EN M L t n0 B pr u0 u k π d c) (hd : d' ≤ 200) (hv : v = nI d') : MSt K N ST EN M L t n0 B pr u0 (pI u 48 17 v) k π d' c := by
  obtain ⟨h1, h2, h3, h4, h5, h6, h7, h8, h9, h10, h11, h12, h13, h14⟩ := h
  refine ⟨h1, h2, rt48 h3 (by decide) (by decide) (by decide) (by decide) (by decide), frm48 h4 (by decide), ?_, ?_, ?_, hd, ?_, ?_, ?_, ?_, h13, h14⟩
  · rw [pI_s, up_ne (by decide)]; exact h5
  · rw [pI_o (by decide)]; exact h6
  · rw [pI_s, up_eq]; exact hv
  · rw [pI_s, up_ne (by decide)]; exact h9
  · rw [pI_s, up_ne (by decide)]; exact h10
  · rw [pI_o (by decide)]; exact h11
  · rw [pI_s, up_ne (by decide)]; exact h12
/-- one is put on the pile -/
theorem msPush {o : Nat} {a v : Int32} (h : MSt K N ST EN M L t n0 B pr u0 u k π d c) (ho : o < 50) (hl : π.length < 160) (hr : n0 + c.length + π.length < 302) (ha : a = nI o) (hv : v = nI (π.length + 1)) : MSt K N ST EN M L t n0 B pr u0 (pI (pI u 53 π.length a) 48 16 v) k (o :: π) d c := by
  obtain ⟨h1, h2, h3, h4, h5, h6, h7, h8, h9, h10, h11, h12, h13, h14⟩ := h
  refine ⟨h1, h2, rt48 (rtO h3 (by decide) (by decide)) (by decide) (by decide) (by decide) (by decide) (by decide), frm48 (frm53 h4) (by decide), ?_, ?_, ?_, h8, ?_, ?_, ?_, ?_, by simp only [List.length_cons]; omega, by simp only [List.length_cons]; omega⟩
  · rw [pI_s, up_eq]; exact hv
  · rw [pI_o (by decide), pI_s]; exact ⟨by rw [up_eq]; exact ha, ho, pile_up h6 (Nat.le_refl _)⟩
  · rw [pI_s, up_ne (by decide), pI_o (by decide)]; exact h7
  · rw [pI_s, up_ne (by decide), pI_o (by decide)]; exact h9
  · rw [pI_s, up_ne (by decide), pI_o (by decide)]; exact h10
  · rw [pI_o (by decide), pI_o (by decide)]; exact h11
  · rw [pI_s, up_ne (by decide), pI_o (by decide)]; exact h12
/-- the top is changed -/
theorem msTop {o o' : Nat} {a : Int32} (h : MSt K N ST EN M L t n0 B pr u0 u k (o' :: π) d c) (ho : o < 50) (ha : a = nI o) : MSt K N ST EN M L t n0 B pr u0 (pI u 53 π.length a) k (o :: π) d c := by
  obtain ⟨h1, h2, h3, h4, h5, ⟨h6, h6a, h6b⟩, h7, h8, h9, h10, h11, h12, h13, h14⟩ := h
  simp only [List.length_cons] at h13 h14
  refine ⟨h1, h2, rtO h3 (by decide) (by decide), frm53 h4, ?_, ?_, ?_, h8, ?_, ?_, ?_, ?_, by simp only [List.length_cons]; omega, by simp only [List.length_cons]; omega⟩
  · rw [pI_o (by decide)]; exact h5
  · rw [pI_s]; exact ⟨by rw [up_eq]; exact ha, ho, pile_up h6b (Nat.le_refl _)⟩
  · rw [pI_o (by decide)]; exact h7
  · rw [pI_o (by decide)]; exact h9
  · rw [pI_o (by decide)]; exact h10
  · rw [pI_o (by decide)]; exact h11
  · rw [pI_o (by decide)]; exact h12
theorem settleM {l : Nat} (hl : 1 ≤ l) (hl7 : l ≤ 7) : ∀ (π : List Nat) (c : Cd) (d : Nat) (u : PoS), MSt K N ST EN M L t n0 B pr u0 u k π d c → cntO π ≤ d → (∀ z, MSt K N ST EN M L t n0 B pr u0 z k (stl l π d c).1 (stl l π d c).2.1 (stl l π d c).2.2 → z.1 48 18 = u.1 48 18 → post z) → wl_X12_settle_0 post (π.length + 1) (nI l) u := by
  intro π
  induction π with
  | nil =>
    intro c d u h _ H
    rw [wl_X12_settle_0, gI_def, h.2.2.2.2.1]
    exact ⟨fun _ => H u h rfl, fun q => absurd (show nI ([] : List Nat).length ≤ 0 by decide) q⟩
  | cons o π ih =>
    intro c d u h hc H
    have h14 := h.2.2.2.2.2.2.2.2.2.2.2.2.2
    have h13 := h.2.2.2.2.2.2.2.2.2.2.2.2.1
    have h5 := h.2.2.2.2.1
    have h6 := h.2.2.2.2.2.1.1
    have h6a := h.2.2.2.2.2.1.2.1
    have h8 := h.2.2.2.2.2.2.2.1
    simp only [List.length_cons] at h13 h14 h5
    have hr7 := rk_le o
    rw [wl_X12_settle_0, gI_def, h5]
    refine ⟨fun q => absurd q (by simp (disch := omega) only [q_lit, nI_add, pk_mul, q_sub, q_rem, q_div, q_vp, q_cl, q_lt, q_le, q_eq, q_neg1, gI_def]; omega), fun _ => ⟨by simp (disch := omega) only [q_lit, nI_add, pk_mul, q_sub, q_rem, q_div, q_vp, q_cl, q_lt, q_le, q_eq, q_neg1, gI_def]; omega, ?_⟩⟩
    rw [show nI (π.length + 1) - 1 = nI π.length by simp (disch := omega) only [q_lit, nI_add, pk_mul, q_sub, q_rem, q_div, q_vp, q_cl, q_lt, q_le, q_eq, q_neg1, gI_def]; omega, q_cl (by omega), gI_def, h6]
    refine rankM h6a ?_
    rw [q_lt (by omega) (by omega)]
    refine ⟨fun q => H u (by rw [stl_o q]; exact h) rfl, fun q => ?_⟩
    intro z3 e3
    rw [show gI u 48 16 = nI (π.length + 1) from h5, show nI (π.length + 1) - 1 = nI π.length by simp (disch := omega) only [q_lit, nI_add, pk_mul, q_sub, q_rem, q_div, q_vp, q_cl, q_lt, q_le, q_eq, q_neg1, gI_def]; omega] at e3
    subst e3
    have hs := ms16 h
    have e16 : gI (pI u 48 16 (nI π.length)) 48 16 = nI π.length := by rw [gI_def, pI_s, up_eq]
    have e53a : gI (pI u 48 16 (nI π.length)) 53 π.length = nI o := by rw [gI_def, pI_o (by decide)]; exact h6
    rw [e16, q_cl (by omega), e53a]
    refine ⟨by simp (disch := omega) only [q_lit, nI_add, pk_mul, q_sub, q_rem, q_div, q_vp, q_cl, q_lt, q_le, q_eq, q_neg1, gI_def]; omega, emitM (v := 0) hs (by omega) (fun z5 g1 g2 g3 => ?_)⟩
    have e5 : gI z5 48 16 = nI π.length := g1.2.2.2.2.1
    have e53 : gI z5 53 π.length = nI o := by rw [gI_def, g3, pI_o (by decide)]; exact h6
    rw [e5, q_cl (by omega), e53]
    refine ⟨by simp (disch := omega) only [q_lit, nI_add, pk_mul, q_sub, q_rem, q_div, q_vp, q_cl, q_lt, q_le, q_eq, q_neg1, gI_def]; omega, rankM h6a ?_⟩
    rw [e5, q_cl (by omega), e53]
    rw [pI_s, up_ne (by decide)] at g2
    have e17 : z5.1 48 17 = nI d := g1.2.2.2.2.2.2.1
    have dec : (40 ≤ o ∨ rkO o = 7 ∨ o = 20) → 1 ≤ d := fun w => by rw [cntO, if_pos w] at hc; omega
    have hcp : cntO π ≤ (if rkO o = 7 ∨ o = 20 then d - 1 else d) := by
      rw [cntO] at hc
      split
      · next w => rw [if_pos (Or.inr w)] at hc; omega
      · omega
    have popped : (rkO o = 7 ∨ o = 20) → wj_X12_settle_80 (wl_X12_settle_0 post (π.length + 1)) post (nI l) z5 := by
      intro w z8 e8
      subst e8
      have := dec (Or.inr w)
      rw [if_pos w] at hcp
      refine ih (c ++ [(o, 0)]) (d - 1) _ (ms17 (d' := d - 1) g1 (by omega) (by rw [gI_def, e17]; simp (disch := omega) only [q_lit, nI_add, pk_mul, q_sub, q_rem, q_div, q_vp, q_cl, q_lt, q_le, q_eq, q_neg1, gI_def])) hcp (fun z y1 y2 => H z (by rw [stl_pop (by omega), if_pos w]; exact y1) (by rw [y2, pI_s, up_ne (by decide)]; exact g2))
    refine ⟨fun w => popped (Or.inl ?_), fun w => ⟨by simp (disch := omega) only [q_lit, nI_add, pk_mul, q_sub, q_rem, q_div, q_vp, q_cl, q_lt, q_le, q_eq, q_neg1, gI_def]; omega, fun w2 => ?_, fun w2 => popped (Or.inr ?_)⟩⟩
    · rw [show (7 : Int32) = nI 7 from rfl, q_eq (by omega) (by omega)] at w; exact w
    · rw [show (7 : Int32) = nI 7 from rfl, q_eq (by omega) (by omega)] at w
      rw [show (20 : Int32) = nI 20 from rfl, q_eq (by omega) (by omega)] at w2
      have nw : ¬ (rkO o = 7 ∨ o = 20) := by omega
      rw [if_neg nw] at hcp
      exact ih (c ++ [(o, 0)]) d z5 g1 hcp (fun z y1 y2 => H z (by rw [stl_pop (by omega), if_neg nw]; exact y1) (by rw [y2]; exact g2))
    · rw [show (20 : Int32) = nI 20 from rfl, q_eq (by omega) (by omega)] at w2; exact w2
theorem openAtM {p : Int32 → PoS → Prop} (f : Nat → Int32) (hf : u.1 53 = f) : ∀ (π : List Nat), PileAt f π → π.length ≤ 160 → (opnM π = 0 → p (-1) u) → (∀ a b : List Nat, π = a ++ opnM π :: b → 40 ≤ opnM π → (∀ o ∈ a, o < 40) → p (nI b.length) u) → wl_X12_openAt_7 p (π.length + 1) (nI π.length - 1) u := by
  intro π
  induction π with
  | nil =>
    intro _ _ h0 _
    rw [wl_X12_openAt_7]
    exact ⟨fun _ => h0 rfl, fun q => absurd (show nI ([] : List Nat).length - 1 < 0 by decide) q⟩
  | cons o π ih =>
    rintro ⟨h6, h6a, h6b⟩ hl h0 h1
    simp only [List.length_cons] at hl
    rw [List.length_cons, show nI (π.length + 1) - 1 = nI π.length by simp (disch := omega) only [q_lit, nI_add, pk_mul, q_sub, q_rem, q_div, q_vp, q_cl, q_lt, q_le, q_eq, q_neg1, gI_def]; omega, wl_X12_openAt_7, q_cl (by omega), gI_def, hf, h6]
    refine ⟨fun q => absurd q (by simp (disch := omega) only [q_lit, nI_add, pk_mul, q_sub, q_rem, q_div, q_vp, q_cl, q_lt, q_le, q_eq, q_neg1, gI_def]; omega), fun _ => ⟨by simp (disch := omega) only [q_lit, nI_add, pk_mul, q_sub, q_rem, q_div, q_vp, q_cl, q_lt, q_le, q_eq, q_neg1, gI_def]; omega, fun q => ?_, fun q => ?_⟩⟩
    · rw [show (40 : Int32) = nI 40 from rfl, q_le (by omega) (by omega)] at q
      exact h1 [] π (by rw [opn_o q]; rfl) (by rw [opn_o q]; exact q) (fun o ho => absurd ho (by simp))
    · rw [show (40 : Int32) = nI 40 from rfl, q_le (by omega) (by omega)] at q
      rw [show nI π.length + (-1) = nI π.length - 1 from (Int32.sub_eq_add_neg _ _).symm]
      rw [opn_n (by omega)] at h0 h1
      refine ih h6b (by omega) h0 (fun a b e g1 g2 => h1 (o :: a) b (by rw [List.cons_append, ← e]) g1 (fun x hx => ?_))
      rcases List.mem_cons.mp hx with rfl | hx
      · omega
      · exact g2 x hx
theorem pile_in {f : Nat → Int32} {o : Nat} {b : List Nat} : ∀ {a : List Nat}, PileAt f (a ++ o :: b) → f b.length = nI o ∧ o < 50 := by
  intro a
  induction a with
  | nil => rintro ⟨h1, h2, _⟩; exact ⟨h1, h2⟩
  | cons x a ih => rintro ⟨_, _, h⟩; exact ih h
theorem opn_40 : ∀ π : List Nat, opnM π = 0 ∨ 40 ≤ opnM π := by
  intro π
  induction π with
  | nil => exact Or.inl rfl
  | cons o π ih =>
    rw [opnM]
    split
    · next h => exact Or.inr h
    · exact ih
theorem openNowM {p : Int32 → PoS → Prop} (h : MSt K N ST EN M L t n0 B pr u0 u k π d c) (h0 : opnM π = 0 → p (-1) u) (h1 : opnM π ≠ 0 → opnM π < 50 → p (nI (opnM π)) u) : wp_X12_openNow u p := by
  have h5 := h.2.2.2.2.1
  have h6 := h.2.2.2.2.2.1
  have h14 := h.2.2.2.2.2.2.2.2.2.2.2.2.2
  unfold wp_X12_openNow wp_X12_openAt
  intro x1 e1
  rw [gI_def, h5] at e1
  subst e1
  refine ⟨_, openAtM (u.1 53) rfl π h6 h14 (fun q => ⟨fun w => absurd w (by decide), fun _ => h0 q⟩) (fun a b e g1 g2 => ⟨fun _ => ?_, fun w => ?_⟩)⟩
  · intro x2 e2
    rw [gI_def, h5] at e2
    subst e2
    refine ⟨_, openAtM (u.1 53) rfl π h6 h14 (fun q => absurd g1 (by omega)) (fun a b e g1 g2 => ?_)⟩
    have hp := pile_in (by rw [← e]; exact h6)
    have hb : b.length < π.length := by rw [e, List.length_append, List.length_cons]; omega
    rw [q_cl (by omega), gI_def, hp.1]
    exact ⟨by simp (disch := omega) only [q_lit, nI_add, pk_mul, q_sub, q_rem, q_div, q_vp, q_cl, q_lt, q_le, q_eq, q_neg1, gI_def]; omega, h1 (by omega) hp.2⟩
  · have hb : b.length < π.length := by rw [e, List.length_append, List.length_cons]; omega
    exact absurd (show (0 : Int32) ≤ nI b.length by simp (disch := omega) only [q_lit, nI_add, pk_mul, q_sub, q_rem, q_div, q_vp, q_cl, q_lt, q_le, q_eq, q_neg1, gI_def]; omega) w
theorem comparedM {p : Int32 → PoS → Prop} (f : Nat → Int32) (hf : u.1 53 = f) : ∀ (π : List Nat), PileAt f π → π.length ≤ 160 → p (nI (if cmpd π = true then 1 else 0)) u → wl_X12_isCompared_7 (fun v16 u6 => wj_X12_isCompared_30 p v16 u6) p (π.length + 1) (nI π.length - 1) u := by
  intro π
  induction π with
  | nil =>
    intro _ _ h
    rw [wl_X12_isCompared_7]
    exact ⟨fun _ => ⟨fun _ => h, fun q => absurd (show nI ([] : List Nat).length - 1 < 0 by decide) q⟩, fun q => absurd (show nI ([] : List Nat).length - 1 < 0 by decide) q⟩
  | cons o π ih =>
    rintro ⟨h6, h6a, h6b⟩ hl h
    simp only [List.length_cons] at hl
    have hr := rk_le o
    rw [List.length_cons, show nI (π.length + 1) - 1 = nI π.length by simp (disch := omega) only [q_lit, nI_add, pk_mul, q_sub, q_rem, q_div, q_vp, q_cl, q_lt, q_le, q_eq, q_neg1, gI_def]; omega, wl_X12_isCompared_7, q_cl (by omega), gI_def, hf, h6]
    refine ⟨fun q => absurd q (by simp (disch := omega) only [q_lit, nI_add, pk_mul, q_sub, q_rem, q_div, q_vp, q_cl, q_lt, q_le, q_eq, q_neg1, gI_def]; omega), fun _ => ⟨by simp (disch := omega) only [q_lit, nI_add, pk_mul, q_sub, q_rem, q_div, q_vp, q_cl, q_lt, q_le, q_eq, q_neg1, gI_def]; omega, rankM h6a ?_⟩⟩
    rw [show (4 : Int32) = nI 4 from rfl, q_le (by omega) (by omega)]
    refine ⟨fun q => ⟨fun q => absurd q (by simp (disch := omega) only [q_lit, nI_add, pk_mul, q_sub, q_rem, q_div, q_vp, q_cl, q_lt, q_le, q_eq, q_neg1, gI_def]; omega), fun _ => ?_⟩, fun q => ?_⟩
    · rw [q_cl (by omega), gI_def, hf, h6]
      refine ⟨by simp (disch := omega) only [q_lit, nI_add, pk_mul, q_sub, q_rem, q_div, q_vp, q_cl, q_lt, q_le, q_eq, q_neg1, gI_def]; omega, rankM h6a ?_⟩
      have hcm : cmpd (o :: π) = decide (rkO o = 4) := by rw [cmpd, if_neg (by omega)]
      rw [hcm] at h
      rw [show (4 : Int32) = nI 4 from rfl, q_eq (by omega) (by omega)]
      refine ⟨fun w => ?_, fun w => ?_⟩
      · rw [if_neg (by simp [w])] at h; exact h
      · rw [if_pos (by simp [w])] at h; exact h
    · rw [cmpd_n (by omega)] at h
      rw [show nI π.length + (-1) = nI π.length - 1 from (Int32.sub_eq_add_neg _ _).symm]
      exact ih h6b (by omega) h
theorem isCmpM {p : Int32 → PoS → Prop} (h : MSt K N ST EN M L t n0 B pr u0 u k π d c) (H : p (nI (if cmpd π = true then 1 else 0)) u) : wp_X12_isCompared u p := by
  intro x1 e1
  rw [gI_def, h.2.2.2.2.1] at e1
  subst e1
  exact ⟨_, comparedM (u.1 53) rfl π h.2.2.2.2.2.1 h.2.2.2.2.2.2.2.2.2.2.2.2.2 H⟩
end
