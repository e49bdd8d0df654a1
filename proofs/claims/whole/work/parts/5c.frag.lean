/-! what a piece of code is worth: the class's (one stack, skips) and the reference's (two stacks) -/
def BE (e : Nat → Int) : Prop := ∀ i, i < 38 → -1000000 ≤ e i ∧ e i ≤ 1000000
def clM (v : Int) : Int := clI (-1000000) 1000000 v
def watE (e : Nat → Int) (x : Int) : Int := if 0 ≤ x ∧ x < 30 then e (8 + x.toNat) else 0
def twoE (o : Nat) (x y : Int) : Int := if o = 6 then clM (x + y) else if o = 7 then clM (x - y) else if o = 8 then clM (x * y) else if o = 9 then (if y = 0 then 0 else clM (x.tdiv y)) else (if y = 0 then 0 else clM ((100 * x).tdiv y))
def cmpE (o : Nat) (x y : Int) : Bool := if o = 10 then decide (x < y) else if o = 11 then decide (x ≤ y) else if o = 12 then decide (y < x) else if o = 13 then decide (y ≤ x) else if o = 14 then decide (x = y) else decide (x ≠ y)
def b01 (t : Bool) : Int := if t = true then 1 else 0
/-- the operators of both: the reference's number to the class's -/
def opw (o : Nat) : Nat := if o = 4 then 17 else if o = 6 then 32 else if o = 7 then 33 else if o = 8 then 34 else if o = 9 then 35 else if o = 10 then 28 else if o = 11 then 39 else if o = 12 then 29 else if o = 13 then 40 else if o = 14 then 30 else if o = 15 then 31 else if o = 21 then 27 else 26
def isTwo (o : Nat) : Prop := o = 4 ∨ (6 ≤ o ∧ o ≤ 9)
def isCmp (o : Nat) : Prop := 10 ≤ o ∧ o ≤ 15
def isJn (o : Nat) : Prop := o = 21 ∨ o = 22
def binE (o : Nat) (x y : Int) : Int := if 20 < o then (if o = 21 then (if x = 1 ∧ y = 1 then 1 else 0) else (if x = 1 ∨ y = 1 then 1 else 0)) else if 10 ≤ o then b01 (cmpE o x y) else twoE o x y
/-- one step of the reference's two stacks -/
def RS1 (e : Nat → Int) (o v : Nat) (V : List Int) (T : List Bool) (V' : List Int) (T' : List Bool) : Prop :=
  (o = 0 ∧ v ≤ 9999 ∧ V' = (v : Int) :: V ∧ T' = T) ∨ (o = 1 ∧ v ≤ 7 ∧ V' = e v :: V ∧ T' = T)
  ∨ (o = 3 ∧ ∃ x y W t, V = y :: x :: W ∧ T = t :: T' ∧ V' = (if t = true then x else y) :: W)
  ∨ (o = 5 ∧ ∃ x W, V = x :: W ∧ V' = -x :: W ∧ T' = T) ∨ (o = 2 ∧ ∃ x W, V = x :: W ∧ V' = watE e x :: W ∧ T' = T)
  ∨ (isTwo o ∧ ∃ x y W, V = y :: x :: W ∧ V' = twoE o x y :: W ∧ T' = T)
  ∨ (isCmp o ∧ ∃ x y, V = y :: x :: V' ∧ T' = cmpE o x y :: T)
  ∨ (o = 20 ∧ ∃ t U, T = t :: U ∧ T' = (!t) :: U ∧ V' = V)
  ∨ (isJn o ∧ ∃ t s U, T = s :: t :: U ∧ T' = (if o = 21 then t && s else t || s) :: U ∧ V' = V)
def RR (e : Nat → Int) : Cd → List Int → List Bool → List Int → List Bool → Prop
  | [], V, T, V', T' => V' = V ∧ T' = T
  | x :: c, V, T, V', T' => ∃ W U, RS1 e x.1 x.2 V T W U ∧ RR e c W U V' T'
theorem RR_app {e : Nat → Int} {c2 : Cd} {V' W : List Int} {T' U : List Bool} : ∀ {c1 : Cd} {V : List Int} {T : List Bool}, RR e c1 V T W U → RR e c2 W U V' T' → RR e (c1 ++ c2) V T V' T' := by
  intro c1
  induction c1 with
  | nil => rintro V T ⟨rfl, rfl⟩ h; exact h
  | cons x c ih => rintro V T ⟨W1, U1, h1, h2⟩ h; exact ⟨W1, U1, h1, ih h2 h⟩
theorem RR_1 {e : Nat → Int} {o v : Nat} {V V' : List Int} {T T' : List Bool} (h : RS1 e o v V T V' T') : RR e [(o, v)] V T V' T' := ⟨V', T', h, rfl, rfl⟩
/-- one step of the class's stack -/
def XS1 (A : Nat → Nat × Nat) (e : Nat → Int) (i : Nat) (V : List Int) (i' : Nat) (V' : List Int) : Prop :=
  V.length ≤ 62 ∧ (
  ((A i).1 = 41 ∧ (A i).2 ≤ 9999 ∧ V' = ((A i).2 : Int) :: V ∧ i' = i + 1) ∨ ((9 ≤ (A i).1 ∧ (A i).1 ≤ 16) ∧ V' = e ((A i).1 - 9) :: V ∧ i' = i + 1)
  ∨ ((A i).1 = 46 ∧ i < (A i).2 ∧ (A i).2 ≤ 300 ∧ i' = (A i).2 ∧ V' = V)
  ∨ ((A i).1 = 47 ∧ i < (A i).2 ∧ (A i).2 ≤ 300 ∧ ∃ x, V = x :: V' ∧ i' = if x = 0 then (A i).2 else i + 1)
  ∨ ((A i).1 = 45 ∧ ∃ x W, V = x :: W ∧ V' = -x :: W ∧ i' = i + 1) ∨ ((A i).1 = 18 ∧ ∃ x W, V = x :: W ∧ V' = watE e x :: W ∧ i' = i + 1)
  ∨ ((A i).1 = 20 ∧ ∃ t W, V = b01 t :: W ∧ V' = b01 (!t) :: W ∧ i' = i + 1)
  ∨ (∃ o, (A i).1 = opw o ∧ i' = i + 1 ∧ ((isTwo o ∧ ∃ x y W, V = y :: x :: W ∧ V' = twoE o x y :: W) ∨ (isCmp o ∧ ∃ x y W, V = y :: x :: W ∧ V' = b01 (cmpE o x y) :: W) ∨ (isJn o ∧ ∃ t s W, V = b01 s :: b01 t :: W ∧ V' = b01 (if o = 21 then t && s else t || s) :: W))))
def XN (A : Nat → Nat × Nat) (e : Nat → Int) : Nat → Nat → List Int → Nat → List Int → Prop
  | 0, i, V, j, W => j = i ∧ W = V
  | n + 1, i, V, j, W => ∃ i1 V1, XS1 A e i V i1 V1 ∧ XN A e n i1 V1 j W
def XR (A : Nat → Nat × Nat) (e : Nat → Int) (i : Nat) (V : List Int) (j : Nat) (W : List Int) : Prop := ∃ n, XN A e n i V j W
theorem XN_app {A : Nat → Nat × Nat} {e : Nat → Int} {j l m : Nat} {W W' : List Int} : ∀ {n i : Nat} {V : List Int}, XN A e n i V j W → XN A e m j W l W' → XN A e (n + m) i V l W' := by
  intro n
  induction n with
  | zero => rintro i V ⟨rfl, rfl⟩ h; rw [Nat.zero_add]; exact h
  | succ n ih =>
    rintro i V ⟨i1, V1, h1, h2⟩ h
    rw [show n + 1 + m = (n + m) + 1 by omega]
    exact ⟨i1, V1, h1, ih h2 h⟩
theorem XR_t {A : Nat → Nat × Nat} {e : Nat → Int} {i j l : Nat} {V W W' : List Int} (h1 : XR A e i V j W) (h2 : XR A e j W l W') : XR A e i V l W' := by
  obtain ⟨n, h1⟩ := h1
  obtain ⟨m, h2⟩ := h2
  exact ⟨n + m, XN_app h1 h2⟩
theorem XR_1 {A : Nat → Nat × Nat} {e : Nat → Int} {i j : Nat} {V W : List Int} (h : XS1 A e i V j W) : XR A e i V j W := ⟨1, j, W, h, rfl, rfl⟩
/-- the value on top: a number, or the truth of an ASK -/
def psR (b : Bool) (x : Int) (V : List Int) (T : List Bool) (V' : List Int) (T' : List Bool) : Prop := if b = true then V' = V ∧ ∃ t, x = b01 t ∧ T' = t :: T else V' = x :: V ∧ T' = T
def N7 (pr : Bool) (r : Cd) : Prop := pr = true → ∀ x, x ∈ r → ¬ (x.1 = 1 ∧ x.2 = 7)
theorem n7_app {pr : Bool} {r r2 : Cd} (h : N7 pr r) (h2 : N7 pr r2) : N7 pr (r ++ r2) := fun hp x hx => by
  rcases List.mem_append.mp hx with q | q
  · exact h hp x q
  · exact h2 hp x q
theorem n7_1 {pr : Bool} {o v : Nat} (h : ¬ (o = 1 ∧ v = 7)) : N7 pr [(o, v)] := fun hp x hx => by
  rw [List.mem_singleton] at hx
  rw [hx]; exact h
/-- a piece of both codes, worth F -/
def Frg (pr b : Bool) (nd : Nat) (A : Nat → Nat × Nat) (i j : Nat) (r : Cd) (F : (Nat → Int) → Int) : Prop :=
  i < j ∧ 1 ≤ nd ∧ r.length ≤ j - i ∧ (∀ A', (∀ p, i ≤ p → p < j → A' p = A p) → ∀ e, BE e → ∀ V, V.length + nd ≤ 62 → XR A' e i V j (F e :: V))
  ∧ (∀ e, BE e → ∀ V T, ∃ V' T', psR b (F e) V T V' T' ∧ RR e r V T V' T') ∧ (pr = true → ∀ e e', (∀ i, i ≠ 7 → e i = e' i) → F e = F e') ∧ N7 pr r
section
variable {pr b : Bool} {nd nd2 : Nat} {A : Nat → Nat × Nat} {i j l m : Nat} {r r2 : Cd} {F G C : (Nat → Int) → Int}
theorem frg_A {A' : Nat → Nat × Nat} (h : Frg pr b nd A i j r F) (ha : ∀ p, i ≤ p → p < j → A' p = A p) : Frg pr b nd A' i j r F := by
  obtain ⟨h1, h2, h3, h4, h5, h6⟩ := h
  exact ⟨h1, h2, h3, fun A2 h2 => h4 A2 (fun p q1 q2 => by rw [h2 p q1 q2, ha p q1 q2]), h5, h6⟩
theorem frg_w (h : Frg pr b nd A i j r F) (hn : nd ≤ nd2) : Frg pr b nd2 A i j r F := by
  obtain ⟨h1, h2, h3, h4, h5, h6⟩ := h
  exact ⟨h1, by omega, h3, fun A2 q e he V hv => h4 A2 q e he V (by omega), h5, h6⟩
theorem frg_num {n : Nat} (h : A i = (41, n)) (hn : n ≤ 9999) : Frg pr false 1 A i (i + 1) [(0, n)] (fun _ => (n : Int)) := by
  refine ⟨by omega, by omega, by simp, fun A' ha e he V hv => XR_1 ⟨by omega, Or.inl ?_⟩, fun e he V T => ⟨_, _, ⟨rfl, rfl⟩, RR_1 (Or.inl ⟨rfl, hn, rfl, rfl⟩)⟩, fun _ _ _ _ => rfl, n7_1 (fun q => absurd q.1 (by decide))⟩
  rw [ha i (by omega) (by omega), h]
  exact ⟨rfl, hn, rfl, rfl⟩
theorem frg_nam {n v : Nat} (h : A i = (9 + n, v)) (hn : n ≤ 7) (hp : pr = true → n ≠ 7) : Frg pr false 1 A i (i + 1) [(1, n)] (fun e => e n) := by
  refine ⟨by omega, by omega, by simp, fun A' ha e he V hv => XR_1 ⟨by omega, Or.inr (Or.inl ?_)⟩, fun e he V T => ⟨_, _, ⟨rfl, rfl⟩, RR_1 (Or.inr (Or.inl ⟨rfl, hn, rfl, rfl⟩))⟩, fun hq e e' h => h n (hp hq), fun hq => n7_1 (pr := true) (fun q => hp hq q.2) rfl⟩
  rw [ha i (by omega) (by omega), h]
  exact ⟨⟨by show 9 ≤ 9 + n; omega, by show 9 + n ≤ 16; omega⟩, by rw [show (9 + n, v).1 - 9 = n from by show 9 + n - 9 = n; omega], rfl⟩
theorem frg_neg {v : Nat} (h : Frg pr false nd A i j r F) (ha : A j = (45, v)) : Frg pr false nd A i (j + 1) (r ++ [(5, 0)]) (fun e => -F e) := by
  obtain ⟨h1, h2, h3, h4, h5, h6, h7⟩ := h
  refine ⟨by omega, h2, by rw [List.length_append]; simp only [List.length_cons, List.length_nil]; omega, fun A' q e he V hv => XR_t (h4 A' (fun p q1 q2 => q p q1 (by omega)) e he V hv) (XR_1 ⟨by simp only [List.length_cons]; omega, Or.inr (Or.inr (Or.inr (Or.inr (Or.inl ?_))))⟩), fun e he V T => ?_, fun hp e e' hh => by show -F e = -F e'; rw [h6 hp e e' hh], n7_app h7 (n7_1 (fun q => absurd q.1 (by decide)))⟩
  · rw [q j (by omega) (by omega), ha]; exact ⟨rfl, _, _, rfl, rfl, rfl⟩
  · obtain ⟨V', T', ⟨rfl, rfl⟩, g⟩ := h5 e he V T
    exact ⟨_, _, ⟨rfl, rfl⟩, RR_app g (RR_1 (Or.inr (Or.inr (Or.inr (Or.inl ⟨rfl, _, _, rfl, rfl, rfl⟩)))))⟩
theorem frg_wat {v : Nat} (h : Frg pr false nd A i j r F) (ha : A j = (18, v)) : Frg pr false nd A i (j + 1) (r ++ [(2, 0)]) (fun e => watE e (F e)) := by
  obtain ⟨h1, h2, h3, h4, h5, h6, h7⟩ := h
  refine ⟨by omega, h2, by rw [List.length_append]; simp only [List.length_cons, List.length_nil]; omega, fun A' q e he V hv => XR_t (h4 A' (fun p q1 q2 => q p q1 (by omega)) e he V hv) (XR_1 ⟨by simp only [List.length_cons]; omega, Or.inr (Or.inr (Or.inr (Or.inr (Or.inr (Or.inl ?_)))))⟩), fun e he V T => ?_, fun hp e e' hh => ?_, n7_app h7 (n7_1 (fun q => absurd q.1 (by decide)))⟩
  · rw [q j (by omega) (by omega), ha]; exact ⟨rfl, _, _, rfl, rfl, rfl⟩
  · obtain ⟨V', T', ⟨rfl, rfl⟩, g⟩ := h5 e he V T
    exact ⟨_, _, ⟨rfl, rfl⟩, RR_app g (RR_1 (Or.inr (Or.inr (Or.inr (Or.inr (Or.inl ⟨rfl, _, _, rfl, rfl, rfl⟩))))))⟩
  · show watE e (F e) = watE e' (F e')
    unfold watE
    rw [h6 hp e e' hh]
    split
    · exact hh _ (by omega)
    · rfl
theorem frg_not {v : Nat} (h : Frg pr true nd A i j r F) (ha : A j = (20, v)) : Frg pr true nd A i (j + 1) (r ++ [(20, 0)]) (fun e => 1 - F e) := by
  obtain ⟨h1, h2, h3, h4, h5, h6, h7⟩ := h
  have nb : ∀ t, b01 (!t) = 1 - b01 t := by intro t; cases t <;> rfl
  refine ⟨by omega, h2, by rw [List.length_append]; simp only [List.length_cons, List.length_nil]; omega, fun A' q e he V hv => XR_t (h4 A' (fun p q1 q2 => q p q1 (by omega)) e he V hv) (XR_1 ⟨by simp only [List.length_cons]; omega, Or.inr (Or.inr (Or.inr (Or.inr (Or.inr (Or.inr (Or.inl ?_))))))⟩), fun e he V T => ?_, fun hp e e' hh => by show 1 - F e = 1 - F e'; rw [h6 hp e e' hh], n7_app h7 (n7_1 (fun q => absurd q.1 (by decide)))⟩
  · rw [q j (by omega) (by omega), ha]
    obtain ⟨V', T', ⟨_, t, ht, _⟩, g⟩ := h5 e he V []
    exact ⟨rfl, t, V, by rw [ht], by show (1 - F e) :: V = _; rw [nb, ht], rfl⟩
  · obtain ⟨V', T', ⟨rfl, t, ht, rfl⟩, g⟩ := h5 e he V T
    exact ⟨_, _, ⟨rfl, !t, by show 1 - F e = _; rw [nb, ht], rfl⟩, RR_app g (RR_1 (Or.inr (Or.inr (Or.inr (Or.inr (Or.inr (Or.inr (Or.inr (Or.inl ⟨rfl, _, _, rfl, rfl, rfl⟩)))))))))⟩
theorem frg_bin {v o nd3 : Nat} (h : Frg pr b nd A i j r F) (h' : Frg pr b nd2 A j l r2 G) (ha : A l = (opw o, v)) (hn : nd ≤ nd3) (hn2 : nd2 + 1 ≤ nd3) {b' : Bool} (ho : (isTwo o ∧ b = false ∧ b' = false) ∨ (isCmp o ∧ b = false ∧ b' = true) ∨ (isJn o ∧ b = true ∧ b' = true)) : Frg pr b' nd3 A i (l + 1) (r ++ r2 ++ [(o, 0)]) (fun e => binE o (F e) (G e)) := by
  obtain ⟨h1, h2, h3, h4, h5, h6, h7⟩ := h
  obtain ⟨k1, k2, k3, k4, k5, k6, k7⟩ := h'
  have jb : isJn o → ∀ t s, binE o (b01 t) (b01 s) = b01 (if o = 21 then t && s else t || s) := by
    rintro (rfl | rfl) t s <;> cases t <;> cases s <;> rfl
  have cb : isCmp o → ∀ x y, binE o x y = b01 (cmpE o x y) := by
    intro q x y
    unfold isCmp at q
    rw [binE, if_neg (by omega), if_pos (by omega)]
  have tb : isTwo o → ∀ x y, binE o x y = twoE o x y := by
    intro q x y
    unfold isTwo at q
    rw [binE, if_neg (by omega), if_neg (by omega)]
  refine ⟨by omega, by omega, by rw [List.length_append, List.length_append]; simp only [List.length_cons, List.length_nil]; omega, fun A' q e he V hv => XR_t (XR_t (h4 A' (fun p q1 q2 => q p q1 (by omega)) e he V (by omega)) (k4 A' (fun p q1 q2 => q p (by omega) (by omega)) e he _ (by simp only [List.length_cons]; omega))) (XR_1 ⟨by simp only [List.length_cons]; omega, Or.inr (Or.inr (Or.inr (Or.inr (Or.inr (Or.inr (Or.inr ⟨o, ?_, rfl, ?_⟩))))))⟩), fun e he V T => ?_, fun hp e e' hh => by show binE o (F e) (G e) = binE o (F e') (G e'); rw [h6 hp e e' hh, k6 hp e e' hh], n7_app (n7_app h7 k7) (n7_1 (fun q => by unfold isTwo isCmp isJn at ho; omega))⟩
  · rw [q l (by omega) (by omega), ha]
  · rcases ho with ⟨ho, rfl, rfl⟩ | ⟨ho, rfl, rfl⟩ | ⟨ho, rfl, rfl⟩
    · exact Or.inl ⟨ho, _, _, _, rfl, by show binE o (F e) (G e) :: V = _; rw [tb ho]⟩
    · exact Or.inr (Or.inl ⟨ho, _, _, _, rfl, by show binE o (F e) (G e) :: V = _; rw [cb ho]⟩)
    · obtain ⟨_, _, ⟨_, t, ht, _⟩, _⟩ := h5 e he V []
      obtain ⟨_, _, ⟨_, s, hs, _⟩, _⟩ := k5 e he V []
      exact Or.inr (Or.inr ⟨ho, t, s, V, by rw [ht, hs], by show binE o (F e) (G e) :: V = _; rw [ht, hs, jb ho]⟩)
  · obtain ⟨V', T', g1, g⟩ := h5 e he V T
    obtain ⟨V2, T2, g3, g4⟩ := k5 e he V' T'
    rcases ho with ⟨ho, rfl, rfl⟩ | ⟨ho, rfl, rfl⟩ | ⟨ho, rfl, rfl⟩
    · obtain ⟨rfl, rfl⟩ := g1
      obtain ⟨rfl, rfl⟩ := g3
      exact ⟨_, _, ⟨rfl, rfl⟩, RR_app (RR_app g g4) (RR_1 (Or.inr (Or.inr (Or.inr (Or.inr (Or.inr (Or.inl ⟨ho, _, _, _, rfl, by show binE o (F e) (G e) :: V = _; rw [tb ho], rfl⟩)))))))⟩
    · obtain ⟨rfl, rfl⟩ := g1
      obtain ⟨rfl, rfl⟩ := g3
      exact ⟨_, _, ⟨rfl, _, cb ho _ _, rfl⟩, RR_app (RR_app g g4) (RR_1 (Or.inr (Or.inr (Or.inr (Or.inr (Or.inr (Or.inr (Or.inl ⟨ho, _, _, rfl, rfl⟩))))))))⟩
    · obtain ⟨rfl, t, ht, rfl⟩ := g1
      obtain ⟨rfl, s, hs, rfl⟩ := g3
      exact ⟨_, _, ⟨rfl, _, by show binE o (F e) (G e) = _; rw [ht, hs, jb ho], rfl⟩, RR_app (RR_app g g4) (RR_1 (Or.inr (Or.inr (Or.inr (Or.inr (Or.inr (Or.inr (Or.inr (Or.inr ⟨ho, _, _, _, rfl, rfl, rfl⟩)))))))))⟩
theorem frg_sel {rc ra : Cd} (h : Frg pr true nd A i j rc C) (a1 : A j = (47, m + 1)) (hm : m + 1 ≤ 300) (h' : Frg pr false nd A (j + 1) m ra F) (a2 : A m = (46, l)) (hl : l ≤ 300) (h'' : Frg pr false nd A (m + 1) l r G) : Frg pr false nd A i l (rc ++ ra ++ r ++ [(3, 0)]) (fun e => if C e = 0 then G e else F e) := by
  obtain ⟨h1, h2, h3, h4, h5, h6, h7⟩ := h
  obtain ⟨k1, k2, k3, k4, k5, k6, k7⟩ := h'
  obtain ⟨l1, l2, l3, l4, l5, l6, l7⟩ := h''
  refine ⟨by omega, by omega, by rw [List.length_append, List.length_append, List.length_append]; simp only [List.length_cons, List.length_nil]; omega, fun A' q e he V hv => XR_t (h4 A' (fun p q1 q2 => q p q1 (by omega)) e he V (by omega)) ?_, fun e he V T => ?_, fun hp e e' hh => ?_, n7_app (n7_app (n7_app h7 k7) l7) (n7_1 (fun q => absurd q.1 (by decide)))⟩
  · by_cases hc : C e = 0
    · show XR A' e j (C e :: V) l ((if C e = 0 then G e else F e) :: V)
      rw [if_pos hc]
      refine XR_t (j := m + 1) (W := V) (XR_1 ⟨by simp only [List.length_cons]; omega, Or.inr (Or.inr (Or.inr (Or.inl ?_)))⟩) (l4 A' (fun p q1 q2 => q p (by omega) q2) e he V hv)
      rw [q j (by omega) (by omega), a1]
      exact ⟨rfl, by show j < m + 1; omega, hm, C e, rfl, by rw [if_pos hc]⟩
    · show XR A' e j (C e :: V) l ((if C e = 0 then G e else F e) :: V)
      rw [if_neg hc]
      refine XR_t (j := j + 1) (W := V) (XR_1 ⟨by simp only [List.length_cons]; omega, Or.inr (Or.inr (Or.inr (Or.inl ?_)))⟩) (XR_t (k4 A' (fun p q1 q2 => q p (by omega) (by omega)) e he V hv) (XR_1 ⟨by simp only [List.length_cons]; omega, Or.inr (Or.inr (Or.inl ?_))⟩))
      · rw [q j (by omega) (by omega), a1]
        exact ⟨rfl, by show j < m + 1; omega, hm, C e, rfl, by rw [if_neg hc]⟩
      · rw [q m (by omega) (by omega), a2]
        exact ⟨rfl, by show m < l; omega, hl, rfl, rfl⟩
  · obtain ⟨V', T', ⟨rfl, t, ht, rfl⟩, g⟩ := h5 e he V T
    obtain ⟨V2, T2, ⟨rfl, rfl⟩, g2⟩ := k5 e he V' (t :: T)
    obtain ⟨V3, T3, ⟨rfl, rfl⟩, g3⟩ := l5 e he (F e :: V') (t :: T)
    refine ⟨_, _, ⟨rfl, rfl⟩, RR_app (RR_app (RR_app g g2) g3) (RR_1 (Or.inr (Or.inr (Or.inl ⟨rfl, F e, G e, V', t, rfl, rfl, ?_⟩))))⟩
    show (if C e = 0 then G e else F e) :: V' = _
    rw [ht]
    cases t
    · rfl
    · rfl
  · show (if C e = 0 then G e else F e) = (if C e' = 0 then G e' else F e')
    rw [h6 hp e e' hh, k6 hp e e' hh, l6 hp e e' hh]
end
