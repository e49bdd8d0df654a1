/-! the reference's reading of a SUM, as a machine over the kinds of the TOKENS -/
def rkO (o : Nat) : Nat := if 40 ≤ o then 0 else if o = 22 then 1 else if o = 21 then 2 else if o = 20 then 3 else if 10 ≤ o then 4 else if o = 5 ∨ o = 2 ∨ o = 4 then 7 else if 8 ≤ o then 6 else 5
abbrev Cd := List (Nat × Nat)
abbrev MS := Nat × List Nat × Nat × Cd × Bool
abbrev MR := Nat × Nat × Cd
def stl (l : Nat) : List Nat → Nat → Cd → List Nat × Nat × Cd
  | [], d, c => ([], d, c)
  | o :: π, d, c => if l ≤ rkO o then stl l π (if rkO o = 7 ∨ o = 20 then d - 1 else d) (c ++ [(o, 0)]) else (o :: π, d, c)
def opnM : List Nat → Nat
  | [] => 0
  | o :: π => if 40 ≤ o then o else opnM π
def cmpd : List Nat → Bool
  | [] => false
  | o :: π => if 4 < rkO o then cmpd π else decide (rkO o = 4)
abbrev askA (π : List Nat) : Prop := opnM π = 42 ∧ (40 ≤ π.headD 0 ∨ (1 ≤ rkO (π.headD 0) ∧ rkO (π.headD 0) ≤ 3))
def endM (K : Nat → Nat) (k : Nat) (π : List Nat) (d : Nat) (c : Cd) : MS ⊕ MR := if (stl 7 π d c).1.headD 0 = 41 then (if K k = 21 then .inl (k + 1, 4 :: (stl 7 π d c).1.tail, (stl 7 π d c).2.1, (stl 7 π d c).2.2, false) else .inr (1, k, [])) else .inl (k, (stl 7 π d c).1, (stl 7 π d c).2.1, (stl 7 π d c).2.2, true)
def opnd (k : Nat) (π : List Nat) (d : Nat) (c : Cd) (o : Nat) : MS ⊕ MR := if d = 8 then .inr (3, k, []) else if 159 < π.length then .inr (99, k, []) else .inl (k + 1, o :: π, d + 1, c, false)
noncomputable def begM (K N : Nat → Nat) (pr : Bool) (k : Nat) (π : List Nat) (d : Nat) (c : Cd) : MS ⊕ MR :=
  if K k = 41 then (if 9999 < N k then .inr (2, k, []) else endM K (k + 1) π d (c ++ [(0, N k)]))
  else if 9 ≤ K k ∧ K k ≤ 16 then (if K k = 16 ∧ pr = true then .inr (5, k, []) else endM K (k + 1) π d (c ++ [(1, K k - 9)]))
  else if K k = 36 then opnd k π d c 40
  else if K k = 33 then opnd k π d c 5
  else if K k = 17 then opnd k π d c 41
  else if K k = 18 then opnd k π d c 2
  else if K k = 19 then opnd k π d c 42
  else if K k = 20 then (if askA π then opnd k π d c 20 else .inr (1, k, []))
  else .inr (1, k, [])
def cmpO (κ : Nat) : Nat := if κ = 28 then 10 else if κ = 39 then 11 else if κ = 29 then 12 else if κ = 40 then 13 else if κ = 30 then 14 else if κ = 31 then 15 else 0
def btw (κ : Nat) (π : List Nat) : Nat := if κ = 32 then 6 else if κ = 33 then 7 else if κ = 34 then 8 else if κ = 35 then 9 else if opnM π = 42 then (if cmpd π = true then (if κ = 27 then 21 else if κ = 26 then 22 else 0) else cmpO κ) else 0
def prt (κ : Nat) (π : List Nat) : Nat := if opnM π = 40 then (if κ = 37 then 1 else 0) else if opnM π = 42 then (if κ = 23 ∧ cmpd π = true then 43 else 0) else if opnM π = 43 then (if κ = 24 then 44 else 0) else if opnM π = 44 then (if κ = 25 then 1 else 0) else 0
def pshM (l o k : Nat) (π : List Nat) (d : Nat) (c : Cd) : MS ⊕ MR := if 159 < (stl l π d c).1.length then .inr (99, k, []) else .inl (k + 1, o :: (stl l π d c).1, (stl l π d c).2.1, (stl l π d c).2.2, false)
def behM (K : Nat → Nat) (k : Nat) (π : List Nat) (d : Nat) (c : Cd) : MS ⊕ MR :=
  if btw (K k) π = 0 then
    (if prt (K k) π = 0 then (if opnM π = 0 then .inr (0, k, (stl 1 π d c).2.2) else .inr (1, k, []))
    else if prt (K k) π = 1 then endM K (k + 1) (stl 1 π d c).1.tail ((stl 1 π d c).2.1 - 1) (if opnM π = 44 then (stl 1 π d c).2.2 ++ [(3, 0)] else (stl 1 π d c).2.2)
    else .inl (k + 1, prt (K k) π :: (stl 1 π d c).1.tail, (stl 1 π d c).2.1, (stl 1 π d c).2.2, false))
  else pshM (if rkO (btw (K k) π) = 4 then 5 else rkO (btw (K k) π)) (btw (K k) π) k π d c
noncomputable def stpM (K N : Nat → Nat) (pr : Bool) (S : MS) : MS ⊕ MR := if S.2.2.2.2 = true then behM K S.1 S.2.1 S.2.2.1 S.2.2.2.1 else begM K N pr S.1 S.2.1 S.2.2.1 S.2.2.2.1
noncomputable def runM (K N : Nat → Nat) (pr : Bool) : Nat → MS → Option MR
  | 0, _ => none
  | n + 1, S => match stpM K N pr S with
    | .inl S' => runM K N pr n S'
    | .inr R => some R
def Go (K N : Nat → Nat) (pr : Bool) (S : MS) (R : MR) : Prop := ∃ n, runM K N pr n S = some R
def GoO (K N : Nat → Nat) (pr : Bool) : MS ⊕ MR → MR → Prop
  | .inl S, R => Go K N pr S R
  | .inr R', R => R' = R
theorem go_stp {K N : Nat → Nat} {pr : Bool} {S : MS} {R : MR} (h : GoO K N pr (stpM K N pr S) R) : Go K N pr S R := by
  cases e : stpM K N pr S with
  | inl S' =>
    rw [e] at h
    obtain ⟨n, hn⟩ := h
    exact ⟨n + 1, by rw [runM, e]; exact hn⟩
  | inr R' =>
    rw [e] at h
    exact ⟨1, by rw [runM, e]; exact congrArg some h⟩
theorem go_beg {K N : Nat → Nat} {pr : Bool} {k d : Nat} {π : List Nat} {c : Cd} {R : MR} (h : GoO K N pr (begM K N pr k π d c) R) : Go K N pr (k, π, d, c, false) R := go_stp h
theorem go_beh {K N : Nat → Nat} {pr : Bool} {k d : Nat} {π : List Nat} {c : Cd} {R : MR} (h : GoO K N pr (behM K k π d c) R) : Go K N pr (k, π, d, c, true) R := go_stp h
def Cnt (K N : Nat → Nat) (pr : Bool) (f : Nat) (X : MS ⊕ MR) (R : MR) (k' : Nat) : Prop := (f = 0 → GoO K N pr X R) ∧ (f ≠ 0 → (f, k', []) = R)
def TopLt (l : Nat) (π : List Nat) : Prop := ∀ o π', π = o :: π' → rkO o < l ∧ o ≠ 41
/-- what follows an ASK that is read -/
def askE (K : Nat → Nat) (k : Nat) (π : List Nat) (d : Nat) (c : Cd) : MS ⊕ MR :=
  if K k = 27 then pshM 2 21 k π d c else if K k = 26 then pshM 1 22 k π d c
  else if K k = 23 then .inl (k + 1, 43 :: (stl 1 π d c).1.tail, (stl 1 π d c).2.1, (stl 1 π d c).2.2, false) else .inr (1, k, [])
def MOne (K N : Nat → Nat) (pr : Bool) (k d f k' : Nat) (r : Cd) : Prop := ∀ π c R, π.length ≤ 2 + 6 * d → (K k = 20 → ¬ askA π) → Cnt K N pr f (endM K k' π d (c ++ r)) R k' → Go K N pr (k, π, d, c, false) R
def MProd (K N : Nat → Nat) (pr : Bool) (k d f k' : Nat) (r : Cd) : Prop := ∀ π c R, π.length ≤ 1 + 6 * d → (K k = 20 → ¬ askA π) → TopLt 6 π → Cnt K N pr f (.inl (k', π, d, c ++ r, true)) R k' → Go K N pr (k, π, d, c, false) R
def MSum (K N : Nat → Nat) (pr : Bool) (k d f k' : Nat) (r : Cd) : Prop := ∀ π c R, π.length ≤ 6 * d → (K k = 20 → ¬ askA π) → TopLt 5 π → Cnt K N pr f (.inl (k', π, d, c ++ r, true)) R k' → Go K N pr (k, π, d, c, false) R
def MAsk (K N : Nat → Nat) (pr : Bool) (k d f k' : Nat) (r : Cd) : Prop := ∀ π c R, π.length + 1 ≤ 6 * d → askA π → Cnt K N pr f (askE K k' π d (c ++ r)) R k' → Go K N pr (k, π, d, c, false) R
def MBoth (K N : Nat → Nat) (pr : Bool) (k d f k' : Nat) (r : Cd) : Prop := ∀ π c R, π.length + 2 ≤ 6 * d → askA π → TopLt 2 π → Cnt K N pr f (askE K k' π d (c ++ r)) R k' → Go K N pr (k, π, d, c, false) R
def MEith (K N : Nat → Nat) (pr : Bool) (k d f k' : Nat) (r : Cd) : Prop := ∀ π c R, π.length + 4 ≤ 6 * d → Cnt K N pr f (askE K k' (42 :: π) d (c ++ r)) R k' → Go K N pr (k, 42 :: π, d, c, false) R
theorem bad_cnt {K N : Nat → Nat} {pr : Bool} {f k' : Nat} {X : MS ⊕ MR} {R : MR} (h : Cnt K N pr f X R k') (hf : f ≠ 0) : (f, k', []) = R := h.2 hf
theorem stl_no {l : Nat} {π : List Nat} {d : Nat} {c : Cd} (h : ∀ o π', π = o :: π' → rkO o < l) : stl l π d c = (π, d, c) := by
  cases π with
  | nil => rfl
  | cons o π' => rw [stl, if_neg (by have := h o π' rfl; omega)]
theorem stl_pop {l o : Nat} {π : List Nat} {d : Nat} {c : Cd} (h : l ≤ rkO o) : stl l (o :: π) d c = stl l π (if rkO o = 7 ∨ o = 20 then d - 1 else d) (c ++ [(o, 0)]) := by
  rw [stl, if_pos h]
theorem stl_o {l o : Nat} {π : List Nat} {d : Nat} {c : Cd} (h : rkO o < l) : stl l (o :: π) d c = (o :: π, d, c) := by
  rw [stl, if_neg (by omega)]
theorem endM_top {K : Nat → Nat} {k : Nat} {π : List Nat} {d : Nat} {c : Cd} (h : ∀ o π', π = o :: π' → rkO o < 7 ∧ o ≠ 41) : endM K k π d c = .inl (k, π, d, c, true) := by
  unfold endM
  rw [stl_no (fun o π' e => (h o π' e).1), if_neg]
  cases π with
  | nil => exact fun h => absurd h (show ¬ (0 : Nat) = 41 by decide)
  | cons o π' => exact (h o π' rfl).2
theorem endM_pop {K : Nat → Nat} {k : Nat} {π : List Nat} {d : Nat} {c : Cd} {o : Nat} (h : rkO o = 7) : endM K k (o :: π) (d + 1) c = endM K k π d (c ++ [(o, 0)]) := by
  unfold endM
  rw [stl_pop (by omega), if_pos (Or.inl h)]; rfl
section
variable {K N : Nat → Nat} {pr : Bool} {k d f k' : Nat} {r : Cd}
theorem one_num (h : K k = 41) (hn : N k ≤ 9999) : MOne K N pr k d 0 (k + 1) [(0, N k)] := by
  intro π c R _ _ hc
  refine go_beg ?_
  rw [begM, if_pos h, if_neg (by omega)]
  exact hc.1 rfl
theorem one_num2 (h : K k = 41) (hn : 9999 < N k) : MOne K N pr k d 2 k [] := by
  intro π c R _ _ hc
  refine go_beg ?_
  rw [begM, if_pos h, if_pos hn]
  exact hc.2 (by decide)
theorem one_nam (h : 9 ≤ K k) (h2 : K k ≤ 16) (hn : ¬ (K k = 16 ∧ pr = true)) : MOne K N pr k d 0 (k + 1) [(1, K k - 9)] := by
  intro π c R _ _ hc
  refine go_beg ?_
  rw [begM, if_neg (by omega), if_pos ⟨h, h2⟩, if_neg hn]
  exact hc.1 rfl
theorem one_nam5 (h : K k = 16) (hn : pr = true) : MOne K N pr k d 5 k [] := by
  intro π c R _ _ hc
  refine go_beg ?_
  rw [begM, if_neg (by omega), if_pos ⟨by omega, by omega⟩, if_pos ⟨h, hn⟩]
  exact hc.2 (by decide)
theorem one_none (h1 : K k ≠ 41) (h2 : ¬ (9 ≤ K k ∧ K k ≤ 16)) (h3 : K k ≠ 36) (h4 : K k ≠ 33) (h5 : K k ≠ 17) (h6 : K k ≠ 18) (h7 : K k ≠ 19) : MOne K N pr k d 1 k [] := by
  intro π c R _ ha hc
  refine go_beg ?_
  rw [begM, if_neg h1, if_neg h2, if_neg h3, if_neg h4, if_neg h5, if_neg h6, if_neg h7]
  by_cases h : K k = 20
  · rw [if_pos h, if_neg (ha h)]; exact hc.2 (by decide)
  · rw [if_neg h]; exact hc.2 (by decide)
/-- the ONES that hold others -/
def opO (κ : Nat) : Nat := if κ = 36 then 40 else if κ = 33 then 5 else if κ = 17 then 41 else if κ = 18 then 2 else 42
theorem beg_op {π : List Nat} {c : Cd} (h : K k = 36 ∨ K k = 33 ∨ K k = 17 ∨ K k = 18 ∨ K k = 19) : begM K N pr k π d c = opnd k π d c (opO (K k)) := by
  rcases h with h | h | h | h | h <;> simp [begM, opO, h]
theorem one_deep (h : K k = 36 ∨ K k = 33 ∨ K k = 17 ∨ K k = 18 ∨ K k = 19) (hd : d = 8) : MOne K N pr k d 3 k [] := by
  intro π c R _ _ hc
  refine go_beg ?_
  rw [beg_op h, opnd, if_pos hd]
  exact hc.2 (by decide)
theorem go_open {π : List Nat} {c : Cd} {R : MR} {o : Nat} (h : K k = 36 ∨ K k = 33 ∨ K k = 17 ∨ K k = 18 ∨ K k = 19) (ho : opO (K k) = o) (hd : d < 8) (hl : π.length ≤ 2 + 6 * d) (g : Go K N pr (k + 1, o :: π, d + 1, c, false) R) : Go K N pr (k, π, d, c, false) R := by
  refine go_beg ?_
  rw [beg_op h, opnd, if_neg (by omega), if_neg (by omega), ho]
  exact g
theorem nask {o : Nat} {π : List Nat} (h1 : 40 ≤ o) (h2 : o ≠ 42) : ¬ askA (o :: π) := by
  rintro ⟨q, _⟩
  rw [opnM, if_pos h1] at q
  exact h2 q
theorem nask2 {o : Nat} {π : List Nat} (h : 4 ≤ rkO o) : ¬ askA (o :: π) := by
  rintro ⟨_, q | ⟨_, q⟩⟩
  · rw [show (o :: π).headD 0 = o from rfl] at q
    rw [rkO, if_pos q] at h; omega
  · rw [show (o :: π).headD 0 = o from rfl] at q; omega
theorem top_o {l o : Nat} {π : List Nat} (h : rkO o < l) (h2 : o ≠ 41) : TopLt l (o :: π) := by
  intro o' π' e; cases e; exact ⟨h, h2⟩
theorem one_neg {o : Nat} (hk : (K k = 33 ∧ o = 5) ∨ (K k = 18 ∧ o = 2)) (hd : d < 8) (h : MOne K N pr (k + 1) (d + 1) f k' r) : MOne K N pr k d f k' (r ++ [(o, 0)]) := by
  intro π c R hl _ hc
  have ho : rkO o = 7 := by rcases hk with ⟨_, rfl⟩ | ⟨_, rfl⟩ <;> rfl
  refine go_open (o := o) (by rcases hk with ⟨h, _⟩ | ⟨h, _⟩ <;> simp [h]) (by rcases hk with ⟨h, rfl⟩ | ⟨h, rfl⟩ <;> simp [h, opO]) hd hl ?_
  refine h (o :: π) c R (by simp only [List.length_cons]; omega) (fun _ => nask2 (by omega)) ⟨fun hf => ?_, hc.2⟩
  rw [endM_pop ho, List.append_assoc]
  exact hc.1 hf
theorem beh_none {π : List Nat} {c : Cd} (h1 : btw (K k) π = 0) (h2 : prt (K k) π = 0) (h3 : opnM π ≠ 0) : behM K k π d c = .inr (1, k, []) := by
  rw [behM, if_pos h1, if_pos h2, if_neg h3]
theorem btw0 {κ : Nat} {π : List Nat} (h1 : ¬ (32 ≤ κ ∧ κ ≤ 35)) (h2 : opnM π ≠ 42) : btw κ π = 0 := by
  rw [btw, if_neg (by omega), if_neg (by omega), if_neg (by omega), if_neg (by omega), if_neg h2]
theorem opn_o {o : Nat} {π : List Nat} (h : 40 ≤ o) : opnM (o :: π) = o := by rw [opnM, if_pos h]
theorem rk0 {o : Nat} (h : 40 ≤ o) : rkO o = 0 := by rw [rkO, if_pos h]
/-- a ONE in brackets -/
theorem one_par (hk : K k = 36) (hd : d < 8) (h : MSum K N pr (k + 1) (d + 1) f k' r) (hb : f = 0 → ¬ (32 ≤ K k' ∧ K k' ≤ 35)) : (f ≠ 0 → MOne K N pr k d f k' []) ∧ (f = 0 → K k' ≠ 37 → MOne K N pr k d 1 k' []) ∧ (f = 0 → K k' = 37 → MOne K N pr k d 0 (k' + 1) r) := by
  have go : ∀ π c R, π.length ≤ 2 + 6 * d → Cnt K N pr f (.inl (k', 40 :: π, d + 1, c ++ r, true)) R k' → Go K N pr (k, π, d, c, false) R := by
    intro π c R hl hc
    refine go_open (o := 40) (Or.inl hk) (by simp [hk, opO]) hd hl ?_
    exact h (40 :: π) c R (by simp only [List.length_cons]; omega) (fun _ => nask (by decide) (by decide)) (top_o (by decide) (by decide)) hc
  refine ⟨fun hf π c R hl _ hc => go π c R hl ⟨fun q => absurd q hf, hc.2⟩, fun hf h37 π c R hl _ hc => go π c R hl ⟨fun _ => ?_, fun q => absurd hf q⟩, fun hf h37 π c R hl _ hc => go π c R hl ⟨fun _ => ?_, fun q => absurd hf q⟩⟩
  · refine go_beh ?_
    rw [beh_none (btw0 (hb hf) (by rw [opn_o (by decide)]; decide)) (by rw [prt, opn_o (by decide), if_pos rfl, if_neg h37]) (by rw [opn_o (by decide)]; decide)]
    exact hc.2 (by decide)
  · refine go_beh ?_
    rw [behM, if_pos (btw0 (hb hf) (by rw [opn_o (by decide)]; decide)), show prt (K k') (40 :: π) = 1 by rw [prt, opn_o (by decide), if_pos rfl, if_pos h37], if_neg (by decide), if_pos rfl, opn_o (by decide), if_neg (by decide), stl, if_neg (by rw [rk0 (by decide)]; decide)]
    exact hc.1 rfl
/-- share .. of .. -/
theorem one_shr (hk : K k = 17) (hd : d < 8) (h : MOne K N pr (k + 1) (d + 1) f k' r) : (f ≠ 0 → MOne K N pr k d f k' []) ∧ (f = 0 → K k' ≠ 21 → MOne K N pr k d 1 k' []) ∧ (f = 0 → K k' = 21 → ∀ f2 k2 r2, MOne K N pr (k' + 1) (d + 1) f2 k2 r2 → MOne K N pr k d f2 k2 (r ++ r2 ++ [(4, 0)])) := by
  have go : ∀ π c R, π.length ≤ 2 + 6 * d → Cnt K N pr f (endM K k' (41 :: π) (d + 1) (c ++ r)) R k' → Go K N pr (k, π, d, c, false) R := by
    intro π c R hl hc
    refine go_open (o := 41) (Or.inr (Or.inr (Or.inl hk))) (by simp [hk, opO]) hd hl ?_
    exact h (41 :: π) c R (by simp only [List.length_cons]; omega) (fun _ => nask (by decide) (by decide)) hc
  have e : ∀ (π : List Nat) (c : Cd), endM K k' (41 :: π) (d + 1) c = if K k' = 21 then .inl (k' + 1, 4 :: π, d + 1, c, false) else .inr (1, k', []) := by
    intro π c
    rw [endM, stl_o (by decide)]
    exact if_pos rfl
  refine ⟨fun hf π c R hl _ hc => go π c R hl ⟨fun q => absurd q hf, hc.2⟩, fun hf h21 π c R hl _ hc => go π c R hl ⟨fun _ => ?_, fun q => absurd hf q⟩, fun hf h21 f2 k2 r2 h2 π c R hl _ hc => go π c R hl ⟨fun _ => ?_, fun q => absurd hf q⟩⟩
  · rw [e, if_neg h21]; exact hc.2 (by decide)
  · rw [e, if_pos h21]
    refine h2 (4 :: π) (c ++ r) R (by simp only [List.length_cons]; omega) (fun _ => nask2 (by decide)) ⟨fun q => ?_, hc.2⟩
    rw [endM_pop (by decide), List.append_assoc, List.append_assoc, ← List.append_assoc r]
    exact hc.1 q
end
