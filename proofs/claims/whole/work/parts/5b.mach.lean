/-! products, sums, asks of the machine -/
theorem opn_n {o : Nat} {π : List Nat} (h : o < 40) : opnM (o :: π) = opnM π := by rw [opnM, if_neg (by omega)]
theorem cmpd_n {o : Nat} {π : List Nat} (h : 4 < rkO o) : cmpd (o :: π) = cmpd π := by rw [cmpd, if_pos h]
theorem rk_big {o : Nat} (h : 0 < rkO o) : o < 40 := by
  refine Decidable.byContradiction fun q => ?_
  rw [rkO, if_pos (by omega)] at h; omega
theorem btw_n {o κ : Nat} {π : List Nat} (h : 4 < rkO o) : btw κ (o :: π) = btw κ π := by
  unfold btw; rw [opn_n (rk_big (by omega)), cmpd_n h]
theorem prt_n {o κ : Nat} {π : List Nat} (h : 4 < rkO o) : prt κ (o :: π) = prt κ π := by
  unfold prt; rw [opn_n (rk_big (by omega)), cmpd_n h]
theorem btw_rk (κ : Nat) (π : List Nat) : btw κ π = 0 ∨ (1 ≤ rkO (btw κ π) ∧ rkO (btw κ π) ≤ 6 ∧ (6 ≤ rkO (btw κ π) → 34 ≤ κ ∧ κ ≤ 35) ∧ btw κ π < 40) := by
  unfold btw cmpO
  repeat' split
  all_goals first | exact Or.inl rfl | exact Or.inr ⟨by decide, by decide, fun h => by first | omega | exact absurd h (by decide), by decide⟩
/-- an operator that waits on top is written down before what comes next is looked at -/
theorem beh_pop {K : Nat → Nat} {k o d : Nat} {π : List Nat} {c : Cd} (h1 : 5 ≤ rkO o) (h2 : rkO o ≤ 6) (h3 : rkO o = 6 ∨ ¬ (34 ≤ K k ∧ K k ≤ 35)) : behM K k (o :: π) d c = behM K k π d (c ++ [(o, 0)]) := by
  have h20 : ¬ (rkO o = 7 ∨ o = 20) := by
    rintro (q | rfl)
    · omega
    · exact absurd h1 (by decide)
  have e1 : stl 1 (o :: π) d c = stl 1 π d (c ++ [(o, 0)]) := by rw [stl_pop (by omega), if_neg h20]
  unfold behM
  rw [btw_n (by omega), prt_n (by omega), opn_n (rk_big (by omega)), e1]
  rcases btw_rk (K k) π with q | ⟨q1, q2, q3, q4⟩
  · rw [if_pos q, if_pos q]
  · have e2 : stl (if rkO (btw (K k) π) = 4 then 5 else rkO (btw (K k) π)) (o :: π) d c = stl (if rkO (btw (K k) π) = 4 then 5 else rkO (btw (K k) π)) π d (c ++ [(o, 0)]) := by
      rw [stl_pop, if_neg h20]
      split
      · omega
      · rcases h3 with h3 | h3
        · omega
        · rcases Nat.lt_or_ge (rkO (btw (K k) π)) 6 with g | g
          · omega
          · exact absurd (q3 g) h3
    unfold pshM
    rw [e2]
theorem go_inv {K N : Nat → Nat} {pr : Bool} {S : MS} {R : MR} (h : Go K N pr S R) : GoO K N pr (stpM K N pr S) R := by
  obtain ⟨n, hn⟩ := h
  cases n with
  | zero => exact absurd hn (by rw [runM]; exact nofun)
  | succ n =>
    rw [runM] at hn
    cases e : stpM K N pr S with
    | inl S' => rw [e] at hn; exact ⟨n, hn⟩
    | inr R' => rw [e] at hn; exact Option.some.inj hn
theorem go_pop {K N : Nat → Nat} {pr : Bool} {k o d : Nat} {π : List Nat} {c : Cd} {R : MR} (h1 : 5 ≤ rkO o) (h2 : rkO o ≤ 6) (h3 : rkO o = 6 ∨ ¬ (34 ≤ K k ∧ K k ≤ 35)) (h : Go K N pr (k, π, d, c ++ [(o, 0)], true) R) : Go K N pr (k, o :: π, d, c, true) R := by
  refine go_beh ?_
  rw [beh_pop h1 h2 h3]
  exact go_inv h
section
variable {K N : Nat → Nat} {pr : Bool} {k d f k' : Nat} {r : Cd}
theorem prod1 (h : MOne K N pr k d f k' r) : MProd K N pr k d f k' r := by
  intro π c R hl ha ht hc
  refine h π c R (by omega) ha ⟨fun hf => ?_, hc.2⟩
  rw [endM_top (fun o π' e => ⟨by have := (ht o π' e).1; omega, (ht o π' e).2⟩)]
  exact hc.1 hf
theorem prod2 (h : MProd K N pr k d 0 k' r) (hd : d ≤ 8) (hk : K k' = 34 ∨ K k' = 35) {f2 k2 : Nat} {r2 : Cd} (h2 : MOne K N pr (k' + 1) d f2 k2 r2) {o : Nat} (ho : o = K k' - 26) : MProd K N pr k d f2 k2 (r ++ r2 ++ [(o, 0)]) := by
  intro π c R hl ha ht hc
  refine h π c R hl ha ht ⟨fun _ => go_beh ?_, fun q => absurd rfl q⟩
  have eb : btw (K k') π = o := by
    rcases hk with q | q
    · rw [btw, if_neg (by omega), if_neg (by omega), if_pos q]; omega
    · rw [btw, if_neg (by omega), if_neg (by omega), if_neg (by omega), if_pos q]; omega
  have er : rkO o = 6 := by
    rcases hk with q | q
    · rw [ho, q]; rfl
    · rw [ho, q]; rfl
  rw [behM, eb, if_neg (by omega), er, if_neg (by decide), pshM, stl_no (fun o π' e => (ht o π' e).1), if_neg (show ¬ 159 < π.length from by omega)]
  refine h2 (o :: π) (c ++ r) R (by simp only [List.length_cons]; omega) (fun _ => nask2 (by omega)) ⟨fun hf => ?_, hc.2⟩
  rw [endM_top (fun o' π' e => by cases e; exact ⟨by omega, fun q => by rw [q] at er; exact absurd er (by decide)⟩)]
  refine go_pop (by omega) (by omega) (Or.inl er) ?_
  have := hc.1 hf
  rw [← List.append_assoc, ← List.append_assoc] at this
  exact this
theorem sum1 (h : MProd K N pr k d f k' r) : MSum K N pr k d f k' r := by
  intro π c R hl ha ht hc
  exact h π c R (by omega) ha (fun o π' e => ⟨by have := (ht o π' e).1; omega, (ht o π' e).2⟩) hc
theorem sum2 (h : MSum K N pr k d 0 k' r) (hd : d ≤ 8) (hk : K k' = 32 ∨ K k' = 33) {f2 k2 : Nat} {r2 : Cd} (h2 : MProd K N pr (k' + 1) d f2 k2 r2) (hb : f2 = 0 → ¬ (34 ≤ K k2 ∧ K k2 ≤ 35)) {o : Nat} (ho : o = K k' - 26) : MSum K N pr k d f2 k2 (r ++ r2 ++ [(o, 0)]) := by
  intro π c R hl ha ht hc
  refine h π c R hl ha ht ⟨fun _ => go_beh ?_, fun q => absurd rfl q⟩
  have eb : btw (K k') π = o := by
    rcases hk with q | q
    · rw [btw, if_pos q]; omega
    · rw [btw, if_neg (by omega), if_pos q]; omega
  have er : rkO o = 5 := by
    rcases hk with q | q
    · rw [ho, q]; rfl
    · rw [ho, q]; rfl
  rw [behM, eb, if_neg (by omega), er, if_neg (by decide), pshM, stl_no (fun o π' e => (ht o π' e).1), if_neg (show ¬ 159 < π.length from by omega)]
  refine h2 (o :: π) (c ++ r) R (by simp only [List.length_cons]; omega) (fun _ => nask2 (by omega)) (top_o (by omega) (fun q => by rw [q] at er; exact absurd er (by decide))) ⟨fun hf => ?_, hc.2⟩
  refine go_pop (by omega) (by omega) (Or.inr (hb hf)) ?_
  have := hc.1 hf
  rw [← List.append_assoc, ← List.append_assoc] at this
  exact this
theorem ask_top {π : List Nat} (h : askA π) : TopLt 4 π := by
  rintro o π' rfl
  obtain ⟨h1, h2 | ⟨h2, h3⟩⟩ := h
  · rw [show (o :: π').headD 0 = o from rfl] at h2
    rw [opn_o h2] at h1
    subst h1; decide
  · rw [show (o :: π').headD 0 = o from rfl] at h2 h3
    refine ⟨by omega, fun q => ?_⟩
    rw [q] at h2; exact absurd h2 (by decide)
theorem ask_cmpd {π : List Nat} (h : TopLt 4 π) : cmpd π = false := by
  cases π with
  | nil => rfl
  | cons o π' => rw [cmpd, if_neg (by have := (h o π' rfl).1; omega)]; exact decide_eq_false (by have := (h o π' rfl).1; omega)
theorem cmpO_rk {κ : Nat} (h : cmpO κ ≠ 0) : rkO (cmpO κ) = 4 ∧ ¬ (32 ≤ κ ∧ κ ≤ 35) ∧ cmpO κ < 40 ∧ cmpO κ ≠ 20 := by
  unfold cmpO at h ⊢
  repeat' split
  all_goals first | exact ⟨by decide, by omega, by decide, by decide⟩ | (exfalso; revert h; simp_all)
/-- an ASK that compares -/
theorem ask_cmp (h : MSum K N pr k d f k' r) (hd : d ≤ 8) (hn : K k ≠ 20) (hb : f = 0 → ¬ (32 ≤ K k' ∧ K k' ≤ 35)) : (f ≠ 0 → MAsk K N pr k d f k' []) ∧ (f = 0 → cmpO (K k') = 0 → MAsk K N pr k d 1 k' []) ∧ (f = 0 → cmpO (K k') ≠ 0 → ∀ f2 k2 r2, MSum K N pr (k' + 1) d f2 k2 r2 → (f2 = 0 → ¬ (32 ≤ K k2 ∧ K k2 ≤ 35)) → MAsk K N pr k d f2 k2 (r ++ r2 ++ [(cmpO (K k'), 0)])) := by
  have go : ∀ π c R, π.length + 1 ≤ 6 * d → askA π → Cnt K N pr f (.inl (k', π, d, c ++ r, true)) R k' → Go K N pr (k, π, d, c, false) R := by
    intro π c R hl ha hc
    exact h π c R (by omega) (fun q => absurd q hn) (fun o π' e => ⟨by have := (ask_top ha o π' e).1; omega, (ask_top ha o π' e).2⟩) hc
  have eb : ∀ π, askA π → f = 0 → btw (K k') π = cmpO (K k') := by
    intro π ha hf
    have := hb hf
    rw [btw, if_neg (by omega), if_neg (by omega), if_neg (by omega), if_neg (by omega), if_pos ha.1, ask_cmpd (ask_top ha), if_neg (by decide)]
  refine ⟨fun hf π c R hl ha hc => go π c R hl ha ⟨fun q => absurd q hf, hc.2⟩, fun hf h0 π c R hl ha hc => go π c R hl ha ⟨fun _ => go_beh ?_, fun q => absurd hf q⟩, fun hf h0 f2 k2 r2 h2 hb2 π c R hl ha hc => go π c R hl ha ⟨fun _ => go_beh ?_, fun q => absurd hf q⟩⟩
  · rw [beh_none (by rw [eb π ha hf, h0]) (by rw [prt, ha.1, if_neg (by decide), if_pos rfl, ask_cmpd (ask_top ha), if_neg (by simp)]) (by rw [ha.1]; decide)]
    exact hc.2 (by decide)
  · obtain ⟨g1, g2, g3, g4⟩ := cmpO_rk h0
    rw [behM, eb π ha hf, if_neg h0, g1, if_pos rfl, pshM, stl_no (fun o π' e => by have := (ask_top ha o π' e).1; omega), if_neg (show ¬ 159 < π.length from by omega)]
    refine h2 (cmpO (K k') :: π) (c ++ r) R (by simp only [List.length_cons]; omega) (fun _ => nask2 (by omega)) (top_o (by omega) (by omega)) ⟨fun hf2 => go_beh ?_, hc.2⟩
    have hh := hc.1 hf2
    rw [← List.append_assoc, ← List.append_assoc] at hh
    have b2 := hb2 hf2
    generalize c ++ r ++ r2 = cc at hh ⊢
    generalize cmpO (K k') = o at *
    have s1 : ∀ l, l ≤ 4 → stl l (o :: π) d cc = stl l π d (cc ++ [(o, 0)]) := by
      intro l hl
      rw [stl_pop (by omega), if_neg (by omega)]
    have cp : cmpd (o :: π) = true := by rw [cmpd, if_neg (by omega)]; exact decide_eq_true g1
    have e2 : opnM (o :: π) = 42 := by rw [opn_n g3]; exact ha.1
    unfold askE at hh
    rw [behM, prt, e2, cp, btw, e2, cp, if_neg (show ¬ K k2 = 32 by omega), if_neg (show ¬ K k2 = 33 by omega), if_neg (show ¬ K k2 = 34 by omega), if_neg (show ¬ K k2 = 35 by omega), if_pos rfl, if_pos rfl]
    by_cases q1 : K k2 = 27
    · rw [if_pos q1] at hh ⊢
      rw [if_neg (by decide), if_neg (by decide)]
      unfold pshM at hh ⊢
      rw [show rkO 21 = 2 from rfl, s1 2 (by decide)]
      exact hh
    · rw [if_neg q1] at hh ⊢
      by_cases q2 : K k2 = 26
      · rw [if_pos q2] at hh ⊢
        rw [if_neg (by decide), if_neg (by decide)]
        unfold pshM at hh ⊢
        rw [show rkO 22 = 1 from rfl, s1 1 (by decide)]
        exact hh
      · rw [if_neg q2] at hh ⊢
        rw [if_pos rfl, if_neg (show ¬ (42 : Nat) = 40 by decide), if_pos rfl, s1 1 (by decide)]
        by_cases q3 : K k2 = 23
        · rw [if_pos q3] at hh
          rw [show (if K k2 = 23 ∧ true = true then 43 else 0) = 43 from if_pos ⟨q3, rfl⟩, if_neg (by decide), if_neg (by decide)]
          exact hh
        · rw [if_neg q3] at hh
          rw [show (if K k2 = 23 ∧ true = true then 43 else 0) = 0 from if_neg (fun q => q3 q.1), if_pos rfl, if_neg (by decide)]
          exact hh
theorem askE_pop {o : Nat} {π : List Nat} {c : Cd} {d' : Nat} (h : 1 ≤ rkO o) (h2 : 2 ≤ rkO o ∨ K k ≠ 27) (hd : (if rkO o = 7 ∨ o = 20 then d' - 1 else d') = d) : askE K k (o :: π) d' c = askE K k π d (c ++ [(o, 0)]) := by
  unfold askE pshM
  rw [stl_pop h, hd]
  by_cases q : K k = 27
  · rw [if_pos q, if_pos q, stl_pop (by omega), hd]
  · rw [if_neg q, if_neg q]
theorem ask_not (hk : K k = 20) (hd : d < 8) (h : MAsk K N pr (k + 1) (d + 1) f k' r) : MAsk K N pr k d f k' (r ++ [(20, 0)]) := by
  intro π c R hl ha hc
  refine go_beg ?_
  rw [begM, if_neg (by omega), if_neg (by omega), if_neg (by omega), if_neg (by omega), if_neg (by omega), if_neg (by omega), if_neg (by omega), if_pos hk, if_pos ha, opnd, if_neg (by omega), if_neg (by omega)]
  refine h (20 :: π) c R (by simp only [List.length_cons]; omega) ⟨by rw [opn_n (by decide)]; exact ha.1, Or.inr (show 1 ≤ rkO 20 ∧ rkO 20 ≤ 3 by decide)⟩ ⟨fun hf => ?_, hc.2⟩
  rw [askE_pop (d := d) (by decide) (Or.inl (by decide)) (by rw [if_pos (Or.inr rfl)]; rfl), List.append_assoc]
  exact hc.1 hf
theorem ask_deep (hk : K k = 20) (hd : d = 8) : MAsk K N pr k d 3 k [] := by
  intro π c R hl ha hc
  refine go_beg ?_
  rw [begM, if_neg (by omega), if_neg (by omega), if_neg (by omega), if_neg (by omega), if_neg (by omega), if_neg (by omega), if_neg (by omega), if_pos hk, if_pos ha, opnd, if_pos hd]
  exact hc.2 (by decide)
theorem both1 (h : MAsk K N pr k d f k' r) : MBoth K N pr k d f k' r := by
  intro π c R hl ha ht hc
  exact h π c R (by omega) ha hc
theorem both2 (h : MBoth K N pr k d 0 k' r) (hd : d ≤ 8) (hk : K k' = 27) {f2 k2 : Nat} {r2 : Cd} (h2 : MAsk K N pr (k' + 1) d f2 k2 r2) : MBoth K N pr k d f2 k2 (r ++ r2 ++ [(21, 0)]) := by
  intro π c R hl ha ht hc
  refine h π c R hl ha ht ⟨fun _ => ?_, fun q => absurd rfl q⟩
  rw [askE, if_pos hk, pshM, stl_no (fun o π' e => (ht o π' e).1), if_neg (show ¬ 159 < π.length from by omega)]
  refine h2 (21 :: π) (c ++ r) R (by simp only [List.length_cons]; omega) ⟨by rw [opn_n (by decide)]; exact ha.1, Or.inr (show 1 ≤ rkO 21 ∧ rkO 21 ≤ 3 by decide)⟩ ⟨fun hf => ?_, hc.2⟩
  rw [askE_pop (d := d) (by decide) (Or.inl (by decide)) (by rw [if_neg (by decide)])]
  have := hc.1 hf
  rw [← List.append_assoc, ← List.append_assoc] at this
  exact this
theorem eith1 (h : MBoth K N pr k d f k' r) : MEith K N pr k d f k' r := by
  intro π c R hl hc
  exact h (42 :: π) c R (by simp only [List.length_cons]; omega) ⟨opn_o (by decide), Or.inl (show 40 ≤ 42 by decide)⟩ (top_o (by decide) (by decide)) hc
theorem eith2 (h : MEith K N pr k d 0 k' r) (hd : d ≤ 8) (hk : K k' = 26) {f2 k2 : Nat} {r2 : Cd} (h2 : MBoth K N pr (k' + 1) d f2 k2 r2) (hb : f2 = 0 → K k2 ≠ 27) : MEith K N pr k d f2 k2 (r ++ r2 ++ [(22, 0)]) := by
  intro π c R hl hc
  refine h π c R hl ⟨fun _ => ?_, fun q => absurd rfl q⟩
  rw [askE, if_neg (by omega), if_pos hk, pshM, stl_o (by decide), if_neg (show ¬ 159 < (42 :: π).length from by simp only [List.length_cons]; omega)]
  refine h2 (22 :: 42 :: π) (c ++ r) R (by simp only [List.length_cons]; omega) ⟨by rw [opn_n (by decide)]; exact opn_o (by decide), Or.inr (show 1 ≤ rkO 22 ∧ rkO 22 ≤ 3 by decide)⟩ (top_o (by decide) (by decide)) ⟨fun hf => ?_, hc.2⟩
  rw [askE_pop (d := d) (by decide) (Or.inr (hb hf)) (by rw [if_neg (by decide)])]
  have := hc.1 hf
  rw [← List.append_assoc, ← List.append_assoc] at this
  exact this
/-- if .. then -/
theorem if_then (hk : K k = 19) (hd : d < 8) (h : MEith K N pr (k + 1) (d + 1) f k' r) (hb : f = 0 → K k' ≠ 26 ∧ K k' ≠ 27) : (f ≠ 0 → MOne K N pr k d f k' []) ∧ (f = 0 → K k' ≠ 23 → MOne K N pr k d 1 k' []) ∧ (f = 0 → K k' = 23 → ∀ π c R, π.length ≤ 2 + 6 * d → Go K N pr (k' + 1, 43 :: π, d + 1, c ++ r, false) R → Go K N pr (k, π, d, c, false) R) := by
  have go : ∀ π c R, π.length ≤ 2 + 6 * d → Cnt K N pr f (askE K k' (42 :: π) (d + 1) (c ++ r)) R k' → Go K N pr (k, π, d, c, false) R := by
    intro π c R hl hc
    refine go_open (o := 42) (by simp [hk]) (by simp [hk, opO]) hd hl ?_
    exact h π c R (by omega) hc
  refine ⟨fun hf π c R hl _ hc => go π c R hl ⟨fun q => absurd q hf, hc.2⟩, fun hf h23 π c R hl _ hc => go π c R hl ⟨fun _ => ?_, fun q => absurd hf q⟩, fun hf h23 π c R hl hc => go π c R hl ⟨fun _ => ?_, fun q => absurd hf q⟩⟩
  · rw [askE, if_neg (hb hf).2, if_neg (hb hf).1, if_neg h23]; exact hc.2 (by decide)
  · rw [askE, if_neg (hb hf).2, if_neg (hb hf).1, if_pos h23, stl_o (by decide)]
    exact hc
/-- then .. else, else .. end -/
theorem if_part {p : Nat} (hp : p = 43 ∨ p = 44) (hd : d < 8) (h : MSum K N pr k (d + 1) f k' r) (hb : f = 0 → ¬ (32 ≤ K k' ∧ K k' ≤ 35)) {π : List Nat} {c : Cd} {R : MR} (hl : π.length ≤ 2 + 6 * d) (h1 : f ≠ 0 → (f, k', []) = R) (h2 : f = 0 → K k' ≠ p - 19 → (1, k', []) = R) (h3 : f = 0 → p = 43 → K k' = 24 → Go K N pr (k' + 1, 44 :: π, d + 1, c ++ r, false) R) (h4 : f = 0 → p = 44 → K k' = 25 → GoO K N pr (endM K (k' + 1) π d (c ++ r ++ [(3, 0)])) R) : Go K N pr (k, p :: π, d + 1, c, false) R := by
  refine h (p :: π) c R (by simp only [List.length_cons]; omega) (fun _ => nask (by omega) (by omega)) (top_o (by rw [rk0 (by omega)]; decide) (by omega)) ⟨fun hf => go_beh ?_, h1⟩
  have hbf := hb hf
  have e0 : btw (K k') (p :: π) = 0 := btw0 hbf (by rw [opn_o (by omega)]; omega)
  have e1 : opnM (p :: π) = p := opn_o (by omega)
  rw [behM, if_pos e0, e1, stl_o (by rw [rk0 (by omega)]; decide)]
  rcases hp with rfl | rfl
  · by_cases q : K k' = 24
    · rw [show prt (K k') (43 :: π) = 44 by rw [prt, e1, if_neg (by decide), if_neg (by decide), if_pos rfl, if_pos q], if_neg (by decide), if_neg (by decide)]; exact h3 hf rfl q
    · rw [show prt (K k') (43 :: π) = 0 by rw [prt, e1, if_neg (by decide), if_neg (by decide), if_pos rfl, if_neg q], if_pos rfl, if_neg (by decide)]; exact h2 hf q
  · by_cases q : K k' = 25
    · rw [show prt (K k') (44 :: π) = 1 by rw [prt, e1, if_neg (by decide), if_neg (by decide), if_neg (by decide), if_pos rfl, if_pos q], if_neg (by decide), if_pos rfl, if_pos rfl]; exact h4 hf rfl q
    · rw [show prt (K k') (44 :: π) = 0 by rw [prt, e1, if_neg (by decide), if_neg (by decide), if_neg (by decide), if_pos rfl, if_neg q], if_pos rfl, if_neg (by decide)]; exact h2 hf q
end
