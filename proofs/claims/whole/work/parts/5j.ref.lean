/-! the reference's reading of a SUM, all of it -/
section
variable {K N ST EN : Nat → Nat} {M L t n0 : Nat} {B : Nat → Int32} {pr : Bool} {u0 : PoS} {u : PoS} {k d : Nat} {π : List Nat} {c : Cd} {post : PoS → Prop}
theorem emitR {o v : Nat} {x y : Int32} (hx : x = nI o) (hy : y = nI v) (h : MSt K N ST EN M L t n0 B pr u0 u k π d c) (hr : n0 + c.length + π.length ≤ 301) (H : ∀ z, MSt K N ST EN M L t n0 B pr u0 z k π d (c ++ [(o, v)]) → z.1 48 18 = u.1 48 18 → z.1 53 = u.1 53 → post z) : wp_X12_emit x y u post := by
  subst hx; subst hy; exact emitM h hr H
theorem askAM {q : Int32 → PoS → Prop} (h : MSt K N ST EN M L t n0 B pr u0 u k π d c) (h1 : askA π → q 1 u) (h0 : ¬ askA π → q 0 u) : wp_X12_isAskAhead u q := by
  have h14 := h.2.2.2.2.2.2.2.2.2.2.2.2.2
  have e16 : gI u 48 16 = nI π.length := h.2.2.2.2.1
  unfold wp_X12_isAskAhead
  refine openNowM h (fun w => ⟨fun _ => h0 (fun y => absurd y.1 (by omega)), fun y => absurd y (by decide)⟩) (fun w w5 => ⟨fun y => h0 (fun y2 => y (by rw [y2.1]; rfl)), fun y => ?_⟩)
  have y2 : opnM π = 42 := (nI_eq (b := 42) (by omega) (by decide)).mp y
  have hl : π.length ≠ 0 := fun e => by rw [List.eq_nil_of_length_eq_zero e] at w; exact w rfl
  obtain ⟨p1, p2⟩ := pile_top h.2.2.2.2.2.1 hl
  have e53 : gI u 53 (π.length - 1) = nI (π.headD 0) := p1
  have hr := rk_le (π.headD 0)
  rw [e16, show nI π.length - 1 = nI (π.length - 1) by simp (disch := omega) only [q_lit, nI_add, pk_mul, q_sub, q_rem, q_div, q_vp, q_cl, q_lt, q_le, q_eq, q_neg1, gI_def], q_cl (by omega), e53, show (40 : Int32) = nI 40 from rfl, q_le (by omega) (by omega)]
  refine ⟨by simp (disch := omega) only [q_lit, nI_add, pk_mul, q_sub, q_rem, q_div, q_vp, q_cl, q_lt, q_le, q_eq, q_neg1, gI_def]; omega, fun w1 => h1 ⟨y2, Or.inl w1⟩, fun w1 => ⟨by simp (disch := omega) only [q_lit, nI_add, pk_mul, q_sub, q_rem, q_div, q_vp, q_cl, q_lt, q_le, q_eq, q_neg1, gI_def]; omega, rankM p2 ?_⟩⟩
  unfold wp_X12_isIn
  rw [show (1 : Int32) = nI 1 from rfl, show (3 : Int32) = nI 3 from rfl, q_lt (by omega) (by omega), q_lt (by omega) (by omega)]
  refine ⟨fun w2 => ⟨fun _ => h0 (fun y => ?_), fun y => absurd rfl y⟩, fun w2 => ⟨fun w3 => ⟨fun _ => h0 (fun y => ?_), fun y => absurd rfl y⟩, fun w3 => ⟨fun y => absurd y (by decide), fun _ => h1 ⟨y2, Or.inr ⟨by omega, by omega⟩⟩⟩⟩⟩
  · rcases y.2 with y | y <;> omega
  · rcases y.2 with y | y <;> omega
theorem begOneM (hNT : NTok K N ST EN M L B) {q : Int32 → PoS → Prop} (h : MSt K N ST EN M L t n0 B pr u0 u k π d c) (hw : u.1 48 18 = nI 0) (hb : n0 + c.length + π.length ≤ k) (hc : cntO π = d) (H : OutM K N ST EN M L t n0 B pr u0 (begM K N pr k π d c) q) : wp_X12_beginOne u q := by
  have hrt := h.2.2.1
  have hkM := hrt.1
  have hM := h.2.1
  have e14 : gI u 48 14 = nI (if pr = true then 1 else 0) := h.2.2.2.2.2.2.2.2.2.2.2.1
  unfold begM at H
  have leaf : ∀ (o v : Nat) (x y : Int32), x = nI o → y = nI v → K k ≠ 43 → OutM K N ST EN M L t n0 B pr u0 (endM K (k + 1) π d (c ++ [(o, v)])) q → wj_X12_beginOne_82 q y x u := by
    intro o v x y hx hy hk HH
    unfold wj_X12_beginOne_82
    refine emitR hx hy h (by omega) (fun z g1 g2 _ => nextM hNT g1 hk (fun z2 m1 m2 => endOneM hNT m1 ?_ hc HH))
    rw [List.length_append]; simp only [List.length_cons, List.length_nil]; omega
  have j20 : ¬ (K k = 41 ∧ 9999 < N k) → wj_X12_beginOne_20 q u := by
    intro hn
    unfold wj_X12_beginOne_20
    have j40 : ∀ r : Int32, (9 ≤ K k → K k ≤ 16 → r = nI (K k - 9)) → (¬ (9 ≤ K k ∧ K k ≤ 16) → r = -1) → ¬ (K k = 16 ∧ pr = true) → wj_X12_beginOne_40 q r u := by
      intro r r1 r2 r3
      unfold wj_X12_beginOne_40 wj_X12_beginOne_52 wj_X12_beginOne_66
      have nu := tk_nu hrt
      by_cases c41 : K k = 41
      · have e9 : gI u 48 9 = 1 := nu.mpr c41
        rw [if_pos c41] at H
        obtain ⟨m, hm, hm6, hmn⟩ : ∃ m, u.1 48 10 = nI m ∧ m ≤ 1000000 ∧ (m = N k ∨ (9999 < m ∧ 9999 < N k)) := by
          rcases hrt.2.2.2.1 with ⟨q1, _⟩ | ⟨q0, q1, _⟩ | ⟨q1, q2, q3⟩ | ⟨q1, _⟩ | ⟨q1, _⟩
          · omega
          · omega
          · exact q3
          · omega
          · omega
        rw [if_neg (fun w => hn ⟨c41, w⟩)] at H
        have em : m = N k := by omega
        have L1 := leaf 0 (N k) 0 (gI u 48 10) rfl (by rw [gI_def, hm, em]) (by omega) H
        exact ⟨fun _ => ⟨fun w => absurd e9 w, fun _ => ⟨fun w => absurd e9 w, fun _ => L1⟩⟩, fun w => absurd e9 w⟩
      · have e9 : ¬ gI u 48 9 = 1 := fun w => c41 (nu.mp w)
        rw [if_neg c41] at H
        refine ⟨fun w => absurd w e9, fun _ => ⟨fun w => ?_, fun w => ?_⟩⟩
        case refine_2 =>
          by_cases cn : 9 ≤ K k ∧ K k ≤ 16
          · rw [if_pos cn, if_neg r3] at H
            exact ⟨fun _ => ⟨fun _ => leaf 1 (K k - 9) 1 r rfl (r1 cn.1 cn.2) (by omega) H, fun w => absurd w e9⟩, fun w => absurd w e9⟩
          · rw [r2 cn] at w; exact absurd (show (-1 : Int32) < 0 by decide) w
        have cn : ¬ (9 ≤ K k ∧ K k ≤ 16) := fun cn => by
          rw [r1 cn.1 cn.2] at w
          exact absurd w (by simp (disch := omega) only [q_lit, nI_add, pk_mul, q_sub, q_rem, q_div, q_vp, q_cl, q_lt, q_le, q_eq, q_neg1, gI_def]; omega)
        rw [if_neg cn] at H
        have t36 : gI u 48 9 = 40 ↔ K k = 36 := tk_sg hrt (by decide) (by decide) rfl
        have t33 : gI u 48 9 = 45 ↔ K k = 33 := tk_sg hrt (by decide) (by decide) rfl
        by_cases c36 : K k = 36
        · rw [if_pos c36] at H
          exact ⟨fun w => absurd (t36.mpr c36) w, fun _ => openedM hNT (o := 40) (by decide) (by decide) (by omega) h hw hb hc H⟩
        rw [if_neg c36] at H
        refine ⟨fun _ => ?_, fun w => absurd (t36.mp w) c36⟩
        by_cases c33 : K k = 33
        · rw [if_pos c33] at H
          exact ⟨fun w => absurd (t33.mpr c33) w, fun _ => openedM hNT (o := 5) (by decide) (by decide) (by omega) h hw hb hc H⟩
        rw [if_neg c33] at H
        refine ⟨fun _ => ?_, fun w => absurd (t33.mp w) c33⟩
        refine wV_17 (isWordM hrt (by decide) (fun c17 => ⟨fun w => absurd w (by decide), fun _ => ?_⟩) (fun c17 => ⟨fun _ => ?_, fun w => absurd rfl w⟩))
        · rw [if_pos c17] at H
          exact openedM hNT (o := 41) (by decide) (by decide) (by omega) h hw hb hc H
        rw [if_neg c17] at H
        refine wV_18 (isWordM hrt (by decide) (fun c18 => ⟨fun w => absurd w (by decide), fun _ => ?_⟩) (fun c18 => ⟨fun _ => ?_, fun w => absurd rfl w⟩))
        · rw [if_pos c18] at H
          exact openedM hNT (o := 2) (by decide) (by decide) (by omega) h hw hb hc H
        rw [if_neg c18] at H
        refine wV_19 (isWordM hrt (by decide) (fun c19 => ⟨fun w => absurd w (by decide), fun _ => ?_⟩) (fun c19 => ⟨fun _ => ?_, fun w => absurd rfl w⟩))
        · rw [if_pos c19] at H
          exact openedM hNT (o := 42) (by decide) (by decide) (by omega) h hw hb hc H
        rw [if_neg c19] at H
        refine wV_20 (isWordM hrt (by decide) (fun c20 => ⟨fun w => absurd w (by decide), fun _ => ?_⟩) (fun c20 => ⟨fun _ => ?_, fun w => absurd rfl w⟩))
        · rw [if_pos c20] at H
          refine askAM h (fun a => ⟨fun w => absurd w (by decide), fun _ => ?_⟩) (fun a => ⟨fun _ => ?_, fun w => absurd rfl w⟩)
          · rw [if_pos a] at H
            exact openedM hNT (o := 20) (by decide) (by decide) (by omega) h hw hb hc H
          · rw [if_neg a] at H
            exact (H.2 _ rfl).2 u π d c h
        · rw [if_neg c20] at H
          exact (H.2 _ rfl).2 u π d c h
    refine nameM' hrt (fun g1 g2 => ⟨fun w => j40 _ (fun _ _ => rfl) (fun w => absurd ⟨g1, g2⟩ w) (fun w2 => w (by rw [w2.1]; rfl)), fun w => ?_⟩) (fun g => ⟨fun _ => j40 _ (fun a b => absurd ⟨a, b⟩ g) (fun _ => rfl) (fun w => g ⟨by omega, by omega⟩), fun w => absurd w (by decide)⟩)
    have w2 : K k - 9 = 7 := (nI_eq (b := 7) (by omega) (by decide)).mp w
    rw [e14]
    refine ⟨fun w3 => j40 _ (fun _ _ => rfl) (fun w => absurd ⟨g1, g2⟩ w) (fun w4 => ?_), fun w3 => ?_⟩
    · rw [w4.2] at w3; exact absurd w3 (by decide)
    · have hp : pr = true := by
        cases hpr : pr
        · rw [hpr] at w3; exact absurd rfl w3
        · rfl
      rw [if_neg (by omega), if_pos ⟨g1, g2⟩, if_pos ⟨by omega, hp⟩] at H
      exact (H.2 _ rfl).2 u π d c h
  unfold wp_X12_beginOne
  have nu := tk_nu hrt
  refine ⟨fun w => j20 (fun y => w (nu.mpr y.1)), fun w => ?_⟩
  have c41 := nu.mp w
  obtain ⟨m, hm, hm6, hmn⟩ : ∃ m, gI u 48 10 = nI m ∧ m ≤ 1000000 ∧ (m = N k ∨ (9999 < m ∧ 9999 < N k)) := by
    rcases hrt.2.2.2.1 with ⟨q1, _⟩ | ⟨q0, q1, _⟩ | ⟨q1, q2, q3⟩ | ⟨q1, _⟩ | ⟨q1, _⟩
    · omega
    · omega
    · exact q3
    · omega
    · omega
  rw [hm, show (9999 : Int32) = nI 9999 from rfl, q_le (by omega) (by omega)]
  refine ⟨fun w => j20 (fun y => by omega), fun w => ?_⟩
  rw [if_pos c41, if_pos (by omega)] at H
  exact (H.2 _ rfl).2 u π d c h
theorem cmpOfM (h : RT K N ST EN M L B u k) {q : Int32 → PoS → Prop} (h1 : cmpO (K k) ≠ 0 → q (nI (cmpO (K k))) u) (h0 : cmpO (K k) = 0 → q (-1) u) : wp_X12_compareOf u q := by
  have t28 : gI u 48 9 = 60 ↔ K k = 28 := tk_sg h (by decide) (by decide) rfl
  have t39 : gI u 48 9 = 4 ↔ K k = 39 := tk_sg h (by decide) (by decide) rfl
  have t29 : gI u 48 9 = 62 ↔ K k = 29 := tk_sg h (by decide) (by decide) rfl
  have t40 : gI u 48 9 = 5 ↔ K k = 40 := tk_sg h (by decide) (by decide) rfl
  have t30 : gI u 48 9 = 61 ↔ K k = 30 := tk_sg h (by decide) (by decide) rfl
  have t31 : gI u 48 9 = 35 ↔ K k = 31 := tk_sg h (by decide) (by decide) rfl
  have ys : ∀ a b, K k = a → cmpO a = b → b ≠ 0 → q (nI b) u := fun a b e1 e2 e3 => by
    rw [e1] at h1; rw [e2] at h1; exact h1 e3
  unfold wp_X12_compareOf
  rw [t28, t39, t29, t40, t30, t31]
  refine ⟨fun a => ⟨fun b => ⟨fun c => ⟨fun d => ⟨fun e => ⟨fun f => h0 ?_, fun f => ys 31 15 f rfl (by decide)⟩, fun e => ys 30 14 e rfl (by decide)⟩, fun d => ys 40 13 d rfl (by decide)⟩, fun c => ys 29 12 c rfl (by decide)⟩, fun b => ys 39 11 b rfl (by decide)⟩, fun a => ys 28 10 a rfl (by decide)⟩
  rw [cmpO, if_neg a, if_neg b, if_neg c, if_neg d, if_neg e, if_neg f]
theorem betweenM (h : MSt K N ST EN M L t n0 B pr u0 u k π d c) {q : Int32 → PoS → Prop} (h1 : btw (K k) π ≠ 0 → q (nI (btw (K k) π)) u) (h0 : btw (K k) π = 0 → q (-1) u) : wp_X12_betweenOf u q := by
  have hrt := h.2.2.1
  have t32 : gI u 48 9 = 43 ↔ K k = 32 := tk_sg hrt (by decide) (by decide) rfl
  have t33 : gI u 48 9 = 45 ↔ K k = 33 := tk_sg hrt (by decide) (by decide) rfl
  have t34 : gI u 48 9 = 42 ↔ K k = 34 := tk_sg hrt (by decide) (by decide) rfl
  have t35 : gI u 48 9 = 47 ↔ K k = 35 := tk_sg hrt (by decide) (by decide) rfl
  have ys : ∀ b, btw (K k) π = b → b ≠ 0 → q (nI b) u := fun b e2 e3 => by rw [e2] at h1; exact h1 e3
  unfold wp_X12_betweenOf
  rw [t32, t33, t34, t35]
  refine ⟨fun n32 => ⟨fun n33 => ⟨fun n34 => ⟨fun n35 => ?_, fun e => ys 9 ?_ (by decide)⟩, fun e => ys 8 ?_ (by decide)⟩, fun e => ys 7 ?_ (by decide)⟩, fun e => ys 6 ?_ (by decide)⟩
  · have eb : btw (K k) π = if opnM π = 42 then (if cmpd π = true then (if K k = 27 then 21 else if K k = 26 then 22 else 0) else cmpO (K k)) else 0 := by
      rw [btw, if_neg n32, if_neg n33, if_neg n34, if_neg n35]
    refine openNowM h (fun w => ⟨fun y => absurd y (by decide), fun _ => h0 (by rw [eb, if_neg (by omega)])⟩) (fun w w5 => ⟨fun y => ?_, fun y => h0 (by rw [eb, if_neg (fun e => y (by rw [e]; rfl))])⟩)
    have y2 : opnM π = 42 := (nI_eq (b := 42) (by omega) (by decide)).mp y
    rw [if_pos y2] at eb
    refine isCmpM h ?_
    by_cases cp : cmpd π = true
    · rw [if_pos cp] at eb ⊢
      refine ⟨fun _ => wV_27 (isWordM hrt (by decide) (fun c27 => ⟨fun w => absurd w (by decide), fun _ => ys 21 (by rw [eb, if_pos c27]) (by decide)⟩) (fun c27 => ⟨fun _ => wV_26 (isWordM hrt (by decide) (fun c26 => ⟨fun w => absurd w (by decide), fun _ => ys 22 (by rw [eb, if_neg c27, if_pos c26]) (by decide)⟩) (fun c26 => ⟨fun _ => h0 (by rw [eb, if_neg c27, if_neg c26]), fun w => absurd rfl w⟩)), fun w => absurd rfl w⟩)), fun w => absurd w (by decide)⟩
    · rw [if_neg cp] at eb ⊢
      refine ⟨fun w => absurd rfl w, fun _ => cmpOfM hrt (fun w => ys _ eb w) (fun w => h0 (by rw [eb, w]))⟩
  · rw [btw, if_neg n32, if_neg n33, if_neg n34, if_pos e]
  · rw [btw, if_neg n32, if_neg n33, if_pos e]
  · rw [btw, if_neg n32, if_pos e]
  · rw [btw, if_pos e]
theorem partM (h : MSt K N ST EN M L t n0 B pr u0 u k π d c) {x : Int32} {q : Int32 → PoS → Prop} (hx : (opnM π = 0 ∧ x = -1) ∨ (40 ≤ opnM π ∧ opnM π < 50 ∧ x = nI (opnM π))) (h0 : prt (K k) π = 0 → q (-1) u) (h1 : prt (K k) π = 1 → q 0 u) (h2 : prt (K k) π ≠ 0 → prt (K k) π ≠ 1 → q (nI (prt (K k) π)) u) : wp_X12_partOf x u q := by
  have hrt := h.2.2.1
  have t37 : gI u 48 9 = 41 ↔ K k = 37 := tk_sg hrt (by decide) (by decide) rfl
  have is : ∀ a : Nat, a < 50 → a ≠ 0 → (x = nI a ↔ opnM π = a) := by
    intro a ha h0'
    rcases hx with ⟨e1, e2⟩ | ⟨e1, e2, e3⟩
    · rw [e1, e2]
      refine ⟨fun e => ?_, fun e => absurd e.symm h0'⟩
      have := congrArg Int32.toInt e
      rw [nI_toInt (by omega)] at this
      exact absurd this (by rw [show Int32.toInt (-1) = -1 from rfl]; omega)
    · rw [e3, nI_eq (by omega) (by omega)]
  have ys : ∀ b, prt (K k) π = b → b ≠ 0 → b ≠ 1 → q (nI b) u := fun b e2 e3 e4 => by rw [e2] at h2; exact h2 e3 e4
  unfold wp_X12_partOf
  refine ⟨fun y => ?_, fun y => ?_, fun y => ?_, fun y => ?_, fun y => ?_, fun a b c' d' e' => ?_⟩
  · have o := (is 40 (by decide) (by decide)).mp y
    rw [t37]
    exact ⟨fun w => h0 (by rw [prt, if_pos o, if_neg w]), fun w => h1 (by rw [prt, if_pos o, if_pos w])⟩
  · have o := (is 41 (by decide) (by decide)).mp y
    exact h0 (by rw [prt, if_neg (by omega), if_neg (by omega), if_neg (by omega), if_neg (by omega)])
  · have o := (is 42 (by decide) (by decide)).mp y
    refine wV_23 (isWordM hrt (by decide) (fun c23 => ⟨fun w => absurd w (by decide), fun _ => isCmpM h ?_⟩) (fun c23 => ⟨fun _ => h0 (by rw [prt, if_neg (by omega), if_pos o, if_neg (fun w => c23 w.1)]), fun w => absurd rfl w⟩))
    by_cases cp : cmpd π = true
    · rw [if_pos cp]
      exact ⟨fun w => absurd w (by decide), fun _ => ys 43 (by rw [prt, if_neg (by omega), if_pos o, if_pos ⟨c23, cp⟩]) (by decide) (by decide)⟩
    · rw [if_neg cp]
      exact ⟨fun _ => h0 (by rw [prt, if_neg (by omega), if_pos o, if_neg (fun w => cp w.2)]), fun w => absurd rfl w⟩
  · have o := (is 43 (by decide) (by decide)).mp y
    exact wV_24 (isWordM hrt (by decide) (fun c24 => ⟨fun w => absurd w (by decide), fun _ => ys 44 (by rw [prt, if_neg (by omega), if_neg (by omega), if_pos o, if_pos c24]) (by decide) (by decide)⟩) (fun c24 => ⟨fun _ => h0 (by rw [prt, if_neg (by omega), if_neg (by omega), if_pos o, if_neg c24]), fun w => absurd rfl w⟩))
  · have o := (is 44 (by decide) (by decide)).mp y
    exact wV_25 (isWordM hrt (by decide) (fun c25 => ⟨fun w => absurd w (by decide), fun _ => h1 (by rw [prt, if_neg (by omega), if_neg (by omega), if_neg (by omega), if_pos o, if_pos c25])⟩) (fun c25 => ⟨fun _ => h0 (by rw [prt, if_neg (by omega), if_neg (by omega), if_neg (by omega), if_pos o, if_neg c25]), fun w => absurd rfl w⟩))
  · have o1 := fun w => a ((is 40 (by decide) (by decide)).mpr w)
    have o2 := fun w => c' ((is 42 (by decide) (by decide)).mpr w)
    have o3 := fun w => d' ((is 43 (by decide) (by decide)).mpr w)
    have o4 := fun w => e' ((is 44 (by decide) (by decide)).mpr w)
    exact h0 (by rw [prt, if_neg o1, if_neg o2, if_neg o3, if_neg o4])
theorem stl1_top : ∀ (π : List Nat) (d : Nat) (c : Cd), opnM π ≠ 0 → (stl 1 π d c).1 = opnM π :: (stl 1 π d c).1.tail ∧ 40 ≤ opnM π := by
  intro π
  induction π with
  | nil => intro d c h; exact absurd rfl h
  | cons o π ih =>
    intro d c h
    by_cases q : 40 ≤ o
    · rw [stl_o (by rw [rk0 q]; decide), opn_o q]; exact ⟨rfl, q⟩
    · rw [opn_n (by omega)] at h ⊢
      have : 1 ≤ rkO o := by
        unfold rkO
        rw [if_neg q]
        repeat' split
        all_goals omega
      rw [stl_pop this]
      exact ih _ _ h
theorem stl1_nil : ∀ (π : List Nat) (d : Nat) (c : Cd), opnM π = 0 → (stl 1 π d c).1 = [] := by
  intro π
  induction π with
  | nil => intro d c h; rfl
  | cons o π ih =>
    intro d c h
    by_cases q : 40 ≤ o
    · rw [opn_o q] at h; omega
    · rw [opn_n (by omega)] at h
      have : 1 ≤ rkO o := by
        unfold rkO
        rw [if_neg q]
        repeat' split
        all_goals omega
      rw [stl_pop this]
      exact ih _ _ h
theorem prt_o {κ : Nat} {π : List Nat} (h : prt κ π ≠ 0) : opnM π ≠ 0 ∧ κ ≠ 43 ∧ prt κ π ≤ 44 := by
  unfold prt at *
  repeat' split at h
  all_goals first | exact absurd rfl h | skip
  all_goals refine ⟨by omega, by omega, ?_⟩
  all_goals (repeat' split)
  all_goals omega
theorem behOneM (hNT : NTok K N ST EN M L B) {q : Int32 → PoS → Prop} (h : MSt K N ST EN M L t n0 B pr u0 u k π d c) (hb : n0 + c.length + π.length ≤ k) (hc : cntO π = d) (H : (btw (K k) π ≠ 0 ∨ prt (K k) π ≠ 0) → OutM K N ST EN M L t n0 B pr u0 (behM K k π d c) q) (H0 : btw (K k) π = 0 → prt (K k) π = 0 → q (-1) u) : wp_X12_behindOne u q := by
  have hrt := h.2.2.1
  have hkM := hrt.1
  have hM := h.2.1
  unfold wp_X12_behindOne
  refine betweenM h (fun hbt => ⟨fun w => ?_, fun _ => ?_⟩) (fun hbt => ⟨fun _ => ?_, fun w => absurd (show (-1 : Int32) < 0 by decide) w⟩)
  · rcases btw_rk (K k) π with y | y
    · exact absurd y hbt
    · exact absurd w (by simp (disch := omega) only [q_lit, nI_add, pk_mul, q_sub, q_rem, q_div, q_vp, q_cl, q_lt, q_le, q_eq, q_neg1, gI_def]; omega)
  · have HH := H (Or.inl hbt)
    rw [behM, if_neg hbt] at HH
    obtain ⟨r1, r2, r3, r4⟩ := (btw_rk (K k) π).resolve_left hbt
    have bk : K k ≠ 43 := by
      intro e
      apply hbt
      rw [e, btw]
      rw [if_neg (by decide), if_neg (by decide), if_neg (by decide), if_neg (by decide)]
      split
      · split
        · rw [if_neg (by decide), if_neg (by decide)]
        · rfl
      · rfl
    have bo : ¬ (40 ≤ btw (K k) π ∨ rkO (btw (K k) π) = 7 ∨ btw (K k) π = 20) := by
      intro w
      rcases w with w | w | w
      · omega
      · omega
      · revert w
        rw [btw, cmpO]
        repeat' split
        all_goals omega
    generalize btw (K k) π = o at *
    have go : ∀ l : Nat, 1 ≤ l → l ≤ 7 → l = (if rkO o = 4 then 5 else rkO o) → wj_X12_behindOne_26 q (nI o) (nI l) u := by
      intro l l1 l7 el
      rw [← el] at HH
      unfold wj_X12_behindOne_26
      refine settleW l1 l7 h hc (fun z g1 g2 => ?_)
      have sl := stl_len l π d c
      have sc := stl_cnt l1 π d c hc
      unfold pshM at HH
      generalize stl l π d c = s at *
      obtain ⟨π1, d1, c1⟩ := s
      simp only at g1 sl sc HH
      have hl : ¬ 159 < π1.length := fun e => by rw [if_pos e] at HH; exact (HH.2 _ rfl).1 rfl
      rw [if_neg hl] at HH
      have e16 : gI z 48 16 = nI π1.length := g1.2.2.2.2.1
      rw [e16, q_cl (by omega)]
      refine ⟨by simp (disch := omega) only [q_lit, nI_add, pk_mul, q_sub, q_rem, q_div, q_vp, q_cl, q_lt, q_le, q_eq, q_neg1, gI_def]; omega, fun z30 e30 z31 e31 z32 e32 => ?_⟩
      subst e30
      rw [gI_def, pI_o (by decide), ← gI_def, e16, nI_1] at e31
      subst e31; subst e32
      have hp := ms18 (v := 0) (msPush (o := o) (a := nI o) (v := nI (π1.length + 1)) g1 (by omega) (by omega) (by omega) rfl rfl)
      refine nextM hNT hp bk (fun z y1 y2 => HH.1 _ rfl z y1 ?_ ?_ ?_)
      · rw [y2, pI_s, up_eq]; rfl
      · show n0 + c1.length + (o :: π1).length ≤ k + 1
        simp only [List.length_cons]; omega
      · show cntO (o :: π1) = d1
        rw [cntO, if_neg bo]; omega
    refine rankM (by omega) ?_
    rw [show (4 : Int32) = nI 4 from rfl, q_eq (by omega) (by omega)]
    refine ⟨fun w => rankM (by omega) (go _ (by omega) (by omega) (by rw [if_neg w])), fun w => go 5 (by decide) (by decide) (by rw [if_pos w])⟩
  · have rest : ∀ x : Int32, ((opnM π = 0 ∧ x = -1) ∨ (40 ≤ opnM π ∧ opnM π < 50 ∧ x = nI (opnM π))) → wp_X12_partOf x u (fun (r5 : Int32) (u6 : PoS) => ((0 ≤ r5 → wp_X12_settle 1 u6 (fun (u8 : PoS) => wp_X12_nextToken u8 (fun (u10 : PoS) => ((¬ r5 = 0 → wp_X12_openAt u10 (fun (r11 : Int32) (u12 : PoS) => vp_in r11 160 ∧ ∀ z13 : PoS, z13 = pI u12 53 (Int32.toNatClampNeg r11) r5 → ∀ z14 : PoS, z14 = pI z13 48 18 0 → q 0 z14)) ∧ (r5 = 0 → ∀ z15 : PoS, z15 = pI u10 48 17 ((gI u10 48 17) - 1) → ∀ z16 : PoS, z16 = pI z15 48 16 ((gI z15 48 16) - 1) → ((¬ x = 44 → wj_X12_behindOne_122 q  z16) ∧ (x = 44 → wp_X12_emit 3 0 z16 (fun (u20 : PoS) => wj_X12_behindOne_122 q  u20)))))))) ∧ (¬ 0 ≤ r5 → q (-1) u6))) := by
      intro x hx
      refine partM h hx (fun p0 => ⟨fun w => absurd w (by decide), fun _ => H0 hbt p0⟩) (fun p1 => ⟨fun _ => ?_, fun w => absurd (show (0 : Int32) ≤ 0 by decide) w⟩) (fun p0 p1 => ⟨fun _ => ?_, fun w => ?_⟩)
      · have HH := H (Or.inr (by omega))
        obtain ⟨po1, po2, po3⟩ := prt_o (κ := K k) (π := π) (by omega)
        rw [behM, if_pos hbt, if_neg (by omega), if_pos p1] at HH
        obtain ⟨xo, x5, ex⟩ : 40 ≤ opnM π ∧ opnM π < 50 ∧ x = nI (opnM π) := by
          rcases hx with ⟨y, _⟩ | y
          · exact absurd y po1
          · exact y
        refine settleW (l := 1) (by decide) (by decide) h hc (fun z g1 g2 => nextM hNT g1 po2 (fun z10 m1 m2 => ⟨fun w => absurd rfl w, fun _ z15 e15 z16 e16 => ?_⟩))
        have sl := stl_len 1 π d c
        have sc := stl_cnt (l := 1) (by decide) π d c hc
        have st := (stl1_top π d c po1).1
        generalize stl 1 π d c = s at *
        obtain ⟨π1, d1, c1⟩ := s
        cases π1 with
        | nil => exact absurd st (by simp)
        | cons o π2 =>
          have eo : o = opnM π := (List.cons.inj st).1
          simp only [List.tail_cons, List.length_cons] at m1 sl sc HH
          rw [cntO, if_pos (Or.inl (by omega))] at sc
          have e17 : gI z10 48 17 = nI d1 := m1.2.2.2.2.2.2.1
          have d200 := m1.2.2.2.2.2.2.2.1
          rw [e17, show nI d1 - 1 = nI (d1 - 1) by simp (disch := omega) only [q_lit, nI_add, pk_mul, q_sub, q_rem, q_div, q_vp, q_cl, q_lt, q_le, q_eq, q_neg1, gI_def]] at e15
          subst e15
          have hs := ms17 (d' := d1 - 1) (v := nI (d1 - 1)) m1 (by omega) rfl
          have e16' : gI (pI z10 48 17 (nI (d1 - 1))) 48 16 = nI (π2.length + 1) := hs.2.2.2.2.1
          rw [e16', show nI (π2.length + 1) - 1 = nI π2.length by simp (disch := omega) only [q_lit, nI_add, pk_mul, q_sub, q_rem, q_div, q_vp, q_cl, q_lt, q_le, q_eq, q_neg1, gI_def]; omega] at e16
          subst e16
          have hs2 := ms16 hs
          refine ⟨fun w => ?_, fun w => ?_⟩
          · rw [if_neg (fun e => w (by rw [ex, e]; rfl))] at HH
            exact endOneM hNT hs2 (by omega) (by omega) HH
          · rw [if_pos ((nI_eq (b := 44) (by omega) (by decide)).mp (by rw [← ex]; exact w))] at HH
            refine emitM (o := 3) (v := 0) hs2 (by omega) (fun z20 y1 y2 _ => endOneM hNT y1 ?_ (by omega) HH)
            rw [List.length_append]; simp only [List.length_cons, List.length_nil]; omega
      · have HH := H (Or.inr p0)
        obtain ⟨po1, po2, po3⟩ := prt_o (κ := K k) (π := π) p0
        rw [behM, if_pos hbt, if_neg p0, if_neg p1] at HH
        refine settleW (l := 1) (by decide) (by decide) h hc (fun z g1 g2 => nextM hNT g1 po2 (fun z10 m1 m2 => ⟨fun _ => ?_, fun w => absurd ((nI_eq (b := 0) (by omega) (by decide)).mp w) p0⟩))
        have sl := stl_len 1 π d c
        have sc := stl_cnt (l := 1) (by decide) π d c hc
        obtain ⟨st, st4⟩ := stl1_top π d c po1
        have pp : 40 ≤ prt (K k) π := by
          have := p0; have := p1
          revert p0 p1
          rw [prt]
          repeat' split
          all_goals (intros; omega)
        generalize stl 1 π d c = s at *
        obtain ⟨π1, d1, c1⟩ := s
        cases π1 with
        | nil => exact absurd st (by simp)
        | cons o π2 =>
          have eo : o = opnM π := (List.cons.inj st).1
          simp only [List.tail_cons, List.length_cons] at m1 sl sc HH
          rw [cntO, if_pos (Or.inl (by omega))] at sc
          have h14 := m1.2.2.2.2.2.2.2.2.2.2.2.2.2
          have e16 : gI z10 48 16 = nI (o :: π2).length := m1.2.2.2.2.1
          intro x1 e1
          rw [e16] at e1
          subst e1
          refine ⟨_, openAtM (z10.1 53) rfl (o :: π2) m1.2.2.2.2.2.1 h14 (fun w => ?_) (fun a b e y1 y2 => ?_)⟩
          · rw [opn_o (by omega)] at w; omega
          · simp only [List.length_cons] at h14
            have eb : b = π2 := by
              cases a with
              | nil => exact (List.cons.inj e).2.symm
              | cons x' a' =>
                have := (List.cons.inj e).1
                have := y2 x' (by simp)
                omega
            subst eb
            refine ⟨by simp (disch := omega) only [q_lit, nI_add, pk_mul, q_sub, q_rem, q_div, q_vp, q_cl, q_lt, q_le, q_eq, q_neg1, gI_def]; omega, fun z13 e13 z14 e14 => ?_⟩
            rw [q_cl (by omega)] at e13
            subst e13; subst e14
            refine HH.1 _ rfl _ (ms18 (msTop m1 (by omega) rfl)) (by rw [pI_s, up_eq]; rfl) ?_ ?_
            · show n0 + c1.length + (prt (K k) π :: b).length ≤ k + 1
              simp only [List.length_cons]; omega
            · show cntO (prt (K k) π :: b) = d1
              rw [cntO, if_pos (Or.inl pp)]; omega
      · obtain ⟨po1, po2, po3⟩ := prt_o (κ := K k) (π := π) p0
        exact absurd (show (0 : Int32) ≤ nI (prt (K k) π) by simp (disch := omega) only [q_lit, nI_add, pk_mul, q_sub, q_rem, q_div, q_vp, q_cl, q_lt, q_le, q_eq, q_neg1, gI_def]; omega) w
    exact openNowM h (fun w => rest (-1) (Or.inl ⟨w, rfl⟩)) (fun w w5 => rest _ (Or.inr ⟨(opn_40 π).resolve_left w, w5, rfl⟩))
theorem endM_ne {R' : MR} (h : endM K k π d c = .inr R') : R'.1 ≠ 0 := by
  unfold endM at h
  repeat' split at h
  all_goals cases h
  all_goals simp
theorem opnd_ne {o : Nat} {R' : MR} (h : opnd k π d c o = .inr R') : R'.1 ≠ 0 := by
  unfold opnd at h
  repeat' split at h
  all_goals cases h
  all_goals simp
theorem begM_ne {R' : MR} (h : begM K N pr k π d c = .inr R') : R'.1 ≠ 0 := by
  unfold begM at h
  repeat' split at h
  all_goals first | exact endM_ne h | exact opnd_ne h | (cases h; simp)
theorem behM_ne {R' : MR} (hy : btw (K k) π ≠ 0 ∨ prt (K k) π ≠ 0) (h : behM K k π d c = .inr R') : R'.1 ≠ 0 := by
  unfold behM pshM at h
  repeat' split at h
  all_goals first | exact endM_ne h | (cases h; simp; done) | omega | cases h
/-- all of it: a SUM is read as the machine reads it -/
theorem runSum (hNT : NTok K N ST EN M L B) {q : Int32 → PoS → Prop} : ∀ (n : Nat) (S : MS) (R : MR) (u : PoS), runM K N pr n S = some R → R.1 ≠ 99 → R.1 < 90 → MSt K N ST EN M L t n0 B pr u0 u S.1 S.2.1 S.2.2.1 S.2.2.2.1 → u.1 48 18 = nI (if S.2.2.2.2 = true then 1 else 0) → n0 + S.2.2.2.1.length + S.2.1.length ≤ S.1 → cntO S.2.1 = S.2.2.1 → (R.1 = 0 → ∀ z π' d', MSt K N ST EN M L t n0 B pr u0 z R.2.1 π' d' R.2.2 → q 0 z) → (R.1 ≠ 0 → ∀ z π' d' c', MSt K N ST EN M L t n0 B pr u0 z R.2.1 π' d' c' → q (nI R.1) z) → wl_X12_summed_15 (fun (u11 : PoS) => wp_X12_openNow u11 (fun (r12 : Int32) (u13 : PoS) => ((r12 < 0 → wp_X12_settle 1 u13 (fun (u15 : PoS) => q 0 u15)) ∧ (¬ r12 < 0 → q 1 u13)))) q n u := by
  intro n
  induction n with
  | zero => intro S R u h; exact absurd h (by rw [runM]; exact nofun)
  | succ n ih =>
    intro S R u h h99 h90 hm hw hb hc H0 H1
    obtain ⟨k, π, d, c, w⟩ := S
    simp only at hm hw hb hc
    rw [runM] at h
    rw [wl_X12_summed_15, gI_def, hw]
    have out : ∀ X : MS ⊕ MR, (match X with | .inl S' => runM K N pr n S' | .inr R => some R) = some R → (∀ R', X = .inr R' → R'.1 ≠ 0) → OutM K N ST EN M L t n0 B pr u0 X (fun r4 u5 => wj_X12_summed_33 (fun (u11 : PoS) => wp_X12_openNow u11 (fun (r12 : Int32) (u13 : PoS) => ((r12 < 0 → wp_X12_settle 1 u13 (fun (u15 : PoS) => q 0 u15)) ∧ (¬ r12 < 0 → q 1 u13)))) (wl_X12_summed_15 (fun (u11 : PoS) => wp_X12_openNow u11 (fun (r12 : Int32) (u13 : PoS) => ((r12 < 0 → wp_X12_settle 1 u13 (fun (u15 : PoS) => q 0 u15)) ∧ (¬ r12 < 0 → q 1 u13)))) q n) q r4 u5) := by
      intro X hX hne
      refine ⟨fun S' e z y1 y2 y3 y4 => ?_, fun R' e => ?_⟩
      · subst e
        exact ⟨fun _ => ⟨fun y => absurd rfl y, fun _ => ih S' R z hX h99 h90 y1 y2 y3 y4 H0 H1⟩, fun y => absurd (show (0 : Int32) ≤ 0 by decide) y⟩
      · subst e
        have e := Option.some.inj hX
        subst e
        have hn := hne _ rfl
        refine ⟨h99, fun z π' d' c' y => ⟨fun y2 => ?_, fun _ => H1 hn z π' d' c' y⟩⟩
        exact absurd y2 (by simp (disch := omega) only [q_lit, nI_add, pk_mul, q_sub, q_rem, q_div, q_vp, q_cl, q_lt, q_le, q_eq, q_neg1, gI_def]; omega)
    cases w with
    | false =>
      refine ⟨fun _ => begOneM hNT hm hw hb hc (out _ h (fun R' e => begM_ne e)), fun y => absurd rfl y⟩
    | true =>
      refine ⟨fun y => absurd y (show ¬ nI 1 = 0 by decide), fun _ => behOneM hNT hm hb hc (fun y => out _ h (fun R' e => behM_ne y e)) (fun b0 p0 => ?_)⟩
      · have e : behM K k π d c = (if opnM π = 0 then .inr (0, k, (stl 1 π d c).2.2) else .inr (1, k, [])) := by rw [behM, if_pos b0, if_pos p0]
        have h' : (match behM K k π d c with | .inl S' => runM K N pr n S' | .inr R => some R) = some R := h
        refine ⟨fun _ => ⟨fun _ => ?_, fun y => absurd y (by decide)⟩, fun y => absurd (show (-1 : Int32) ≤ 0 by decide) y⟩
        refine openNowM hm (fun o0 => ⟨fun _ => ?_, fun y => absurd (show (-1 : Int32) < 0 by decide) y⟩) (fun o0 o5 => ⟨fun y => absurd y (by simp (disch := omega) only [q_lit, nI_add, pk_mul, q_sub, q_rem, q_div, q_vp, q_cl, q_lt, q_le, q_eq, q_neg1, gI_def]; omega), fun _ => ?_⟩)
        · rw [e, if_pos o0] at h'
          have e2 := Option.some.inj h'
          subst e2
          exact settleW (l := 1) (by decide) (by decide) hm hc (fun z y1 y2 => H0 rfl z _ _ y1)
        · rw [e, if_neg o0] at h'
          have e2 := Option.some.inj h'
          subst e2
          exact H1 (show (1 : Nat) ≠ 0 by decide) u _ _ _ hm
end
