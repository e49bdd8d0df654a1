/-! draw -/
/-- the X behind m -/
def nx (m : Nat) : Nat := (m * 487 + 373) % 30671
theorem nx_le (m : Nat) : nx m ≤ 30670 := by unfold nx; omega
theorem nextX {b : Nat} {u : PoS} {m : Nat} (hm : m ≤ 30670) (e : u.1 (3 + b) 52 = nI m) {post : Int32 → PoS → Prop} (K : post (nI m) (pI u (3 + b) 52 (nI (nx m)))) : wp_X8_nextX b u post := by
  refine ⟨rl_in (k := 52) (by decide), fun x1 ex => ⟨rl_in (k := 52) (by decide), fun z2 e2 => ?_⟩⟩
  rw [gI_def, e] at ex
  subst ex
  rw [show irem (nI m * 487 + 373) 30671 = nI (nx m) by unfold nx; simp (disch := omega) only [q_lit, nI_add, pk_mul, q_sub, q_rem, q_div, q_vp, q_cl, q_lt, q_le, q_eq, q_neg1, gI_def]] at e2
  subst e2
  exact K
theorem anewM {u : PoS} {m : Nat} (hm : m ≤ 30670) (e : u.1 49 8 = nI m) {post : PoS → Prop} (K : post (pI u 49 8 (nI (nx m)))) : wp_X12_anew u post := by
  intro z1 e1
  rw [gI_def, e, nI_l (by omega), show ((487 : Int64)) = lN 487 from rfl, show ((373 : Int64)) = lN 373 from rfl, show ((30671 : Int64)) = lN 30671 from rfl, lN_mul, lN_add] at e1
  unfold lrem at e1
  rw [pk_lRem (by omega) (by decide) (by decide), lN_i] at e1
  rw [e1]; exact K
theorem drawnM {u : PoS} {m n : Nat} (hm : m ≤ 30670) (hn : 0 < n) (hn5 : n < 2 ^ 31) (e : u.1 49 8 = nI m) {post : Int32 → PoS → Prop} (K : post (nI (m % n)) (pI u 49 8 (nI (nx m)))) : wp_X12_drawnBy (nI n) u post := by
  refine ⟨nI_ne0 hn hn5, fun x1 e1 => anewM hm e ?_⟩
  rw [gI_def, e, q_rem (by omega) hn hn5] at e1
  rw [e1]; exact K
theorem live_x {r a : Nat → Int32} (h : Liv r a) {v : Int32} (hv : Sm 30670 v) : Liv (up r 52 v) (up a 8 v) := by
  obtain ⟨⟨l0, l2, l6, l7, l8⟩, ⟨m0, m1, m2, m6, m7, m8, m9⟩, l3, l4⟩ := h
  refine ⟨⟨by simp (disch := omega) only [gI_def, pI_s, pI_o, cI_s, cI_o, pL_1, pR_1, up_eq, up_ne]; exact l0, by simp (disch := omega) only [gI_def, pI_s, pI_o, cI_s, cI_o, pL_1, pR_1, up_eq, up_ne]; exact l2, by simp (disch := omega) only [gI_def, pI_s, pI_o, cI_s, cI_o, pL_1, pR_1, up_eq, up_ne]; exact l6, by simp (disch := omega) only [gI_def, pI_s, pI_o, cI_s, cI_o, pL_1, pR_1, up_eq, up_ne]; exact l7, by simp (disch := omega) only [gI_def, pI_s, pI_o, cI_s, cI_o, pL_1, pR_1, up_eq, up_ne]⟩, ⟨by simp (disch := omega) only [gI_def, pI_s, pI_o, cI_s, cI_o, pL_1, pR_1, up_eq, up_ne]; exact m0, by simp (disch := omega) only [gI_def, pI_s, pI_o, cI_s, cI_o, pL_1, pR_1, up_eq, up_ne]; exact m1, by simp (disch := omega) only [gI_def, pI_s, pI_o, cI_s, cI_o, pL_1, pR_1, up_eq, up_ne]; exact m2, by simp (disch := omega) only [gI_def, pI_s, pI_o, cI_s, cI_o, pL_1, pR_1, up_eq, up_ne]; exact m6, by simp (disch := omega) only [gI_def, pI_s, pI_o, cI_s, cI_o, pL_1, pR_1, up_eq, up_ne]; exact m7, by simp (disch := omega) only [gI_def, pI_s, pI_o, cI_s, cI_o, pL_1, pR_1, up_eq, up_ne]; exact hv, by simp (disch := omega) only [gI_def, pI_s, pI_o, cI_s, cI_o, pL_1, pR_1, up_eq, up_ne]; exact m9⟩, l3.congr (fun i _ => by simp (disch := omega) only [gI_def, pI_s, pI_o, cI_s, cI_o, pL_1, pR_1, up_eq, up_ne]) (by simp (disch := omega) only [gI_def, pI_s, pI_o, cI_s, cI_o, pL_1, pR_1, up_eq, up_ne]) (fun i _ _ => by simp (disch := omega) only [gI_def, pI_s, pI_o, cI_s, cI_o, pL_1, pR_1, up_eq, up_ne]), l4.congr (fun i _ _ => by simp (disch := omega) only [gI_def, pI_s, pI_o, cI_s, cI_o, pL_1, pR_1, up_eq, up_ne]) (by simp (disch := omega) only [gI_def, pI_s, pI_o, cI_s, cI_o, pL_1, pR_1, up_eq, up_ne]) (fun i _ _ => by simp (disch := omega) only [gI_def, pI_s, pI_o, cI_s, cI_o, pL_1, pR_1, up_eq, up_ne]) (fun i _ _ => by simp (disch := omega) only [gI_def, pI_s, pI_o, cI_s, cI_o, pL_1, pR_1, up_eq, up_ne])⟩
theorem row_x {r a : Nat → Int32} (h : RowOk r a) (hF : Fresh a) {v : Int32} (hv : Sm 30670 v) : RowOk (up r 52 v) (up a 8 v) ∧ Fresh (up a 8 v) :=
  row_live h hF (fun i hi => by simp (disch := omega) only [gI_def, pI_s, pI_o, cI_s, cI_o, pL_1, pR_1, up_eq, up_ne]) (fun i hi => by simp (disch := omega) only [gI_def, pI_s, pI_o, cI_s, cI_o, pL_1, pR_1, up_eq, up_ne]) (live_x h.liv hv) (by simp (disch := omega) only [gI_def, pI_s, pI_o, cI_s, cI_o, pL_1, pR_1, up_eq, up_ne]; exact h.boo.1) (h.boo.2.congr (fun i _ _ => by simp (disch := omega) only [gI_def, pI_s, pI_o, cI_s, cI_o, pL_1, pR_1, up_eq, up_ne]) (by simp (disch := omega) only [gI_def, pI_s, pI_o, cI_s, cI_o, pL_1, pR_1, up_eq, up_ne]) (fun i _ _ => by simp (disch := omega) only [gI_def, pI_s, pI_o, cI_s, cI_o, pL_1, pR_1, up_eq, up_ne]))
/-- who is it, of the first k -/
def drA (a : Nat → Int32) (d : Nat) : Nat → Nat → Int32
  | 0 => a
  | k + 1 => up (drA a d k) (11 + 6 * k) (if k = d then 1 else 0)
def drR (r : Nat → Int32) (d : Nat) : Nat → Nat → Int32
  | 0 => r
  | k + 1 => up (drR r d k) (5 + k) (if k = d then 1 else 0)
theorem row_dr {r a : Nat → Int32} (h : RowOk r a) (hF : Fresh a) (d : Nat) : ∀ k, k ≤ nN (a 0) → RowOk (drR r d k) (drA a d k) ∧ Fresh (drA a d k) ∧ drA a d k 0 = a 0 ∧ drA a d k 1 = a 1 ∧ drR r d k 84 = r 84 := by
  intro k
  induction k with
  | zero => intro _; exact ⟨h, hF, rfl, rfl, rfl⟩
  | succ k ih =>
    intro hk
    obtain ⟨i1, i2, i3, i4, i5⟩ := ih (by omega)
    obtain ⟨n, hn, e1, e2, e3⟩ := h.liv.ppl
    have := row_per i1 i2 (p := k) (k := 1) (m := 1) (v := if k = d then 1 else 0) (by rw [i3]; omega) (by decide) rfl (by
      by_cases q : k = d
      · rw [if_pos q]; exact ⟨1, by decide, rfl⟩
      · rw [if_neg q]; exact ⟨0, by decide, rfl⟩)
    rw [show 5 * 1 + k = 5 + k by omega, show 10 + 6 * k + 1 = 11 + 6 * k by omega] at this
    refine ⟨this.1, this.2, ?_, ?_, ?_⟩
    · rw [drA, up_ne (by omega)]; exact i3
    · rw [drA, up_ne (by omega)]; exact i4
    · rw [drR, up_ne (by omega)]; exact i5
theorem ob_draw {LT : Nat → PoS → Prop} (hLT : LTok LT) : Ob32 wp_X11_draw wp_X12_draw (Inv LT) := by
  intro u hI
  have hR := hI.1
  have hL := hR.liv
  obtain ⟨n, hn, e1, e2, e3⟩ := hL.ppl
  obtain ⟨s, hs, es⟩ := hR.st
  obtain ⟨m, hm, em⟩ := hL.2.1.2.2.2.2.2.1
  have em' : u.1 3 52 = nI m := by rw [hL.1.2.2.2.2, em]
  by_cases h0 : 0 < n
  · have hmn : m % n < n := Nat.mod_lt _ h0
    obtain ⟨hK1, hK2⟩ := row_keep hR
    obtain ⟨hX1, hX2⟩ := row_x hK1 hK2 (v := nI (nx m)) ⟨nx m, nx_le m, rfl⟩
    have N0 : nN (up (keepA (u.1 49)) 8 (nI (nx m)) 0) = n := by rw [up_ne (by decide), kp_lo hR (by decide) (by decide)]; exact e3
    obtain ⟨D1, D2, D3, D4, D5⟩ := row_dr hX1 hX2 (m % n) n (by omega)
    refine ⟨fun r u1 => r = nI (m % n) ∧ (∀ j, j ≠ 3 → u1.1 j = u.1 j) ∧ u1.1 3 = drR (up (remR (u.1 3) (nN (u.1 3 184)) (nN (u.1 49 3))) 52 (nI (nx m))) (m % n) n, fun K hK => ?_, fun r u1 hr K hK => ?_⟩
    · intro x1 ex
      rw [gI_def, e2] at ex
      subst ex
      refine ⟨fun _ => remX hR (fun z h1 h2 => nextX (b := 0) hm (by rw [h2, remR_out (by decide)]; exact em') ⟨nI_ne0 h0 (by omega), fun x6 e6 => ?_⟩), fun q => absurd (nI_lt (a := 0) h0 (by omega)) q⟩
      rw [q_rem (by omega) h0 (by omega)] at e6
      subst e6
      refine ⟨n + 1, ?_⟩
      have lp : ∀ k p, p + k = n → ∀ z' : PoS, (∀ j, j ≠ 3 → z'.1 j = u.1 j) → z'.1 3 = drR (up (remR (u.1 3) (nN (u.1 3 184)) (nN (u.1 49 3))) 52 (nI (nx m))) (m % n) p → wl_X11_draw_30 K (k + 1) (nI n) (nI (m % n)) (nI p) z' := by
        intro k
        induction k with
        | zero => intro p hp z' f g
                  rw [wl_X11_draw_30]
                  exact ⟨fun _ => hK _ _ ⟨rfl, f, by rw [g, show p = n by omega]⟩, fun q => absurd (nI_le (show n ≤ p by omega) (by omega)) q⟩
        | succ k ih =>
          intro p hp z' f g
          rw [wl_X11_draw_30, q_le (by omega) (by omega), q_eq (by omega) (by omega)]
          refine ⟨fun q => by omega, fun _ => ⟨fun q => ?_, fun q => ?_⟩⟩
          · unfold wj_X11_draw_52
            rw [show (5 : Int32) + nI p = nI (5 + p) by simp (disch := omega) only [q_lit, nI_add, pk_mul, q_sub, q_rem, q_div, q_vp, q_cl, q_lt, q_le, q_eq, q_neg1, gI_def], q_vp (by omega) (by omega), q_cl (by omega), nI_1]
            refine ⟨by omega, fun z7 e7 => ih (p + 1) (by omega) z7 (fun j hj => by rw [e7]; simp (disch := omega) only [gI_def, pI_s, pI_o, cI_s, cI_o, pL_1, pR_1]; exact f j hj) ?_⟩
            rw [e7]; simp (disch := omega) only [gI_def, pI_s, pI_o, cI_s, cI_o, pL_1, pR_1]; rw [g, drR, if_neg q]
          · unfold wj_X11_draw_52
            rw [show (5 : Int32) + nI p = nI (5 + p) by simp (disch := omega) only [q_lit, nI_add, pk_mul, q_sub, q_rem, q_div, q_vp, q_cl, q_lt, q_le, q_eq, q_neg1, gI_def], q_vp (by omega) (by omega), q_cl (by omega), nI_1]
            refine ⟨by omega, fun z7 e7 => ih (p + 1) (by omega) z7 (fun j hj => by rw [e7]; simp (disch := omega) only [gI_def, pI_s, pI_o, cI_s, cI_o, pL_1, pR_1]; exact f j hj) ?_⟩
            rw [e7]; simp (disch := omega) only [gI_def, pI_s, pI_o, cI_s, cI_o, pL_1, pR_1]; rw [g, drR, if_pos q]
      exact lp n 0 (Nat.zero_add n) _ (fun j hj => by simp (disch := omega) only [gI_def, pI_s, pI_o, cI_s, cI_o, pL_1, pR_1]; exact h1 j hj) (by simp (disch := omega) only [gI_def, pI_s, pI_o, cI_s, cI_o, pL_1, pR_1]; rw [h2]; rfl)
    · obtain ⟨rfl, hx1, hx2⟩ := hr
      have e49 := hx1 49 (by decide)
      refine ⟨fun _ => keepM hs (by rw [e49]; exact es) (fun z f g => ?_), fun q => ?_⟩
      · have g0 : z.1 49 0 = nI n := by rw [g, e49, kp_lo hR (by decide) (by decide), e1]
        rw [gI_def, g0]
        refine drawnM hm h0 (by omega) (by rw [g, e49, kp_lo hR (by decide) (by decide)]; exact em) ⟨n + 1, ?_⟩
        have lp : ∀ k p, p + k = n → ∀ z' : PoS, FrA u1 z' → z'.1 49 = drA (up (keepA (u.1 49)) 8 (nI (nx m))) (m % n) p → wl_X12_draw_28 K (k + 1) (nI (m % n)) (nI p) z' := by
          intro k
          induction k with
          | zero => intro p hp z' f' g'
                    obtain rfl : p = n := by omega
                    rw [wl_X12_draw_28, gI_def, g', D3, up_ne (by decide), kp_lo hR (by decide) (by decide), e1]
                    refine ⟨fun _ => hK _ ?_, fun q => absurd (nI_le (Nat.le_refl p) (by omega)) q⟩
                    refine inv_live hLT hI (fun j h3 h49 _ _ => ?_) (fun k _ => ?_) ?_ g' ?_ D1
                    · rw [f' j h49, hx1 j h3]
                    · rw [f' 48 (by decide), hx1 48 (by decide)]
                    · rw [f' 3 (by decide), hx2]
                    · rw [D4, up_ne (by decide)]; exact kp_lo hR (by decide) (by decide)
          | succ k ih =>
            intro p hp z' f' g'
            have D3' : drA (up (keepA (u.1 49)) 8 (nI (nx m))) (m % n) p 0 = nI n := by
              have := (row_dr hX1 hX2 (m % n) p (by omega)).2.2.1
              rw [this, up_ne (by decide), kp_lo hR (by decide) (by decide), e1]
            rw [wl_X12_draw_28, gI_def, g', D3', q_le (by omega) (by omega), q_eq (by omega) (by omega)]
            refine ⟨fun q => by omega, fun _ => ⟨fun q => ?_, fun q => ?_⟩⟩
            · refine putM (o := 1) (by omega) (by decide) ?_
              rw [nI_1]
              refine ih (p + 1) (by omega) _ (f'.put _ _) ?_
              simp (disch := omega) only [gI_def, pI_s, pI_o, cI_s, cI_o, pL_1, pR_1]
              rw [g', drA, if_neg q, show 10 + 6 * p + 1 = 11 + 6 * p by omega]
            · refine putM (o := 1) (by omega) (by decide) ?_
              rw [nI_1]
              refine ih (p + 1) (by omega) _ (f'.put _ _) ?_
              simp (disch := omega) only [gI_def, pI_s, pI_o, cI_s, cI_o, pL_1, pR_1]
              rw [g', drA, if_pos q, show 10 + 6 * p + 1 = 11 + 6 * p by omega]
        exact lp n 0 (Nat.zero_add n) _ (f.put _ _) (by simp (disch := omega) only [gI_def, pI_s, pI_o, cI_s, cI_o, pL_1, pR_1]; rw [g, e49]; rfl)
      · rw [gI_def, e49, e1, show (0 : Int32) = nI 0 from rfl, q_eq (by omega) (by omega)] at q; omega
  · refine ⟨fun r u1 => r = -1 ∧ u1 = u, fun K hK => ?_, fun r u1 hr K hK => ?_⟩
    · intro x1 ex
      rw [gI_def, e2, show n = 0 by omega] at ex
      exact ⟨fun q => by rw [ex] at q; exact absurd q (by decide), fun _ => hK _ _ ⟨rfl, rfl⟩⟩
    · obtain ⟨rfl, rfl⟩ := hr
      exact ⟨fun q => absurd (by rw [gI_def, e1, show n = 0 by omega]; rfl) q, fun _ => hK _ hI⟩
