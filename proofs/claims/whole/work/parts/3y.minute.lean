/-! A MINUTE, in both programs: from goal to end -/
section MINUTE
variable {w : Nat → (Nat → Int32) → Nat → Int32 → Int32} {q : Nat → (Nat → Int32) → Nat → Int32}
/-- what the reference's minute leaves alone -/
def FrR (u z : PoS) : Prop := (∀ j, j ≠ 49 → j ≠ 48 → j ≠ 54 → j ≠ 56 → j ≠ 57 → z.1 j = u.1 j) ∧ ∀ k, k ≠ 25 → z.1 48 k = u.1 48 k
theorem FrR.tr {u v z : PoS} (h1 : FrR u v) (h2 : FrR v z) : FrR u z := ⟨fun j a b c d e => by rw [h2.1 j a b c d e, h1.1 j a b c d e], fun k hk => by rw [h2.2 k hk, h1.2 k hk]⟩
theorem FrA.refl (u : PoS) : FrA u u := fun _ _ => rfl
theorem FrA.r {u z : PoS} (h : FrA u z) : FrR u z := ⟨fun j a _ _ _ _ => h j a, fun k _ => by rw [h 48 (by decide)]⟩
theorem FrS.r {u z : PoS} (h : FrS u z) : FrR u z := ⟨fun j _ _ c d e => h j c d e, fun k _ => by rw [h 48 (by decide) (by decide) (by decide)]⟩
theorem FrR.law {u z : PoS} (h : FrR u z) : LawS u z := ⟨fun j _ _ => h.1 j (by omega) (by omega) (by omega) (by omega) (by omega), h.1 51 (by decide) (by decide) (by decide) (by decide) (by decide)⟩
theorem rainM {ρ : Nat → Int32} {u : PoS} {p : Nat} (hC : Ctx u (nN (u.1 49 1)) w q) (h : Liv ρ (u.1 49)) (hp : p < nN (u.1 49 0)) {k9 : Nat} (hk9 : k9 ≤ 30) (e9 : u.1 49 9 = nI k9) {wr : Bool} (hw : u.1 48 24 = if wr = true then 1 else 0) {post : PoS → Prop} (K : ∀ z, FrR u z → z.1 48 25 = u.1 48 25 + 1 → z.1 49 = rnA q wr (u.1 49) p → post z) : wp_X12_rain (nI p) u post := by
  obtain ⟨a1, a2, a3, a4⟩ := atF_of h hp
  obtain ⟨c, wi, t, b', hc, hwi, ht, hb', h5, g1, g2, g3, g4, g5, g6, g7, g8⟩ := h.per hp
  obtain ⟨k, hk, ek⟩ := pvl_sm hC h.txt p
  obtain ⟨w1, w2, w3⟩ := wat_of h a1
  obtain ⟨c1, c2⟩ := cam_le (q := q) (u.1 49) p hk ek
  refine getM (o := 0) a4 (by decide) (poursM hC h hp h.txt (fun z fz => ?_))
  have e49 := fz 49 (by decide) (by decide) (by decide)
  rw [Nat.add_zero, a2, show (40 : Int32) + nI (atF (u.1 49) p) = nI (40 + atF (u.1 49) p) by simp (disch := omega) only [q_lit, nI_add, pk_mul, q_sub, q_rem, q_div, q_vp, q_cl, q_lt, q_le, q_eq, q_neg1, gI_def], q_vp (by omega) (by omega), q_cl (by omega), gI_def, e49, w2, ek, show (99 : Int32) = nI 99 from rfl, q_sub (by omega)]
  refine ⟨by omega, heldN (by omega) (by omega) ⟨by omega, by omega, fun z7 e7 => getM (o := 2) a4 (by decide) ?_⟩⟩
  have cm : min k (99 - nN (u.1 49 (40 + atF (u.1 49) p))) = cam q (u.1 49) p := by unfold cam; rw [ek, nN_nI (by omega)]
  rw [gI_def, e49, cm, w2, nI_add] at e7
  have e7' : z7.1 49 = up (u.1 49) (40 + atF (u.1 49) p) (nI (nN (u.1 49 (40 + atF (u.1 49) p)) + cam q (u.1 49) p)) := by
    rw [e7]; simp (disch := omega) only [gI_def, pI_s, pI_o, cI_s, cI_o, pL_1, pR_1]; rw [e49]
  rw [e7', up_ne (by omega), show 10 + 6 * p + 2 = 12 + 6 * p by omega, g5, show (3 : Int32) = nI 3 from rfl, nI_add]
  refine heldN (by omega) (by omega) (putM (o := 2) a4 (by decide) (getM (o := 3) a4 (by decide) ?_))
  simp (disch := omega) only [gI_def, pI_s, pI_o, cI_s, cI_o, pL_1, pR_1]
  rw [e7', up_ne (by omega), up_ne (by omega), show 10 + 6 * p + 3 = 13 + 6 * p by omega, g7, show (1 : Int32) = nI 1 from rfl, nI_add, show (999 : Int32) = nI 999 from rfl, show 10 + 6 * p + 2 = 12 + 6 * p by omega]
  refine heldN (by omega) (by omega) (putM (o := 3) a4 (by decide) (fun z20 e20 => ?_))
  have eB : z20.1 49 = rnB q (u.1 49) p := by
    rw [e20]
    simp (disch := omega) only [gI_def, pI_s, pI_o, cI_s, cI_o, pL_1, pR_1]
    rw [e7']
    unfold rnB
    rw [g5, g7, nN_nI (by omega), nN_nI (by omega), show 10 + 6 * p + 3 = 13 + 6 * p by omega]
  have f20 : ∀ j, j ≠ 49 → j ≠ 48 → j ≠ 54 → j ≠ 56 → j ≠ 57 → z20.1 j = u.1 j := fun j h1 h2 h3 h4 h5 => by rw [e20, e7]; simp (disch := omega) only [gI_def, pI_s, pI_o, cI_s, cI_o, pL_1, pR_1]; exact fz j h3 h4 h5
  have f48 : z20.1 48 = up (u.1 48) 25 (u.1 48 25 + 1) := by rw [e20, e7]; simp (disch := omega) only [gI_def, pI_s, pI_o, cI_s, cI_o, pL_1, pR_1]; rw [fz 48 (by decide) (by decide) (by decide)]; rfl
  rw [cm]
  refine writeM (c := atF (u.1 49) p) (wr := wr) (by rw [f48, up_ne (by decide)]; exact hw) a4 a1 (by rw [eB]; unfold rnB; rw [up_ne (by omega), up_ne (by omega), up_ne (by omega)]; exact a2) (by omega) hk9 (by rw [eB, rnB_lo a1 a4 (by omega)]; exact e9) (fun z22 f22 g22 => K z22 ⟨fun j h1 h2 h3 h4 h5 => by rw [f22 j h1]; exact f20 j h1 h2 h3 h4 h5, fun k hk => by rw [f22 48 (by decide), f48, up_ne hk]⟩ (by rw [f22 48 (by decide), f48, up_eq]) ?_)
  rw [g22, eB]
  rfl
theorem wt_0 {a : Nat → Int32} (z : gol w a = -1) : wt w a = -1 := by unfold wt; rw [if_pos z]
theorem wt_r {a : Nat → Int32} {p : Nat} (hp : p < 5) (z : gol w a = nI p) (y : a (10 + 6 * p) = a 7) : wt w a = nI p := by
  unfold wt
  rw [if_neg (by rw [z, show (1 : Int32) = nI 1 from rfl, q_neg1 (by omega)]; exact fun h => h), z, nN_nI (by omega), if_pos y]
theorem wt_g {a : Nat → Int32} {p : Nat} (hp : p < 5) (z : gol w a = nI p) (y : ¬ a (10 + 6 * p) = a 7) : wt w a = -1 := by
  unfold wt
  rw [if_neg (by rw [z, show (1 : Int32) = nI 1 from rfl, q_neg1 (by omega)]; exact fun h => h), z, nN_nI (by omega), if_neg y]
theorem passX {b : Nat} (hb1 : b ≤ 1) {a : Nat → Int32} {u : PoS} (hC : Ctx u (nN (a 1)) w q) (h : Liv (u.1 (3 + b)) a) {k9 : Nat} (hk9 : k9 ≤ 30) (e9 : a 9 = nI k9) {post : Int32 → PoS → Prop} (K : ∀ z, FrB b u z → z.1 (3 + b) = prR w q (u.1 (3 + b)) a → post (wt w a) z) : wp_X8_passOne b u post := by
  obtain ⟨s1, s2, s3⟩ := shw h
  obtain ⟨x1, x2, x3⟩ := h.xx
  have hq : ∀ p, ∃ k, k ≤ 9 ∧ pvl q a p = nI k := pvl_sm hC h.txt
  obtain ⟨l1, -, -⟩ := live_pr1 (w := w) h hq hk9 e9
  obtain ⟨o1, o2⟩ := ps1_LO (w := w) (q := q) h hk9 e9 true
  have fin : ∀ v, FrB b u v → v.1 (3 + b) = pr1 w q (u.1 (3 + b)) a → wj_X8_passOne_115 b post (wt w a) v := by
    intro v fv ev
    refine pX2 (a1 := ps1 w q true a) (by rw [ev]; exact l1) (fun z fz gz => K z (fun j h1 h2 => by rw [fz j h1, fv j h1 h2]) ?_)
    rw [gz, ev, o1 0 (by omega), o2]
    rfl
  refine goalX hb1 hC h (fun z2 f2 => ⟨fun ne => ?_, fun e => ?_⟩)
  · obtain ⟨p, p1, p2, p3, p4, p5⟩ := gol_p h ne
    obtain ⟨a1, a2, a3, a4⟩ := atF_of h p1
    have ez := f2 (3 + b) (by omega)
    rw [p2, zadd, q_cl (by omega), gI_def, gI_def, ez, a3, s3]
    refine ⟨rl_in (by omega), rl_in (k := 50) (by decide), fun y => ?_, fun y => ?_⟩
    · have y' : ¬ a (10 + 6 * p) = a 7 := by rw [a2, s2]; exact y
      obtain ⟨n, hn, hd⟩ := nx_dst h p1 p5 y'
      obtain ⟨n1, n2, n3⟩ := nxt_is (opn_30 a) s1 a1 hn hd
      refine ⟨rl_in (k := 50) (by decide), rl_in (by omega), openX (b := b) (by rw [ez]; exact h.2.2.2.opn) (nextOnX (opn_30 a) s1 a1 hn hd n1 n2 ⟨rl_in (k := 50) (by decide), fun z7 e7 => ?_⟩)⟩
      have := fin z7 (fun j h1 h2 => by rw [e7]; simp (disch := omega) only [gI_def, pI_s, pI_o, cI_s, cI_o, pL_1, pR_1]; exact f2 j h2) (by
        rw [e7]; simp (disch := omega) only [gI_def, pI_s, pI_o, cI_s, cI_o, pL_1, pR_1]; rw [ez]; unfold pr1; rw [if_neg ne, p3, if_neg y'])
      rw [wt_g p4 p2 y'] at this; exact this
    · have y' : a (10 + 6 * p) = a 7 := by rw [a2, s2]; exact y
      refine rainX hb1 (hC.mv ⟨fun j _ _ => f2 j (by omega), f2 51 (by decide)⟩) (by rw [ez]; exact h) p1 (fun z fz gz => ?_)
      have := fin z (fun j h1 h2 => by rw [fz j h1 h2, f2 j h2]) (by
        rw [gz, ez]; unfold pr1; rw [if_neg ne, p3, if_pos y'])
      rw [wt_r p4 p2 y'] at this; exact this
  · have ez := f2 (3 + b) (by omega)
    have shvP : pr1 w q (u.1 (3 + b)) a = up (up (u.1 (3 + b)) 52 (nI (nx (nN (a 8))))) 50 (shv a) := by unfold pr1; rw [if_pos e]
    have hw := wt_0 e
    refine ⟨rl_in (k := 50) (by decide), nextX (b := b) x1 (by rw [ez]; exact x3) ?_⟩
    rw [gI_def, ez, s3, show (4 : Int32) = nI 4 from rfl, q_rem (by omega) (by omega) (by omega)]
    refine sideX s1 (Nat.mod_lt _ (by decide)) (isOpenX (b := b) (a := a) ?_ (fun c hc ec ho => ⟨fun y => absurd y (by decide), fun _ => ?_⟩) (fun hno => ⟨fun _ => ⟨rl_in (k := 50) (by decide), ?_⟩, fun y => absurd rfl y⟩))
    · have := h.2.2.2.opn
      simp (disch := omega) only [gI_def, pI_s, pI_o, cI_s, cI_o, pL_1, pR_1]
      obtain ⟨q1, m, hm, q2, q3⟩ := this
      exact ⟨q1, m, hm, by rw [ez, up_ne (by decide)]; exact q2, q3⟩
    · refine ⟨rl_in (k := 50) (by decide), fun z22 e22 => ?_⟩
      rw [show Int32.toNatClampNeg 50 = 50 from rfl] at e22
      rw [← hw]
      refine fin z22 (fun j h1 h2 => by rw [e22]; simp (disch := omega) only [gI_def, pI_s, pI_o, cI_s, cI_o, pL_1, pR_1]; exact f2 j h2) ?_
      rw [shvP, e22]
      simp (disch := omega) only [gI_def, pI_s, pI_o, cI_s, cI_o, pL_1, pR_1]
      rw [ez]
      unfold shv
      rw [if_pos ⟨c, hc, ec, ho⟩]
    · refine ⟨rl_in (k := 50) (by decide), fun z22 e22 => ?_⟩
      rw [show Int32.toNatClampNeg 50 = 50 from rfl] at e22
      rw [← hw]
      refine fin z22 (fun j h1 h2 => by rw [e22]; simp (disch := omega) only [gI_def, pI_s, pI_o, cI_s, cI_o, pL_1, pR_1]; exact f2 j h2) ?_
      rw [shvP, e22]
      simp (disch := omega) only [gI_def, pI_s, pI_o, cI_s, cI_o, pL_1, pR_1]
      rw [ez, up_ne (by decide), h.1.2.2.2.1]
      unfold shv
      rw [if_neg]
      rintro ⟨c, hc, ec, ho⟩
      rw [hno c hc ec] at ho; exact Bool.noConfusion ho
theorem passM {ρ : Nat → Int32} {u : PoS} (hC : Ctx u (nN (u.1 49 1)) w q) (h : Liv ρ (u.1 49)) {k9 : Nat} (hk9 : k9 ≤ 30) (e9 : u.1 49 9 = nI k9) {wr : Bool} (hw : u.1 48 24 = if wr = true then 1 else 0) {post : PoS → Prop} (K : ∀ z, FrR u z → z.1 48 25 = (if wt w (u.1 49) = -1 then u.1 48 25 else u.1 48 25 + 1) → z.1 49 = psA w q wr (u.1 49) → post z) : wp_X12_pass u post := by
  obtain ⟨s1, s2, s3⟩ := shw h
  obtain ⟨x1, x2, x3⟩ := h.xx
  have hq : ∀ p, ∃ k, k ≤ 9 ∧ pvl q (u.1 49) p = nI k := pvl_sm hC h.txt
  obtain ⟨l1, -, -⟩ := live_pr1 (w := w) h hq hk9 e9
  obtain ⟨o1, o2⟩ := ps1_LO (w := w) (q := q) h hk9 e9 wr
  obtain ⟨m53, hm53, em53⟩ := l1.2.1.2.2.2.2.2.2
  have l2 : Liv (pr1 w q ρ (u.1 49)) (ps1 w q wr (u.1 49)) := l1.bk (fun _ _ => rfl) ⟨m53, hm53, em53⟩ (fun i h9 hi => ps1_wr h hk9 e9 wr hi h9)
  have fin : ∀ v g s0, FrR u v → v.1 49 = ps1 w q wr (u.1 49) → ((s0 = 0 ∧ wt w (u.1 49) = -1) ∨ (¬ s0 = 0 ∧ wt w (u.1 49) = g)) → v.1 48 25 = (if wt w (u.1 49) = -1 then u.1 48 25 else u.1 48 25 + 1) → wj_X12_pass_49 post g s0 v := by
    intro v g s0 fv ev hx hr
    refine pM2 (ρ := pr1 w q ρ (u.1 49)) (by rw [ev]; exact l2) hx (fun z fz gz => K z (fv.tr fz.r) (by rw [fz 48 (by decide)]; exact hr) ?_)
    rw [gz, ev, o1 0 (by omega), o2]
    rfl
  refine goalM hC h (fun z2 f2 => ⟨fun e => ?_, fun ne => ?_⟩)
  · have e49 := f2 49 (by decide) (by decide) (by decide)
    have psP : ps1 w q wr (u.1 49) = up (up (u.1 49) 8 (nI (nx (nN (u.1 49 8))))) 7 (shv (u.1 49)) := by unfold ps1; rw [if_pos e]
    have hwt := wt_0 e
    refine ⟨fun _ => ⟨fun _ => drawnM (n := 4) x1 (by decide) (by decide) (by rw [e49]; exact x2) ?_, fun y => absurd e y⟩, fun y => absurd rfl y⟩
    rw [gI_def, e49, s2]
    have op : opn ((pI z2 49 8 (nI (nx (nN (u.1 49 8))))).1 49) = opn (u.1 49) := by simp (disch := omega) only [gI_def, pI_s, pI_o, cI_s, cI_o, pL_1, pR_1]; rw [e49, opn_up (by omega)]
    refine sideM s1 (Nat.mod_lt _ (by decide)) (isFreeM (r := ρ) (fun c hc ec ho => ⟨fun y => absurd y (by decide), fun _ z7 e7 => ?_⟩) (fun hno => ⟨fun _ => ?_, fun y => absurd rfl y⟩))
    · rw [op] at ho
      refine fin z7 _ _ ?_ ?_ (Or.inl ⟨rfl, hwt⟩) ?_
      · rw [e7]; exact f2.r.tr (((FrA.refl z2).put _ _).put _ _).r
      · rw [psP, e7]; simp (disch := omega) only [gI_def, pI_s, pI_o, cI_s, cI_o, pL_1, pR_1]; rw [e49]; unfold shv; rw [if_pos ⟨c, hc, ec, ho⟩]
      · rw [if_pos hwt, e7]; simp (disch := omega) only [gI_def, pI_s, pI_o, cI_s, cI_o, pL_1, pR_1]; rw [f2 48 (by decide) (by decide) (by decide)]
    · refine fin _ _ _ ?_ ?_ (Or.inl ⟨rfl, hwt⟩) ?_
      · exact f2.r.tr ((FrA.refl z2).put _ _).r
      · rw [psP]; simp (disch := omega) only [gI_def, pI_s, pI_o, cI_s, cI_o, pL_1, pR_1]; rw [e49]; unfold shv
        rw [if_neg (by
          rintro ⟨c, hc, ec, ho⟩
          have := hno c hc ec
          rw [op] at this
          rw [this] at ho; exact Bool.noConfusion ho)]
        have := up_self (up (u.1 49) 8 (nI (nx (nN (u.1 49 8))))) 7
        rw [up_ne (by decide)] at this
        exact this.symm
      · rw [if_pos hwt]; simp (disch := omega) only [gI_def, pI_s, pI_o, cI_s, cI_o, pL_1, pR_1]; rw [f2 48 (by decide) (by decide) (by decide)]
  · obtain ⟨p, p1, p2, p3, p4, p5⟩ := gol_p h ne
    obtain ⟨a1, a2, a3, a4⟩ := atF_of h p1
    have e49 := f2 49 (by decide) (by decide) (by decide)
    rw [p2]
    refine getM (o := 0) a4 (by decide) ?_
    rw [Nat.add_zero, gI_def, e49]
    refine ⟨fun y => ?_, fun y => ?_⟩
    · obtain ⟨n, hn, hd⟩ := nx_dst h p1 p5 y
      obtain ⟨n1, n2, n3⟩ := nxt_is (opn_30 _) s1 a1 hn hd
      have hwt := wt_g p4 p2 y
      refine ⟨fun _ => ⟨fun y => ?_, fun _ => getM (o := 0) a4 (by decide) ?_⟩, fun y => absurd rfl y⟩
      · rw [show (1 : Int32) = nI 1 from rfl, q_neg1 (by omega)] at y; exact y.elim
      · rw [Nat.add_zero, gI_def, e49, s2, a2]
        refine nextToM s1 a1 hn (by rw [e49]; exact hd) (by rw [e49]; exact n1) (by rw [e49]; exact n2) (fun z fz z13 e13 => ?_)
        refine fin z13 _ _ ?_ ?_ (Or.inl ⟨rfl, hwt⟩) ?_
        · rw [e13]; exact (f2.tr fz.s).r.tr ((FrA.refl z).put _ _).r
        · rw [e13]; simp (disch := omega) only [gI_def, pI_s, pI_o, cI_s, cI_o, pL_1, pR_1]; rw [fz 49 (by decide), e49]; unfold ps1; rw [if_neg ne, p3, if_neg y]
        · rw [if_pos hwt, e13]; simp (disch := omega) only [gI_def, pI_s, pI_o, cI_s, cI_o, pL_1, pR_1]; rw [fz 48 (by decide), f2 48 (by decide) (by decide) (by decide)]
    · have hwt := wt_r p4 p2 y
      have hne : ¬ wt w (u.1 49) = -1 := by rw [hwt, show (1 : Int32) = nI 1 from rfl, q_neg1 (by omega)]; exact fun h => h
      refine ⟨fun y => absurd y (by decide), fun _ => ?_⟩
      refine rainM (ρ := ρ) (by rw [e49]; exact hC.mv f2.law) (by rw [e49]; exact h) (by rw [e49]; exact p1) hk9 (by rw [e49]; exact e9) (wr := wr) (by rw [f2 48 (by decide) (by decide) (by decide)]; exact hw) (fun z fz gr gz => ?_)
      refine fin z _ _ (f2.r.tr fz) ?_ (Or.inr ⟨by decide, hwt⟩) ?_
      · rw [gz, e49]; unfold ps1; rw [if_neg ne, p3, if_pos y]
      · rw [if_neg hne, gr, f2 48 (by decide) (by decide) (by decide)]
end MINUTE
