/-! ROSTERS, as the reference makes them -/
def FrO (u z : PoS) : Prop := ∀ j, j ≠ 65 → j ≠ 67 → z.1 j = u.1 j
def SrB (n : Nat) (z : PoS) (f : Nat → Nat) (e : Nat) : Prop := (∀ j, j < e → z.1 65 j = nI (f j) ∧ f j < n) ∧ ∀ j, e < j → j < 7 → z.1 65 j = -1
def S39 (n : Nat) (z : PoS) (f : Nat → Nat) (e : Nat) : Prop := SrB n z f e ∧ ∀ p, p < 5 → z.1 67 p = nI (ct f p e)
def Srr (n : Nat) (z : PoS) (f : Nat → Nat) (e p0 : Nat) : Prop := SrB n z f e ∧ z.1 65 e = (if p0 = 0 then -1 else nI (p0 - 1)) ∧ ∀ p, p < 5 → z.1 67 p = nI (ct f p e + (if p0 = p + 1 then 1 else 0))
def Lea (n : Nat) (z : PoS) (g : Nat → Nat) : Prop := (∀ j, j < 7 → z.1 65 j = nI (g j) ∧ g j < n) ∧ ∀ p, p < 5 → z.1 67 p = nI (ct g p 7)
section NEXT
variable {n k : Nat} {k134 : Int32 → PoS → Prop} {post : Int32 → PoS → Prop}
def WLr (k : Nat) (k134 : Int32 → PoS → Prop) (post : Int32 → PoS → Prop) (x : Int32) (z : PoS) : Prop := ∃ m, wl_X12_isNextRoster_2 k134 post m (nI k) x z
def G39 (k : Nat) (k134 : Int32 → PoS → Prop) (post : Int32 → PoS → Prop) (e p : Nat) (z : PoS) : Prop := ∃ m m39, wl_X12_isNextRoster_39 (fun (v16 : Int32) (v36 : Int32) (v46 : Int32) (u6 : PoS) => wj_X12_isNextRoster_67 (wl_X12_isNextRoster_2 k134 post m) post v16 v36 v46 u6) post m39 (nI k) (nI e) (nI p) z
theorem canM {z : PoS} {f : Nat → Nat} {e p : Nat} (hn : n ≤ 5) (hk : k ≤ 7) (he : e < 7) (hp : p < 5) (h : S39 n z f e) {K : Int32 → PoS → Prop} (h1 : okR k f e p = true → K 1 z) (h0 : okR k f e p = false → K 0 z) : wp_X12_canBeIt (nI e) (nI p) (nI k) z K := by
  obtain ⟨⟨s1, s2⟩, s3⟩ := h
  have hct := ct_le f p e
  unfold wp_X12_canBeIt
  rw [q_vp (by omega) (by omega), q_cl (by omega), gI_def, s3 p hp, q_le (by omega) (by omega)]
  refine ⟨hp, fun q => h0 (bF (fun h => by have := (okR_iff.mp h).1; omega)), fun q => ⟨fun e0 => h1 (okR_iff.mpr ⟨by omega, Or.inl ?_⟩), fun e0 => ?_⟩⟩
  · rw [show (0 : Int32) = nI 0 from rfl, q_eq (by omega) (by omega)] at e0; exact e0
  · rw [show (0 : Int32) = nI 0 from rfl, q_eq (by omega) (by omega)] at e0
    obtain ⟨g1, g2⟩ := s1 (e - 1) (by omega)
    rw [show (1 : Int32) = nI 1 from rfl, q_sub (by omega), q_vp (by omega) (by omega), q_cl (by omega), gI_def, g1, q_eq (by omega) (by omega)]
    refine ⟨by omega, fun q2 => h0 (bF (fun h => ?_)), fun q2 => h1 (okR_iff.mpr ⟨by omega, Or.inr q2⟩)⟩
    rcases (okR_iff.mp h).2 with y | y
    · exact e0 y
    · exact y q2
theorem nstep {u z : PoS} {f : Nat → Nat} {e p0 : Nat} (hn : n ≤ 5) (he : e < 7) (hp : p0 ≤ n) (fz : FrO u z) (h : Srr n z f e p0) (K : ∀ z', FrO u z' → S39 n z' f e → G39 k k134 post e p0 z') : WLr k k134 post (nI e) z := by
  obtain ⟨⟨s1, s2⟩, s3, s4⟩ := h
  cases p0 with
  | zero =>
    obtain ⟨m, m39, H⟩ := K z fz ⟨⟨s1, s2⟩, fun p hp => by rw [s4 p hp, if_neg (by omega), Nat.add_zero]⟩
    refine ⟨m + 1, ?_⟩
    rw [wl_X12_isNextRoster_2, q_vp (by omega) (by omega), q_cl (by omega), gI_def, s3, if_pos rfl]
    refine ⟨fun q => absurd q (nI_pos (by omega)), fun _ => ⟨fun q => absurd q (nI_ge (b := 7) (by omega) (by decide)), fun _ => ⟨by omega, fun x1 ex => ⟨fun _ => ⟨m39, ?_⟩, fun q => absurd (by rw [ex]; decide) q⟩⟩⟩⟩
    rw [ex]; exact H
  | succ p0 =>
    have hc := ct_le f p0 e
    obtain ⟨m, m39, H⟩ := K (pI z 67 p0 (nI (ct f p0 e))) (fun j h1 h2 => by rw [pI_o h2]; exact fz j h1 h2) ⟨⟨fun j hj => by rw [pI_o (by decide)]; exact s1 j hj, fun j h1 h2 => by rw [pI_o (by decide)]; exact s2 j h1 h2⟩, fun p hp => by
      rw [pI_s]
      by_cases y : p = p0
      · rw [y, up_eq]
      · rw [up_ne y, s4 p hp, if_neg (by omega), Nat.add_zero]⟩
    refine ⟨m + 1, ?_⟩
    rw [wl_X12_isNextRoster_2, q_vp (by omega) (by omega), q_cl (by omega), gI_def, s3, if_neg (by omega), Nat.add_sub_cancel]
    refine ⟨fun q => absurd q (nI_pos (by omega)), fun _ => ⟨fun q => absurd q (nI_ge (b := 7) (by omega) (by decide)), fun _ => ⟨by omega, fun x1 ex => ?_⟩⟩⟩
    subst ex
    rw [q_vp (by omega) (by omega), q_cl (by omega), gI_def, s4 p0 (by omega), if_pos rfl, nI_pred]
    refine ⟨fun q => absurd q (nI_pos (by omega)), fun _ => ⟨by omega, by omega, fun z13 e13 => ⟨m39, ?_⟩⟩⟩
    rw [e13, nI_1]; exact H
/-- from the search to the next day, or to the day before -/
theorem nback {z : PoS} {f : Nat → Nat} {e : Nat} (hn : n ≤ 5) (hN : z.1 49 0 = nI n) (he : e < 7) (h : S39 n z f e) (K : WLr k k134 post (if e = 0 then -1 else nI (e - 1)) (pI z 65 e (-1))) : G39 k k134 post e n z := by
  obtain ⟨m, H⟩ := K
  refine ⟨m, 1, ?_⟩
  have hN' : (pI z 65 e (-1)).1 49 0 = nI n := by rw [pI_o (by decide)]; exact hN
  rw [wl_X12_isNextRoster_39, gI_def, hN]
  refine ⟨fun _ => ⟨fun _ => ?_, fun q => absurd ?_ q⟩, fun q => absurd (nI_le (Nat.le_refl n) (by omega)) q⟩
  · unfold wj_X12_isNextRoster_89
    rw [q_vp (by omega) (by omega), q_cl (by omega)]
    refine ⟨by omega, fun z7 e7 => ?_⟩
    subst e7
    rw [gI_def, hN']
    refine ⟨fun _ => ⟨fun _ x8 e8 => ?_, fun q => absurd ?_ q⟩, fun q => absurd (nI_le (Nat.le_refl n) (by omega)) q⟩
    · rw [e8]
      by_cases e0 : e = 0
      · rw [if_pos e0] at H; rw [e0] at H ⊢; exact H
      · rw [if_neg e0] at H
        rw [show nI e + -1 = nI (e - 1) by rw [← Int32.sub_eq_add_neg, show (1 : Int32) = nI 1 from rfl, q_sub (by omega)]]; exact H
    · rw [gI_def, hN']; exact nI_le (Nat.le_refl n) (by omega)
  · rw [gI_def, hN]; exact nI_le (Nat.le_refl n) (by omega)
theorem nfwd {z : PoS} {f : Nat → Nat} {e p : Nat} (hn : n ≤ 5) (hk : k ≤ 7) (hN : z.1 49 0 = nI n) (he : e < 7) (hp : p < n) (h : S39 n z f e) (ok : okR k f e p = true) (K : WLr k k134 post (nI (e + 1)) (pI (pI z 65 e (nI p)) 67 p (nI (ct f p e + 1)))) : G39 k k134 post e p z := by
  obtain ⟨m, H⟩ := K
  refine ⟨m, 1, ?_⟩
  have hN' : (pI z 65 e (nI p)).1 49 0 = nI n := by rw [pI_o (by decide)]; exact hN
  have hc := ct_le f p e
  rw [wl_X12_isNextRoster_39, gI_def, hN, q_le (by omega) (by omega)]
  refine ⟨fun q => by omega, fun _ => canM hn hk he (by omega) h (fun _ => ⟨fun _ => ⟨fun q => ?_, fun _ => ?_⟩, fun q => absurd q (by decide)⟩) (fun q => absurd ok (bN q))⟩
  · rw [gI_def, hN, q_le (by omega) (by omega)] at q; omega
  · unfold wj_X12_isNextRoster_89
    rw [q_vp (by omega) (by omega), q_cl (by omega)]
    refine ⟨by omega, fun z7 e7 => ?_⟩
    subst e7
    rw [gI_def, hN', q_le (by omega) (by omega)]
    refine ⟨fun q => by omega, fun _ => ?_⟩
    rw [q_vp (by omega) (by omega), q_cl (by omega), gI_def, pI_o (show 67 ≠ 65 by decide), h.2 p (by omega), nI_1]
    refine ⟨by omega, by omega, fun z10 e10 => ?_⟩
    subst e10
    refine ⟨fun q => ?_, fun _ x8 e8 => ?_⟩
    · rw [gI_def, pI_o (show 49 ≠ 67 by decide), hN', q_le (by omega) (by omega)] at q; omega
    · rw [e8, nI_1]; exact H
theorem nskip {z : PoS} {f : Nat → Nat} {e p : Nat} (hn : n ≤ 5) (hk : k ≤ 7) (hN : z.1 49 0 = nI n) (he : e < 7) (hp : p < n) (h : S39 n z f e) (ok : okR k f e p = false) (K : G39 k k134 post e (p + 1) z) : G39 k k134 post e p z := by
  obtain ⟨m, m39, H⟩ := K
  refine ⟨m, m39 + 1, ?_⟩
  rw [wl_X12_isNextRoster_39, gI_def, hN, q_le (by omega) (by omega)]
  refine ⟨fun q => by omega, fun _ => canM hn hk he (by omega) h (fun q => absurd q (bN ok)) (fun _ => ⟨fun q => absurd rfl q, fun _ => ?_⟩)⟩
  rw [nI_1]; exact H
def Bkk (n : Nat) (z : PoS) (f : Nat → Nat) (e : Nat) : Prop := e = 0 ∨ (1 ≤ e ∧ Srr n z f (e - 1) (f (e - 1) + 1))
theorem nx_D {u : PoS} (hn : n ≤ 5) (hk : k ≤ 7) (hN : u.1 49 0 = nI n) : ∀ d e, e + d = 6 → ∀ m f p z, p + m = n → FrO u z → S39 n z f e → (cat (rbr n k d f) m p = [] → ∀ z', FrO u z' → Bkk n z' f e → WLr k k134 post (if e = 0 then -1 else nI (e - 1)) z') → (∀ g tl, cat (rbr n k d f) m p = g :: tl → ∀ z', FrO u z' → Lea n z' g → k134 7 z') → G39 k k134 post e p z := by
  intro d
  -- nobody is left
  have none : ∀ e f z, e < 7 → FrO u z → S39 n z f e → (∀ z', FrO u z' → Bkk n z' f e → WLr k k134 post (if e = 0 then -1 else nI (e - 1)) z') → G39 k k134 post e n z := by
    intro e f z he fz hS hb'
    have hNz : z.1 49 0 = nI n := by rw [fz 49 (by decide) (by decide)]; exact hN
    refine nback hn hNz he hS (hb' _ (fun j h1 h2 => by rw [pI_o h1]; exact fz j h1 h2) ?_)
    obtain ⟨⟨s1, s2⟩, s3⟩ := hS
    cases e with
    | zero => exact Or.inl rfl
    | succ e =>
      refine Or.inr ⟨by omega, ⟨fun j hj => ?_, fun j h1 h2 => ?_⟩, ?_, fun p hp => ?_⟩
      · rw [pI_s, up_ne (by omega)]; exact s1 j (by omega)
      · rw [pI_s]
        by_cases y : j = e + 1
        · rw [y, up_eq]
        · rw [up_ne y]; exact s2 j (by omega) h2
      · rw [Nat.add_sub_cancel, pI_s, up_ne (by omega), (s1 e (by omega)).1, if_neg (by omega), Nat.add_sub_cancel]
      · rw [Nat.add_sub_cancel, pI_o (by decide), s3 p hp, ct]
        congr 1
        by_cases y : f e = p
        · rw [if_pos y, if_pos (by omega)]
        · rw [if_neg y, if_neg (by omega)]
  -- the state behind a choice
  have fwdS : ∀ e f p z, e < 7 → p < n → S39 n z f e → (∀ j, j < e + 1 → (pI (pI z 65 e (nI p)) 67 p (nI (ct f p e + 1))).1 65 j = nI (fu f e p j) ∧ fu f e p j < n) ∧ (∀ p', p' < 5 → (pI (pI z 65 e (nI p)) 67 p (nI (ct f p e + 1))).1 67 p' = nI (ct (fu f e p) p' (e + 1))) ∧ (∀ j, e < j → j < 7 → (pI (pI z 65 e (nI p)) 67 p (nI (ct f p e + 1))).1 65 j = -1) := by
    intro e f p z he hp hS
    obtain ⟨⟨s1, s2⟩, s3⟩ := hS
    refine ⟨fun j hj => ?_, fun p' hp' => ?_, fun j h1 h2 => ?_⟩
    · rw [pI_o (by decide), pI_s]
      by_cases y : j = e
      · rw [y, up_eq, fu_s]; exact ⟨rfl, hp⟩
      · rw [up_ne y, fu_o y]; exact s1 j (by omega)
    · rw [pI_s, pI_o (by decide), ct, fu_s, ct_cg (g := f) e (fun j hj => fu_o (by omega))]
      by_cases y : p' = p
      · rw [y, up_eq, if_pos rfl]
      · rw [up_ne y, if_neg (fun h => y h.symm), Nat.add_zero]; exact s3 p' hp'
    · rw [pI_o (by decide), pI_s, up_ne (by omega)]; exact s2 j h1 h2
  have fwdF : ∀ e f p z, FrO u z → FrO u (pI (pI z 65 e (nI p)) 67 p (nI (ct f p e + 1))) := fun e f p z fz j h1 h2 => by rw [pI_o h2, pI_o h1]; exact fz j h1 h2
  induction d with
  | zero =>
    intro e he m
    obtain rfl : e = 6 := by omega
    induction m with
    | zero =>
      intro f p z hp fz hS hb' hl
      rw [show p = n by omega]
      exact none 6 f z (by decide) fz hS (hb' rfl)
    | succ m ih =>
      intro f p z hp fz hS hb' hl
      have hNz : z.1 49 0 = nI n := by rw [fz 49 (by decide) (by decide)]; exact hN
      cases ok : okR k f 6 p
      · have e1 : rbr n k 0 f p = [] := by unfold rbr; rw [if_neg (bN ok)]
        rw [cat, e1, List.nil_append] at hb' hl
        exact nskip hn hk hNz (by decide) (by omega) hS ok (ih f (p + 1) z (by omega) fz hS hb' hl)
      · have e1 : rbr n k 0 f p = [fu f 6 p] := by unfold rbr; rw [if_pos ok]; rfl
        rw [cat, e1] at hl
        obtain ⟨t1, t2, t3⟩ := fwdS 6 f p z (by decide) (by omega) hS
        refine nfwd hn hk hNz (by decide) (by omega) hS ok ⟨1, ?_⟩
        rw [wl_X12_isNextRoster_2]
        exact ⟨fun q => absurd q (by decide), fun _ => ⟨fun _ => hl _ _ rfl _ (fwdF 6 f p z fz) ⟨t1, t2⟩, fun q => absurd (by decide) q⟩⟩
  | succ d ihd =>
    intro e he m
    have ed : 6 - (d + 1) = e := by omega
    induction m with
    | zero =>
      intro f p z hp fz hS hb' hl
      rw [show p = n by omega]
      exact none e f z (by omega) fz hS (hb' rfl)
    | succ m ih =>
      intro f p z hp fz hS hb' hl
      have hNz : z.1 49 0 = nI n := by rw [fz 49 (by decide) (by decide)]; exact hN
      cases ok : okR k f e p
      · have e1 : rbr n k (d + 1) f p = [] := by unfold rbr; rw [ed, if_neg (bN ok)]
        rw [cat, e1, List.nil_append] at hb' hl
        exact nskip hn hk hNz (by omega) (by omega) hS ok (ih f (p + 1) z (by omega) fz hS hb' hl)
      · have e1 : rbr n k (d + 1) f p = cat (rbr n k d (fu f e p)) n 0 := by unfold rbr; rw [ed, if_pos ok]; rfl
        rw [cat, e1] at hb' hl
        obtain ⟨t1, t2, t3⟩ := fwdS e f p z (by omega) (by omega) hS
        refine nfwd hn hk hNz (by omega) (by omega) hS ok ?_
        refine nstep (u := u) (f := fu f e p) (p0 := 0) hn (by omega) (Nat.zero_le _) (fwdF e f p z fz) ⟨⟨t1, fun j h1 h2 => t3 j (by omega) h2⟩, by rw [if_pos rfl]; exact t3 (e + 1) (by omega) (by omega), fun p' hp' => by rw [if_neg (by omega), Nat.add_zero]; exact t2 p' hp'⟩ (fun z' f' S' => ?_)
        refine ihd (e + 1) (by omega) n (fu f e p) 0 z' (Nat.zero_add n) f' S' (fun hc z2 f2 B2 => ?_) (fun g tl hc z2 f2 L2 => ?_)
        · rcases B2 with B2 | ⟨-, B2⟩
          · omega
          · rw [Nat.add_sub_cancel, fu_s] at B2
            rw [if_neg (by omega), Nat.add_sub_cancel]
            rw [hc, List.nil_append] at hb' hl
            refine nstep (u := u) hn (by omega) (by omega) f2 B2 (fun z3 f3 S3 => ?_)
            obtain ⟨⟨w1, w2⟩, w3⟩ := S3
            refine ih f (p + 1) z3 (by omega) f3 ⟨⟨fun j hj => ?_, w2⟩, fun p' hp' => ?_⟩ hb' hl
            · have := w1 j hj; rw [fu_o (by omega)] at this; exact this
            · rw [w3 p' hp', ct_cg (g := f) e (fun j hj => fu_o (by omega))]
        · exact hl g (tl ++ cat (rbr n k (d + 1) f) m (p + 1)) (by rw [hc]; rfl) z2 f2 L2
theorem nx_B {u : PoS} (hn : n ≤ 5) (hk : k ≤ 7) (hN : u.1 49 0 = nI n) : ∀ e, e ≤ 6 → ∀ f p z, p ≤ n → FrO u z → Srr n z f e p → (rrm n k (e + 1) f p = [] → ∀ z', FrO u z' → k134 (-1) z') → (∀ g tl, rrm n k (e + 1) f p = g :: tl → ∀ z', FrO u z' → Lea n z' g → k134 7 z') → WLr k k134 post (nI e) z := by
  intro e
  induction e with
  | zero =>
    intro _ f p z hp fz hS hb' hl
    refine nstep (u := u) hn (by decide) hp fz hS (fun z' f' S' => nx_D hn hk hN 6 0 rfl (n - p) f p z' (by omega) f' S' (fun hc z2 f2 _ => ?_) (fun g tl hc z2 f2 L2 => ?_))
    · refine ⟨1, ?_⟩
      rw [wl_X12_isNextRoster_2]
      refine ⟨fun _ => hb' ?_ z2 f2, fun q => absurd (by decide) q⟩
      rw [rrm, show 6 - 0 = 6 from rfl, hc]; rfl
    · refine hl g tl ?_ z2 f2 L2
      rw [rrm, show 6 - 0 = 6 from rfl, hc, rrm, List.append_nil]
  | succ e ih =>
    intro he f p z hp fz hS hb' hl
    refine nstep (u := u) hn (by omega) hp fz hS (fun z' f' S' => nx_D hn hk hN (6 - (e + 1)) (e + 1) (by omega) (n - p) f p z' (by omega) f' S' (fun hc z2 f2 B2 => ?_) (fun g tl hc z2 f2 L2 => ?_))
    · rw [rrm, hc, List.nil_append, Nat.add_sub_cancel] at hb' hl
      rcases B2 with B2 | ⟨-, B2⟩
      · omega
      · rw [Nat.add_sub_cancel] at B2
        rw [if_neg (by omega), Nat.add_sub_cancel]
        have := (S'.1.1 e (by omega)).2
        exact ih (by omega) f (f e + 1) z2 (by omega) f2 B2 hb' hl
    · refine hl g (tl ++ rrm n k (e + 1) f (f e + 1)) ?_ z2 f2 L2
      rw [rrm, hc, Nat.add_sub_cancel]; rfl
end NEXT
theorem rrm_rest (n k : Nat) : ∀ e, e ≤ 6 → ∀ f p g tl, p ≤ n → (∀ j, j < e → f j < n) → rrm n k (e + 1) f p = g :: tl → tl = rrm n k 7 g (g 6 + 1) := by
  intro e
  induction e with
  | zero =>
    intro _ f p g tl hp _ h
    rw [rrm, rrm, List.append_nil] at h
    have := (r_rest n k (6 - 0) 0 rfl (n - p) f p g tl (by omega) h).2
    rw [rrm, List.append_nil] at this
    exact this.symm
  | succ e ih =>
    intro he f p g tl hp hf h
    rw [rrm, Nat.add_sub_cancel] at h
    cases hc : cat (rbr n k (6 - (e + 1)) f) (n - p) p with
    | nil =>
      rw [hc, List.nil_append] at h
      have := hf e (by omega)
      exact ih (by omega) f (f e + 1) g tl (by omega) (fun j hj => hf j (by omega)) h
    | cons g1 tl1 =>
      rw [hc, List.cons_append] at h
      obtain ⟨h1, h2⟩ := List.cons.inj h
      subst h1
      have := (r_rest n k (6 - (e + 1)) (e + 1) (by omega) (n - p) f p g1 tl1 (by omega) hc).2
      rw [Nat.add_sub_cancel] at this
      rw [this, h2]
def FrM3 (u z : PoS) : Prop := ∀ j, j ≠ 65 → j ≠ 66 → j ≠ 67 → z.1 j = u.1 j
theorem Lea.srr {n : Nat} {z : PoS} {g : Nat → Nat} (h : Lea n z g) : Srr n z g 6 (g 6 + 1) := by
  obtain ⟨h1, h2⟩ := h
  refine ⟨⟨fun j hj => h1 j (by omega), fun j a b => by omega⟩, by rw [if_neg (by omega), Nat.add_sub_cancel]; exact (h1 6 (by decide)).1, fun p hp => ?_⟩
  rw [h2 p hp, ct]
  congr 1
  by_cases y : g 6 = p
  · rw [if_pos y, if_pos (by omega)]
  · rw [if_neg y, if_neg (by omega)]
theorem lay1 {u : PoS} {a : Nat → Int32} {n k : Nat} (hn : n ≤ 5) (ea : u.1 49 = a) (hc : ∀ p d, cs a p d ≤ 99) (hcs : ∀ p d, p < 5 → d < 7 → a (130 + (7 * p + d)) = nI (cs a p d)) {k152 : Int32 → PoS → Prop} {post : Int32 → PoS → Prop} {m : Nat} (B : Nat × (Nat → Nat)) (z : PoS) (g : Nat → Nat) (hB : B.1 ≤ 1000000) (fz : FrM3 u z) (hLe : Lea n z g) (h66 : B.1 < 1000000 → ∀ j, j < 7 → z.1 66 j = nI (B.2 j)) (K : ∀ z1, FrM3 u z1 → Lea n z1 g → ((upB (cs a) B g).1 < 1000000 → ∀ j, j < 7 → z1.1 66 j = nI ((upB (cs a) B g).2 j)) → wj_X12_layRoster_141 (wl_X12_layRoster_52 k152 post m) post (nI k) (nI (upB (cs a) B g).1) z1) : wl_X12_layRoster_52 k152 post (m + 1) (nI k) (nI B.1) 1 z := by
  obtain ⟨l1, l2⟩ := hLe
  rw [wl_X12_layRoster_52]
  refine ⟨fun q => absurd q (by decide), fun _ => ⟨8, ?_⟩⟩
  have e49 : z.1 49 = a := by rw [fz 49 (by decide) (by decide) (by decide)]; exact ea
  have sum : ∀ m' d, d + m' = 7 → wl_X12_layRoster_62 (fun (v111 : Int32) (v211 : Int32) (v411 : Int32) (u11 : PoS) => ((v211 ≤ v411 → wj_X12_layRoster_141 (wl_X12_layRoster_52 k152 post m) post v111 v211 u11) ∧ (¬ v211 ≤ v411 → (∃ n114, wl_X12_layRoster_114 (fun (v116 : Int32) (v216 : Int32) (u16 : PoS) => wj_X12_layRoster_141 (wl_X12_layRoster_52 k152 post m) post v116 v216 u16) post n114 v111 v411 0 u11)))) post (m' + 1) (nI k) (nI B.1) (nI (smC (cs a) g d)) (nI d) z := by
    intro m'
    induction m' with
    | zero =>
      intro d hd
      obtain rfl : d = 7 := by omega
      have hs := smC_le hc g 7
      rw [wl_X12_layRoster_62]
      refine ⟨fun _ => ?_, fun q => absurd (by decide) q⟩
      rw [q_le (by omega) (by omega)]
      refine ⟨fun q => ?_, fun q => ⟨8, ?_⟩⟩
      · have e : upB (cs a) B g = B := by unfold upB; rw [if_neg (by omega)]
        rw [e] at K
        exact K z fz ⟨l1, l2⟩ h66
      · have e : upB (cs a) B g = (smC (cs a) g 7, g) := by unfold upB; rw [if_pos (by omega)]
        rw [e] at K
        have cp : ∀ m2 j, j + m2 = 7 → ∀ z1, (∀ i, i ≠ 66 → z1.1 i = z.1 i) → (∀ i, i < j → z1.1 66 i = nI (g i)) → wl_X12_layRoster_114 (fun (v116 : Int32) (v216 : Int32) (u16 : PoS) => wj_X12_layRoster_141 (wl_X12_layRoster_52 k152 post m) post v116 v216 u16) post (m2 + 1) (nI k) (nI (smC (cs a) g 7)) (nI j) z1 := by
          intro m2
          induction m2 with
          | zero =>
            intro j hj z1 f1 g1
            obtain rfl : j = 7 := by omega
            rw [wl_X12_layRoster_114]
            refine ⟨fun _ => K z1 (fun i a b c => by rw [f1 i b, fz i a b c]) ⟨fun i hi => by rw [f1 65 (by decide)]; exact l1 i hi, fun p hp => by rw [f1 67 (by decide)]; exact l2 p hp⟩ (fun _ => g1), fun q => absurd (by decide) q⟩
          | succ m2 ih2 =>
            intro j hj z1 f1 g1
            rw [wl_X12_layRoster_114, q_vp (by omega) (by omega), q_cl (by omega), gI_def, f1 65 (by decide), (l1 j (by omega)).1, nI_1]
            refine ⟨fun q => absurd q (nI_ge (b := 7) (by omega) (by decide)), fun _ => ⟨by omega, by omega, fun z14 e14 => ih2 (j + 1) (by omega) z14 (fun i hi => by rw [e14, pI_o hi]; exact f1 i hi) (fun i hi => ?_)⟩⟩
            rw [e14, pI_s]
            by_cases y : i = j
            · rw [y, up_eq]
            · rw [up_ne y]; exact g1 i (by omega)
        exact cp 7 0 rfl z (fun _ _ => rfl) (fun i hi => by omega)
    | succ m' ih =>
      intro d hd
      obtain ⟨g1, g2⟩ := l1 d (by omega)
      rw [wl_X12_layRoster_62, q_vp (by omega) (by omega), q_cl (by omega), gI_def, g1, show ((130 : Int32) + 7 * nI (g d)) + nI d = nI (130 + (7 * g d + d)) by simp (disch := omega) only [q_lit, nI_add, pk_mul, q_sub, q_rem, q_div, q_vp, q_cl, q_lt, q_le, q_eq, q_neg1, gI_def]; omega, q_vp (by omega) (by omega), q_cl (by omega), gI_def, e49, hcs (g d) d (by omega) (by omega), nI_add, nI_1]
      refine ⟨fun q => absurd q (nI_ge (b := 7) (by omega) (by decide)), fun _ => ⟨by omega, by omega, fun x9 e9 => ?_⟩⟩
      rw [e9]; exact ih (d + 1) (by omega)
  exact sum 7 0 rfl
theorem lay52 {u : PoS} {a : Nat → Int32} {n k : Nat} (hn : n ≤ 5) (hk : k ≤ 7) (ea : u.1 49 = a) (hN : a 0 = nI n) (hc : ∀ p d, cs a p d ≤ 99) (hcs : ∀ p d, p < 5 → d < 7 → a (130 + (7 * p + d)) = nI (cs a p d)) {k152 : Int32 → PoS → Prop} {post : Int32 → PoS → Prop} : ∀ (L : List (Nat → Nat)) (B : Nat × (Nat → Nat)) (z : PoS) (g : Nat → Nat), L = rrm n k 7 g (g 6 + 1) → B.1 ≤ 1000000 → FrM3 u z → Lea n z g → (B.1 < 1000000 → ∀ j, j < 7 → z.1 66 j = nI (B.2 j)) → (∀ z', FrM3 u z' → ((foB (cs a) (upB (cs a) B g) L).1 < 1000000 → ∀ j, j < 7 → z'.1 66 j = nI ((foB (cs a) (upB (cs a) B g) L).2 j)) → k152 (nI (foB (cs a) (upB (cs a) B g) L).1) z') → wl_X12_layRoster_52 k152 post (L.length + 2) (nI k) (nI B.1) 1 z := by
  intro L
  induction L with
  | nil =>
    intro B z g hL hB fz hLe h66 K
    refine lay1 (m := 1) hn ea hc hcs B z g hB fz hLe h66 (fun z1 f1 L1 h1 => ?_)
    refine nx_B (u := z1) hn hk (by rw [f1 49 (by decide) (by decide) (by decide), ea]; exact hN) 6 (by decide) g (g 6 + 1) z1 (by have := (L1.1 6 (by decide)).2; omega) (fun _ _ _ => rfl) L1.srr (fun _ z' f' => ⟨fun _ => ?_, fun q => absurd (by decide) q⟩) (fun g' tl hr => by rw [← hL] at hr; exact absurd hr (by simp))
    show wl_X12_layRoster_52 k152 post 1 (nI k) (nI (upB (cs a) B g).1) 0 z'
    rw [wl_X12_layRoster_52]
    exact ⟨fun _ => K z' (fun j a b c => by rw [f' j a c, f1 j a b c]) (fun hlt j hj => by rw [f' 66 (by decide) (by decide)]; exact h1 hlt j hj), fun q => absurd rfl q⟩
  | cons g' tl ih =>
    intro B z g hL hB fz hLe h66 K
    refine lay1 (m := tl.length + 2) hn ea hc hcs B z g hB fz hLe h66 (fun z1 f1 L1 h1 => ?_)
    have hB1 : (upB (cs a) B g).1 ≤ 1000000 := Nat.le_trans (foB_le (cs a) [g] B) hB
    refine nx_B (u := z1) hn hk (by rw [f1 49 (by decide) (by decide) (by decide), ea]; exact hN) 6 (by decide) g (g 6 + 1) z1 (by have := (L1.1 6 (by decide)).2; omega) (fun _ _ _ => rfl) L1.srr (fun hr => by rw [← hL] at hr; exact absurd hr (by simp)) (fun g2 tl2 hr z' f' L' => ⟨fun q => absurd q (by decide), fun _ => ?_⟩)
    have hr2 := hr
    rw [← hL] at hr2
    obtain ⟨e1, e2⟩ := List.cons.inj hr2
    subst e1 e2
    exact ih (upB (cs a) B g) z' g' (rrm_rest n k 6 (by decide) g (g 6 + 1) g' tl (by have := (L1.1 6 (by decide)).2; omega) (fun j hj => (L1.1 j (by omega)).2) hr) hB1 (fun j a b c => by rw [f' j a c, f1 j a b c]) L' (fun hlt j hj => by rw [f' 66 (by decide) (by decide)]; exact h1 hlt j hj) K
theorem layM {u : PoS} {r a : Nat → Int32} (h : RowOk r a) (ea : u.1 49 = a) {k : Nat} (hk : k ≤ 7) {post : Int32 → PoS → Prop} (K : ∀ (z : PoS) (B : Nat × (Nat → Nat)), B = foB (cs a) (1000000, fun _ => 0) (rlv (nN (a 0)) k 7 (fun _ => 0)) → FrM3 u z → (B.1 < 1000000 → ∀ j, j < 7 → z.1 66 j = nI (B.2 j)) → post (if B.1 < 1000000 then nI B.1 else -1) z) : wp_X12_layRoster (nI k) u post := by
  obtain ⟨n, hn, n1, n2, n3⟩ := h.liv.ppl
  obtain ⟨hc, hcs⟩ := cs_of h
  rw [n3] at K
  have bl : (foB (cs a) (1000000, fun _ => 0) (rlv n k 7 (fun _ => 0))).1 ≤ 1000000 := foB_le _ _ _
  generalize hB : foB (cs a) (1000000, fun _ => 0) (rlv n k 7 (fun _ => 0)) = B at *
  have fin : ∀ z, FrM3 u z → (B.1 < 1000000 → ∀ j, j < 7 → z.1 66 j = nI (B.2 j)) → ((¬ nI B.1 = 1000000 → post (nI B.1) z) ∧ (nI B.1 = 1000000 → post (-1) z)) := by
    intro z fz g
    have K := K z B rfl fz g
    rw [show (1000000 : Int32) = nI 1000000 from rfl, q_eq (by omega) (by omega)]
    refine ⟨fun q => ?_, fun q => ?_⟩
    · rw [if_pos (by omega)] at K; exact K
    · rw [if_neg (by omega)] at K; exact K
  refine ⟨6, ?_⟩
  have main : ∀ z, FrM3 u z → (∀ p, p < 5 → z.1 67 p = nI 0) → (∀ j, j < 7 → z.1 65 j = -1) → wp_X12_isNextRoster (nI k) 0 z (fun (r7 : Int32) (u8 : PoS) => (∃ n52, wl_X12_layRoster_52 (fun (v219 : Int32) (u19 : PoS) => ((¬ v219 = 1000000 → post v219 u19) ∧ (v219 = 1000000 → post (-1) u19))) post n52 (nI k) 1000000 r7 u8)) := by
    intro z fz g67 g65
    have er : rrm n k 1 (fun _ => 0) 0 = rlv n k 7 (fun _ => 0) := by rw [rrm, rrm, List.append_nil]; rfl
    refine nx_B (u := z) hn hk (by rw [fz 49 (by decide) (by decide) (by decide), ea]; exact n1) 0 (by decide) (fun _ => 0) 0 z (Nat.zero_le _) (fun _ _ _ => rfl) ⟨⟨fun j hj => by omega, fun j h1 h2 => g65 j h2⟩, by rw [if_pos rfl]; exact g65 0 (by decide), fun p hp => by rw [if_neg (by omega)]; exact g67 p hp⟩ (fun hr z' f' => ⟨fun _ => ⟨1, ?_⟩, fun q => absurd (by decide) q⟩) (fun g tl hr z' f' L' => ⟨fun q => absurd q (by decide), fun _ => ⟨tl.length + 2, ?_⟩⟩)
    · rw [er] at hr
      rw [hr] at hB
      have hB : B = (1000000, fun _ => 0) := hB.symm
      have := fin z' (fun j a b c => by rw [f' j a c, fz j a b c]) (fun q => by rw [hB] at q; exact absurd q (Nat.lt_irrefl _))
      rw [hB] at this
      rw [wl_X12_layRoster_52]
      exact ⟨fun _ => this, fun q => absurd rfl q⟩
    · have hB2 : foB (cs a) (upB (cs a) (1000000, fun _ => 0) g) tl = B := by
        rw [← hB, ← er, hr]; rfl
      refine lay52 hn hk ea n1 hc (fun p d hp hd => (hcs p d hp hd).1) tl (1000000, fun _ => 0) z' g (rrm_rest n k 0 (by decide) (fun _ => 0) 0 g tl (Nat.zero_le _) (fun j hj => by omega) hr) (Nat.le_refl _) (fun j a b c => by rw [f' j a c, fz j a b c]) L' (fun q => absurd q (Nat.lt_irrefl _)) (fun z2 f2 h2 => ?_)
      rw [hB2] at h2 ⊢
      exact fin z2 f2 h2
  have its : ∀ m j, j + m = 7 → ∀ z, FrM3 u z → (∀ p, p < 5 → z.1 67 p = nI 0) → (∀ i, i < j → z.1 65 i = -1) → wl_X12_layRoster_22 (fun (v16 : Int32) (u6 : PoS) => wp_X12_isNextRoster v16 0 u6 (fun (r7 : Int32) (u8 : PoS) => (∃ n52, wl_X12_layRoster_52 (fun (v219 : Int32) (u19 : PoS) => ((¬ v219 = 1000000 → post v219 u19) ∧ (v219 = 1000000 → post (-1) u19))) post n52 v16 1000000 r7 u8))) post (m + 1) (nI k) (nI j) z := by
    intro m
    induction m with
    | zero =>
      intro j hj z fz g67 g65
      obtain rfl : j = 7 := by omega
      rw [wl_X12_layRoster_22]
      exact ⟨fun _ => main z fz g67 g65, fun q => absurd (by decide) q⟩
    | succ m ih =>
      intro j hj z fz g67 g65
      rw [wl_X12_layRoster_22, q_vp (by omega) (by omega), q_cl (by omega), nI_1]
      refine ⟨fun q => absurd q (nI_ge (b := 7) (by omega) (by decide)), fun _ => ⟨by omega, fun z4 e4 => ih (j + 1) (by omega) z4 (fun i a b c => by rw [e4, pI_o a]; exact fz i a b c) (fun p hp => by rw [e4, pI_o (by decide)]; exact g67 p hp) (fun i hi => ?_)⟩⟩
      rw [e4, pI_s]
      by_cases y : i = j
      · rw [y, up_eq]
      · rw [up_ne y]; exact g65 i (by omega)
  have oft : ∀ m p, p + m = 5 → ∀ z, FrM3 u z → (∀ p', p' < p → z.1 67 p' = nI 0) → wl_X12_layRoster_2 (fun (v13 : Int32) (u3 : PoS) => (∃ n22, wl_X12_layRoster_22 (fun (v16 : Int32) (u6 : PoS) => wp_X12_isNextRoster v16 0 u6 (fun (r7 : Int32) (u8 : PoS) => (∃ n52, wl_X12_layRoster_52 (fun (v219 : Int32) (u19 : PoS) => ((¬ v219 = 1000000 → post v219 u19) ∧ (v219 = 1000000 → post (-1) u19))) post n52 v16 1000000 r7 u8))) post n22 v13 0 u3)) post (m + 1) (nI k) (nI p) z := by
    intro m
    induction m with
    | zero =>
      intro p hp z fz g67
      obtain rfl : p = 5 := by omega
      rw [wl_X12_layRoster_2]
      exact ⟨fun _ => ⟨8, its 7 0 rfl z fz g67 (fun i hi => by omega)⟩, fun q => absurd (by decide) q⟩
    | succ m ih =>
      intro p hp z fz g67
      rw [wl_X12_layRoster_2, q_vp (by omega) (by omega), q_cl (by omega), nI_1]
      refine ⟨fun q => absurd q (nI_ge (b := 5) (by omega) (by decide)), fun _ => ⟨by omega, fun z4 e4 => ih (p + 1) (by omega) z4 (fun i a b c => by rw [e4, pI_o c]; exact fz i a b c) (fun i hi => ?_)⟩⟩
      rw [e4, pI_s]
      by_cases y : i = p
      · rw [y, up_eq]; rfl
      · rw [up_ne y]; exact g67 i (by omega)
  exact oft 5 0 rfl u (fun _ _ _ _ => rfl) (fun p' hp' => by omega)
/-! roster, swap -/
theorem foB_in (c : Nat → Nat → Nat) : ∀ (L : List (Nat → Nat)) (B : Nat × (Nat → Nat)), foB c B L = B ∨ (foB c B L).2 ∈ L := by
  intro L
  induction L with
  | nil => intro B; exact Or.inl rfl
  | cons g L ih =>
    intro B
    have e : foB c B (g :: L) = foB c (upB c B g) L := rfl
    rw [e]
    rcases ih (upB c B g) with h | h
    · rw [h]
      unfold upB
      by_cases z : smC c g 7 < B.1
      · rw [if_pos z]; right; simp
      · rw [if_neg z]; exact Or.inl rfl
    · right; exact List.mem_cons_of_mem _ h
theorem rlv_lt (n k : Nat) : ∀ d, d ≤ 7 → ∀ f g, g ∈ rlv n k d f → (∀ j, j < 7 - d → f j < n) → ∀ j, j < 7 → g j < n := by
  intro d
  induction d with
  | zero =>
    intro _ f g hg hf j hj
    rw [rlv, List.mem_singleton] at hg
    rw [hg]; exact hf j (by omega)
  | succ d ih =>
    intro hd f g hg hf
    rw [rlv_s] at hg
    obtain ⟨q, -, hq, hm⟩ := cat_mem n 0 hg
    unfold rbr at hm
    by_cases ok : okR k f (6 - d) q = true
    · rw [if_pos ok] at hm
      refine ih (by omega) _ g hm (fun j hj => ?_)
      by_cases y : j = 6 - d
      · rw [y, fu_s]; omega
      · rw [fu_o y]; exact hf j (by omega)
    · rw [if_neg ok] at hm; exact absurd hm (by simp)
theorem best_lt {a : Nat → Int32} {n k : Nat} {B : Nat × (Nat → Nat)} (hB : B = foB (cs a) (1000000, fun _ => 0) (rlv n k 7 (fun _ => 0))) (h : B.1 < 1000000) : ∀ j, j < 7 → B.2 j < n := by
  rcases foB_in (cs a) (rlv n k 7 (fun _ => 0)) (1000000, fun _ => 0) with e | e
  · rw [e] at hB; rw [hB] at h; exact absurd h (Nat.lt_irrefl _)
  · rw [← hB] at e
    exact rlv_lt n k 7 (Nat.le_refl _) _ _ e (fun j hj => by omega)
theorem inv_ro {LT : Nat → PoS → Prop} (hLT : LTok LT) {u u1 z : PoS} (hI : Inv LT u) (h1 : ∀ j, j < 38 ∨ 42 < j → u1.1 j = u.1 j) (h2 : FrM3 u1 z) : Inv LT z :=
  inv_scr hLT hI (fun j hj => by rw [h2 j (by omega) (by omega) (by omega), h1 j (by omega)]) (fun k _ => by rw [h2 48 (by decide) (by decide) (by decide), h1 48 (by decide)])
theorem ob_roster {LT : Nat → PoS → Prop} (hLT : LTok LT) (x y : Int32) : Ob32 (wp_X11_roster x y) (wp_X12_roster x y) (Inv LT) := by
  intro u hI
  have hR := hI.1
  by_cases ok : (∃ k, 1 ≤ k ∧ k ≤ 7 ∧ x = nI k) ∧ (y = -1 ∨ ∃ d, d < 7 ∧ y = nI d)
  · obtain ⟨⟨k, hk1, hk2, rfl⟩, hy⟩ := ok
    have hi : ¬ nI k < 1 := nI_nlt (b := 1) (a := k) (by omega) (by omega)
    have hi' : ¬ (7 : Int32) < nI k := nI_nlt (b := k) (a := 7) (by omega) (by omega)
    generalize hB : foB (cs (u.1 49)) (1000000, fun _ => 0) (rlv (nN (u.1 49 0)) k 7 (fun _ => 0)) = B
    have bl : B.1 ≤ 1000000 := by rw [← hB]; exact foB_le _ _ _
    refine ⟨fun r u1 => r = (if B.1 < 1000000 then (if y = -1 then nI B.1 else nI (B.2 (nN y))) else -1) ∧ ∀ j, j < 38 ∨ 42 < j → u1.1 j = u.1 j, fun K hK => ?_, fun r u1 hr K hK => ?_⟩
    · have main : wj_X11_roster_22 K (nI k) y u := by
        refine makeX hR hk2 (fun z B' hB' fz g39 g38 => ?_)
        rw [hB] at hB'
        subst hB'
        have K1 := hK _ z ⟨rfl, fz⟩
        by_cases z1 : B'.1 < 1000000
        · rw [if_pos z1] at K1 ⊢
          refine ⟨fun _ => ⟨fun z2 => ?_, fun z2 => ?_⟩, fun z2 => absurd z2 (by decide)⟩
          · obtain ⟨d, hd, rfl⟩ := hy.resolve_left z2
            rw [if_neg z2, nN_nI (by omega)] at K1
            rw [q_vp (by omega) (by omega), q_cl (by omega), gI_def, g39 z1 d hd]
            exact ⟨hd, K1⟩
          · rw [if_pos z2] at K1
            rw [gI_def, g38]; exact K1
        · rw [if_neg z1] at K1 ⊢
          exact ⟨fun z2 => absurd rfl z2, fun _ => K1⟩
      refine within_t hi hi' ⟨fun z => absurd z (by decide), fun _ => ⟨fun _ => main, fun z => ?_⟩⟩
      obtain ⟨d, hd, e⟩ := hy.resolve_left z
      rw [e] at main ⊢
      exact dayX_t hd ⟨fun z => absurd z (by decide), fun _ => main⟩
    · obtain ⟨rfl, f1⟩ := hr
      have e49 : u1.1 49 = u.1 49 := f1 49 (by decide)
      refine isIn_t hi hi' ⟨fun z => absurd z (by decide), fun _ => isIn_t ?_ ?_ ⟨fun _ => layM hR e49 hk2 (fun z B' hB' fz g66 => ?_), fun z => absurd z (by decide)⟩⟩
      · rcases hy with rfl | ⟨d, hd, rfl⟩
        · decide
        · show ¬ nI d < -nI 1
          rw [q_ltn (by omega)]; exact id
      · rcases hy with rfl | ⟨d, hd, rfl⟩
        · decide
        · exact nI_nlt (b := d) (a := 6) (by omega) (by decide)
      · rw [hB] at hB'
        subst hB'
        have K1 := hK z (inv_ro hLT hI f1 fz)
        by_cases z1 : B'.1 < 1000000
        · rw [if_pos z1] at K1 ⊢
          refine ⟨fun _ => ⟨fun z2 => ?_, fun z2 => ?_⟩, fun z2 => absurd z2 (q_neg0 (by omega))⟩
          · obtain ⟨d, hd, rfl⟩ := hy.resolve_left z2
            rw [if_neg z2, nN_nI (by omega)] at K1
            rw [q_vp (by omega) (by omega), q_cl (by omega), gI_def, g66 z1 d hd]
            exact ⟨hd, K1⟩
          · rw [if_pos z2] at K1; exact K1
        · rw [if_neg z1] at K1 ⊢
          exact ⟨fun z2 => absurd rfl z2, fun _ => K1⟩
  · refine ⟨fun r u1 => r = -1 ∧ u1 = u, fun K hK => ?_, fun r u1 hr K hK => ?_⟩
    · have K0 := hK _ _ ⟨rfl, rfl⟩
      rcases out1 (m := 7) (by decide) (x := x) with z | ⟨k, h1, h2, rfl⟩
      · exact within_f z ⟨fun _ => K0, fun z => absurd rfl z⟩
      · refine within_t (nI_nlt (b := 1) (a := k) (by omega) (by omega)) (nI_nlt (b := k) (a := 7) (by omega) (by omega)) ⟨fun z => absurd z (by decide), fun _ => ⟨fun z => absurd ⟨⟨k, h1, h2, rfl⟩, Or.inl z⟩ ok, fun z => dayX_f ?_ ⟨fun _ => K0, fun z => absurd rfl z⟩⟩⟩
        rcases rng 6 (by decide) y with ⟨d, hd, e⟩ | q
        · exact absurd ⟨⟨k, h1, h2, rfl⟩, Or.inr ⟨d, by omega, e⟩⟩ ok
        · exact q
    · obtain ⟨rfl, rfl⟩ := hr
      have K0 := hK _ hI
      rcases out1 (m := 7) (by decide) (x := x) with z | ⟨k, h1, h2, rfl⟩
      · exact isIn_f z ⟨fun _ => K0, fun z => absurd rfl z⟩
      · refine isIn_t (nI_nlt (b := 1) (a := k) (by omega) (by omega)) (nI_nlt (b := k) (a := 7) (by omega) (by omega)) ⟨fun z => absurd z (by decide), fun _ => isIn_f ?_ ⟨fun z => absurd rfl z, fun _ => K0⟩⟩
        rcases rng 6 (by decide) y with ⟨d, hd, e⟩ | q | q
        · exact absurd ⟨⟨k, h1, h2, rfl⟩, Or.inr ⟨d, by omega, e⟩⟩ ok
        · left
          have hne : ¬ y = -1 := fun e => ok ⟨⟨k, h1, h2, rfl⟩, Or.inl e⟩
          have hne : ¬ y.toInt = (-1 : Int32).toInt := fun e => hne (i32_eq e)
          rw [Int32.lt_iff_toInt_lt] at q ⊢
          have e0 : (0 : Int32).toInt = 0 := rfl
          have e1 : (-1 : Int32).toInt = -1 := rfl
          omega
        · exact Or.inr q
theorem ob_swap {LT : Nat → PoS → Prop} (hLT : LTok LT) (x y w : Int32) : Ob32 (wp_X11_swap x y w) (wp_X12_swap x y w) (Inv LT) := by
  intro u hI
  have hR := hI.1
  obtain ⟨n, hn, n1, n2, n3⟩ := hR.liv.ppl
  obtain ⟨hc, hcs⟩ := cs_of hR
  by_cases ok : (∃ k, 1 ≤ k ∧ k ≤ 7 ∧ x = nI k) ∧ (∃ d, d < 7 ∧ y = nI d) ∧ (∃ e, e < 7 ∧ w = nI e) ∧ ¬ y = w
  · obtain ⟨⟨k, hk1, hk2, rfl⟩, ⟨d, hd, rfl⟩, ⟨e, he, rfl⟩, hne⟩ := ok
    have hi : ¬ nI k < 1 := nI_nlt (b := 1) (a := k) (by omega) (by omega)
    have hi' : ¬ (7 : Int32) < nI k := nI_nlt (b := k) (a := 7) (by omega) (by omega)
    generalize hB : foB (cs (u.1 49)) (1000000, fun _ => 0) (rlv (nN (u.1 49 0)) k 7 (fun _ => 0)) = B
    have bl : B.1 ≤ 1000000 := by rw [← hB]; exact foB_le _ _ _
    have blt := fun h => best_lt hB.symm h
    generalize hC : cs (u.1 49) = c at *
    have comm : ∀ p q r s : Int32, ((p + q) - r) - s = ((p + q) - s) - r := fun p q r s => by
      rw [Int32.sub_eq_add_neg, Int32.sub_eq_add_neg, Int32.sub_eq_add_neg ((p + q) - s), Int32.sub_eq_add_neg (p + q) s, Int32.add_assoc, Int32.add_assoc, Int32.add_comm (-r) (-s)]
      simp only [Int32.add_assoc]
    refine ⟨fun r u1 => r = (if B.1 < 1000000 then ((nI (c (B.2 d) d) + nI (c (B.2 e) e)) - nI (c (B.2 d) e)) - nI (c (B.2 e) d) else -10000) ∧ ∀ j, j < 38 ∨ 42 < j → u1.1 j = u.1 j, fun K hK => ?_, fun r u1 hr K hK => ?_⟩
    · refine within_t hi hi' ⟨fun z => absurd z (by decide), fun _ => dayX_t hd ⟨fun z => absurd z (by decide), fun _ => dayX_t he ⟨fun z => absurd z (by decide), fun _ => ⟨fun z => absurd z hne, fun _ => makeX hR hk2 (fun z B' hB' fz g39 g38 => ?_)⟩⟩⟩⟩
      rw [hC, hB] at hB'
      subst hB'
      have K1 := hK _ z ⟨rfl, fz⟩
      by_cases z1 : B'.1 < 1000000
      · rw [if_pos z1] at K1 ⊢
        have p1 := blt z1 d hd
        have p2 := blt z1 e he
        refine ⟨fun _ => ?_, fun z2 => absurd z2 (by decide)⟩
        rw [q_vp (by omega) (by omega), q_cl (by omega), q_vp (by omega) (by omega), q_cl (by omega), gI_def, gI_def, g39 z1 d hd, g39 z1 e he]
        refine ⟨hd, fun x9 e9 => ⟨he, fun x10 e10 => ?_⟩⟩
        rw [e9, e10, show ((118 : Int32) + nI (B'.2 d) * 7) + nI d = nI (118 + (7 * B'.2 d + d)) by simp (disch := omega) only [q_lit, nI_add, pk_mul, q_sub, q_rem, q_div, q_vp, q_cl, q_lt, q_le, q_eq, q_neg1, gI_def]; omega, show ((118 : Int32) + nI (B'.2 e) * 7) + nI e = nI (118 + (7 * B'.2 e + e)) by simp (disch := omega) only [q_lit, nI_add, pk_mul, q_sub, q_rem, q_div, q_vp, q_cl, q_lt, q_le, q_eq, q_neg1, gI_def]; omega, show ((118 : Int32) + nI (B'.2 d) * 7) + nI e = nI (118 + (7 * B'.2 d + e)) by simp (disch := omega) only [q_lit, nI_add, pk_mul, q_sub, q_rem, q_div, q_vp, q_cl, q_lt, q_le, q_eq, q_neg1, gI_def]; omega, show ((118 : Int32) + nI (B'.2 e) * 7) + nI d = nI (118 + (7 * B'.2 e + d)) by simp (disch := omega) only [q_lit, nI_add, pk_mul, q_sub, q_rem, q_div, q_vp, q_cl, q_lt, q_le, q_eq, q_neg1, gI_def]; omega, q_cl (by omega), q_cl (by omega), q_cl (by omega), q_cl (by omega), gI_def, gI_def, gI_def, gI_def, fz 3 (by decide), (hcs (B'.2 d) d (by omega) hd).2, (hcs (B'.2 e) e (by omega) he).2, (hcs (B'.2 d) e (by omega) he).2, (hcs (B'.2 e) d (by omega) hd).2]
        exact ⟨vp_in_nI (by omega) (by decide), vp_in_nI (by omega) (by decide), vp_in_nI (by omega) (by decide), vp_in_nI (by omega) (by decide), K1⟩
      · rw [if_neg z1] at K1 ⊢
        exact ⟨fun z2 => absurd rfl z2, fun _ => K1⟩
    · obtain ⟨rfl, f1⟩ := hr
      have e49 : u1.1 49 = u.1 49 := f1 49 (by decide)
      refine isIn_t hi hi' ⟨fun z => absurd z (by decide), fun _ => isIn_t (nI_pos (by omega)) (nI_nlt (b := d) (a := 6) (by omega) (by decide)) ⟨fun z => absurd z (by decide), fun _ => isIn_t (nI_pos (by omega)) (nI_nlt (b := e) (a := 6) (by omega) (by decide)) ⟨fun z => absurd z (by decide), fun _ => ⟨fun z => absurd z hne, fun _ => layM hR e49 hk2 (fun z B' hB' fz g66 => ?_)⟩⟩⟩⟩
      rw [hC, hB] at hB'
      subst hB'
      have K1 := hK z (inv_ro hLT hI f1 fz)
      by_cases z1 : B'.1 < 1000000
      · rw [if_pos z1] at K1 ⊢
        have p1 := blt z1 d hd
        have p2 := blt z1 e he
        refine ⟨fun _ => ?_, fun z2 => absurd z2 (q_neg0 (by omega))⟩
        rw [q_vp (by omega) (by omega), q_cl (by omega), q_vp (by omega) (by omega), q_cl (by omega), gI_def, gI_def, g66 z1 d hd, g66 z1 e he]
        refine ⟨hd, fun x9 e9 => ⟨he, fun x10 e10 => ?_⟩⟩
        rw [e9, e10, show ((130 : Int32) + 7 * nI (B'.2 d)) + nI d = nI (130 + (7 * B'.2 d + d)) by simp (disch := omega) only [q_lit, nI_add, pk_mul, q_sub, q_rem, q_div, q_vp, q_cl, q_lt, q_le, q_eq, q_neg1, gI_def]; omega, show ((130 : Int32) + 7 * nI (B'.2 e)) + nI e = nI (130 + (7 * B'.2 e + e)) by simp (disch := omega) only [q_lit, nI_add, pk_mul, q_sub, q_rem, q_div, q_vp, q_cl, q_lt, q_le, q_eq, q_neg1, gI_def]; omega, show ((130 : Int32) + 7 * nI (B'.2 d)) + nI e = nI (130 + (7 * B'.2 d + e)) by simp (disch := omega) only [q_lit, nI_add, pk_mul, q_sub, q_rem, q_div, q_vp, q_cl, q_lt, q_le, q_eq, q_neg1, gI_def]; omega, show ((130 : Int32) + 7 * nI (B'.2 e)) + nI d = nI (130 + (7 * B'.2 e + d)) by simp (disch := omega) only [q_lit, nI_add, pk_mul, q_sub, q_rem, q_div, q_vp, q_cl, q_lt, q_le, q_eq, q_neg1, gI_def]; omega, q_cl (by omega), q_cl (by omega), q_cl (by omega), q_cl (by omega), gI_def, gI_def, gI_def, gI_def, fz 49 (by decide) (by decide) (by decide), e49, (hcs (B'.2 d) d (by omega) hd).1, (hcs (B'.2 e) e (by omega) he).1, (hcs (B'.2 d) e (by omega) he).1, (hcs (B'.2 e) d (by omega) hd).1]
        rw [comm] at K1
        exact ⟨vp_in_nI (by omega) (by decide), vp_in_nI (by omega) (by decide), vp_in_nI (by omega) (by decide), vp_in_nI (by omega) (by decide), K1⟩
      · rw [if_neg z1] at K1 ⊢
        exact ⟨fun z2 => absurd rfl z2, fun _ => K1⟩
  · have dd : ∀ v : Int32, (∃ d, d < 7 ∧ v = nI d) ∨ (v < 0 ∨ nI 6 < v) := fun v => by
      rcases rng 6 (by decide) v with ⟨d, hd, e⟩ | q
      · exact Or.inl ⟨d, by omega, e⟩
      · exact Or.inr q
    refine ⟨fun r u1 => r = -10000 ∧ u1 = u, fun K hK => ?_, fun r u1 hr K hK => ?_⟩
    · have K0 := hK _ _ ⟨rfl, rfl⟩
      rcases out1 (m := 7) (by decide) (x := x) with z | ⟨k, h1, h2, rfl⟩
      · exact within_f z ⟨fun _ => K0, fun z => absurd rfl z⟩
      · refine within_t (nI_nlt (b := 1) (a := k) (by omega) (by omega)) (nI_nlt (b := k) (a := 7) (by omega) (by omega)) ⟨fun z => absurd z (by decide), fun _ => ?_⟩
        rcases dd y with ⟨d, hd, rfl⟩ | z
        · refine dayX_t hd ⟨fun z => absurd z (by decide), fun _ => ?_⟩
          rcases dd w with ⟨e, he, rfl⟩ | z
          · exact dayX_t he ⟨fun z => absurd z (by decide), fun _ => ⟨fun _ => K0, fun z => absurd ⟨⟨k, h1, h2, rfl⟩, ⟨d, hd, rfl⟩, ⟨e, he, rfl⟩, z⟩ ok⟩⟩
          · exact dayX_f z ⟨fun _ => K0, fun z => absurd rfl z⟩
        · exact dayX_f z ⟨fun _ => K0, fun z => absurd rfl z⟩
    · obtain ⟨rfl, rfl⟩ := hr
      have K0 := hK _ hI
      rcases out1 (m := 7) (by decide) (x := x) with z | ⟨k, h1, h2, rfl⟩
      · exact isIn_f z ⟨fun _ => K0, fun z => absurd rfl z⟩
      · refine isIn_t (nI_nlt (b := 1) (a := k) (by omega) (by omega)) (nI_nlt (b := k) (a := 7) (by omega) (by omega)) ⟨fun z => absurd z (by decide), fun _ => ?_⟩
        rcases dd y with ⟨d, hd, rfl⟩ | z
        · refine isIn_t (nI_pos (by omega)) (nI_nlt (b := d) (a := 6) (by omega) (by decide)) ⟨fun z => absurd z (by decide), fun _ => ?_⟩
          rcases dd w with ⟨e, he, rfl⟩ | z
          · exact isIn_t (nI_pos (by omega)) (nI_nlt (b := e) (a := 6) (by omega) (by decide)) ⟨fun z => absurd z (by decide), fun _ => ⟨fun _ => K0, fun z => absurd ⟨⟨k, h1, h2, rfl⟩, ⟨d, hd, rfl⟩, ⟨e, he, rfl⟩, z⟩ ok⟩⟩
          · exact isIn_f z ⟨fun _ => K0, fun z => absurd rfl z⟩
        · exact isIn_f z ⟨fun _ => K0, fun z => absurd rfl z⟩
