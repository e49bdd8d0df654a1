/-! A CHASE, as the reference plays it -/
theorem layReachM {u : PoS} {v : Nat} (hv : v ≤ 2) {post : PoS → Prop} (K : ∀ z, (∀ j, j ≠ 60 → z.1 j = u.1 j) → (∀ c, c < 30 → hb (opn (u.1 49)) c = true → z.1 60 c = Rch (opn (u.1 49)) (bt1 c) v) → post z) : wp_X12_layReach (nI v) u post := by
  generalize eo : opn (u.1 49) = o at *
  refine ⟨31, ?_⟩
  have lp : ∀ m c, c + m = 30 → ∀ z, (∀ j, j ≠ 60 → z.1 j = u.1 j) → (∀ c', c' < c → hb o c' = true → z.1 60 c' = Rch o (bt1 c') v) → wl_X12_layReach_2 post (m + 1) (nI v) (nI c) z := by
    intro m
    induction m with
    | zero =>
      intro c hc z fz g
      obtain rfl : c = 30 := by omega
      rw [wl_X12_layReach_2]
      exact ⟨fun _ => K z fz g, fun q => absurd (by decide) q⟩
    | succ m ih =>
      intro c hc z fz g
      have ez : opn (z.1 49) = o := by rw [fz 49 (by decide), eo]
      have main : ∀ x, S30 x → (hb o c = true → x = bt1 c) → wj_X12_layReach_28 (wl_X12_layReach_2 post (m + 1)) post (nI v) (nI c) x (nI c) z := by
        intro x hx hxo
        unfold wj_X12_layReach_28
        rw [q_vp (by omega) (by omega), q_cl (by omega)]
        refine ⟨by omega, fun z3 e3 => ⟨v + 1, ?_⟩⟩
        have inner : ∀ m' i, i + m' = v → ∀ z', (∀ j, j ≠ 60 → z'.1 j = u.1 j) → z'.1 60 = up (z.1 60) c (Rch o x i) → wl_X12_layReach_31 (fun (v110 : Int32) (v210 : Int32) (u10 : PoS) => wl_X12_layReach_2 post (m + 1) v110 (v210 + 1) u10) post (m' + 1) (nI v) (nI c) (nI i) z' := by
          intro m'
          induction m' with
          | zero =>
            intro i hi z' f' g'
            obtain rfl : i = v := by omega
            rw [wl_X12_layReach_31, q_le (by omega) (by omega), nI_1]
            refine ⟨fun _ => ih (c + 1) (by omega) z' f' (fun c' hc' ho => ?_), fun q => absurd (Nat.le_refl i) q⟩
            rw [g']
            by_cases y : c' = c
            · rw [y, up_eq, hxo (by rw [← y]; exact ho)]
            · rw [up_ne y]; exact g c' (by omega) ho
          | succ m' ih' =>
            intro i hi z' f' g'
            rw [wl_X12_layReach_31, q_le (by omega) (by omega), q_vp (by omega) (by omega), q_cl (by omega), gI_def, g', up_eq]
            refine ⟨fun q => by omega, fun _ => ⟨by omega, by omega, besM (freeM ⟨by omega, fun z8 e8 => ?_⟩)⟩⟩
            rw [nI_1]
            refine ih' (i + 1) (by omega) z8 (fun j hj => by rw [e8, pI_o hj]; exact f' j hj) ?_
            rw [e8, pI_s, f' 49 (by decide), eo, g']
            funext k
            by_cases y : k = c
            · rw [y, up_eq, up_eq]; rfl
            · rw [up_ne y, up_ne y, up_ne y]
        exact inner v 0 (Nat.zero_add v) z3 (fun j hj => by rw [e3, pI_o hj]; exact fz j hj) (by rw [e3, pI_s]; rfl)
      rw [wl_X12_layReach_2]
      refine ⟨fun q => absurd q (nI_ge (b := 30) (by omega) (by decide)), fun _ => isFreeM (r := z.1 49) (fun d hd e ho => ⟨fun q => absurd q (by decide), fun _ => main (bt1 c) (bt1_30 (by omega)) (fun _ => rfl)⟩) (fun hno => ⟨fun _ => main 0 S30_0 (fun ho => ?_), fun q => absurd rfl q⟩)⟩
      have := hno c (by omega) rfl
      rw [ez, ho] at this; exact Bool.noConfusion this
  exact lp 30 0 rfl u (fun _ _ => rfl) (fun c' hc' => by omega)
/-! turnsBehind, longest -/
def TabZ (z : PoS) (X : Nat → Nat → Nat) : Prop := ∀ c s, c < 30 → s < 30 → z.1 59 (30 * c + s) = nI (X c s) ∧ X c s ≤ 1000000
def mnX (R : Int32) (X : Nat → Nat) : Nat → Nat
  | 0 => 1000000
  | s + 1 => if hb R s = true then (if mnX R X s ≤ X s then mnX R X s else X s) else mnX R X s
theorem mnX_le {R : Int32} {X : Nat → Nat} (j : Nat) : ∀ n, mnX R X n ≤ j ↔ 1000000 ≤ j ∨ ∃ s, s < n ∧ hb R s = true ∧ X s ≤ j := by
  intro n
  induction n with
  | zero => exact ⟨fun h => Or.inl h, fun h => h.elim id (fun ⟨s, hs, _⟩ => by omega)⟩
  | succ n ih =>
    rw [mnX]
    by_cases z : hb R n = true
    · rw [if_pos z]
      have e : (if mnX R X n ≤ X n then mnX R X n else X n) ≤ j ↔ mnX R X n ≤ j ∨ X n ≤ j := by
        split <;> omega
      rw [e, ih]
      constructor
      · rintro ((h | ⟨s, h1, h2, h3⟩) | h)
        · exact Or.inl h
        · exact Or.inr ⟨s, by omega, h2, h3⟩
        · exact Or.inr ⟨n, by omega, z, h⟩
      · rintro (h | ⟨s, h1, h2, h3⟩)
        · exact Or.inl (Or.inl h)
        · by_cases y : s = n
          · rw [y] at h3; exact Or.inr h3
          · exact Or.inl (Or.inr ⟨s, by omega, h2, h3⟩)
    · rw [if_neg z, ih]
      constructor
      · rintro (h | ⟨s, h1, h2, h3⟩)
        · exact Or.inl h
        · exact Or.inr ⟨s, by omega, h2, h3⟩
      · rintro (h | ⟨s, h1, h2, h3⟩)
        · exact Or.inl h
        · by_cases y : s = n
          · rw [y] at h2; exact absurd h2 z
          · exact Or.inr ⟨s, by omega, h2, h3⟩
def tbV (R : Int32) (X : Nat → Nat → Nat) (d : Nat) : Nat := if hb R d = true then 1 else if mnX R (X d) 30 = 1000000 then 1000000 else mnX R (X d) 30 + 1
theorem mnX_6 {R : Int32} {X : Nat → Nat} (n : Nat) : mnX R X n ≤ 1000000 := (mnX_le 1000000 n).mpr (Or.inl (Nat.le_refl _))
theorem tbV_b (R : Int32) (X : Nat → Nat → Nat) (d : Nat) : 1 ≤ tbV R X d ∧ tbV R X d ≤ 1000000 := by
  unfold tbV
  have := mnX_6 (R := R) (X := X d) 30
  by_cases z : hb R d = true
  · rw [if_pos z]; exact ⟨Nat.le_refl _, by decide⟩
  · rw [if_neg z]
    by_cases y : mnX R (X d) 30 = 1000000
    · rw [if_pos y]; exact ⟨by decide, Nat.le_refl _⟩
    · rw [if_neg y]; omega
theorem behindM {z : PoS} {X : Nat → Nat → Nat} (hX : TabZ z X) {R : Int32} {d s : Nat} (hd : d < 30) (hs : s < 30) (hR : z.1 60 s = R) {post : Int32 → PoS → Prop} (K : post (nI (tbV R X d)) z) : wp_X12_turnsBehind (nI d) (nI s) z post := by
  unfold tbV at K
  unfold wp_X12_turnsBehind
  rw [q_vp (by omega) (by omega), q_cl (by omega), gI_def, hR]
  refine ⟨hs, ?_⟩
  cases e : hb R d
  · rw [if_neg (bN e)] at K
    refine hasM_f (by omega) e ⟨fun _ => ⟨31, ?_⟩, fun q => absurd rfl q⟩
    have lp : ∀ m s', s' + m = 30 → wl_X12_turnsBehind_22 (fun (v39 : Int32) (u9 : PoS) => ((¬ v39 = 1000000 → post (v39 + 1) u9) ∧ (v39 = 1000000 → post 1000000 u9))) post (m + 1) (nI d) (nI s) (nI (mnX R (X d) s')) (nI s') z := by
      intro m
      induction m with
      | zero =>
        intro s' hs'
        obtain rfl : s' = 30 := by omega
        have b := mnX_6 (R := R) (X := X d) 30
        rw [wl_X12_turnsBehind_22]
        refine ⟨fun _ => ?_, fun q => absurd (by decide) q⟩
        rw [show (1000000 : Int32) = nI 1000000 from rfl, q_eq (by omega) (by omega), nI_1]
        refine ⟨fun q => ?_, fun q => ?_⟩
        · rw [if_neg q] at K; exact K
        · rw [if_pos q] at K; exact K
      | succ m ih =>
        intro s' hs'
        have ih := ih (s' + 1) (by omega)
        rw [mnX] at ih
        obtain ⟨x1, x2⟩ := hX d s' hd (by omega)
        have b := mnX_6 (R := R) (X := X d) s'
        rw [wl_X12_turnsBehind_22, q_vp (by omega) (by omega), q_cl (by omega), gI_def, hR]
        refine ⟨fun q => absurd q (nI_ge (b := 30) (by omega) (by decide)), fun _ => ⟨hs, ?_⟩⟩
        cases e2 : hb R s'
        · rw [e2, if_neg (by decide)] at ih
          refine hasM_f (by omega) e2 ⟨fun _ => ?_, fun q => absurd rfl q⟩
          unfold wj_X12_turnsBehind_72
          rw [nI_1]; exact ih
        · rw [e2, if_pos rfl] at ih
          refine hasM_t (by omega) e2 ⟨fun q => absurd q (by decide), fun _ => ?_⟩
          rw [show (30 : Int32) * nI d + nI s' = nI (30 * d + s') by simp (disch := omega) only [q_lit, nI_add, pk_mul, q_sub, q_rem, q_div, q_vp, q_cl, q_lt, q_le, q_eq, q_neg1, gI_def], q_vp (by omega) (by omega), q_cl (by omega), gI_def, x1, q_le (by omega) (by omega)]
          refine ⟨by omega, fun q => ?_, fun q => ⟨by omega, fun x5 e5 => ?_⟩⟩
          · rw [if_pos q] at ih
            unfold wj_X12_turnsBehind_72
            rw [nI_1]; exact ih
          · rw [if_neg q] at ih
            unfold wj_X12_turnsBehind_72
            rw [nI_1, e5]; exact ih
    exact lp 30 0 rfl
  · rw [if_pos e] at K
    exact hasM_t (by omega) e ⟨fun q => absurd q (by decide), fun _ => K⟩
theorem goalsM {z : PoS} {c : Nat} (hc : c < 30) {post : Int32 → PoS → Prop} (K : post (gls (opn (z.1 49)) c) z) : wp_X12_goals (nI c) z post := besM1 hc (freeM K)
def lgV (G R : Int32) (X : Nat → Nat → Nat) : Nat → Nat
  | 0 => 0
  | d + 1 => if (if hb G d = true then tbV R X d else 0) ≤ lgV G R X d then lgV G R X d else (if hb G d = true then tbV R X d else 0)
theorem lgV_le {G R : Int32} {X : Nat → Nat → Nat} (j : Nat) : ∀ n, lgV G R X n ≤ j ↔ ∀ d, d < n → hb G d = true → tbV R X d ≤ j := by
  intro n
  induction n with
  | zero => exact ⟨fun _ d hd => by omega, fun _ => Nat.zero_le _⟩
  | succ n ih =>
    rw [lgV]
    have e : (if (if hb G n = true then tbV R X n else 0) ≤ lgV G R X n then lgV G R X n else (if hb G n = true then tbV R X n else 0)) ≤ j ↔ lgV G R X n ≤ j ∧ (hb G n = true → tbV R X n ≤ j) := by
      by_cases z : hb G n = true
      · rw [if_pos z]
        constructor
        · intro h
          split at h
          · exact ⟨h, fun _ => by omega⟩
          · exact ⟨by omega, fun _ => h⟩
        · rintro ⟨h1, h2⟩
          have := h2 z
          split <;> omega
      · rw [if_neg z, if_pos (Nat.zero_le _)]
        exact ⟨fun h => ⟨h, fun y => absurd y z⟩, fun h => h.1⟩
    rw [e, ih]
    constructor
    · rintro ⟨h1, h2⟩ d hd hg
      by_cases y : d = n
      · rw [y] at hg ⊢; exact h2 hg
      · exact h1 d (by omega) hg
    · intro h
      exact ⟨fun d hd => h d (by omega), h n (by omega)⟩
theorem longestM {z : PoS} {X : Nat → Nat → Nat} (hX : TabZ z X) {R : Int32} {c s : Nat} (hc : c < 30) (hs : s < 30) (hR : z.1 60 s = R) {post : Int32 → PoS → Prop} (K : post (nI (lgV (gls (opn (z.1 49)) c) R X 30)) z) : wp_X12_longest (nI c) (nI s) z post := by
  generalize eG : gls (opn (z.1 49)) c = G at *
  have b6 : ∀ n, lgV G R X n ≤ 1000000 := fun n => (lgV_le 1000000 n).mpr (fun d _ _ => (tbV_b R X d).2)
  refine ⟨31, ?_⟩
  have lp : ∀ m d, d + m = 30 → wl_X12_longest_5 post (m + 1) (nI c) (nI s) (nI (lgV G R X d)) (nI d) z := by
    intro m
    induction m with
    | zero =>
      intro d hd
      obtain rfl : d = 30 := by omega
      rw [wl_X12_longest_5]
      exact ⟨fun _ => K, fun q => absurd (by decide) q⟩
    | succ m ih =>
      intro d hd
      have ih := ih (d + 1) (by omega)
      rw [lgV] at ih
      have b := b6 d
      rw [wl_X12_longest_5]
      refine ⟨fun q => absurd q (nI_ge (b := 30) (by omega) (by decide)), fun _ => goalsM hc ?_⟩
      rw [eG]
      have fin : ∀ x : Nat, x ≤ 1000000 → x = (if hb G d = true then tbV R X d else 0) → wj_X12_longest_36 (wl_X12_longest_5 post (m + 1)) post (nI c) (nI s) (nI (lgV G R X d)) (nI d) (nI x) z := by
        intro x hx6 hx
        rw [← hx] at ih
        unfold wj_X12_longest_36 wj_X12_longest_50
        rw [q_le (by omega) (by omega), nI_1]
        refine ⟨fun q => ?_, fun q => ?_⟩
        · rw [if_pos q] at ih; exact ih
        · rw [if_neg q] at ih; exact ih
      cases e : hb G d
      · exact hasM_f (by omega) e ⟨fun _ => fin 0 (by decide) (by rw [e, if_neg (by decide)]), fun q => absurd rfl q⟩
      · exact hasM_t (by omega) e ⟨fun q => absurd q (by decide), fun _ => behindM hX (by omega) hs hR (fin _ (tbV_b R X d).2 (by rw [e, if_pos rfl]))⟩
  exact lp 30 0 rfl
/-! what the table says -/
section TABLE
variable {o : Int32} {v : Nat}
def Thr (o : Int32) (v M : Nat) (X : Nat → Nat → Nat) : Prop := ∀ c s j, c < 30 → s < 30 → j < M → (X c s ≤ j ↔ hb (WW o v j c) s = true)
theorem tb_le (hO : S30 o) {M : Nat} {X : Nat → Nat → Nat} (h : Thr o v M X) {d s j : Nat} (hd : d < 30) (hod : hb o d = true) (hs : s < 30) (hos : hb o s = true) (hj : j < M) (hj6 : j + 1 < 1000000) : tbV (Rch o (bt1 s) v) X d ≤ j + 1 ↔ hb (Rch o (WW o v j d) v) s = true := by
  rw [soon_iff hO hd hod hs hos]
  unfold tbV
  by_cases z : hb (Rch o (bt1 s) v) d = true
  · rw [if_pos z]
    exact ⟨fun _ => ⟨d, hd, z, WW_self j hd⟩, fun _ => by omega⟩
  · rw [if_neg z]
    have key : mnX (Rch o (bt1 s) v) (X d) 30 ≤ j ↔ ∃ s', s' < 30 ∧ hb (Rch o (bt1 s) v) s' = true ∧ hb (WW o v j d) s' = true := by
      rw [mnX_le]
      constructor
      · rintro (h1 | ⟨s', h1, h2, h3⟩)
        · omega
        · exact ⟨s', h1, h2, (h d s' j hd h1 hj).mp h3⟩
      · rintro ⟨s', h1, h2, h3⟩
        exact Or.inr ⟨s', h1, h2, (h d s' j hd h1 hj).mpr h3⟩
    rw [← key]
    by_cases y : mnX (Rch o (bt1 s) v) (X d) 30 = 1000000
    · rw [if_pos y, y]; omega
    · rw [if_neg y]; omega
noncomputable def xv (o : Int32) (v : Nat) : Nat → Nat → Nat → Nat
  | 0, c, s => if hb (WW o v 0 c) s = true then 0 else 1000000
  | L + 1, c, s => if xv o v L c s = 1000000 then (if hb (WW o v (L + 1) c) s = true then L + 1 else 1000000) else xv o v L c s
theorem xv_is (hO : S30 o) {c s : Nat} (hc : c < 30) : ∀ L, L < 1000000 → (xv o v L c s ≤ L ∨ xv o v L c s = 1000000) ∧ ∀ j, j ≤ L → (xv o v L c s ≤ j ↔ hb (WW o v j c) s = true) := by
  intro L
  induction L with
  | zero =>
    intro _
    rw [xv]
    by_cases z : hb (WW o v 0 c) s = true
    · rw [if_pos z]
      refine ⟨Or.inl (Nat.le_refl _), fun j hj => ?_⟩
      rw [show j = 0 by omega]; exact ⟨fun _ => z, fun _ => Nat.le_refl _⟩
    · rw [if_neg z]
      refine ⟨Or.inr rfl, fun j hj => ?_⟩
      rw [show j = 0 by omega]; exact ⟨fun h => by omega, fun h => absurd h z⟩
  | succ L ih =>
    intro hL
    obtain ⟨i1, i2⟩ := ih (by omega)
    rw [xv]
    by_cases z : xv o v L c s = 1000000
    · rw [if_pos z]
      have no : ∀ j, j ≤ L → ¬ hb (WW o v j c) s = true := fun j hj h => by have := (i2 j hj).mpr h; omega
      by_cases y : hb (WW o v (L + 1) c) s = true
      · rw [if_pos y]
        refine ⟨Or.inl (Nat.le_refl _), fun j hj => ?_⟩
        by_cases w : j = L + 1
        · rw [w]; exact ⟨fun _ => y, fun _ => Nat.le_refl _⟩
        · exact ⟨fun h => by omega, fun h => absurd h (no j (by omega))⟩
      · rw [if_neg y]
        refine ⟨Or.inr rfl, fun j hj => ⟨fun h => by omega, fun h => ?_⟩⟩
        by_cases w : j = L + 1
        · rw [w] at h; exact absurd h y
        · exact absurd h (no j (by omega))
    · rw [if_neg z]
      have i1 : xv o v L c s ≤ L := by omega
      refine ⟨Or.inl (by omega), fun j hj => ?_⟩
      by_cases w : j = L + 1
      · rw [w]
        exact ⟨fun _ => WW_mono hO L c hc s ((i2 L (Nat.le_refl _)).mp i1), fun _ => by omega⟩
      · exact i2 j (by omega)
theorem xv_6 (hO : S30 o) {c s L : Nat} (hc : c < 30) (hL : L < 1000000) : xv o v L c s ≤ 1000000 := by
  rcases (xv_is (v := v) hO (s := s) hc L hL).1 with h | h <;> omega
theorem xv_same (hO : S30 o) {L : Nat} (hL : L + 1 < 1000000) : stab o v L ↔ ∀ c s, c < 30 → s < 30 → xv o v (L + 1) c s = xv o v L c s := by
  constructor
  · intro h c s hc hs
    have h2 := (xv_is (v := v) hO (s := s) hc L (by omega)).2 L (Nat.le_refl _)
    rw [xv]
    by_cases z : xv o v L c s = 1000000
    · rw [if_pos z, h c hc, if_neg (fun y => by have := h2.mpr y; omega), z]
    · rw [if_neg z]
  · intro h c hc
    refine (WW_30 _ c hc).ext (WW_30 _ c hc) (fun s hs => ?_)
    have h1 := (xv_is (v := v) hO (s := s) hc (L + 1) (by omega)).2 (L + 1) (Nat.le_refl _)
    have h2 := (xv_is (v := v) hO (s := s) hc L (by omega))
    cases e : hb (WW o v L c) s
    · apply bF
      intro y
      have := h1.mpr y
      rw [h c s hc hs] at this
      have h3 : ¬ xv o v L c s ≤ L := fun w => bN e ((h2.2 L (Nat.le_refl _)).mp w)
      rcases h2.1 with w | w <;> omega
    · exact WW_mono hO L c hc s e
/-- a table between two levels -/
noncomputable def mixX (o : Int32) (v L k : Nat) (c s : Nat) : Nat := if 30 * c + s < k then xv o v (L + 1) c s else xv o v L c s
theorem mix_thr (hO : S30 o) {L k : Nat} (hL : L + 1 < 1000000) : Thr o v (L + 1) (mixX o v L k) := by
  intro c s j hc hs hj
  unfold mixX
  by_cases z : 30 * c + s < k
  · rw [if_pos z]; exact (xv_is hO hc (L + 1) hL).2 j (by omega)
  · rw [if_neg z]; exact (xv_is hO hc L (by omega)).2 j (by omega)
theorem longest_is (hO : S30 o) {L k c s : Nat} (hL : L + 1 < 900000) (hc : c < 30) (hs : s < 30) (hoc : hb o c = true) (hos : hb o s = true) (hx : xv o v L c s = 1000000) : lgV (gls o c) (Rch o (bt1 s) v) (mixX o v L k) 30 = L + 1 ↔ hb (WW o v (L + 1) c) s = true := by
  have hth := mix_thr (v := v) hO (L := L) (k := k) (by omega)
  have no : ∀ j, j ≤ L → ¬ hb (WW o v j c) s = true := fun j hj h => by have := ((xv_is (v := v) hO (s := s) hc L (by omega)).2 j hj).mpr h; omega
  have hne : ¬ s = c := fun e => no 0 (Nat.zero_le _) (by rw [e]; exact WW_self 0 hc)
  have le : ∀ j, j ≤ L → (lgV (gls o c) (Rch o (bt1 s) v) (mixX o v L k) 30 ≤ j + 1 ↔ hb (WW o v (j + 1) c) s = true) := by
    intro j hj
    rw [lgV_le, WW_s hO hc hoc]
    constructor
    · intro h
      refine Or.inr (fun d hd => ?_)
      exact (tb_le hO hth ((gls_30 hO c).lt hd) ((gls_hb hc d).mp hd).1 hs hos (by omega) (by omega)).mp (h d ((gls_30 hO c).lt hd) hd)
    · rintro (h | h) d hd hg
      · exact absurd h hne
      · exact (tb_le hO hth hd ((gls_hb hc d).mp hg).1 hs hos (by omega) (by omega)).mpr (h d hg)
  have one : 1 ≤ lgV (gls o c) (Rch o (bt1 s) v) (mixX o v L k) 30 := by
    rcases Nat.eq_zero_or_pos (lgV (gls o c) (Rch o (bt1 s) v) (mixX o v L k) 30) with z | z
    · have := (lgV_le 0 30).mp (by omega : lgV (gls o c) (Rch o (bt1 s) v) (mixX o v L k) 30 ≤ 0) c hc ((gls_hb hc c).mpr ⟨hoc, Or.inl rfl⟩)
      have := (tbV_b (Rch o (bt1 s) v) (mixX o v L k) c).1
      omega
    · exact z
  constructor
  · intro h; exact (le L (Nat.le_refl _)).mp (by omega)
  · intro h
    have h1 := (le L (Nat.le_refl _)).mpr h
    cases L with
    | zero => omega
    | succ L =>
      have h2 : ¬ lgV (gls o c) (Rch o (bt1 s) v) (mixX o v (L + 1) k) 30 ≤ L + 1 := fun w => no (L + 1) (Nat.le_refl _) ((le L (by omega)).mp w)
      omega
theorem layTurnsM {u : PoS} {v : Nat} (hv : v ≤ 2) {E : Nat} (hE : E < 900) (hst : stab (opn (u.1 49)) v E) (hnst : ∀ t, t < E → ¬ stab (opn (u.1 49)) v t) {post : PoS → Prop} (K : ∀ z, (∀ j, j ≠ 59 → j ≠ 60 → z.1 j = u.1 j) → (∀ c, c < 30 → hb (opn (u.1 49)) c = true → z.1 60 c = Rch (opn (u.1 49)) (bt1 c) v) → TabZ z (xv (opn (u.1 49)) v (E + 1)) → post z) : wp_X12_layTurns (nI v) u post := by
  have hO := opn_30 (u.1 49)
  refine layReachM hv (fun z2 f2 g60 => freeM ?_)
  rw [f2 49 (by decide)]
  generalize eo : opn (u.1 49) = o at *
  refine ⟨901, ?_⟩
  have div : ∀ k, k < 900 → ∃ c s, c < 30 ∧ s < 30 ∧ k = 30 * c + s ∧ nI k / 30 = nI c ∧ irem (nI k) 30 = nI s := by
    intro k hk
    refine ⟨k / 30, k % 30, by omega, by omega, by omega, ?_, ?_⟩
    · rw [show (30 : Int32) = nI 30 from rfl, q_div (by omega) (by omega) (by omega)]
    · rw [show (30 : Int32) = nI 30 from rfl, q_rem (by omega) (by omega) (by omega)]
  have levels : ∀ m L, L + m = E → ∀ z, (∀ j, j ≠ 59 → z.1 j = z2.1 j) → TabZ z (xv o v L) → wl_X12_layTurns_54 post (m + 2) o 1 (nI (L + 1)) z := by
    intro m
    have pass : ∀ L, L ≤ E → ∀ z, (∀ j, j ≠ 59 → z.1 j = z2.1 j) → TabZ z (xv o v L) → ∀ (K2 : Int32 → Int32 → Int32 → PoS → Prop) (post2 : PoS → Prop), (∀ z' r, (∀ j, j ≠ 59 → z'.1 j = z2.1 j) → TabZ z' (xv o v (L + 1)) → ((r = 0 ∧ stab o v L) ∨ (r = 1 ∧ ¬ stab o v L)) → K2 o r (nI (L + 1)) z') → ∃ n63, wl_X12_layTurns_63 K2 post2 n63 o 0 (nI (L + 1)) 0 z := by
      intro L hLE z fz hT K2 post2 hK2
      refine ⟨901, ?_⟩
      have lp : ∀ m' k, k + m' = 900 → ∀ z' r, (∀ j, j ≠ 59 → z'.1 j = z2.1 j) → TabZ z' (mixX o v L k) → ((r = 0 ∧ ∀ c s, c < 30 → s < 30 → 30 * c + s < k → xv o v (L + 1) c s = xv o v L c s) ∨ (r = 1 ∧ ∃ c s, c < 30 ∧ s < 30 ∧ ¬ xv o v (L + 1) c s = xv o v L c s)) → wl_X12_layTurns_63 K2 post2 (m' + 1) o r (nI (L + 1)) (nI k) z' := by
        intro m'
        induction m' with
        | zero =>
          intro k hk z' r f' hT' hr
          obtain rfl : k = 900 := by omega
          rw [wl_X12_layTurns_63]
          refine ⟨fun _ => hK2 z' r f' (fun c s hc hs => ?_) ?_, fun q => absurd (by decide) q⟩
          · have := hT' c s hc hs
            unfold mixX at this
            rw [if_pos (by omega)] at this; exact this
          · rcases hr with ⟨h1, h2⟩ | ⟨h1, c, s, hc, hs, h2⟩
            · exact Or.inl ⟨h1, (xv_same hO (by omega)).mpr (fun c s hc hs => h2 c s hc hs (by omega))⟩
            · exact Or.inr ⟨h1, fun w => h2 ((xv_same hO (by omega)).mp w c s hc hs)⟩
        | succ m' ih =>
          intro k hk z' r f' hT' hr
          obtain ⟨c, s, hc, hs, ek, d1, d2⟩ := div k (by omega)
          have ez : opn (z'.1 49) = o := by rw [f' 49 (by decide), f2 49 (by decide), eo]
          obtain ⟨x1, x2⟩ := hT' c s hc hs
          have xe : mixX o v L k c s = xv o v L c s := by unfold mixX; rw [if_neg (by omega)]
          rw [xe] at x1 x2
          have xs : xv o v (L + 1) c s = if xv o v L c s = 1000000 then (if hb (WW o v (L + 1) c) s = true then L + 1 else 1000000) else xv o v L c s := rfl
          have skip : xv o v (L + 1) c s = xv o v L c s → wj_X12_layTurns_141 (wl_X12_layTurns_63 K2 post2 (m' + 1)) post2 o r (nI (L + 1)) (nI k) z' := by
            intro hs'
            unfold wj_X12_layTurns_141
            rw [nI_1]
            refine ih (k + 1) (by omega) z' r f' (fun c' s' hc' hs'' => ?_) ?_
            · have := hT' c' s' hc' hs''
              unfold mixX at this ⊢
              by_cases y : 30 * c' + s' < k
              · rw [if_pos y] at this; rw [if_pos (by omega)]; exact this
              · rw [if_neg y] at this
                by_cases w : 30 * c' + s' = k
                · rw [if_pos (by omega)]
                  have : c' = c ∧ s' = s := by omega
                  obtain ⟨rfl, rfl⟩ := this
                  rw [hs']; exact ⟨x1, x2⟩
                · rw [if_neg (by omega)]; exact this
            · rcases hr with ⟨h1, h2⟩ | h
              · refine Or.inl ⟨h1, fun c' s' hc' hs'' hlt => ?_⟩
                by_cases w : 30 * c' + s' = k
                · have : c' = c ∧ s' = s := by omega
                  obtain ⟨rfl, rfl⟩ := this
                  exact hs'
                · exact h2 c' s' hc' hs'' (by omega)
              · exact Or.inr h
          rw [wl_X12_layTurns_63, d1, d2, q_vp (by omega) (by omega), q_cl (by omega), gI_def, ek, x1, show (1000000 : Int32) = nI 1000000 from rfl, q_eq (by omega) (by omega), ← ek]
          refine ⟨fun q => absurd q (nI_ge (b := 900) (by omega) (by decide)), fun _ => ⟨by omega, fun q => skip (by rw [xs, if_neg q]), fun q => ?_⟩⟩
          have noW : ∀ j, j ≤ L → ¬ hb (WW o v j c) s = true := fun j hj h => by have := ((xv_is (v := v) hO (s := s) hc L (by omega)).2 j hj).mpr h; omega
          rw [if_pos q] at xs
          cases ho : hb o c
          · refine hasM_f (by omega) ho ⟨fun _ => skip ?_, fun q => absurd rfl q⟩
            rw [xs, q, if_neg (fun h => ?_)]
            rw [WW_c (bN ho)] at h
            apply noW 0 (Nat.zero_le _)
            rw [WW_c (bN ho)]; exact h
          · refine hasM_t (by omega) ho ⟨fun q => absurd q (by decide), fun _ => ?_⟩
            cases hos : hb o s
            · refine hasM_f (by omega) hos ⟨fun _ => skip ?_, fun q => absurd rfl q⟩
              rw [xs, q, if_neg (fun h => bN hos (WW_open hO (L + 1) c hc ho s h))]
            · refine hasM_t (by omega) hos ⟨fun q => absurd q (by decide), fun _ => ?_⟩
              refine longestM (X := mixX o v L k) (R := Rch o (bt1 s) v) hT' hc hs (by rw [f' 60 (by decide)]; exact g60 s hs hos) ?_
              rw [ez]
              have lb : lgV (gls o c) (Rch o (bt1 s) v) (mixX o v L k) 30 ≤ 1000000 := (lgV_le 1000000 30).mpr (fun d _ _ => (tbV_b _ _ d).2)
              rw [q_eq (by omega) (by omega), longest_is hO (by omega) hc hs ho hos q]
              refine ⟨fun hw => ?_, fun hw => skip (by rw [xs, q, if_neg hw])⟩
              rw [if_pos hw] at xs
              refine ⟨by omega, fun z15 e15 => ?_⟩
              unfold wj_X12_layTurns_141
              rw [nI_1]
              refine ih (k + 1) (by omega) z15 1 (fun j hj => by rw [e15, pI_o hj]; exact f' j hj) (fun c' s' hc' hs'' => ?_) (Or.inr ⟨rfl, c, s, hc, hs, by rw [xs, q]; omega⟩)
              rw [e15, pI_s]
              have := hT' c' s' hc' hs''
              unfold mixX at this ⊢
              by_cases w : 30 * c' + s' = k
              · have : c' = c ∧ s' = s := by omega
                obtain ⟨rfl, rfl⟩ := this
                rw [w, up_eq, if_pos (by omega), xs]; exact ⟨rfl, by omega⟩
              · rw [up_ne w]
                by_cases y : 30 * c' + s' < k
                · rw [if_pos y] at this; rw [if_pos (by omega)]; exact this
                · rw [if_neg y] at this; rw [if_neg (by omega)]; exact this
      refine lp 900 0 rfl z 0 fz (fun c s hc hs => ?_) (Or.inl ⟨rfl, fun c s hc hs h => by omega⟩)
      unfold mixX
      rw [if_neg (by omega)]; exact hT c s hc hs
    induction m with
    | zero =>
      intro L hL z fz hT
      obtain rfl : L = E := by omega
      rw [wl_X12_layTurns_54]
      refine ⟨fun q => absurd q (by decide), fun _ => pass L (Nat.le_refl _) z fz hT _ _ (fun z' r f' hT' hr => ?_)⟩
      have hr0 : r = 0 := by
        rcases hr with h | h
        · exact h.1
        · exact absurd hst h.2
      rw [wl_X12_layTurns_54]
      exact ⟨fun _ => K z' (fun j a b => by rw [f' j a, f2 j b]) (fun c hc ho => by rw [f' 60 (by decide)]; exact g60 c hc ho) hT', fun q => absurd hr0 q⟩
    | succ m ih =>
      intro L hL z fz hT
      rw [wl_X12_layTurns_54]
      refine ⟨fun q => absurd q (by decide), fun _ => pass L (by omega) z fz hT _ _ (fun z' r f' hT' hr => ?_)⟩
      have hr1 : r = 1 := by
        rcases hr with h | h
        · exact absurd h.2 (hnst L (by omega))
        · exact h.1
      rw [hr1, nI_1]
      exact ih (L + 1) (by omega) z' f' hT'
  have init : ∀ m k, k + m = 900 → ∀ z, (∀ j, j ≠ 59 → z.1 j = z2.1 j) → (∀ c s, c < 30 → s < 30 → 30 * c + s < k → z.1 59 (30 * c + s) = nI (xv o v 0 c s)) → wl_X12_layTurns_12 (fun (v28 : Int32) (u8 : PoS) => (∃ n54, wl_X12_layTurns_54 post n54 v28 1 1 u8)) post (m + 1) o (nI k) z := by
    intro m
    induction m with
    | zero =>
      intro k hk z fz g
      obtain rfl : k = 900 := by omega
      rw [wl_X12_layTurns_12]
      exact ⟨fun _ => ⟨E + 2, levels E 0 (Nat.zero_add E) z fz (fun c s hc hs => ⟨g c s hc hs (by omega), xv_6 hO hc (by decide)⟩)⟩, fun q => absurd (by decide) q⟩
    | succ m ih =>
      intro k hk z fz g
      obtain ⟨c, s, hc, hs, ek, d1, d2⟩ := div k (by omega)
      have fin : ∀ x : Nat, x = xv o v 0 c s → wj_X12_layTurns_42 (wl_X12_layTurns_12 (fun (v28 : Int32) (u8 : PoS) => (∃ n54, wl_X12_layTurns_54 post n54 v28 1 1 u8)) post (m + 1)) post o (nI k) (nI x) (nI k) z := by
        intro x hx
        unfold wj_X12_layTurns_42
        rw [q_vp (by omega) (by omega), q_cl (by omega), nI_1]
        refine ⟨by omega, fun z5 e5 => ih (k + 1) (by omega) z5 (fun j hj => by rw [e5, pI_o hj]; exact fz j hj) (fun c' s' hc' hs' hlt => ?_)⟩
        rw [e5, pI_s]
        by_cases w : 30 * c' + s' = k
        · have : c' = c ∧ s' = s := by omega
          obtain ⟨rfl, rfl⟩ := this
          rw [w, up_eq, hx]
        · rw [up_ne w]; exact g c' s' hc' hs' (by omega)
      rw [wl_X12_layTurns_12, d1, d2, q_eq (by omega) (by omega)]
      refine ⟨fun q => absurd q (nI_ge (b := 900) (by omega) (by decide)), fun _ => ⟨fun q => fin 1000000 ?_, fun q => fin 0 ?_⟩⟩
      · rw [xv, show WW o v 0 c = bt1 c from rfl, if_neg (fun h => q ((bt1_hb hc s).mp h).symm)]
      · rw [xv, show WW o v 0 c = bt1 c from rfl, if_pos ((bt1_hb hc s).mpr q.symm)]
  exact init 900 0 rfl z2 (fun _ _ => rfl) (fun c s hc hs h => by omega)
end TABLE
