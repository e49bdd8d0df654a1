/-! GROUND: what the programs say of it -/
/-- the CELLS that are no SHEDS -/
def fre (a : Nat → Int32) : Nat → Int32
  | 0 => 0
  | c + 1 => if a (100 + c) = 0 then fre a c ||| bt1 c else fre a c
def opn (a : Nat → Int32) : Int32 := fre a 30
def Opn (ρ a : Nat → Int32) : Prop := (∀ c, c < 30 → Sm 1 (a (100 + c))) ∧ ∃ m, m < 2 ^ 30 ∧ ρ 85 = nI m ∧ ∀ c, c < 30 → (m.testBit c = true ↔ a (100 + c) = 1)
theorem Cels.opn {ρ a : Nat → Int32} (h : Cels ρ a) : Opn ρ a := ⟨fun c hc => (h.1 c hc).2.2.2.2, h.2⟩
theorem fre_hb (a : Nat → Int32) : ∀ n, n ≤ 30 → ∀ c, hb (fre a n) c = true ↔ c < n ∧ a (100 + c) = 0 := by
  intro n
  induction n with
  | zero => intro _ c; rw [fre, hb_0]; exact ⟨fun h => Bool.noConfusion h, fun h => absurd h.1 (Nat.not_lt_zero c)⟩
  | succ n ih =>
    intro hn c
    rw [fre]
    by_cases q : a (100 + n) = 0
    · rw [if_pos q, hb_or, Bool.or_eq_true, ih (by omega) c, bt1_hb (by omega) c]
      constructor
      · rintro (⟨h1, h2⟩ | rfl)
        · exact ⟨by omega, h2⟩
        · exact ⟨by omega, q⟩
      · rintro ⟨h1, h2⟩
        by_cases e : c = n
        · exact Or.inr e
        · exact Or.inl ⟨by omega, h2⟩
    · rw [if_neg q, ih (by omega) c]
      constructor
      · rintro ⟨h1, h2⟩; exact ⟨by omega, h2⟩
      · rintro ⟨h1, h2⟩
        refine ⟨?_, h2⟩
        by_cases e : c = n
        · subst e; exact absurd h2 q
        · omega
theorem opn_hb (a : Nat → Int32) (c : Nat) : hb (opn a) c = true ↔ c < 30 ∧ a (100 + c) = 0 := fre_hb a 30 (Nat.le_refl 30) c
theorem opn_30 (a : Nat → Int32) : S30 (opn a) := fun c hc => by
  cases e : hb (opn a) c
  · rfl
  · have := (opn_hb a c).mp e; omega
theorem Opn.zero {ρ a : Nat → Int32} (h : Opn ρ a) {c : Nat} (hc : c < 30) : hb (ρ 85) c = false ↔ a (100 + c) = 0 := by
  obtain ⟨h1, m, hm, e, h2⟩ := h
  rw [e, hb_tn, pk_tn (by omega)]
  obtain ⟨b, hb1, eb⟩ := h1 c hc
  have := h2 c hc
  rw [eb] at this ⊢
  rcases (show b = 0 ∨ b = 1 by omega) with rfl | rfl
  · constructor
    · intro _; rfl
    · intro _; cases e1 : m.testBit c
      · rfl
      · exact absurd (this.mp e1) (by decide)
  · constructor
    · intro h; rw [this.mpr rfl] at h; exact Bool.noConfusion h
    · intro h; exact absurd h (by decide)
theorem Opn.eq {ρ a : Nat → Int32} (h : Opn ρ a) : (1073741823 &&& (ρ 85 ^^^ -1)) = opn a := by
  refine S30.ext (fun c hc => by rw [hb_and, hb_all, decide_eq_false (by omega)]; rfl) (opn_30 a) (fun c hc => ?_)
  rw [hb_and, hb_all, decide_eq_true hc, hb_not _ (by omega), Bool.true_and]
  cases e : hb (ρ 85) c
  · rw [(opn_hb a c).mpr ⟨hc, (h.zero hc).mp e⟩]; rfl
  · cases e2 : hb (opn a) c
    · rfl
    · rw [(h.zero hc).mpr ((opn_hb a c).mp e2).2] at e; exact Bool.noConfusion e
theorem rl_in {b k : Nat} (hk : k < 117) : vp_in (nI k) (rowLen b) := by
  unfold rowLen
  by_cases h : b = 0
  · rw [if_pos h]; exact vp_in_nI (by omega) (by decide)
  · rw [if_neg h]; exact vp_in_nI (by omega) (by decide)
theorem openX {b : Nat} {a : Nat → Int32} {u : PoS} (h : Opn (u.1 (3 + b)) a) {post : Int32 → PoS → Prop} (K : post (opn a) u) : wp_X8_open b u post :=
  ⟨rl_in (k := 85) (by decide), by rw [gI_def, h.eq]; exact K⟩
theorem isOpenX {b : Nat} {a : Nat → Int32} {u : PoS} (h : Opn (u.1 (3 + b)) a) {x : Int32} {post : Int32 → PoS → Prop} (h1 : ∀ c, c < 30 → x = nI c → hb (opn a) c = true → post 1 u) (h0 : (∀ c, c < 30 → x = nI c → hb (opn a) c = false) → post 0 u) : wp_X8_isOpen b x u post := by
  rcases rng 29 (by decide) x with ⟨c, hc, rfl⟩ | hb'
  · refine cellX_t (by omega) ⟨fun q => absurd q (by decide), fun _ => ⟨rl_in (k := 85) (by decide), ?_⟩⟩
    rw [gI_def, bitT _ (by omega)]
    refine ⟨fun q => h0 (fun d hd e => ?_), fun q => h1 c (by omega) rfl ((opn_hb a c).mpr ⟨by omega, (h.zero (by omega)).mp q⟩)⟩
    obtain rfl : c = d := (nI_eq (by omega) (by omega)).mp e
    cases e2 : hb (opn a) c
    · rfl
    · exact absurd ((h.zero (by omega)).mpr ((opn_hb a c).mp e2).2) q
  · exact cellX_f hb' ⟨fun _ => h0 (fun d hd e => by
      rw [e] at hb'
      rcases hb' with q | q
      · exact absurd q (nI_pos (by omega))
      · rw [q_lt (by omega) (by omega)] at q; omega), fun q => absurd rfl q⟩
theorem isFreeM {r : Nat → Int32} {u : PoS} {x : Int32} {post : Int32 → PoS → Prop} (h1 : ∀ c, c < 30 → x = nI c → hb (opn (u.1 49)) c = true → post 1 u) (h0 : (∀ c, c < 30 → x = nI c → hb (opn (u.1 49)) c = false) → post 0 u) : wp_X12_isFree x u post := by
  rcases rng 29 (by decide) x with ⟨c, hc, rfl⟩ | hb'
  · refine cellM_t (by omega) ⟨fun q => absurd q (by decide), fun _ => ?_⟩
    rw [show (100 : Int32) + nI c = nI (100 + c) by simp (disch := omega) only [q_lit, nI_add, pk_mul, q_sub, q_rem, q_div, q_vp, q_cl, q_lt, q_le, q_eq, q_neg1, gI_def], q_vp (by omega) (by omega), q_cl (by omega), gI_def]
    refine ⟨by omega, fun q => h0 (fun d hd e => ?_), fun q => h1 c (by omega) rfl ((opn_hb _ c).mpr ⟨by omega, q⟩)⟩
    obtain rfl : c = d := (nI_eq (by omega) (by omega)).mp e
    cases e2 : hb (opn (u.1 49)) c
    · rfl
    · exact absurd ((opn_hb _ c).mp e2).2 q
  · exact cellM_f hb' ⟨fun _ => h0 (fun d hd e => by
      rw [e] at hb'
      rcases hb' with q | q
      · exact absurd q (nI_pos (by omega))
      · rw [q_lt (by omega) (by omega)] at q; omega), fun q => absurd rfl q⟩
theorem freeM {u : PoS} {post : Int32 → PoS → Prop} (K : post (opn (u.1 49)) u) : wp_X12_free u post := by
  refine ⟨31, ?_⟩
  have : ∀ k c, c + k = 30 → wl_X12_free_4 post (k + 1) (fre (u.1 49) c) (nI c) u := by
    intro k
    induction k with
    | zero => intro c hc; obtain rfl : c = 30 := by omega
              rw [wl_X12_free_4]; exact ⟨fun _ => K, fun q => absurd (by decide) q⟩
    | succ k ih =>
      intro c hc
      have ih := ih (c + 1) (by omega)
      rw [fre] at ih
      rw [wl_X12_free_4]
      refine ⟨fun q => absurd q (nI_ge (b := 30) (by omega) (by decide)), fun _ => isFreeM (r := u.1 49) (fun d hd e h => ⟨fun q => absurd q (by decide), fun _ x3 e3 => ?_⟩) (fun h => ⟨fun _ x3 e3 => ?_, fun q => absurd rfl q⟩)⟩
      · obtain rfl : c = d := (nI_eq (by omega) (by omega)).mp e
        rw [if_pos ((opn_hb _ c).mp h).2] at ih
        rw [e3, nI_1]; exact ih
      · have : ¬ u.1 49 (100 + c) = 0 := fun q => by
          have := h c (by omega) rfl
          rw [(opn_hb _ c).mpr ⟨by omega, q⟩] at this; exact Bool.noConfusion this
        rw [if_neg this] at ih
        rw [e3, nI_1, Int32.or_zero]; exact ih
  exact this 30 0 rfl
/-! STEPS -/
theorem stX {o : Int32} (hO : S30 o) {s : Int32} (hs : S30 s) {b : Nat} (hb30 : b < 30) {u : PoS} (post : Int32 → PoS → Prop) : ∀ f k, k + f = 30 → post (fsK o s b f k) u → wl_X1_stepsBetween_25 post (f + 1) (nI b) o (Rch o s k) (nI k) u := by
  intro f
  induction f with
  | zero => intro k hk K; obtain rfl : k = 30 := by omega
            rw [wl_X1_stepsBetween_25]; exact ⟨fun _ => K, fun q => absurd (by decide) q⟩
  | succ f ih =>
    intro k hk K
    rw [fsK] at K
    rw [wl_X1_stepsBetween_25, bitT _ (by omega)]
    refine ⟨fun q => absurd q (nI_ge (b := 30) (by omega) (by decide)), fun _ => ⟨fun q => besX (Rch_30 hs k) (fun x8 e8 => ?_), fun q => ?_⟩⟩
    · rw [if_neg (by rw [q]; decide)] at K
      rw [e8, nI_1]; exact ih (k + 1) (by omega) K
    · rw [if_pos (by cases e : hb (Rch o s k) b
                     · exact absurd e q
                     · rfl)] at K
      exact K
theorem stepsX {o : Int32} (hO : S30 o) {a b : Nat} (ha : a < 30) (hb' : b < 30) {u : PoS} {post : Int32 → PoS → Prop} (K : post (dst o a b) u) : wp_X1_stepsBetween (nI a) (nI b) o u post := by
  cases ea : hb o a
  · refine hasX_f ha ea ⟨fun _ => ?_, fun q => absurd rfl q⟩
    unfold dst at K; rw [if_neg (by rw [ea]; decide)] at K; exact K
  · refine hasX_t ha ea ⟨fun q => absurd q (by decide), fun _ => ?_⟩
    cases eb : hb o b
    · refine hasX_f hb' eb ⟨fun q => absurd rfl q, fun _ => ?_⟩
      rw [dst_shut hO ha eb] at K; exact K
    · refine hasX_t hb' eb ⟨fun _ x5 e5 => ⟨31, ?_⟩, fun q => absurd q (by decide)⟩
      unfold dst at K; rw [if_pos ea] at K
      rw [e5]; exact stX hO (bt1_30 ha) hb' post 30 0 rfl K
theorem stepsX_o {o x y : Int32} (h : (x < 0 ∨ nI 29 < x) ∨ (y < 0 ∨ nI 29 < y)) {u : PoS} {post : Int32 → PoS → Prop} (K : post (-1) u) : wp_X1_stepsBetween x y o u post := by
  rcases rng 29 (by decide) x with ⟨c, hc, rfl⟩ | hx
  · have hy : y < 0 ∨ nI 29 < y := by
      rcases h with (q | q) | q
      · exact absurd q (nI_pos (by omega))
      · rw [q_lt (by omega) (by omega)] at q; omega
      · exact q
    cases ea : hb o c
    · exact hasX_f (by omega) ea ⟨fun _ => K, fun q => absurd rfl q⟩
    · exact hasX_t (by omega) ea ⟨fun q => absurd q (by decide), fun _ => hasX_o hy ⟨fun q => absurd rfl q, fun _ => K⟩⟩
  · exact hasX_o hx ⟨fun _ => K, fun q => absurd rfl q⟩
theorem fsK_succ {o s : Int32} (hs : S30 s) (b f : Nat) : fsK o s b (f + 1) 0 = if hb (Nw o s f) b = true then nI f else fsK o s b f 0 := by
  have hF : ∀ {x : Bool}, x = false → ¬ x = true := fun h q => by rw [h] at q; exact Bool.noConfusion q
  rcases fsK_is o s b f 0 with ⟨j, _, h2, h3, h4, h5⟩ | ⟨h1, h2⟩
  · rw [if_neg (fun q => hF (((Nw_iff hs f b).mp q).2 j (by omega)) h4), h3]
    rcases fsK_is o s b (f + 1) 0 with ⟨i, _, g2, g3, g4, g5⟩ | ⟨g1, g2⟩
    · rw [g3]
      rcases Nat.lt_trichotomy i j with q | q | q
      · exact absurd g4 (hF (h5 i (Nat.zero_le i) q))
      · rw [q]
      · exact absurd h4 (hF (g5 j (Nat.zero_le j) q))
    · exact absurd h4 (hF (g2 j (Nat.zero_le j) (by omega)))
  · rcases fsK_is o s b (f + 1) 0 with ⟨i, _, g2, g3, g4, g5⟩ | ⟨g1, g2⟩
    · have : i = f := by
        rcases Nat.lt_or_ge i f with q | q
        · exact absurd g4 (hF (h2 i (Nat.zero_le i) (by omega)))
        · omega
      subst this
      rw [if_pos ((Nw_iff hs i b).mpr ⟨g4, fun j hj => h2 j (Nat.zero_le j) (by omega)⟩), g3]
    · rw [if_neg (fun q => hF (g2 f (Nat.zero_le f) (by omega)) ((Nw_iff hs f b).mp q).1), g1, h1]
theorem fsK_top {o s : Int32} (hs : S30 s) (b : Nat) {k : Nat} (h : Nw o s k = 0) : ∀ j, fsK o s b (k + j) 0 = fsK o s b k 0 := by
  intro j
  induction j with
  | zero => rfl
  | succ j ih => rw [show k + (j + 1) = (k + j) + 1 by omega, fsK_succ hs, Nw_0 h j, hb_0, if_neg (by decide), ih]
/-- all but the far row stands -/
def Fr57 (u z : PoS) : Prop := ∀ i, i ≠ 57 → z.1 i = u.1 i
theorem far1 {u : PoS} (K : Int32 → Int32 → PoS → Prop) (post : PoS → Prop) (x y : Int32) (hK : ∀ z, Fr57 u z → (∀ c, c < 30 → z.1 57 c = -1) → K x y z) : ∀ k c, c + k = 30 → ∀ z, Fr57 u z → (∀ d, d < c → z.1 57 d = -1) → wl_X12_layFar_2 K post (k + 1) x y (nI c) z := by
  intro k
  induction k with
  | zero => intro c hc z h1 h2; obtain rfl : c = 30 := by omega
            rw [wl_X12_layFar_2]; exact ⟨fun _ => hK z h1 h2, fun q => absurd (by decide) q⟩
  | succ k ih =>
    intro c hc z h1 h2
    rw [wl_X12_layFar_2]
    refine ⟨fun q => absurd q (nI_ge (b := 30) (by omega) (by decide)), fun _ => ⟨vp_in_nI (by omega) (by decide), fun z1 e => ?_⟩⟩
    rw [q_cl (by omega)] at e
    rw [nI_1]
    subst e
    refine ih (c + 1) (by omega) _ (fun i hi => by simp (disch := omega) only [gI_def, pI_s, pI_o, cI_s, cI_o, pL_1, pR_1]; exact h1 i hi) (fun d hd => ?_)
    simp (disch := omega) only [gI_def, pI_s, pI_o, cI_s, cI_o, pL_1, pR_1]
    by_cases e : d = c
    · rw [e, up_eq]
    · rw [up_ne e]; exact h2 d (by omega)
theorem far2 {u : PoS} {o s t v : Int32} {f : Nat → Int32} (K : Int32 → Int32 → Int32 → Int32 → PoS → Prop) (post : PoS → Prop) (hK : ∀ z, Fr57 u z → (∀ c, c < 30 → z.1 57 c = if hb s c = true then v else f c) → K o s t v z) : ∀ k c, c + k = 30 → ∀ z, Fr57 u z → (∀ d, d < 30 → z.1 57 d = if d < c ∧ hb s d = true then v else f d) → wl_X12_layFar_50 K post (k + 1) o s t v (nI c) z := by
  intro k
  induction k with
  | zero => intro c hc z h1 h2; obtain rfl : c = 30 := by omega
            rw [wl_X12_layFar_50]; exact ⟨fun _ => hK z h1 (fun c hc => by
              rw [h2 c hc]
              by_cases q : hb s c = true
              · rw [if_pos q, if_pos ⟨hc, q⟩]
              · rw [if_neg q, if_neg (fun z => q z.2)]), fun q => absurd (by decide) q⟩
  | succ k ih =>
    intro c hc z h1 h2
    rw [wl_X12_layFar_50]
    refine ⟨fun q => absurd q (nI_ge (b := 30) (by omega) (by decide)), fun _ => ?_⟩
    cases e : hb s c
    · refine hasM_f (by omega) e ⟨fun _ => ?_, fun q => absurd rfl q⟩
      unfold wj_X12_layFar_75
      rw [nI_1]
      refine ih (c + 1) (by omega) z h1 (fun d hd => ?_)
      rw [h2 d hd]
      by_cases ed : d = c
      · subst ed; rw [e, if_neg (fun z => by have := z.1; omega), if_neg (fun z => by have := z.2; exact Bool.noConfusion this)]
      · by_cases q : d < c ∧ hb s d = true
        · rw [if_pos q, if_pos ⟨by omega, q.2⟩]
        · rw [if_neg q, if_neg (fun z => q ⟨by omega, z.2⟩)]
    · refine hasM_t (by omega) e ⟨fun q => absurd q (by decide), fun _ => ⟨vp_in_nI (by omega) (by decide), fun z8 e8 => ?_⟩⟩
      unfold wj_X12_layFar_75
      rw [q_cl (by omega)] at e8
      rw [nI_1]
      subst e8
      refine ih (c + 1) (by omega) _ (fun i hi => by simp (disch := omega) only [gI_def, pI_s, pI_o, cI_s, cI_o, pL_1, pR_1]; exact h1 i hi) (fun d hd => ?_)
      simp (disch := omega) only [gI_def, pI_s, pI_o, cI_s, cI_o, pL_1, pR_1]
      by_cases ed : d = c
      · rw [ed, up_eq, if_pos ⟨by omega, e⟩]
      · rw [up_ne ed, h2 d hd]
        by_cases q : d < c ∧ hb s d = true
        · rw [if_pos q, if_pos ⟨by omega, q.2⟩]
        · rw [if_neg q, if_neg (fun z => q ⟨by omega, z.2⟩)]
theorem far3 {u : PoS} {o s : Int32} (hs : S30 s) (post : PoS → Prop) (hK : ∀ z, Fr57 u z → (∀ c, c < 30 → z.1 57 c = fsK o s c 30 0) → post z) : ∀ f k, k + f = 30 → ∀ z, Fr57 u z → (∀ c, c < 30 → z.1 57 c = fsK o s c k 0) → wl_X12_layFar_43 post (f + 1) o (Nw o s k) (Rch o s k) (nI k) z := by
  intro f
  induction f with
  | zero => intro k hk z h1 h2; obtain rfl : k = 30 := by omega
            rw [wl_X12_layFar_43]; exact ⟨fun _ => hK z h1 h2, fun q => absurd (Nw_30k hs (Nat.le_refl 30)) q⟩
  | succ f ih =>
    intro k hk z h1 h2
    rw [wl_X12_layFar_43]
    refine ⟨fun q => hK z h1 (fun c hc => ?_), fun _ => ⟨31, ?_⟩⟩
    · rw [h2 c hc]
      have := fsK_top hs c q (30 - k)
      rw [show k + (30 - k) = 30 by omega] at this
      exact this.symm
    · refine far2 (u := u) (f := fun c => fsK o s c k 0) _ _ (fun z' g1 g2 => ?_) 30 0 rfl z h1 (fun d hd => ?_)
      · refine besM ?_
        intro x14 e14 x15 e15
        rw [show (bes (Nw o s k) &&& o) &&& (Rch o s k ^^^ -1) = Nw o s (k + 1) from rfl] at e14
        rw [e14, ← Nw_or hs k] at e15
        rw [e14, e15, nI_1]
        exact ih (k + 1) (by omega) z' g1 (fun c hc => by rw [g2 c hc, fsK_succ hs])
      · rw [if_neg (fun z => Nat.not_lt_zero d z.1)]; exact h2 d hd
theorem layFarM {o : Int32} {a : Nat} (ha : a < 30) {u : PoS} {post : PoS → Prop} (K : ∀ z, Fr57 u z → (∀ c, c < 30 → z.1 57 c = dst o a c) → post z) : wp_X12_layFar (nI a) o u post := by
  refine ⟨31, far1 (u := u) _ _ _ _ (fun z h1 h2 => ?_) 30 0 rfl u (fun _ _ => rfl) (fun d hd => absurd hd (Nat.not_lt_zero d))⟩
  cases e : hb o a
  · refine hasM_f (by omega) e ⟨fun _ => ⟨1, ?_⟩, fun q => absurd rfl q⟩
    rw [wl_X12_layFar_43]
    exact ⟨fun _ => K z h1 (fun c hc => by rw [h2 c hc]; unfold dst; rw [if_neg (by rw [e]; decide)]), fun q => absurd rfl q⟩
  · refine hasM_t (by omega) e ⟨fun q => absurd q (by decide), fun _ => ⟨31, ?_⟩⟩
    exact far3 (u := u) (o := o) (s := bt1 a) (bt1_30 ha) post (fun z g1 g2 => K z g1 (fun c hc => by rw [g2 c hc]; unfold dst; rw [if_pos e])) 30 0 rfl z h1 h2
theorem stepsM {a b : Nat} (ha : a < 30) (hb' : b < 30) {u : PoS} {post : Int32 → PoS → Prop} (K : ∀ z, Fr57 u z → post (dst (opn (u.1 49)) a b) z) : wp_X12_stepsOf (nI a) (nI b) u post :=
  freeM (layFarM ha (fun z h1 h2 => ⟨vp_in_nI hb' (by decide), by rw [q_cl (by omega), gI_def, h2 b hb']; exact K z h1⟩))
/-- scratch of no account: Inv doesn't speak of these -/
theorem inv_scr {LT : Nat → PoS → Prop} (hLT : LTok LT) {u z : PoS} (h : Inv LT u) (hz : ∀ j, j = 0 ∨ j = 3 ∨ j = 5 ∨ (7 ≤ j ∧ j ≤ 26) ∨ j = 27 ∨ j = 31 ∨ j = 49 ∨ j = 50 ∨ j = 51 ∨ j = 52 → z.1 j = u.1 j) (hk : ∀ k, k = 4 ∨ k = 5 ∨ k = 6 ∨ k = 24 → z.1 48 k = u.1 48 k) : Inv LT z :=
  inv_row hLT h (by rw [hz 3 (by omega), hz 49 (by omega)]; exact h.1) (by rw [hz 49 (by omega)]) (fun j hj => hz j (by omega)) hk
theorem inv_57 {LT : Nat → PoS → Prop} (hLT : LTok LT) {u z : PoS} (h : Inv LT u) (hz : Fr57 u z) : Inv LT z := inv_scr hLT h (fun j hj => hz j (by omega)) (fun k _ => by rw [hz 48 (by decide)])
theorem ob_steps {LT : Nat → PoS → Prop} (hLT : LTok LT) (x y : Int32) : Ob32 (wp_X11_steps x y) (wp_X12_steps x y) (Inv LT) := by
  intro u hI
  have hO := hI.1.2.2.2.1.opn
  rcases rng 29 (by decide) x with ⟨a, ha, rfl⟩ | hx
  · rcases rng 29 (by decide) y with ⟨b, hb', rfl⟩ | hy
    · refine ⟨fun r u1 => r = dst (opn (u.1 49)) a b ∧ u1 = u, fun K hK => openX (b := 0) hO (stepsX (opn_30 _) (by omega) (by omega) (hK _ _ ⟨rfl, rfl⟩)), fun r u1 hr K hK => ?_⟩
      obtain ⟨rfl, rfl⟩ := hr
      exact cellM_t (by omega) ⟨fun q => absurd q (by decide), fun _ => cellM_t (by omega) ⟨fun q => absurd q (by decide), fun _ => stepsM (by omega) (by omega) (fun z hz => hK _ (inv_57 hLT hI hz))⟩⟩
    · refine ⟨fun r u1 => r = -1 ∧ u1 = u, fun K hK => openX (b := 0) hO (stepsX_o (Or.inr hy) (hK _ _ ⟨rfl, rfl⟩)), fun r u1 hr K hK => ?_⟩
      obtain ⟨rfl, rfl⟩ := hr
      exact cellM_t (by omega) ⟨fun q => absurd q (by decide), fun _ => cellM_f hy ⟨fun _ => hK _ hI, fun q => absurd rfl q⟩⟩
  · refine ⟨fun r u1 => r = -1 ∧ u1 = u, fun K hK => openX (b := 0) hO (stepsX_o (Or.inl hx) (hK _ _ ⟨rfl, rfl⟩)), fun r u1 hr K hK => ?_⟩
    obtain ⟨rfl, rfl⟩ := hr
    exact cellM_f hx ⟨fun _ => hK _ hI, fun q => absurd rfl q⟩
