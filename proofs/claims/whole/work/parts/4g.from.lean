/-! WHERE IT CAME FROM -/
def sb (a : Nat → Int32) (n : Nat) : Nat → Int32
  | 0 => 1073741823
  | k + 1 => if a (166 + 2 * k) = nI n then sb a n k &&& bt1 (nN (a (165 + 2 * k))) else sb a n k
def sbS (a : Nat → Int32) (n : Nat) : Int32 := sb a n (nN (a 4))
def mxS (a : Nat → Int32) : Nat → Nat
  | 0 => 0
  | k + 1 => max (mxS a k) (nN (a (166 + 2 * k)))
theorem sb_30 (a : Nat → Int32) (n : Nat) : ∀ k, S30 (sb a n k) := by
  intro k
  induction k with
  | zero => intro c hc; rw [sb, hb_all, decide_eq_false (by omega)]
  | succ k ih =>
    rw [sb]
    by_cases h : a (166 + 2 * k) = nI n
    · rw [if_pos h]; exact ih.and _
    · rw [if_neg h]; exact ih
theorem RowOk.sees {r a : Nat → Int32} (h : RowOk r a) : ∃ s, s ≤ 6 ∧ a 4 = nI s ∧ r 153 = nI s ∧ nN (a 4) = s := by
  obtain ⟨⟨e0, e1, e2, e3, e4, -⟩, ⟨-, -, -, -, ⟨s, hs, b4⟩, -⟩, -⟩ := h
  exact ⟨s, hs, b4, by rw [e4, b4], by rw [b4, nN_nI (by omega)]⟩
theorem RowOk.see {r a : Nat → Int32} (h : RowOk r a) {k : Nat} (hk : k < nN (a 4)) : ∃ c n, c < 30 ∧ n ≤ 30 ∧ a (165 + 2 * k) = nI c ∧ r (154 + k) = nI c ∧ a (166 + 2 * k) = nI n ∧ r (160 + k) = nI n ∧ k < 6 := by
  obtain ⟨s, hs, s1, s2, s3⟩ := h.sees
  obtain ⟨-, -, -, -, -, h6, -⟩ := h
  obtain ⟨g1, ⟨c, hc, g2⟩, g3, ⟨n, hn, g4⟩⟩ := h6 k (by omega) hk
  exact ⟨c, n, by omega, hn, g2, by rw [g1, g2], g4, by rw [g3, g4], by omega⟩
theorem seenX {u : PoS} {a : Nat → Int32} (h : RowOk (u.1 3) a) {n : Nat} (hn : n ≤ 30) {post : Int32 → PoS → Prop} (K : post (sbS a n) u) : wp_X11_seenBehind (nI n) u post := by
  obtain ⟨s, hs, s1, s2, s3⟩ := h.sees
  refine ⟨s + 1, ?_⟩
  have lp : ∀ m k, k + m = s → wl_X11_seenBehind_6 post (m + 1) (nI n) (sb a n k) (nI k) u := by
    intro m
    induction m with
    | zero =>
      intro k hk
      obtain rfl : k = s := by omega
      rw [wl_X11_seenBehind_6, gI_def, s2, q_le (by omega) (by omega)]
      refine ⟨fun _ => ?_, fun h => by omega⟩
      unfold sbS at K; rw [s3] at K; exact K
    | succ m ih =>
      intro k hk
      obtain ⟨c, n', hc, hn', g1, g2, g3, g4, g5⟩ := h.see (show k < nN (a 4) by omega)
      have ih := ih (k + 1) (by omega)
      rw [sb, g3, g1, nN_nI (by omega)] at ih
      rw [wl_X11_seenBehind_6, gI_def, s2, q_le (by omega) (by omega), show (160 : Int32) + nI k = nI (160 + k) by simp (disch := omega) only [q_lit, nI_add, pk_mul, q_sub, q_rem, q_div, q_vp, q_cl, q_lt, q_le, q_eq, q_neg1, gI_def], show (154 : Int32) + nI k = nI (154 + k) by simp (disch := omega) only [q_lit, nI_add, pk_mul, q_sub, q_rem, q_div, q_vp, q_cl, q_lt, q_le, q_eq, q_neg1, gI_def], q_vp (by omega) (by omega), q_vp (by omega) (by omega), q_cl (by omega), q_cl (by omega), gI_def, gI_def, g2, g4]
      refine ⟨fun h => by omega, fun _ => ⟨by omega, fun e => ?_, fun e => ⟨by omega, fun x1 ex => ?_⟩⟩⟩
      · unfold wj_X11_seenBehind_47; rw [nI_1]; rw [if_neg e] at ih; exact ih
      · unfold wj_X11_seenBehind_47; rw [nI_1, ex]; rw [if_pos e] at ih; exact ih
  exact lp s 0 (Nat.zero_add s)
theorem seenM {u : PoS} {r : Nat → Int32} (h : RowOk r (u.1 49)) {n : Nat} (hn : n ≤ 30) {x : Int32} (hx : S30 x) {post : Int32 → PoS → Prop} (K : post (x &&& sbS (u.1 49) n) u) : wp_X12_seenAt x (nI n) u post := by
  obtain ⟨s, hs, s1, s2, s3⟩ := h.sees
  refine ⟨s + 1, ?_⟩
  have lp : ∀ m k, k + m = s → wl_X12_seenAt_5 post (m + 1) (nI n) (x &&& sb (u.1 49) n k) (nI k) u := by
    intro m
    induction m with
    | zero =>
      intro k hk
      obtain rfl : k = s := by omega
      rw [wl_X12_seenAt_5, gI_def, s1, q_le (by omega) (by omega)]
      refine ⟨fun _ => ?_, fun h => by omega⟩
      unfold sbS at K; rw [s3] at K; exact K
    | succ m ih =>
      intro k hk
      obtain ⟨c, n', hc, hn', g1, g2, g3, g4, g5⟩ := h.see (show k < nN (u.1 49 4) by omega)
      have ih := ih (k + 1) (by omega)
      rw [sb, g3, g1, nN_nI (by omega)] at ih
      rw [wl_X12_seenAt_5, gI_def, s1, q_le (by omega) (by omega), show ((165 : Int32) + 2 * nI k) + 1 = nI (166 + 2 * k) by simp (disch := omega) only [q_lit, nI_add, pk_mul, q_sub, q_rem, q_div, q_vp, q_cl, q_lt, q_le, q_eq, q_neg1, gI_def]; omega, show (165 : Int32) + 2 * nI k = nI (165 + 2 * k) by simp (disch := omega) only [q_lit, nI_add, pk_mul, q_sub, q_rem, q_div, q_vp, q_cl, q_lt, q_le, q_eq, q_neg1, gI_def], q_vp (by omega) (by omega), q_vp (by omega) (by omega), q_cl (by omega), q_cl (by omega), gI_def, gI_def, g1, g3]
      refine ⟨fun h => by omega, fun _ => ⟨by omega, fun e => ?_, fun e => ⟨by omega, fun x1 ex => ?_⟩⟩⟩
      · unfold wj_X12_seenAt_53; rw [nI_1]; rw [if_neg e] at ih; exact ih
      · unfold wj_X12_seenAt_53; rw [nI_1, ex]; rw [if_pos e, ← Int32.and_assoc] at ih; exact ih
  have e0 : x = x &&& sb (u.1 49) n 0 := by
    refine hx.ext (hx.and _) (fun c hc => ?_)
    rw [hb_and, sb, hb_all, decide_eq_true hc, Bool.and_true]
  have := lp s 0 (Nat.zero_add s)
  rw [← e0] at this
  exact this
theorem mxS_le {r a : Nat → Int32} (h : RowOk r a) : ∀ k, k ≤ nN (a 4) → mxS a k ≤ 30 := by
  intro k
  induction k with
  | zero => intro _; exact Nat.zero_le _
  | succ k ih =>
    intro hk
    obtain ⟨c, n, hc, hn, g1, g2, g3, g4, g5⟩ := h.see (show k < nN (a 4) by omega)
    rw [mxS, g3, nN_nI (by omega)]
    have := ih (by omega)
    omega
/-- backwards, as the class does; forwards from c, as the reference does -/
def gB (o : Int32) (S : Nat → Int32) (L : Nat) : Nat → Int32
  | 0 => o &&& S L
  | j + 1 => (bes (gB o S L j) &&& o) &&& S (L - (j + 1))
def fF (o : Int32) (S : Nat → Int32) (c : Nat) : Nat → Int32
  | 0 => bt1 c &&& S 0
  | n + 1 => (bes (fF o S c n) &&& o) &&& S (n + 1)
theorem gB_sub {o : Int32} {S : Nat → Int32} {L : Nat} : ∀ j d, hb (gB o S L j) d = true → hb o d = true ∧ hb (S (L - j)) d = true := by
  intro j d h
  cases j with
  | zero => rw [gB, hb_and, Bool.and_eq_true] at h; exact h
  | succ j => rw [gB, hb_and, hb_and, Bool.and_eq_true, Bool.and_eq_true] at h; exact ⟨h.1.2, h.2⟩
theorem gB_30 {o : Int32} (hO : S30 o) {S : Nat → Int32} {L : Nat} (j : Nat) : S30 (gB o S L j) := fun d hd => by
  cases e : hb (gB o S L j) d
  · rfl
  · have := (gB_sub j d e).1
    rw [hO d hd] at this; exact Bool.noConfusion this
theorem fF_30 {o : Int32} (hO : S30 o) {S : Nat → Int32} {c : Nat} (hc : c < 30) (n : Nat) : S30 (fF o S c n) := by
  cases n with
  | zero => exact (bt1_30 hc).and _
  | succ n => exact ((bes_30 _).and _).and _
theorem fF_sub {o : Int32} {S : Nat → Int32} {c : Nat} (hc : c < 30) (ho : hb o c = true) : ∀ n d, hb (fF o S c n) d = true → hb o d = true ∧ hb (S n) d = true := by
  intro n d h
  cases n with
  | zero =>
    rw [fF, hb_and, Bool.and_eq_true] at h
    have := (bt1_hb hc d).mp h.1
    exact ⟨by rw [this]; exact ho, h.2⟩
  | succ n => rw [fF, hb_and, hb_and, Bool.and_eq_true, Bool.and_eq_true] at h; exact ⟨h.1.2, h.2⟩
theorem fg_step {o : Int32} (hO : S30 o) {S : Nat → Int32} {c L : Nat} (hc : c < 30) (ho : hb o c = true) : ∀ j, j ≤ L → ((∃ d, hb (fF o S c L) d = true) ↔ ∃ e, hb (fF o S c (L - j)) e = true ∧ hb (gB o S L j) e = true) := by
  intro j
  induction j with
  | zero =>
    intro _
    constructor
    · rintro ⟨d, hd⟩
      refine ⟨d, hd, ?_⟩
      have := fF_sub hc ho L d hd
      rw [gB, hb_and, this.1, this.2]; rfl
    · rintro ⟨d, hd, -⟩; exact ⟨d, hd⟩
  | succ j ih =>
    intro hj
    rw [ih (by omega)]
    have eL : L - j = (L - (j + 1)) + 1 := by omega
    constructor
    · rintro ⟨e, h1, h2⟩
      rw [eL, fF, hb_and, hb_and, Bool.and_eq_true, Bool.and_eq_true, bes_hb (fF_30 hO hc _)] at h1
      obtain ⟨⟨⟨h30, e', h3, h4⟩, h5⟩, h6⟩ := h1
      obtain ⟨s1, s2⟩ := fF_sub hc ho _ e' h3
      refine ⟨e', h3, ?_⟩
      rw [gB, hb_and, hb_and, s1, s2, Bool.and_true, Bool.and_true, bes_hb (gB_30 hO j)]
      exact ⟨hO.lt s1, e, h2, adj_sym h4⟩
    · rintro ⟨e', h1, h2⟩
      rw [gB, hb_and, hb_and, Bool.and_eq_true, Bool.and_eq_true, bes_hb (gB_30 hO j)] at h2
      obtain ⟨⟨⟨h30, e, h3, h4⟩, h5⟩, h6⟩ := h2
      obtain ⟨s1, s2⟩ := gB_sub j e h3
      refine ⟨e, ?_, h3⟩
      rw [eL] at s2 ⊢
      rw [fF, hb_and, hb_and, s1, s2, Bool.and_true, Bool.and_true, bes_hb (fF_30 hO hc _)]
      exact ⟨hO.lt s1, e', h1, adj_sym h4⟩
theorem fg_eq {o : Int32} (hO : S30 o) {S : Nat → Int32} {c L : Nat} (hc : c < 30) (ho : hb o c = true) : (¬ fF o S c L = 0) ↔ hb (gB o S L L) c = true := by
  have h := fg_step hO (S := S) hc ho L (Nat.le_refl L)
  rw [Nat.sub_self] at h
  constructor
  · intro hn
    obtain ⟨d, -, hd⟩ := S30_ne (fF_30 hO hc L) hn
    obtain ⟨e, h1, h2⟩ := h.mp ⟨d, hd⟩
    rw [fF, hb_and, Bool.and_eq_true] at h1
    rw [(bt1_hb hc e).mp h1.1] at h2; exact h2
  · intro hg
    have hs := gB_sub L c hg
    rw [Nat.sub_self] at hs
    obtain ⟨d, hd⟩ := h.mpr ⟨c, by rw [fF, hb_and, hs.2, (bt1_hb hc c).mpr rfl]; rfl, hg⟩
    exact ne_of_hb hd
theorem ob_from {LT : Nat → PoS → Prop} (b : Int32) (_ : IsB b) : Ob32 (wp_X11_from b) (wp_X12_from b) (Inv LT) := by
  refine ob_same (fun u => if b = 0 then gB (opn (u.1 49)) (sbS (u.1 49)) (mxS (u.1 49) (nN (u.1 49 4))) (mxS (u.1 49) (nN (u.1 49 4))) else nI (cnt (gB (opn (u.1 49)) (sbS (u.1 49)) (mxS (u.1 49) (nN (u.1 49 4))) (mxS (u.1 49) (nN (u.1 49 4)))) 32)) (fun u hI K hK => ?_) (fun u hI K hK => ?_)
  · have hR := hI.1
    obtain ⟨s, hs, s1, s2, s3⟩ := hR.sees
    have hL := mxS_le hR _ (Nat.le_refl _)
    generalize eL : mxS (u.1 49) (nN (u.1 49 4)) = L at *
    generalize eO : opn (u.1 49) = o at *
    have hO : S30 o := by rw [← eO]; exact opn_30 _
    refine openX (b := 0) hR.liv.2.2.2.opn ?_
    rw [eO]
    refine ⟨s + 1, ?_⟩
    have back : ∀ m j, j + m = L → ∀ v5 : Int32, v5 = (nI (L - j) - 1) → wl_X11_from_62 (fun (v116 : Int32) (v416 : Int32) (u16 : PoS) => ((v116 = 0 → K v416 u16) ∧ (¬ v116 = 0 → wp_J6_bitCount_0f7a4 v416 u16 (fun (r17 : Int32) (u18 : PoS) => K r17 u18)))) K (m + 1) b o (gB o (sbS (u.1 49)) L j) v5 u := by
      intro m
      induction m with
      | zero =>
        intro j hj v5 hv
        obtain rfl : j = L := by omega
        rw [wl_X11_from_62, hv, Nat.sub_self]
        refine ⟨fun _ => ⟨fun hb => ?_, fun hb => bcN ?_⟩, fun h => absurd (by decide) h⟩
        · rw [if_pos hb] at hK; exact hK
        · rw [if_neg hb] at hK; exact hK
      | succ m ih =>
        intro j hj v5 hv
        rw [show (1 : Int32) = nI 1 from rfl, q_sub (by omega)] at hv
        subst hv
        rw [wl_X11_from_62]
        refine ⟨fun h => absurd h (nI_pos (by omega)), fun _ => besX (gB_30 hO j) (seenX hR (by omega) (fun x14 e14 => ?_))⟩
        rw [e14]
        have := ih (j + 1) (by omega) (nI (L - j - 1) + -1) (by rw [show L - (j + 1) = L - j - 1 by omega, Int32.sub_eq_add_neg])
        rw [gB, show L - (j + 1) = L - j - 1 by omega] at this
        exact this
    have lp : ∀ m k, k + m = s → wl_X11_from_13 (fun (v15 : Int32) (v25 : Int32) (v35 : Int32) (u5 : PoS) => wp_X11_seenBehind v35 u5 (fun (r6 : Int32) (u7 : PoS) => ∀ x8 : Int32, x8 = (v25 &&& r6) → ∀ x9 : Int32, x9 = (v35 - 1) → (∃ n62, wl_X11_from_62 (fun (v116 : Int32) (v416 : Int32) (u16 : PoS) => ((v116 = 0 → K v416 u16) ∧ (¬ v116 = 0 → wp_J6_bitCount_0f7a4 v416 u16 (fun (r17 : Int32) (u18 : PoS) => K r17 u18)))) K n62 v15 v25 x8 x9 u7))) K (m + 1) b o (nI (mxS (u.1 49) k)) (nI k) u := by
      intro m
      induction m with
      | zero =>
        intro k hk
        rw [wl_X11_from_13, gI_def, s2, q_le (by omega) (by omega), show k = nN (u.1 49 4) by omega, eL]
        refine ⟨fun _ => seenX hR hL (fun x8 e8 x9 e9 => ⟨L + 1, ?_⟩), fun h => by omega⟩
        rw [e8]
        exact back L 0 (Nat.zero_add L) x9 (by rw [e9, Nat.sub_zero])
      | succ m ih =>
        intro k hk
        obtain ⟨c, n', hc, hn', g1, g2, g3, g4, g5⟩ := hR.see (show k < nN (u.1 49 4) by omega)
        have hm := mxS_le hR k (by omega)
        have ih := ih (k + 1) (by omega)
        rw [mxS, g3, nN_nI (by omega)] at ih
        rw [wl_X11_from_13, gI_def, s2, q_le (by omega) (by omega), show (160 : Int32) + nI k = nI (160 + k) by simp (disch := omega) only [q_lit, nI_add, pk_mul, q_sub, q_rem, q_div, q_vp, q_cl, q_lt, q_le, q_eq, q_neg1, gI_def], q_vp (by omega) (by omega), q_cl (by omega), gI_def, g4]
        refine ⟨fun h => by omega, fun _ => ⟨by omega, fun x3 e3 => ?_⟩⟩
        have : imax (nI (mxS (u.1 49) k)) (nI n') = nI (max (mxS (u.1 49) k) n') := by
          unfold imax
          by_cases z : nI (mxS (u.1 49) k) < nI n'
          · rw [if_pos z]; rw [q_lt (by omega) (by omega)] at z; congr 1; omega
          · rw [if_neg z]; rw [q_lt (by omega) (by omega)] at z; congr 1; omega
        rw [e3, this, nI_1]; exact ih
    exact lp s 0 (Nat.zero_add s)
  · have hR := hI.1
    obtain ⟨s, hs, s1, s2, s3⟩ := hR.sees
    have hL := mxS_le hR _ (Nat.le_refl _)
    generalize eL : mxS (u.1 49) (nN (u.1 49 4)) = L at *
    refine freeM ?_
    generalize eO : opn (u.1 49) = o at *
    have hO : S30 o := by rw [← eO]; exact opn_30 _
    generalize eG : gB o (sbS (u.1 49)) L L = G at *
    -- one CELL
    have one : ∀ c, c < 30 → ∀ K2 : Int32 → PoS → Prop, K2 (if fF o (sbS (u.1 49)) c L = 0 then 0 else 1) u → wp_X12_isFrom (nI c) o u K2 := by
      intro c hc K2 hK2
      refine seenM (n := 0) hR (by decide) (bt1_30 hc) ⟨s + 1, ?_⟩
      have fwd : ∀ m n, n + m = L → wl_X12_isFrom_77 (fun (v311 : Int32) (u11 : PoS) => ((v311 = 0 → K2 0 u11) ∧ (¬ v311 = 0 → K2 1 u11))) K2 (m + 1) o (fF o (sbS (u.1 49)) c n) (nI L) (nI (n + 1)) u := by
        intro m
        induction m with
        | zero =>
          intro n hn
          obtain rfl : n = L := by omega
          rw [wl_X12_isFrom_77, q_lt (by omega) (by omega)]
          refine ⟨fun _ => ⟨fun z => ?_, fun z => ?_⟩, fun h => by omega⟩
          · rw [if_pos z] at hK2; exact hK2
          · rw [if_neg z] at hK2; exact hK2
        | succ m ih =>
          intro n hn
          rw [wl_X12_isFrom_77, q_lt (by omega) (by omega)]
          refine ⟨fun h => by omega, fun _ => besM (seenM hR (by omega) ((bes_30 _).and _) ?_)⟩
          rw [nI_1]
          exact ih (n + 1) (by omega)
      have lp : ∀ m k, k + m = s → wl_X12_isFrom_15 (fun (v25 : Int32) (v35 : Int32) (v45 : Int32) (u5 : PoS) => (∃ n77, wl_X12_isFrom_77 (fun (v311 : Int32) (u11 : PoS) => ((v311 = 0 → K2 0 u11) ∧ (¬ v311 = 0 → K2 1 u11))) K2 n77 v25 v35 v45 1 u5)) K2 (m + 1) o (bt1 c &&& sbS (u.1 49) 0) (nI (mxS (u.1 49) k)) (nI k) u := by
        intro m
        induction m with
        | zero =>
          intro k hk
          rw [wl_X12_isFrom_15, gI_def, s1, q_le (by omega) (by omega), show k = nN (u.1 49 4) by omega, eL]
          exact ⟨fun _ => ⟨L + 1, fwd L 0 (Nat.zero_add L)⟩, fun h => by omega⟩
        | succ m ih =>
          intro k hk
          obtain ⟨c', n', hc', hn', g1, g2, g3, g4, g5⟩ := hR.see (show k < nN (u.1 49 4) by omega)
          have hm := mxS_le hR k (by omega)
          have ih := ih (k + 1) (by omega)
          rw [mxS, g3, nN_nI (by omega)] at ih
          rw [wl_X12_isFrom_15, gI_def, s1, q_le (by omega) (by omega), show ((165 : Int32) + 2 * nI k) + 1 = nI (166 + 2 * k) by simp (disch := omega) only [q_lit, nI_add, pk_mul, q_sub, q_rem, q_div, q_vp, q_cl, q_lt, q_le, q_eq, q_neg1, gI_def]; omega, q_vp (by omega) (by omega), q_cl (by omega), gI_def, g3, q_le (by omega) (by omega)]
          refine ⟨fun h => by omega, fun _ => ⟨by omega, fun e => ?_, fun e => ⟨by omega, ?_⟩⟩⟩
          · unfold wj_X12_isFrom_66; rw [nI_1]; rw [show max (mxS (u.1 49) k) n' = mxS (u.1 49) k by omega] at ih; exact ih
          · unfold wj_X12_isFrom_66; rw [nI_1]; rw [show max (mxS (u.1 49) k) n' = n' by omega] at ih; exact ih
      exact lp s 0 (Nat.zero_add s)
    have hG30 : S30 G := by rw [← eG]; exact gB_30 hO L
    have hGs : ∀ d, hb G d = true → hb o d = true := fun d hd => by rw [← eG] at hd; exact (gB_sub L d hd).1
    refine ⟨31, ?_⟩
    have lp : ∀ m c, c + m = 30 → ∀ x : Int32, S30 x → (∀ d, d < 30 → hb x d = (hb G d && decide (d < c))) → wl_X12_from_10 (fun (v111 : Int32) (v311 : Int32) (u11 : PoS) => ((v111 = 0 → K v311 u11) ∧ (¬ v111 = 0 → wp_X12_bits v311 u11 (fun (r12 : Int32) (u13 : PoS) => K r12 u13)))) K (m + 1) b o x (nI c) u := by
      intro m
      induction m with
      | zero =>
        intro c hc x hx hd
        obtain rfl : c = 30 := by omega
        have : x = G := hx.ext hG30 (fun d h => by rw [hd d h, decide_eq_true h, Bool.and_true])
        rw [wl_X12_from_10, this]
        refine ⟨fun _ => ⟨fun hb => ?_, fun hb => bitsM ?_⟩, fun h => absurd (by decide) h⟩
        · rw [if_pos hb] at hK; exact hK
        · rw [if_neg hb] at hK; exact hK
      | succ m ih =>
        intro c hc x hx hd
        have skip : hb G c = false → wj_X12_from_44 (wl_X12_from_10 (fun (v111 : Int32) (v311 : Int32) (u11 : PoS) => ((v111 = 0 → K v311 u11) ∧ (¬ v111 = 0 → wp_X12_bits v311 u11 (fun (r12 : Int32) (u13 : PoS) => K r12 u13)))) K (m + 1)) K b o (nI c) x u := by
          intro hg
          unfold wj_X12_from_44 wj_X12_from_45
          intro x5 e5
          rw [e5, Int32.or_zero, nI_1]
          refine ih (c + 1) (by omega) x hx (fun d h => ?_)
          rw [hd d h]
          by_cases e : d = c
          · rw [e, hg]; rfl
          · congr 1
            by_cases z : d < c
            · rw [decide_eq_true z, decide_eq_true (by omega)]
            · rw [decide_eq_false z, decide_eq_false (by omega)]
        rw [wl_X12_from_10]
        refine ⟨fun h => absurd h (nI_ge (b := 30) (by omega) (by decide)), fun _ => ?_⟩
        cases ho : hb o c
        · refine hasM_f (by omega) ho ⟨fun _ => skip ?_, fun z => absurd rfl z⟩
          cases e : hb G c
          · rfl
          · rw [hGs c e] at ho; exact Bool.noConfusion ho
        · refine hasM_t (by omega) ho ⟨fun z => absurd z (by decide), fun _ => one c (by omega) _ ?_⟩
          have eq := fg_eq hO (S := sbS (u.1 49)) (L := L) (show c < 30 by omega) ho
          rw [eG] at eq
          by_cases z : fF o (sbS (u.1 49)) c L = 0
          · rw [if_pos z]
            refine ⟨fun _ => skip ?_, fun z => absurd rfl z⟩
            cases e : hb G c
            · rfl
            · exact absurd z (eq.mpr e)
          · rw [if_neg z]
            have hg := eq.mp z
            refine ⟨fun z => absurd z (by decide), fun _ => ?_⟩
            unfold wj_X12_from_45
            intro x5 e5
            rw [e5, nI_1]
            refine ih (c + 1) (by omega) _ (hx.or (bt1_30 (by omega))) (fun d h => ?_)
            show hb (x ||| bt1 c) d = _
            rw [hb_or, hd d h]
            by_cases e : d = c
            · rw [e, (bt1_hb (by omega) c).mpr rfl, hg, Bool.or_true, decide_eq_true (by omega)]; rfl
            · have : hb (bt1 c) d = false := by
                cases e2 : hb (bt1 c) d
                · rfl
                · exact absurd ((bt1_hb (by omega) d).mp e2) e
              rw [this, Bool.or_false]
              congr 1
              by_cases z : d < c
              · rw [decide_eq_true z, decide_eq_true (by omega)]
              · rw [decide_eq_false z, decide_eq_false (by omega)]
    exact lp 30 0 rfl 0 S30_0 (fun d _ => by rw [hb_0, decide_eq_false (by omega), Bool.and_false])
