/-! near, way; the next CELL on a WAY -/
theorem dst_comm {o : Int32} (hO : S30 o) {a b : Nat} (ha : a < 30) (hb' : b < 30) : dst o a b = dst o b a := by
  cases ea : hb o a
  · rw [dst_shut hO hb' ea]; unfold dst; rw [if_neg (by rw [ea]; decide)]
  · cases eb : hb o b
    · rw [dst_shut hO ha eb]; unfold dst; rw [if_neg (by rw [eb]; decide)]
    · exact dst_sym hO ha hb' ea eb
theorem dst_open {o : Int32} (hO : S30 o) {a b k : Nat} (ha : a < 30) (hk : k < 2 ^ 31) (h : dst o a b = nI k) : hb o a = true ∧ hb o b = true ∧ Wk o k a b ∧ (∀ j, j < k → ¬ Wk o j a b) ∧ k < 30 := by
  have hne : ¬ nI k = -1 := by rw [show (1 : Int32) = nI 1 from rfl, q_neg1 hk]; exact fun h => h
  have h1 : hb o a = true := by
    cases e : hb o a
    · unfold dst at h; rw [if_neg (by rw [e]; decide)] at h; exact absurd h.symm hne
    · rfl
  have h2 : hb o b = true := by
    cases e : hb o b
    · rw [dst_shut hO ha e] at h; exact absurd h.symm hne
    · rfl
  rcases dst_is hO ha h1 b with ⟨j, hj, e, w, n⟩ | ⟨e, -⟩
  · rw [e] at h
    obtain rfl : j = k := (nI_eq (by omega) hk).mp h
    exact ⟨h1, h2, w, n, hj⟩
  · rw [e] at h; exact absurd h.symm hne
/-- so far the nearest of p PEOPLE, and its STEPS -/
def nrF (f : Nat → Int32) : Nat → Int32 × Nat
  | 0 => (-1, 30)
  | p + 1 => if ¬ f p = -1 ∧ nN (f p) < (nrF f p).2 then (nI p, nN (f p)) else nrF f p
theorem nrF_is (f : Nat → Int32) : ∀ p, nrF f p = (-1, 30) ∨ ∃ j, j < p ∧ ¬ f j = -1 ∧ nrF f p = (nI j, nN (f j)) := by
  intro p
  induction p with
  | zero => exact Or.inl rfl
  | succ p ih =>
    rw [nrF]
    by_cases q : ¬ f p = -1 ∧ nN (f p) < (nrF f p).2
    · rw [if_pos q]; exact Or.inr ⟨p, by omega, q.1, rfl⟩
    · rw [if_neg q]
      rcases ih with e | ⟨j, hj, h1, e⟩
      · exact Or.inl e
      · exact Or.inr ⟨j, by omega, h1, e⟩
def atF (a : Nat → Int32) (p : Nat) : Nat := nN (a (10 + 6 * p))
theorem atF_of {ρ a : Nat → Int32} (h : Liv ρ a) {p : Nat} (hp : p < nN (a 0)) : atF a p < 30 ∧ a (10 + 6 * p) = nI (atF a p) ∧ ρ p = nI (atF a p) ∧ p < 5 := by
  obtain ⟨c, w, t, b, hc, hw, ht, hb, h5, e1, e2, -⟩ := h.per hp
  unfold atF
  rw [e1, nN_nI (by omega)]
  exact ⟨by omega, rfl, e2, h5⟩
theorem ob_near {LT : Nat → PoS → Prop} (hLT : LTok LT) (x : Int32) : Ob32 (wp_X11_near x) (wp_X12_near x) (Inv LT) := by
  intro u hI
  have hR := hI.1
  have hL := hR.liv
  have hO := hL.2.2.2.opn
  have hO30 := opn_30 (u.1 49)
  obtain ⟨n, hn, e1, e2, e3⟩ := hL.ppl
  rcases rng 29 (by decide) x with ⟨c, hc, rfl⟩ | hx
  · have hf : ∃ f : Nat → Int32, f = fun p => dst (opn (u.1 49)) (atF (u.1 49) p) c := ⟨_, rfl⟩
    obtain ⟨f, hf⟩ := hf
    have fc : ∀ p, f p = -1 ∨ ∃ k, k < 30 ∧ f p = nI k := fun p => by rw [hf]; exact dst_cases _ _ _
    have f2 : ∀ p, (nrF f p).2 ≤ 30 := fun p => by
      rcases nrF_is f p with e | ⟨j, hj, h1, e⟩
      · rw [e]; decide
      · rw [e]
        rcases fc j with q | ⟨k, hk, q⟩
        · exact absurd q h1
        · rw [q]; show nN (nI k) ≤ 30; rw [nN_nI (by omega)]; omega
    refine ⟨fun r u1 => r = (nrF f n).1 ∧ u1 = u, fun K hK => ?_, fun r u1 hr K hK => ?_⟩
    · refine openX (b := 0) hO ⟨n + 1, ?_⟩
      have lp : ∀ k p, p + k = n → wl_X11_near_17 K (k + 1) (nI c) (opn (u.1 49)) (nrF f p).1 (nI (nrF f p).2) (nI p) u := by
        intro k
        induction k with
        | zero => intro p hp
                  rw [wl_X11_near_17, gI_def, e2]
                  exact ⟨fun _ => hK _ _ ⟨by rw [show p = n by omega], rfl⟩, fun q => absurd (nI_le (show n ≤ p by omega) (by omega)) q⟩
        | succ k ih =>
          intro p hp
          have ih := ih (p + 1) (by omega)
          rw [nrF] at ih
          obtain ⟨a1, a2, a3, a4⟩ := atF_of hL (show p < nN (u.1 49 0) by omega)
          rw [wl_X11_near_17, gI_def, e2, zadd, q_le (by omega) (by omega), q_cl (by omega), gI_def, a3]
          refine ⟨fun q => by omega, fun _ => ⟨vp_in_nI (by omega) (by omega), stepsX hO30 a1 (by omega) ?_⟩⟩
          have hfp : dst (opn (u.1 49)) (atF (u.1 49) p) c = f p := by rw [hf]
          rw [hfp]
          refine ⟨fun q => ?_, fun q => ⟨fun z => ?_, fun z => ?_⟩⟩
          · unfold wj_X11_near_65; rw [nI_1]
            rw [if_neg (fun h => h.1 q)] at ih; exact ih
          · rcases fc p with q' | ⟨j, hj, q'⟩
            · exact absurd q' q
            · unfold wj_X11_near_65; rw [nI_1]
              rw [q', q_le (by have := f2 p; omega) (by omega)] at z
              rw [q', nN_nI (by omega), if_neg (fun h => by have := h.2; omega)] at ih; exact ih
          · rcases fc p with q' | ⟨j, hj, q'⟩
            · exact absurd q' q
            · unfold wj_X11_near_65; rw [nI_1]
              rw [q', q_le (by have := f2 p; omega) (by omega)] at z
              rw [q', nN_nI (by omega), if_pos ⟨by rw [q'] at q; exact q, by omega⟩] at ih
              rw [q']; exact ih
      exact lp n 0 (Nat.zero_add n)
    · obtain ⟨rfl, rfl⟩ := hr
      refine cellM_t (by omega) ⟨fun _ => freeM (layFarM (by omega) (fun z fz gz => ⟨n + 1, ?_⟩)), fun q => absurd q (by decide)⟩
      have e49 : z.1 49 = u1.1 49 := fz 49 (by decide)
      have gat : ∀ p, p < n → ∀ {post : Int32 → PoS → Prop}, post (nI (atF (u1.1 49) p)) z → wp_X12_get (nI p) 0 z post := fun p hp post K => getM (o := 0) (by omega) (by decide) (by
        rw [Nat.add_zero, e49, (atF_of hL (show p < nN (u1.1 49 0) by omega)).2.1]; exact K)
      have gfar : ∀ p, p < n → vp_in (nI (atF (u1.1 49) p)) 30 ∧ gI z 57 (Int32.toNatClampNeg (nI (atF (u1.1 49) p))) = f p := fun p hp => by
        obtain ⟨a1, -⟩ := atF_of hL (show p < nN (u1.1 49 0) by omega)
        refine ⟨vp_in_nI a1 (by decide), ?_⟩
        rw [q_cl (by omega), gI_def, gz _ a1, hf]
        exact dst_comm hO30 (by omega) a1
      have lp : ∀ k p, p + k = n → wl_X12_near_22 K (k + 1) (nrF f p).1 (nI p) z := by
        intro k
        induction k with
        | zero => intro p hp
                  rw [wl_X12_near_22, gI_def, e49, e1]
                  exact ⟨fun _ => by rw [show p = n by omega]; exact hK _ (inv_57 hLT hI fz), fun q => absurd (nI_le (show n ≤ p by omega) (by omega)) q⟩
        | succ k ih =>
          intro p hp
          have ih := ih (p + 1) (by omega)
          rw [nrF] at ih
          rw [wl_X12_near_22, gI_def, e49, e1, q_le (by omega) (by omega)]
          refine ⟨fun q => by omega, fun _ => gat p (by omega) ?_⟩
          rw [(gfar p (by omega)).2]
          refine ⟨(gfar p (by omega)).1, fun q => ?_, fun q => ⟨fun z' => ?_, fun z' => gat p (by omega) ⟨(gfar p (by omega)).1, ?_⟩⟩⟩
          · unfold wj_X12_near_79; rw [nI_1]
            rw [if_neg (fun h => h.1 q)] at ih; exact ih
          · unfold wj_X12_near_77 wj_X12_near_79; rw [nI_1]
            rcases nrF_is f p with e | ⟨j, hj, h1, e⟩
            · rcases fc p with q' | ⟨i, hi, q'⟩
              · exact absurd q' q
              · rw [e, q', nN_nI (by omega), if_pos ⟨by rw [q'] at q; exact q, by simp only; omega⟩] at ih; exact ih
            · rw [e] at z'
              rw [show (1 : Int32) = nI 1 from rfl, q_neg1 (by omega)] at z'; exact z'.elim
          · rcases nrF_is f p with e | ⟨j, hj, h1, e⟩
            · rw [e] at z'; exact absurd rfl z'
            · rw [e]
              rw [e] at ih
              refine gat j (by omega) ?_
              rw [(gfar p (by omega)).2, (gfar j (by omega)).2]
              refine ⟨(gfar j (by omega)).1, ?_⟩
              rcases fc p with q' | ⟨i, hi, q'⟩
              · exact absurd q' q
              rcases fc j with q'' | ⟨i', hi', q''⟩
              · exact absurd q'' h1
              rw [q', q'', q_le (by omega) (by omega)]
              rw [q', q'', nN_nI (by omega), nN_nI (by omega)] at ih
              rw [q'] at q
              refine ⟨fun z => ?_, fun z => ?_⟩
              · unfold wj_X12_near_79; rw [nI_1]
                rw [if_neg (fun h => by have := h.2; simp only at this; omega)] at ih; exact ih
              · unfold wj_X12_near_77 wj_X12_near_79; rw [nI_1]
                rw [if_pos ⟨q, by simp only; omega⟩] at ih; exact ih
      exact lp n 0 (Nat.zero_add n)
  · refine ⟨fun r u1 => r = -1 ∧ u1 = u, fun K hK => ?_, fun r u1 hr K hK => ?_⟩
    · refine openX (b := 0) hO ⟨n + 1, ?_⟩
      have lp : ∀ k p, p + k = n → wl_X11_near_17 K (k + 1) x (opn (u.1 49)) (-1) 30 (nI p) u := by
        intro k
        induction k with
        | zero => intro p hp
                  rw [wl_X11_near_17, gI_def, e2]
                  exact ⟨fun _ => hK _ _ ⟨rfl, rfl⟩, fun q => absurd (nI_le (show n ≤ p by omega) (by omega)) q⟩
        | succ k ih =>
          intro p hp
          rw [wl_X11_near_17, gI_def, e2, zadd, q_le (by omega) (by omega)]
          refine ⟨fun q => by omega, fun _ => ⟨vp_in_nI (by omega) (by omega), stepsX_o (Or.inr hx) ⟨fun _ => ?_, fun q => absurd rfl q⟩⟩⟩
          unfold wj_X11_near_65; rw [nI_1]; exact ih (p + 1) (by omega)
      exact lp n 0 (Nat.zero_add n)
    · obtain ⟨rfl, rfl⟩ := hr
      exact cellM_f hx ⟨fun q => absurd rfl q, fun _ => hK _ hI⟩
/-! lowest -/
theorem hb_neg (x : Int32) {i : Nat} (hi : i < 32) : hb (-x) i = (hb x i ^^ decide (∃ j, j < i ∧ hb x j = true)) := by
  unfold hb
  rw [Int32.toBitVec_neg, BitVec.getLsbD_neg, decide_eq_true hi, Bool.true_and]
theorem low_bit {x : Int32} {c : Nat} (hc : c < 32) (h : hb x c = true) (hl : ∀ d, d < c → hb x d = false) : (x &&& -x) = bt1 c := by
  apply hb_ext
  intro i hi
  unfold bt1
  rw [hb_and, hb_neg x hi, bit1 c hc hi]
  rcases Nat.lt_trichotomy i c with q | q | q
  · rw [hl i q, decide_eq_false (show ¬ i = c by omega)]; rfl
  · subst q
    rw [h, decide_eq_true rfl, decide_eq_false]
    · rfl
    · rintro ⟨j, hj, hh⟩; rw [hl j hj] at hh; exact Bool.noConfusion hh
  · rw [decide_eq_true ⟨c, q, h⟩, decide_eq_false (show ¬ i = c by omega)]
    cases hb x i <;> rfl
def bcF (a0 : Int32) : Int32 :=
  let x1 := a0 - ((ushr a0 1) &&& 1431655765)
  let x2 := (x1 &&& 858993459) + ((ushr x1 2) &&& 858993459)
  let x3 := (x2 + (ushr x2 4)) &&& 252645135
  let x4 := x3 + (ushr x3 8)
  let x5 := x4 + (ushr x4 16)
  x5 &&& 63
theorem bcX {x : Int32} {u : PoS} {post : Int32 → PoS → Prop} (K : post (bcF x) u) : wp_J6_bitCount_0f7a4 x u post := by
  intro x1 e1 x2 e2 x3 e3 x4 e4 x5 e5
  subst e1; subst e2; subst e3; subst e4; subst e5
  exact K
theorem bc_low : ∀ c, c < 30 → bcF (bt1 c - 1) = nI c := by decide +kernel
theorem lowX {x : Int32} {c : Nat} (hc : c < 30) (h : hb x c = true) (hl : ∀ d, d < c → hb x d = false) {u : PoS} {post : Int32 → PoS → Prop} (K : post (nI c) u) : wp_X1_lowest x u post :=
  ⟨fun _ => bcX (by rw [low_bit (by omega) h hl, bc_low c hc]; exact K), fun q => absurd q (ne_of_hb h)⟩
theorem low0 {u : PoS} {post : Int32 → PoS → Prop} (K : post (-1) u) : wp_X1_lowest 0 u post := ⟨fun q => absurd rfl q, fun _ => K⟩
/-- the lowest CELL beside a that is n STEPS off b -/
def nxP (o : Int32) (a b n c : Nat) : Prop := hb (bes (bt1 a)) c = true ∧ dst o b c = nI n
theorem nx_least (P : Nat → Prop) : ∀ m, (∃ c, c < m ∧ P c) → ∃ c, c < m ∧ P c ∧ ∀ d, d < c → ¬ P d := by
  intro m
  induction m with
  | zero => rintro ⟨c, hc, _⟩; omega
  | succ m ih =>
    rintro ⟨c, hc, h⟩
    by_cases q : ∃ c, c < m ∧ P c
    · obtain ⟨c', h1, h2, h3⟩ := ih q
      exact ⟨c', by omega, h2, h3⟩
    · have : c = m := by
        rcases Nat.lt_or_ge c m with z | z
        · exact absurd ⟨c, z, h⟩ q
        · omega
      exact ⟨c, hc, h, fun d hd hp => q ⟨d, by omega, hp⟩⟩
theorem nx_ex {o : Int32} (hO : S30 o) {a b n : Nat} (ha : a < 30) (hb' : b < 30) (hn : n < 2 ^ 30) (h : dst o a b = nI (n + 1)) : ∃ c, c < 30 ∧ nxP o a b n c ∧ ∀ d, d < c → ¬ nxP o a b n d := by
  apply nx_least
  obtain ⟨oa, ob, w, nw, n30⟩ := dst_open hO ha (by omega) h
  obtain ⟨c, g1, g2, g3⟩ := (Wk_left n a b).mp w
  have c30 := hO.lt g2
  refine ⟨c, c30, (bes_hb (bt1_30 ha) c).mpr ⟨c30, a, (bt1_hb ha a).mpr rfl, g1⟩, ?_⟩
  have wb : Wk o n b c := Wk_sym n c b g2 g3
  rcases dst_is hO hb' ob c with ⟨k, hk, e, w2, n2⟩ | ⟨e, n2⟩
  · have : k = n := by
      rcases Nat.lt_trichotomy k n with q | q | q
      · exfalso
        have : Wk o (k + 1) a b := (Wk_left k a b).mpr ⟨c, g1, g2, Wk_sym k b c ob w2⟩
        exact nw (k + 1) (by omega) this
      · exact q
      · exact absurd wb (n2 n q)
    rw [e, this]
  · exact absurd wb (n2 n)
theorem nx_next {o : Int32} (hO : S30 o) {a b n c : Nat} (ha : a < 30) (hb' : b < 30) (hn : n < 2 ^ 30) (h : nxP o a b n c) : c < 30 ∧ dst o c b = nI n ∧ hb o c = true := by
  obtain ⟨ob, oc, -⟩ := dst_open hO hb' (by omega) h.2
  have c30 := hO.lt oc
  exact ⟨c30, by rw [dst_comm hO c30 hb']; exact h.2, oc⟩
theorem nextOnX {o : Int32} (hO : S30 o) {a b n c : Nat} (ha : a < 30) (hb' : b < 30) (hn : n < 2 ^ 30) (hd : dst o a b = nI (n + 1)) (hc : nxP o a b n c) (hl : ∀ d, d < c → ¬ nxP o a b n d) {u : PoS} {post : Int32 → PoS → Prop} (K : post (nI c) u) : wp_X1_nextOn (nI a) (nI b) o u post := by
  obtain ⟨oa, ob, w, nw, n30⟩ := dst_open hO ha (by omega) hd
  obtain ⟨c30, -, oc⟩ := nx_next hO ha hb' hn hc
  refine hasX_t ha oa ⟨fun q => absurd q (by decide), fun _ => hasX_t hb' ob ⟨fun _ => besX (x := bt1 a) (bt1_30 ha) (fun x7 e7 x8 e8 => ⟨31, ?_⟩), fun q => absurd q (by decide)⟩⟩
  have e8' : x8 = Rch o (bt1 b) 0 := e8
  rw [e8']
  clear e8 e8'
  -- what is beside a and come to in k STEPS
  have bw : ∀ k d, hb (Rch o (bt1 b) k &&& x7) d = true ↔ (hb (bes (bt1 a)) d = true ∧ hb o d = true) ∧ ∃ j, j ≤ k ∧ Wk o j b d := by
    intro k d
    rw [e7, hb_and, hb_and, Bool.and_eq_true, Bool.and_eq_true, Rch1 hO hb']
    exact ⟨fun h => ⟨h.2, h.1⟩, fun h => ⟨h.2, h.1⟩⟩
  have bb : ∀ j d, hb (bes (bt1 a)) d = true → hb o d = true → Wk o j b d → n ≤ j := by
    intro j d h1 h2 h3
    rcases Nat.lt_or_ge j n with q | q
    · exfalso
      obtain ⟨-, a', ha', had⟩ := (bes_hb (bt1_30 ha) d).mp h1
      rw [(bt1_hb ha a').mp ha'] at had
      exact nw (j + 1) (by omega) ((Wk_left j a b).mpr ⟨d, had, h2, Wk_sym j b d ob h3⟩)
    · exact q
  have fin : wj_X1_nextOn_67 post x7 (Rch o (bt1 b) n) u := by
    refine lowX c30 ((bw n c).mpr ⟨⟨hc.1, oc⟩, n, Nat.le_refl n, (dst_open hO hb' (by omega) hc.2).2.2.1⟩) (fun d hd' => ?_) K
    cases e : hb (Rch o (bt1 b) n &&& x7) d
    · rfl
    · exfalso
      obtain ⟨⟨h1, h2⟩, j, hj, hw⟩ := (bw n d).mp e
      have hjn : j = n := by have := bb j d h1 h2 hw; omega
      subst hjn
      refine hl d hd' ⟨h1, ?_⟩
      rcases dst_is hO hb' ob d with ⟨k, hk, ek, w2, n2⟩ | ⟨ek, n2⟩
      · have : k = j := by
          have h3 := bb k d h1 h2 w2
          rcases Nat.lt_or_ge j k with q | q
          · exact absurd hw (n2 j q)
          · omega
        rw [ek, this]
      · exact absurd hw (n2 j)
  have lp : ∀ m k, k + m = n → ∀ f, m + 1 ≤ f → wl_X1_nextOn_35 (fun (v314 : Int32) (v414 : Int32) (u14 : PoS) => wj_X1_nextOn_67 post v314 v414 u14) post f o x7 (Rch o (bt1 b) k) (nI k) u := by
    intro m
    induction m with
    | zero =>
      intro k hk f hf
      obtain rfl : k = n := by omega
      obtain ⟨f, rfl⟩ : ∃ g, f = g + 1 := ⟨f - 1, by omega⟩
      rw [wl_X1_nextOn_35]
      refine ⟨fun q => absurd q (nI_ge (b := 30) (by omega) (by decide)), fun _ => ⟨fun _ => fin, fun q => ?_⟩⟩
      exact absurd q (ne_of_hb ((bw k c).mpr ⟨⟨hc.1, oc⟩, k, Nat.le_refl k, (dst_open hO hb' (by omega) hc.2).2.2.1⟩))
    | succ m ih =>
      intro k hk f hf
      obtain ⟨f, rfl⟩ : ∃ g, f = g + 1 := ⟨f - 1, by omega⟩
      rw [wl_X1_nextOn_35]
      refine ⟨fun q => absurd q (nI_ge (b := 30) (by omega) (by decide)), fun _ => ⟨fun q => ?_, fun _ => besX (Rch_30 (bt1_30 hb') k) (fun x11 e11 => ?_)⟩⟩
      · exfalso
        obtain ⟨d, hd', e⟩ := S30_ne ((Rch_30 (bt1_30 hb') k).and x7) q
        obtain ⟨⟨h1, h2⟩, j, hj, hw⟩ := (bw k d).mp e
        have := bb j d h1 h2 hw
        omega
      · rw [e11, nI_1]
        exact ih (k + 1) (by omega) f (by omega)
  exact lp n 0 (Nat.zero_add n) 31 (by omega)
theorem nextToM {u : PoS} {a b n c : Nat} (ha : a < 30) (hb' : b < 30) (hn : n < 2 ^ 30) (hd : dst (opn (u.1 49)) a b = nI (n + 1)) (hc : nxP (opn (u.1 49)) a b n c) (hl : ∀ d, d < c → ¬ nxP (opn (u.1 49)) a b n d) {post : Int32 → PoS → Prop} (K : ∀ z, Fr57 u z → post (nI c) z) : wp_X12_nextTo (nI a) (nI b) u post := by
  have hO := opn_30 (u.1 49)
  obtain ⟨c30, -, oc⟩ := nx_next hO ha hb' hn hc
  refine freeM (layFarM hb' (fun z fz gz => ⟨c + 1, ?_⟩))
  have ga : z.1 57 a = nI (n + 1) := by rw [gz a ha, dst_comm hO hb' ha]; exact hd
  have lp : ∀ m d, d + m = c → wl_X12_nextTo_11 post (m + 1) (nI a) (nI d) z := by
    intro m
    induction m with
    | zero =>
      intro d hd'
      obtain rfl : d = c := by omega
      rw [wl_X12_nextTo_11]
      refine besM1 ha (hasM_t (by omega) hc.1 ⟨fun q => absurd q (by decide), fun _ => ⟨vp_in_nI c30 (by decide), vp_in_nI ha (by decide), ?_⟩⟩)
      rw [q_cl (by omega), q_cl (by omega), gI_def, gI_def, ga, gz d c30, nI_pred]
      exact ⟨fun _ => K z fz, fun q => absurd hc.2 q⟩
    | succ m ih =>
      intro d hd'
      rw [wl_X12_nextTo_11]
      refine besM1 ha ?_
      cases e : hb (bes (bt1 a)) d
      · refine hasM_f (by omega) e ⟨fun _ => ?_, fun q => absurd rfl q⟩
        unfold wj_X12_nextTo_39; rw [nI_1]; exact ih (d + 1) (by omega)
      · refine hasM_t (by omega) e ⟨fun q => absurd q (by decide), fun _ => ⟨vp_in_nI (by omega) (by decide), vp_in_nI ha (by decide), ?_⟩⟩
        rw [q_cl (by omega), q_cl (by omega), gI_def, gI_def, ga, gz d (by omega), nI_pred]
        refine ⟨fun q => absurd ⟨e, q⟩ (hl d (by omega)), fun _ => ?_⟩
        unfold wj_X12_nextTo_39; rw [nI_1]; exact ih (d + 1) (by omega)
  exact lp c 0 (Nat.zero_add c)
/-! way -/
theorem ob_way {LT : Nat → PoS → Prop} (hLT : LTok LT) (x y i : Int32) : Ob32 (wp_X11_way x y i) (wp_X12_way x y i) (Inv LT) := by
  intro u hI
  have hR := hI.1
  have hL := hR.liv
  have hO := hL.2.2.2.opn
  have hO30 := opn_30 (u.1 49)
  by_cases hxy : (x < 0 ∨ nI 29 < x) ∨ (y < 0 ∨ nI 29 < y)
  · refine ⟨fun r u1 => r = -2 ∧ u1 = u, fun K hK => ?_, fun r u1 hr K hK => ?_⟩
    · refine openX (b := 0) hO (stepsX_o hxy (within_f ?_ ⟨fun q => absurd rfl q, fun _ => hK _ _ ⟨rfl, rfl⟩⟩))
      by_cases q : i < 0
      · exact Or.inl q
      · right
        obtain ⟨j, hj, rfl⟩ := nI_of q
        rw [fa_lt', nI_toInt hj]
        show (-1 - 1 : Int32).toInt < _
        have : (-1 - 1 : Int32).toInt = -2 := by decide
        omega
    · obtain ⟨rfl, rfl⟩ := hr
      rcases rng 29 (by decide) x with ⟨a, ha, rfl⟩ | hx
      · rcases rng 29 (by decide) y with ⟨b, hb', rfl⟩ | hy
        · exfalso
          rcases hxy with (q | q) | (q | q)
          · exact absurd q (nI_pos (by omega))
          · rw [q_lt (by omega) (by omega)] at q; omega
          · exact absurd q (nI_pos (by omega))
          · rw [q_lt (by omega) (by omega)] at q; omega
        · exact cellM_t (by omega) ⟨fun q => absurd q (by decide), fun _ => cellM_f hy ⟨fun q => absurd rfl q, fun _ => hK _ hI⟩⟩
      · exact cellM_f hx ⟨fun _ => hK _ hI, fun q => absurd rfl q⟩
  · rcases rng 29 (by decide) x with ⟨a, ha, rfl⟩ | hx
    · rcases rng 29 (by decide) y with ⟨b, hb', rfl⟩ | hy
      · rcases dst_cases (opn (u.1 49)) a b with e | ⟨n, hn, e⟩
        · refine ⟨fun r u1 => r = -2 ∧ u1 = u, fun K hK => ?_, fun r u1 hr K hK => ?_⟩
          · refine openX (b := 0) hO (stepsX hO30 (by omega) (by omega) ?_)
            rw [e]
            refine within_f ?_ ⟨fun q => absurd rfl q, fun _ => hK _ _ ⟨rfl, rfl⟩⟩
            by_cases q : i < 0
            · exact Or.inl q
            · right
              obtain ⟨j, hj, rfl⟩ := nI_of q
              rw [fa_lt', nI_toInt hj]
              have : (-1 - 1 : Int32).toInt = -2 := by decide
              omega
          · obtain ⟨rfl, rfl⟩ := hr
            exact cellM_t (by omega) ⟨fun q => absurd q (by decide), fun _ => cellM_t (by omega) ⟨fun _ => stepsM (by omega) (by omega) (fun z fz => ⟨fun _ => hK _ (inv_57 hLT hI fz), fun q => absurd e q⟩), fun q => absurd q (by decide)⟩⟩
        · by_cases hi : ∃ j, j < n ∧ i = nI j
          · obtain ⟨j, hj, rfl⟩ := hi
            -- the WAY, as a relation: c is where k STEPS lead
            have hW : ∃ W : Nat → Nat, W 0 = a ∧ ∀ k, k < n → W k < 30 ∧ W (k + 1) < 30 ∧ dst (opn (u.1 49)) (W k) b = nI (n - k - 1 + 1) ∧ nxP (opn (u.1 49)) (W k) b (n - k - 1) (W (k + 1)) ∧ ∀ d, d < W (k + 1) → ¬ nxP (opn (u.1 49)) (W k) b (n - k - 1) d := by
              have st : ∀ c k, c < 30 → dst (opn (u.1 49)) c b = nI (k + 1) → k < n → ∃ c', c' < 30 ∧ nxP (opn (u.1 49)) c b k c' ∧ (∀ d, d < c' → ¬ nxP (opn (u.1 49)) c b k d) ∧ dst (opn (u.1 49)) c' b = nI k := fun c k hc hd hk => by
                obtain ⟨c', h1, h2, h3⟩ := nx_ex hO30 hc (show b < 30 by omega) (by omega) hd
                exact ⟨c', h1, h2, h3, (nx_next hO30 hc (show b < 30 by omega) (by omega) h2).2.1⟩
              have all : ∀ m, m ≤ n → ∃ W : Nat → Nat, W 0 = a ∧ W m < 30 ∧ dst (opn (u.1 49)) (W m) b = nI (n - m) ∧ ∀ k, k < m → W k < 30 ∧ W (k + 1) < 30 ∧ dst (opn (u.1 49)) (W k) b = nI (n - k - 1 + 1) ∧ nxP (opn (u.1 49)) (W k) b (n - k - 1) (W (k + 1)) ∧ ∀ d, d < W (k + 1) → ¬ nxP (opn (u.1 49)) (W k) b (n - k - 1) d := by
                intro m
                induction m with
                | zero => intro _; exact ⟨fun _ => a, rfl, (by show a < 30; omega), e, fun k hk => absurd hk (Nat.not_lt_zero k)⟩
                | succ m ih =>
                  intro hm
                  obtain ⟨W, w0, w1, w2, w3⟩ := ih (by omega)
                  obtain ⟨c', h1, h2, h3, h4⟩ := st (W m) (n - m - 1) w1 (by rw [w2]; congr 1; omega) (by omega)
                  refine ⟨fun k => if k = m + 1 then c' else W k, by show (if 0 = m + 1 then c' else W 0) = a; rw [if_neg (by omega)]; exact w0, by show (if m + 1 = m + 1 then c' else W (m + 1)) < 30; rw [if_pos rfl]; exact h1, by show dst _ (if m + 1 = m + 1 then c' else W (m + 1)) b = _; rw [if_pos rfl, h4]; congr 1, fun k hk => ?_⟩
                  by_cases q : k = m
                  · subst q
                    simp only [if_true]
                    rw [if_neg (by omega)]
                    exact ⟨w1, h1, by rw [w2]; congr 1; omega, h2, h3⟩
                  · simp only
                    rw [if_neg (show ¬ k = m + 1 by omega), if_neg (show ¬ k + 1 = m + 1 by omega)]
                    exact w3 k (by omega)
              obtain ⟨W, w0, -, -, w3⟩ := all n (Nat.le_refl n)
              exact ⟨W, w0, w3⟩
            obtain ⟨W, w0, w3⟩ := hW
            have hjn : nI n - 1 = nI (n - 1) := by rw [show (1 : Int32) = nI 1 from rfl, q_sub (by omega)]
            refine ⟨fun r u1 => r = nI (W (j + 1)) ∧ u1 = u, fun K hK => ?_, fun r u1 hr K hK => ?_⟩
            · refine openX (b := 0) hO (stepsX hO30 (by omega) (by omega) ?_)
              rw [e, hjn]
              refine within_t (nI_pos (by omega)) (nI_nlt (by omega) (by omega)) ⟨fun _ => ⟨j + 2, ?_⟩, fun q => absurd q (by decide)⟩
              have lp : ∀ m k, k + m = j + 1 → wl_X11_way_39 K (m + 1) (nI b) (nI j) (opn (u.1 49)) (nI (W k)) (nI k) u := by
                intro m
                induction m with
                | zero => intro k hk
                          rw [wl_X11_way_39, q_lt (by omega) (by omega)]
                          exact ⟨fun _ => hK _ _ ⟨by rw [show k = j + 1 by omega], rfl⟩, fun q => by omega⟩
                | succ m ih =>
                  intro k hk
                  rw [wl_X11_way_39, q_lt (by omega) (by omega)]
                  obtain ⟨k1, k2, k3, k4, k5⟩ := w3 k (by omega)
                  refine ⟨fun q => by omega, fun _ => ⟨fun q => absurd q (nI_ge (b := 30) (by omega) (by decide)), fun _ => nextOnX hO30 k1 (by omega) (by omega) k3 k4 k5 ?_⟩⟩
                  rw [nI_1]; exact ih (k + 1) (by omega)
              have := lp (j + 1) 0 (by omega)
              rw [w0] at this; exact this
            · obtain ⟨rfl, rfl⟩ := hr
              refine cellM_t (by omega) ⟨fun q => absurd q (by decide), fun _ => cellM_t (by omega) ⟨fun _ => stepsM (by omega) (by omega) (fun z fz => ?_), fun q => absurd q (by decide)⟩⟩
              rw [e, hjn]
              refine ⟨fun q => ?_, fun _ => isIn_t (nI_pos (by omega)) (nI_nlt (by omega) (by omega)) ⟨fun _ => ⟨j + 2, ?_⟩, fun q => absurd q (by decide)⟩⟩
              · rw [show (1 : Int32) = nI 1 from rfl, q_neg1 (by omega)] at q; exact q.elim
              · have lp : ∀ m k, k + m = j + 1 → ∀ z, Fr57 u1 z → wl_X12_way_52 K (m + 1) (nI b) (nI j) (nI (W k)) (nI k) z := by
                  intro m
                  induction m with
                  | zero => intro k hk z fz
                            rw [wl_X12_way_52, q_lt (by omega) (by omega)]
                            exact ⟨fun _ => by rw [show k = j + 1 by omega]; exact hK _ (inv_57 hLT hI fz), fun q => by omega⟩
                  | succ m ih =>
                    intro k hk z fz
                    rw [wl_X12_way_52, q_lt (by omega) (by omega)]
                    obtain ⟨k1, k2, k3, k4, k5⟩ := w3 k (by omega)
                    have e49 : z.1 49 = u1.1 49 := fz 49 (by decide)
                    refine ⟨fun q => by omega, fun _ => nextToM (n := n - k - 1) k1 (by omega) (by omega) (by rw [e49]; exact k3) (by rw [e49]; exact k4) (by rw [e49]; exact k5) (fun z' fz' => ?_)⟩
                    rw [nI_1]; exact ih (k + 1) (by omega) z' (fun i hi => by rw [fz' i hi, fz i hi])
                have := lp (j + 1) 0 (by omega) z fz
                rw [w0] at this; exact this
          · have hno : i < 0 ∨ nI n - 1 < i := by
              by_cases q : i < 0
              · exact Or.inl q
              · right
                obtain ⟨j, hj, rfl⟩ := nI_of q
                rw [fa_lt', nI_toInt hj, show (1 : Int32) = nI 1 from rfl, pk_sub_toInt (by omega) (by omega)]
                rcases Nat.lt_or_ge j n with z | z
                · exact absurd ⟨j, z, rfl⟩ hi
                · omega
            refine ⟨fun r u1 => r = -2 ∧ u1 = u, fun K hK => ?_, fun r u1 hr K hK => ?_⟩
            · refine openX (b := 0) hO (stepsX hO30 (by omega) (by omega) ?_)
              rw [e]
              exact within_f hno ⟨fun q => absurd rfl q, fun _ => hK _ _ ⟨rfl, rfl⟩⟩
            · obtain ⟨rfl, rfl⟩ := hr
              refine cellM_t (by omega) ⟨fun q => absurd q (by decide), fun _ => cellM_t (by omega) ⟨fun _ => stepsM (by omega) (by omega) (fun z fz => ?_), fun q => absurd q (by decide)⟩⟩
              rw [e]
              exact ⟨fun _ => hK _ (inv_57 hLT hI fz), fun _ => isIn_f hno ⟨fun q => absurd rfl q, fun _ => hK _ (inv_57 hLT hI fz)⟩⟩
      · exact absurd (Or.inr hy) hxy
    · exact absurd (Or.inl hx) hxy
