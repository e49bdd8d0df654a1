/-! A CHASE, as the class plays it -/
theorem showX {o : Int32} {v : Nat} (hv : v ≤ 2) {u : PoS} {W : Nat → Int32} (hW : ∀ c, c < 30 → u.1 33 c = W c ∧ S30 (W c)) {post : PoS → Prop} (K : ∀ z, (∀ j, j ≠ 34 → z.1 j = u.1 j) → (∀ c, c < 30 → z.1 34 c = Rch o (W c) v) → post z) : wp_X0_showersTurn (nI v) o u post := by
  refine ⟨31, ?_⟩
  have lp : ∀ m c, c + m = 30 → ∀ z, (∀ j, j ≠ 34 → z.1 j = u.1 j) → (∀ c', c' < c → z.1 34 c' = Rch o (W c') v) → wl_X0_showersTurn_2 post (m + 1) (nI v) o (nI c) z := by
    intro m
    induction m with
    | zero =>
      intro c hc z fz g
      obtain rfl : c = 30 := by omega
      rw [wl_X0_showersTurn_2]
      exact ⟨fun _ => K z fz g, fun q => absurd (by decide) q⟩
    | succ m ih =>
      intro c hc z fz g
      obtain ⟨w1, w2⟩ := hW c (by omega)
      rw [wl_X0_showersTurn_2, q_vp (by omega) (by omega), q_cl (by omega), gI_def, fz 33 (by decide), w1]
      refine ⟨fun q => absurd q (nI_ge (b := 30) (by omega) (by decide)), fun _ => ⟨by omega, fun x1 e1 => ⟨v + 1, ?_⟩⟩⟩
      rw [e1]
      have inner : ∀ m' i, i + m' = v → wl_X0_showersTurn_19 (fun (v16 : Int32) (v26 : Int32) (v36 : Int32) (v46 : Int32) (u6 : PoS) => vp_in v36 30 ∧ ∀ z7 : PoS, z7 = pI u6 34 (Int32.toNatClampNeg v36) v46 → wl_X0_showersTurn_2 post (m + 1) v16 v26 (v36 + 1) z7) post (m' + 1) (nI v) o (nI c) (Rch o (W c) i) (nI i) z := by
        intro m'
        induction m' with
        | zero =>
          intro i hi
          obtain rfl : i = v := by omega
          rw [wl_X0_showersTurn_19, q_le (by omega) (by omega), q_vp (by omega) (by omega), q_cl (by omega), nI_1]
          refine ⟨fun _ => ⟨by omega, fun z7 e7 => ih (c + 1) (by omega) z7 (fun j hj => by rw [e7, pI_o hj]; exact fz j hj) (fun c' hc' => ?_)⟩, fun q => absurd (Nat.le_refl i) q⟩
          rw [e7, pI_s]
          by_cases y : c' = c
          · rw [y, up_eq]
          · rw [up_ne y]; exact g c' (by omega)
        | succ m' ih' =>
          intro i hi
          rw [wl_X0_showersTurn_19, q_le (by omega) (by omega)]
          refine ⟨fun q => by omega, fun _ => besX (Rch_30 w2 i) (fun x4 e4 => ?_)⟩
          rw [← Rch] at e4
          rw [e4, nI_1]; exact ih' (i + 1) (by omega)
      exact inner v 0 (Nat.zero_add v)
  exact lp 30 0 rfl u (fun _ _ => rfl) (fun c' hc' => by omega)
theorem chooseX {C : Int32} {s : Nat} (hs : s < 30) {u : PoS} {F : Nat → Int32} (hF : ∀ c, c < 30 → u.1 34 c = F c) {post : Int32 → PoS → Prop} (K : ∀ x, S30 x → (∀ c, c < 30 → (hb x c = true ↔ hb C c = true ∧ ¬ hb (F c) s = true)) → post x u) : wp_X0_choicesWithout C (nI s) u post := by
  refine ⟨31, ?_⟩
  have lp : ∀ m c, c + m = 30 → ∀ x, S30 x → (∀ d, d < 30 → (hb x d = true ↔ d < c ∧ hb C d = true ∧ ¬ hb (F d) s = true)) → wl_X0_choicesWithout_5 post (m + 1) C (nI s) x (nI c) u := by
    intro m
    induction m with
    | zero =>
      intro c hc x hx h
      obtain rfl : c = 30 := by omega
      rw [wl_X0_choicesWithout_5]
      exact ⟨fun _ => K x hx (fun d hd => by rw [h d hd]; exact ⟨fun z => z.2, fun z => ⟨hd, z⟩⟩), fun q => absurd (by decide) q⟩
    | succ m ih =>
      intro c hc x hx h
      have skip : ¬ (hb C c = true ∧ ¬ hb (F c) s = true) → wj_X0_choicesWithout_42 (wl_X0_choicesWithout_5 post (m + 1)) post C (nI s) x (nI c) u := by
        intro hn
        unfold wj_X0_choicesWithout_42
        rw [nI_1]
        refine ih (c + 1) (by omega) x hx (fun d hd => ?_)
        rw [h d hd]
        constructor
        · rintro ⟨a, b⟩; exact ⟨by omega, b⟩
        · rintro ⟨a, b⟩
          refine ⟨?_, b⟩
          by_cases y : d = c
          · rw [y] at b; exact absurd b hn
          · omega
      rw [wl_X0_choicesWithout_5]
      refine ⟨fun q => absurd q (nI_ge (b := 30) (by omega) (by decide)), fun _ => ?_⟩
      cases e1 : hb C c
      · exact hasX_f (by omega) e1 ⟨fun _ => skip (fun z => bN e1 z.1), fun q => absurd rfl q⟩
      · refine hasX_t (by omega) e1 ⟨fun q => absurd q (by decide), fun _ => ?_⟩
        rw [q_vp (by omega) (by omega), q_cl (by omega), gI_def, hF c (by omega)]
        refine ⟨by omega, ?_⟩
        cases e2 : hb (F c) s
        · refine hasX_f hs e2 ⟨fun q => absurd rfl q, fun _ x5 e5 => ?_⟩
          unfold wj_X0_choicesWithout_42
          rw [nI_1, e5]
          refine ih (c + 1) (by omega) _ (hx.or (bt1_30 (by omega))) (fun d hd => ?_)
          show hb (x ||| bt1 c) d = true ↔ _
          rw [hb_or, Bool.or_eq_true, h d hd, bt1_hb (by omega)]
          constructor
          · rintro (⟨a, b⟩ | a)
            · exact ⟨by omega, b⟩
            · rw [a]; exact ⟨by omega, e1, bN e2⟩
          · rintro ⟨a, b⟩
            by_cases y : d = c
            · exact Or.inr y
            · exact Or.inl ⟨by omega, b⟩
        · exact hasX_t hs e2 ⟨fun _ => skip (fun z => z.2 e2), fun q => absurd q (by decide)⟩
  exact lp 30 0 rfl 0 S30_0 (fun d _ => by rw [hb_0]; exact ⟨fun z => Bool.noConfusion z, fun z => by omega⟩)
theorem fleersX {o : Int32} {v t : Nat} {u : PoS} (hW : ∀ c, c < 30 → u.1 33 c = WW o v t c) (hF : ∀ c, c < 30 → u.1 34 c = Rch o (WW o v t c) v) {post : Int32 → PoS → Prop} (K : ∀ z r, (∀ j, j ≠ 33 → z.1 j = u.1 j) → (∀ c, c < 30 → z.1 33 c = WW o v (t + 1) c) → ((r = 0 ∧ stab o v t) ∨ (r = 1 ∧ ¬ stab o v t)) → post r z) : wp_X0_fleersTurn o u post := by
  refine ⟨31, ?_⟩
  have lp : ∀ m c, c + m = 30 → ∀ z r, (∀ j, j ≠ 33 → z.1 j = u.1 j) → (∀ d, d < 30 → z.1 33 d = if d < c then WW o v (t + 1) d else WW o v t d) → ((r = 0 ∧ ∀ d, d < c → WW o v (t + 1) d = WW o v t d) ∨ (r = 1 ∧ ∃ d, d < c ∧ ¬ WW o v (t + 1) d = WW o v t d)) → wl_X0_fleersTurn_4 post (m + 1) o r (nI c) z := by
    intro m
    induction m with
    | zero =>
      intro c hc z r fz g hr
      obtain rfl : c = 30 := by omega
      rw [wl_X0_fleersTurn_4]
      refine ⟨fun _ => ⟨?_, K z r fz (fun d hd => by rw [g d hd, if_pos hd]) ?_⟩, fun q => absurd (by decide) q⟩
      · rcases hr with h | h
        · exact Or.inl h.1
        · exact Or.inr h.1
      · rcases hr with h | ⟨h1, d, h2, h3⟩
        · exact Or.inl h
        · exact Or.inr ⟨h1, fun q => h3 (q d h2)⟩
    | succ m ih =>
      intro c hc z r fz g hr
      have e34 : ∀ d, d < 30 → z.1 34 d = Rch o (WW o v t d) v := fun d hd => by rw [fz 34 (by decide)]; exact hF d hd
      rw [wl_X0_fleersTurn_4, q_vp (by omega) (by omega), q_cl (by omega), gI_def, e34 c (by omega)]
      refine ⟨fun q => absurd q (nI_ge (b := 30) (by omega) (by decide)), fun _ => ⟨by omega, fun x1 e1 => ⟨5, ?_⟩⟩⟩
      rw [e1]
      have next : ∀ z' r', (∀ j, j ≠ 33 → z'.1 j = u.1 j) → (∀ d, d < 30 → z'.1 33 d = if d < c + 1 then WW o v (t + 1) d else WW o v t d) → ((r' = 0 ∧ ∀ d, d < c + 1 → WW o v (t + 1) d = WW o v t d) ∨ (r' = 1 ∧ ∃ d, d < c + 1 ∧ ¬ WW o v (t + 1) d = WW o v t d)) → wj_X0_fleersTurn_99 (wl_X0_fleersTurn_4 post (m + 1)) post o r' (nI c) z' := by
        intro z' r' f' g' h'
        unfold wj_X0_fleersTurn_99
        rw [nI_1]
        exact ih (c + 1) (by omega) z' r' f' g' h'
      have same : WW o v (t + 1) c = WW o v t c → wj_X0_fleersTurn_99 (wl_X0_fleersTurn_4 post (m + 1)) post o r (nI c) z := by
        intro hs
        refine next z r fz (fun d hd => ?_) ?_
        · rw [g d hd]
          by_cases y : d = c
          · rw [y, if_neg (Nat.lt_irrefl c), if_pos (by omega), hs]
          · by_cases y2 : d < c
            · rw [if_pos y2, if_pos (by omega)]
            · rw [if_neg y2, if_neg (by omega)]
        · rcases hr with ⟨h1, h2⟩ | ⟨h1, d, h2, h3⟩
          · refine Or.inl ⟨h1, fun d hd => ?_⟩
            by_cases y : d = c
            · rw [y]; exact hs
            · exact h2 d (by omega)
          · exact Or.inr ⟨h1, d, by omega, h3⟩
      have sides : ∀ m' w, w + m' = 4 → wl_X0_fleersTurn_21 (fun (v19 : Int32) (v29 : Int32) (v39 : Int32) (v49 : Int32) (u9 : PoS) => ∀ x10 : Int32, x10 = (v49 ||| (1 <<< (v39 &&& 31))) → wp_X1_has v19 v39 u9 (fun (r11 : Int32) (u12 : PoS) => ((r11 = 0 → wj_X0_fleersTurn_99 (wl_X0_fleersTurn_4 post (m + 1)) post v19 v29 v39 u12) ∧ (¬ r11 = 0 → vp_in v39 30 ∧ ((x10 = (gI u12 33 (Int32.toNatClampNeg v39)) → wj_X0_fleersTurn_99 (wl_X0_fleersTurn_4 post (m + 1)) post v19 v29 v39 u12) ∧ (¬ x10 = (gI u12 33 (Int32.toNatClampNeg v39)) → vp_in v39 30 ∧ ∀ z13 : PoS, z13 = pI u12 33 (Int32.toNatClampNeg v39) x10 → wj_X0_fleersTurn_99 (wl_X0_fleersTurn_4 post (m + 1)) post v19 1 v39 z13)))))) post (m' + 1) o r (nI c) (alF o (fun d => Rch o (WW o v t d) v) c w) (nI w) z := by
        intro m'
        induction m' with
        | zero =>
          intro w hw
          obtain rfl : w = 4 := by omega
          rw [wl_X0_fleersTurn_21]
          refine ⟨fun _ x10 e10 => ?_, fun q => absurd (by decide) q⟩
          rw [show (1 : Int32) <<< (nI c &&& 31) = bt1 c from rfl] at e10
          cases ho : hb o c
          · refine hasX_f (by omega) ho ⟨fun _ => same ?_, fun q => absurd rfl q⟩
            rw [WW_c (bN ho), WW_c (bN ho)]
          · have ex : x10 = WW o v (t + 1) c := by rw [e10, WW, if_pos ho]
            refine hasX_t (by omega) ho ⟨fun q => absurd q (by decide), fun _ => ?_⟩
            rw [q_vp (by omega) (by omega), q_cl (by omega), gI_def, g c (by omega), if_neg (Nat.lt_irrefl c), ex]
            refine ⟨by omega, fun q => same q, fun q => ⟨by omega, fun z13 e13 => next z13 1 (fun j hj => by rw [e13, pI_o hj]; exact fz j hj) (fun d hd => ?_) (Or.inr ⟨rfl, c, by omega, q⟩)⟩⟩
            rw [e13, pI_s]
            by_cases y : d = c
            · rw [y, up_eq, if_pos (by omega)]
            · rw [up_ne y, g d hd]
              by_cases y2 : d < c
              · rw [if_pos y2, if_pos (by omega)]
              · rw [if_neg y2, if_neg (by omega)]
        | succ m' ih' =>
          intro w hw
          have ih' := ih' (w + 1) (by omega)
          rw [wl_X0_fleersTurn_21]
          refine ⟨fun q => absurd q (nI_ge (b := 4) (by omega) (by decide)), fun _ => sideX (by omega) (by omega) ?_⟩
          rcases sid_cases c (by omega) w (by omega) with e | ⟨d, hd, e⟩
          · rw [alF_f (fun ⟨d, hd, h1, _⟩ => by rw [e] at h1; exact absurd h1.symm (q_neg0 (by omega)))] at ih'
            rw [e]
            refine hasX_o (Or.inl (by decide)) ⟨fun _ => ?_, fun q => absurd rfl q⟩
            unfold wj_X0_fleersTurn_56
            rw [nI_1]; exact ih'
          · rw [e]
            cases ho : hb o d
            · rw [alF_f (fun ⟨d', hd', h1, h2⟩ => by
                rw [e] at h1
                rw [← (nI_eq (by omega) (by omega)).mp h1] at h2; exact bN ho h2)] at ih'
              refine hasX_f hd ho ⟨fun _ => ?_, fun q => absurd rfl q⟩
              unfold wj_X0_fleersTurn_56
              rw [nI_1]; exact ih'
            · rw [alF_t ⟨d, hd, e, ho⟩, e, nN_nI (by omega)] at ih'
              refine hasX_t hd ho ⟨fun q => absurd q (by decide), fun _ => ?_⟩
              rw [q_vp (by omega) (by omega), q_cl (by omega), gI_def, e34 d hd]
              refine ⟨hd, fun x6 e6 => ?_⟩
              unfold wj_X0_fleersTurn_56
              rw [nI_1, e6]; exact ih'
      exact sides 4 0 rfl
  exact lp 30 0 rfl u 0 (fun _ _ => rfl) (fun d hd => by rw [if_neg (by omega)]; exact hW d hd) (Or.inl ⟨rfl, fun d hd => by omega⟩)
/-- caught in t + 1 turns, whatever one does -/
def cnd (o : Int32) (v p s t : Nat) : Prop := ∀ d, hb (gls o p) d = true → hb (Rch o (WW o v t d) v) s = true
def inC (o : Int32) (v p s t d : Nat) : Prop := hb (gls o p) d = true ∧ ∀ j, j < t → ¬ hb (Rch o (WW o v j d) v) s = true
def IsLow (P : Nat → Prop) (d : Nat) : Prop := P d ∧ ∀ e, e < d → ¬ P e
theorem playX {o : Int32} (hO : S30 o) {v : Nat} (hv : v ≤ 2) {p s : Nat} (hp : p < 30) (hs : s < 30) (hop : hb o p = true) (hne : ¬ p = s) {E : Nat} (hE : E < 900) (hst : stab o v E) (hnst : ∀ t, t < E → ¬ stab o v t) {u : PoS} {post : PoS → Prop} (K : ∀ z, (∀ j, j ≠ 32 → j ≠ 33 → j ≠ 34 → z.1 j = u.1 j) → ((∃ t, t ≤ E ∧ cnd o v p s t ∧ (∀ j, j < t → ¬ cnd o v p s j) ∧ z.1 32 0 = nI (t + 1) ∧ ∃ d, d < 30 ∧ z.1 32 1 = nI d ∧ IsLow (inC o v p s t) d) ∨ ((∀ t, t ≤ E → ¬ cnd o v p s t) ∧ z.1 32 0 = -1 ∧ ∃ d, d < 30 ∧ z.1 32 1 = nI d ∧ IsLow (inC o v p s (E + 1)) d)) → post z) : wp_X0_play (nI p) (nI s) (nI v) o u post := by
  intro z1 e1 z2 e2
  refine ⟨fun _ => ⟨31, ?_⟩, fun q => absurd ((nI_eq (by omega) (by omega)).mp q) hne⟩
  have f2 : ∀ j, j ≠ 32 → z2.1 j = u.1 j := fun j hj => by rw [e2, pI_o hj, e1, pI_o hj]
  have mono : ∀ {t j d}, d < 30 → j ≤ t → hb (Rch o (WW o v j d) v) s = true → hb (Rch o (WW o v t d) v) s = true := fun {t j d} hd hj h => Rch_up hO (WW_30 j d hd) (WW_30 t d hd) (fun e he => WW_le hO hd hj he) h
  -- the end, with these choices
  have lowK : ∀ (C : Int32) (P : Nat → Prop) (z : PoS) (K2 : Int32 → PoS → Prop), S30 C → (∀ d, d < 30 → (hb C d = true ↔ P d)) → (∀ d, P d → d < 30) → (∃ d, P d) → (∀ d, d < 30 → IsLow P d → K2 (nI d) z) → wp_X1_lowest C z K2 := by
    intro C P z K2 hC hP h30 hex hK2
    obtain ⟨d0, hd0⟩ := hex
    obtain ⟨c, h1, h2, h3, -⟩ := S30_low hC (ne_of_hb ((hP d0 (h30 d0 hd0)).mpr hd0))
    exact lowX h1 h2 h3 (hK2 c h1 ⟨(hP c h1).mp h2, fun e he hPe => bN (h3 e he) ((hP e (by omega)).mpr hPe)⟩)
  have turns : ∀ m t, t + m = E → (∀ j, j < t → ¬ cnd o v p s j) → ∀ (C : Int32) z, S30 C → (∀ d, d < 30 → (hb C d = true ↔ inC o v p s t d)) → (∀ j, j ≠ 32 → j ≠ 33 → j ≠ 34 → z.1 j = u.1 j) → (∀ c, c < 30 → z.1 33 c = WW o v t c) → wl_X0_play_64 (fun (v518 : Int32) (u18 : PoS) => wj_X0_play_132 post v518 u18) (fun (v523 : Int32) (v723 : Int32) (u23 : PoS) => ∀ z24 : PoS, z24 = pI u23 32 0 v723 → wp_X1_lowest v523 z24 (fun (r25 : Int32) (u26 : PoS) => ∀ z27 : PoS, z27 = pI u26 32 1 r25 → post z27)) post (m + 2) (nI s) (nI v) o C 1 (nI (t + 1)) z := by
    intro m
    induction m with
    | zero =>
      intro t ht hn C z hC hCi fz g33
      obtain rfl : t = E := by omega
      rw [wl_X0_play_64]
      refine ⟨fun q => absurd q (nI_nlt (b := t + 1) (a := 900) (by omega) (by decide)), fun _ => ⟨fun q => absurd q (by decide), fun _ => showX hv (fun c hc => ⟨g33 c hc, WW_30 t c hc⟩) (fun z10 f10 g34 => chooseX hs g34 (fun x hx hxi => ⟨fun q => ?_, fun q => ?_⟩))⟩⟩
      · refine fleersX (t := t) (o := o) (v := v) (fun c hc => by rw [f10 33 (by decide)]; exact g33 c hc) g34 (fun z14 r f14 g33' hr => ?_)
        have hr0 : r = 0 := by
          rcases hr with h | h
          · exact h.1
          · exact absurd hst h.2
        have hxi' : ∀ d, d < 30 → (hb x d = true ↔ inC o v p s (t + 1) d) := fun d hd => by
          rw [hxi d hd, hCi d hd]
          constructor
          · rintro ⟨⟨a, b⟩, c⟩
            refine ⟨a, fun j hj => ?_⟩
            by_cases y : j = t
            · rw [y]; exact c
            · exact b j (by omega)
          · rintro ⟨a, b⟩
            exact ⟨⟨a, fun j hj => b j (by omega)⟩, b t (by omega)⟩
        obtain ⟨d0, hd0, hx0⟩ := S30_ne hx q
        have hnc : ¬ cnd o v p s t := fun h => ((hxi' d0 hd0).mp hx0).2 t (by omega) (h d0 ((hxi' d0 hd0).mp hx0).1)
        rw [wl_X0_play_64, hr0]
        refine ⟨fun _ => ?_, fun _ => ⟨fun _ => ?_, fun q => absurd rfl q⟩⟩ <;>
        · intro z19 e19
          refine lowK x (inC o v p s (t + 1)) z19 _ hx hxi' (fun d hd => (gls_30 hO p).lt hd.1) ⟨d0, (hxi' d0 hd0).mp hx0⟩ (fun d hd hl z22 e22 => K z22 (fun j a b c => by rw [e22, pI_o a, e19, pI_o a, f14 j b, f10 j c]; exact fz j a b c) (Or.inr ⟨fun j hj => ?_, ?_, d, hd, ?_, hl⟩))
          · by_cases y : j = t
            · rw [y]; exact hnc
            · exact hn j (by omega)
          · rw [e22, pI_s, up_ne (by decide), e19, pI_s, up_eq]
          · rw [e22, pI_s, up_eq]
      · intro z24 e24
        have hcn : cnd o v p s t := fun d hd => by
          have d30 := (gls_30 hO p).lt hd
          apply Classical.byContradiction
          intro hnb
          have hin : inC o v p s t d := ⟨hd, fun j hj h => hnb (mono d30 (by omega) h)⟩
          have := (hxi d d30).mpr ⟨(hCi d d30).mpr hin, hnb⟩
          rw [q, hb_0] at this; exact Bool.noConfusion this
        refine lowK C (inC o v p s t) z24 _ hC hCi (fun d hd => (gls_30 hO p).lt hd.1) ?_ (fun d hd hl z27 e27 => K z27 (fun j a b c => by rw [e27, pI_o a, e24, pI_o a, f10 j c]; exact fz j a b c) (Or.inl ⟨t, Nat.le_refl _, hcn, hn, ?_, d, hd, ?_, hl⟩))
        · cases t with
          | zero => exact ⟨p, (gls_hb hp p).mpr ⟨hop, Or.inl rfl⟩, fun j hj => by omega⟩
          | succ t =>
            apply Classical.byContradiction
            intro hno
            apply hn t (by omega)
            intro d hd
            apply Classical.byContradiction
            intro hnb
            exact hno ⟨d, hd, fun j hj h => hnb (mono ((gls_30 hO p).lt hd) (by omega) h)⟩
        · rw [e27, pI_s, up_ne (by decide), e24, pI_s, up_eq]
        · rw [e27, pI_s, up_eq]
    | succ m ih =>
      intro t ht hn C z hC hCi fz g33
      rw [wl_X0_play_64]
      refine ⟨fun q => absurd q (nI_nlt (b := t + 1) (a := 900) (by omega) (by decide)), fun _ => ⟨fun q => absurd q (by decide), fun _ => showX hv (fun c hc => ⟨g33 c hc, WW_30 t c hc⟩) (fun z10 f10 g34 => chooseX hs g34 (fun x hx hxi => ⟨fun q => ?_, fun q => ?_⟩))⟩⟩
      · refine fleersX (t := t) (o := o) (v := v) (fun c hc => by rw [f10 33 (by decide)]; exact g33 c hc) g34 (fun z14 r f14 g33' hr => ?_)
        have hr1 : r = 1 := by
          rcases hr with h | h
          · exact absurd h.2 (hnst t (by omega))
          · exact h.1
        have hxi' : ∀ d, d < 30 → (hb x d = true ↔ inC o v p s (t + 1) d) := fun d hd => by
          rw [hxi d hd, hCi d hd]
          constructor
          · rintro ⟨⟨a, b⟩, c⟩
            refine ⟨a, fun j hj => ?_⟩
            by_cases y : j = t
            · rw [y]; exact c
            · exact b j (by omega)
          · rintro ⟨a, b⟩
            exact ⟨⟨a, fun j hj => b j (by omega)⟩, b t (by omega)⟩
        obtain ⟨d0, hd0, hx0⟩ := S30_ne hx q
        have hnc : ¬ cnd o v p s t := fun h => ((hxi' d0 hd0).mp hx0).2 t (by omega) (h d0 ((hxi' d0 hd0).mp hx0).1)
        rw [hr1, nI_1]
        refine ih (t + 1) (by omega) (fun j hj => ?_) x z14 hx hxi' (fun j a b c => by rw [f14 j b, f10 j c]; exact fz j a b c) g33'
        by_cases y : j = t
        · rw [y]; exact hnc
        · exact hn j (by omega)
      · intro z24 e24
        have hcn : cnd o v p s t := fun d hd => by
          have d30 := (gls_30 hO p).lt hd
          apply Classical.byContradiction
          intro hnb
          have hin : inC o v p s t d := ⟨hd, fun j hj h => hnb (mono d30 (by omega) h)⟩
          have := (hxi d d30).mpr ⟨(hCi d d30).mpr hin, hnb⟩
          rw [q, hb_0] at this; exact Bool.noConfusion this
        refine lowK C (inC o v p s t) z24 _ hC hCi (fun d hd => (gls_30 hO p).lt hd.1) ?_ (fun d hd hl z27 e27 => K z27 (fun j a b c => by rw [e27, pI_o a, e24, pI_o a, f10 j c]; exact fz j a b c) (Or.inl ⟨t, by omega, hcn, hn, ?_, d, hd, ?_, hl⟩))
        · cases t with
          | zero => exact ⟨p, (gls_hb hp p).mpr ⟨hop, Or.inl rfl⟩, fun j hj => by omega⟩
          | succ t =>
            apply Classical.byContradiction
            intro hno
            apply hn t (by omega)
            intro d hd
            apply Classical.byContradiction
            intro hnb
            exact hno ⟨d, hd, fun j hj h => hnb (mono ((gls_30 hO p).lt hd) (by omega) h)⟩
        · rw [e27, pI_s, up_ne (by decide), e24, pI_s, up_eq]
        · rw [e27, pI_s, up_eq]
  have init : ∀ m c, c + m = 30 → ∀ z, (∀ j, j ≠ 32 → j ≠ 33 → z.1 j = u.1 j) → (∀ c', c' < c → z.1 33 c' = bt1 c') → wl_X0_play_19 (fun (v15 : Int32) (v25 : Int32) (v35 : Int32) (v45 : Int32) (u5 : PoS) => wp_X1_beside (1 <<< (v15 &&& 31)) u5 (fun (r6 : Int32) (u7 : PoS) => ∀ x8 : Int32, x8 = (((1 <<< (v15 &&& 31)) ||| r6) &&& v45) → (∃ n64, wl_X0_play_64 (fun (v518 : Int32) (u18 : PoS) => wj_X0_play_132 post v518 u18) (fun (v523 : Int32) (v723 : Int32) (u23 : PoS) => ∀ z24 : PoS, z24 = pI u23 32 0 v723 → wp_X1_lowest v523 z24 (fun (r25 : Int32) (u26 : PoS) => ∀ z27 : PoS, z27 = pI u26 32 1 r25 → post z27)) post n64 v25 v35 v45 x8 1 1 u7))) post (m + 1) (nI p) (nI s) (nI v) o (nI c) z := by
    intro m
    induction m with
    | zero =>
      intro c hc z fz g
      obtain rfl : c = 30 := by omega
      rw [wl_X0_play_19]
      refine ⟨fun _ => besX (x := bt1 p) (bt1_30 hp) (fun x8 e8 => ⟨E + 2, ?_⟩), fun q => absurd (by decide) q⟩
      have ex : x8 = gls o p := by
        rw [e8]
        show ((bt1 p ||| bes (bt1 p)) &&& o) = gls o p
        unfold gls
        rw [Int32.or_comm]
      rw [ex]
      exact turns E 0 (Nat.zero_add E) (fun j hj => by omega) (gls o p) z (gls_30 hO p) (fun d _ => ⟨fun h => ⟨h, fun j hj => by omega⟩, fun h => h.1⟩) (fun j a b _ => fz j a b) g
    | succ m ih =>
      intro c hc z fz g
      rw [wl_X0_play_19, q_vp (by omega) (by omega), q_cl (by omega), nI_1]
      refine ⟨fun q => absurd q (nI_ge (b := 30) (by omega) (by decide)), fun _ => ⟨by omega, fun z3 e3 => ih (c + 1) (by omega) z3 (fun j a b => by rw [e3, pI_o b]; exact fz j a b) (fun c' hc' => ?_)⟩⟩
      rw [e3, pI_s]
      by_cases y : c' = c
      · rw [y, up_eq]; rfl
      · rw [up_ne y]; exact g c' (by omega)
  exact init 30 0 rfl z2 (fun j a _ => f2 j a) (fun c' hc' => by omega)
