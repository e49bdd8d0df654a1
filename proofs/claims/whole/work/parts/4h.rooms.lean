/-! ROOMS: what can be come to; how many rooms there are -/
theorem bF {x : Bool} (h : ¬ x = true) : x = false := by cases x; rfl; exact absurd rfl h
theorem bN {x : Bool} (h : x = false) : ¬ x = true := fun q => by rw [h] at q; exact Bool.noConfusion q
def Cn (o : Int32) (a d : Nat) : Prop := ∃ j, Wk o j a d
theorem Cn.refl (o : Int32) (a : Nat) : Cn o a a := ⟨0, rfl⟩
theorem Cn.tr {o : Int32} {a b c : Nat} (h1 : Cn o a b) (h2 : Cn o b c) : Cn o a c := by
  obtain ⟨j, h1⟩ := h1
  obtain ⟨k, h2⟩ := h2
  exact ⟨j + k, Wk_add k j c h1 h2⟩
theorem Cn.sym {o : Int32} {a b : Nat} (ha : hb o a = true) (h : Cn o a b) : Cn o b a := by
  obtain ⟨j, h⟩ := h
  exact ⟨j, Wk_sym j a b ha h⟩
theorem Cn.op {o : Int32} {a b : Nat} (ha : hb o a = true) (h : Cn o a b) : hb o b = true := by
  obtain ⟨j, h⟩ := h
  exact Wk_open h ha
theorem Cn.st {o : Int32} {a b c : Nat} (h : Cn o a b) (h1 : adj b c) (h2 : hb o c = true) : Cn o a c := by
  obtain ⟨j, h⟩ := h
  exact ⟨j + 1, b, h, h1, h2⟩
theorem Wk_sub {o y : Int32} (hs : ∀ d, hb o d = true → hb y d = true) {a : Nat} : ∀ j b, Wk o j a b → Wk y j a b := by
  intro j
  induction j with
  | zero => intro b h; exact h
  | succ j ih => rintro b ⟨c, h1, h2, h3⟩; exact ⟨c, ih c h1, h2, hs b h3⟩
theorem Cn.mono {o y : Int32} (hs : ∀ d, hb o d = true → hb y d = true) {a b : Nat} (h : Cn o a b) : Cn y a b := by
  obtain ⟨j, h⟩ := h
  exact ⟨j, Wk_sub hs j b h⟩
theorem fill_iff {o s : Int32} (hO : S30 o) (hs : S30 s) (e : Nat) : hb (Rch o s 29) e = true ↔ ∃ a, hb s a = true ∧ Cn o a e := by
  constructor
  · intro h
    obtain ⟨a, j, -, h1, h2⟩ := (Rch_iff hO hs 29 e).mp h
    exact ⟨a, h1, j, h2⟩
  · rintro ⟨a, h1, j, h2⟩
    have := (Rch_iff hO hs (29 + j) e).mpr ⟨a, j, by omega, h1, h2⟩
    rw [Rch_top hs (by omega)] at this; exact this
def cj (o : Int32) (d e : Nat) : Bool := hb (Rch o (bt1 d) 29) e
theorem cj_iff {o : Int32} (hO : S30 o) {d : Nat} (hd : d < 30) (e : Nat) : cj o d e = true ↔ Cn o d e := by
  unfold cj
  rw [fill_iff hO (bt1_30 hd)]
  constructor
  · rintro ⟨a, h1, h2⟩; rw [(bt1_hb hd a).mp h1] at h2; exact h2
  · intro h; exact ⟨d, (bt1_hb hd d).mpr rfl, h⟩
theorem Rch_stay {o s : Int32} {k : Nat} (h : Rch o s (k + 1) = Rch o s k) : ∀ j, Rch o s (k + j) = Rch o s k := by
  intro j
  induction j with
  | zero => rfl
  | succ j ih => rw [show k + (j + 1) = (k + j) + 1 by omega, Rch, ih, ← Rch, h]
theorem filledX {o s : Int32} (hs : S30 s) {u : PoS} {post : Int32 → PoS → Prop} (K : post (Rch o s 29) u) : wp_X1_filled s o u post := by
  refine ⟨31, ?_⟩
  have lp : ∀ f k, k + f = 30 → wl_X1_filled_4 post (f + 1) o (Rch o s k) (nI k) u := by
    intro f
    induction f with
    | zero =>
      intro k hk
      rw [wl_X1_filled_4, Rch_top hs (show 29 ≤ k by omega)]
      refine ⟨fun _ => K, fun h => absurd ?_ h⟩
      rw [show k = 30 by omega]; decide
    | succ f ih =>
      intro k hk
      rw [wl_X1_filled_4]
      refine ⟨fun h => absurd h (nI_ge (b := 30) (by omega) (by decide)), fun _ => besX (Rch_30 hs k) (fun x3 e3 => ?_)⟩
      rw [← Rch] at e3
      refine ⟨fun _ => ?_, fun h => ?_⟩
      · rw [e3, nI_1]; exact ih (k + 1) (by omega)
      · rw [e3] at h
        have := Rch_stay h (29 - k)
        rw [show k + (29 - k) = 29 by omega] at this
        rw [← this]; exact K
  exact lp 30 0 rfl
theorem comeToM {o s : Int32} (hs : S30 s) {u : PoS} {post : Int32 → PoS → Prop} (K : post (Rch o s 29) u) : wp_X12_comeTo s o u post := by
  refine ⟨31, ?_⟩
  have stay : ∀ k, Nw o s k = 0 → ∀ j, Rch o s (k + j) = Rch o s k := by
    intro k h j
    induction j with
    | zero => rfl
    | succ j ih =>
      have h1 : Nw o s (k + (j + 1)) = 0 := Nw_0 h (j + 1)
      rw [show k + (j + 1) = (k + j) + 1 by omega] at h1 ⊢
      rw [Nw_or hs, h1, ih, Int32.or_zero]
  have lp : ∀ f k, k + f = 30 → wl_X12_comeTo_4 post (f + 1) o (Rch o s k) (Nw o s k) u := by
    intro f
    induction f with
    | zero =>
      intro k hk
      rw [wl_X12_comeTo_4, Rch_top hs (show 29 ≤ k by omega)]
      exact ⟨fun _ => K, fun h => absurd (Nw_30k hs (by omega)) h⟩
    | succ f ih =>
      intro k hk
      rw [wl_X12_comeTo_4]
      refine ⟨fun h => ?_, fun _ => besM (fun x3 e3 x4 e4 => ?_)⟩
      · have := stay k h (29 - k)
        rw [show k + (29 - k) = 29 by omega] at this
        rw [← this]; exact K
      · rw [← Nw] at e3
        rw [e4, e3, ← Nw_or hs]
        exact ih (k + 1) (by omega)
  exact lp 30 0 rfl
/-! counting -/
def nb (f : Nat → Bool) : Nat → Nat
  | 0 => 0
  | n + 1 => nb f n + (if f n = true then 1 else 0)
theorem nb_cg {f g : Nat → Bool} : ∀ n, (∀ i, i < n → f i = g i) → nb f n = nb g n := by
  intro n
  induction n with
  | zero => intro _; rfl
  | succ n ih => intro h; rw [nb, nb, ih (fun i hi => h i (by omega)), h n (by omega)]
theorem nb_0 {f : Nat → Bool} : ∀ n, (∀ i, i < n → f i = false) → nb f n = 0 := by
  intro n
  induction n with
  | zero => intro _; rfl
  | succ n ih => intro h; rw [nb, ih (fun i hi => h i (by omega)), h n (by omega)]; rfl
theorem nb_split (f g : Nat → Bool) : ∀ n, nb f n = nb (fun i => f i && g i) n + nb (fun i => f i && !g i) n := by
  intro n
  induction n with
  | zero => rfl
  | succ n ih =>
    rw [nb, nb, nb, ih]
    cases f n <;> cases g n <;> simp <;> omega
theorem nb_del {f g : Nat → Bool} {d : Nat} (h1 : f d = true) (h2 : g d = false) : ∀ n, (∀ i, i < n → i ≠ d → g i = f i) → nb g n + (if d < n then 1 else 0) = nb f n := by
  intro n
  induction n with
  | zero => intro _; rfl
  | succ n ih =>
    intro h
    have ih := ih (fun i hi => h i (by omega))
    rw [nb, nb]
    by_cases e : n = d
    · subst e
      rw [h1, h2, if_pos (show n < n + 1 by omega), if_neg (show ¬ false = true by decide), if_pos rfl]
      rw [if_neg (show ¬ n < n by omega)] at ih
      omega
    · rw [h n (by omega) e]
      by_cases z : d < n
      · rw [if_pos (show d < n + 1 by omega)]; rw [if_pos z] at ih; omega
      · rw [if_neg (show ¬ d < n + 1 by omega)]; rw [if_neg z] at ih; omega
theorem nb_pos {f : Nat → Bool} {d : Nat} (h : f d = true) : ∀ n, d < n → 1 ≤ nb f n := by
  intro n
  induction n with
  | zero => intro h; omega
  | succ n ih =>
    intro hd
    rw [nb]
    by_cases e : d = n
    · rw [← e, h, if_pos rfl]; omega
    · have := ih (by omega); omega
theorem nb_ex {f : Nat → Bool} : ∀ n, 1 ≤ nb f n → ∃ d, d < n ∧ f d = true := by
  intro n
  induction n with
  | zero => intro h; exact absurd (show 1 ≤ 0 from h) (by decide)
  | succ n ih =>
    intro h
    rw [nb] at h
    cases e : f n
    · rw [e, if_neg (by decide)] at h
      obtain ⟨d, h1, h2⟩ := ih (by omega)
      exact ⟨d, by omega, h2⟩
    · exact ⟨n, by omega, e⟩
theorem nb_one {f : Nat → Bool} {d n : Nat} (hd : d < n) (h : f d = true) (hu : ∀ i, i < n → f i = true → i = d) : nb f n = 1 := by
  have := nb_del (f := f) (g := fun _ => false) h rfl n (fun i hi hne => by
    cases e : f i
    · rfl
    · exact absurd (hu i hi e) hne)
  rw [nb_0 n (fun _ _ => rfl), if_pos hd] at this
  omega
theorem nb_two {f : Nat → Bool} {n : Nat} : 2 ≤ nb f n ↔ ∃ a b, a < n ∧ b < n ∧ a ≠ b ∧ f a = true ∧ f b = true := by
  constructor
  · intro h
    obtain ⟨a, h1, h2⟩ := nb_ex n (show 1 ≤ nb f n by omega)
    have hd := nb_del (f := f) (g := fun i => f i && !decide (i = a)) h2 (by rw [decide_eq_true rfl, Bool.not_true, Bool.and_false]) n (fun i _ hne => by rw [decide_eq_false hne, Bool.not_false, Bool.and_true])
    rw [if_pos h1] at hd
    obtain ⟨b, h3, h4⟩ := nb_ex n (show 1 ≤ nb (fun i => f i && !decide (i = a)) n by omega)
    rw [Bool.and_eq_true] at h4
    refine ⟨a, b, h1, h3, fun e => ?_, h2, h4.1⟩
    rw [decide_eq_true e.symm] at h4
    exact Bool.noConfusion h4.2
  · rintro ⟨a, b, ha, hb', hne, h1, h2⟩
    have hd := nb_del (f := f) (g := fun i => f i && !decide (i = a)) h1 (by rw [decide_eq_true rfl, Bool.not_true, Bool.and_false]) n (fun i _ hne => by rw [decide_eq_false hne, Bool.not_false, Bool.and_true])
    rw [if_pos ha] at hd
    have := nb_pos (f := fun i => f i && !decide (i = a)) (d := b) (by rw [h2, decide_eq_false (Ne.symm hne)]; rfl) n hb'
    omega
/-- the lowest of its room -/
noncomputable def mn (o : Int32) (d : Nat) : Bool := hb o d && @decide (∀ e, e < 30 → cj o d e = true → d ≤ e) (Classical.propDecidable _)
theorem mn_iff {o : Int32} (hO : S30 o) (d : Nat) : mn o d = true ↔ hb o d = true ∧ ∀ e, Cn o d e → d ≤ e := by
  unfold mn
  rw [Bool.and_eq_true, @decide_eq_true_eq _ (Classical.propDecidable _)]
  constructor
  · rintro ⟨h1, h2⟩
    exact ⟨h1, fun e he => h2 e (hO.lt (he.op h1)) ((cj_iff hO (hO.lt h1) e).mpr he)⟩
  · rintro ⟨h1, h2⟩
    exact ⟨h1, fun e _ he => h2 e ((cj_iff hO (hO.lt h1) e).mp he)⟩
theorem mn_eq {o : Int32} (hO : S30 o) {d e : Nat} (h1 : mn o d = true) (h2 : mn o e = true) (h : Cn o d e) : d = e := by
  have a := (mn_iff hO d).mp h1
  have b := (mn_iff hO e).mp h2
  have := a.2 e h
  have := b.2 d (h.sym a.1)
  omega
theorem mn_of {o : Int32} (hO : S30 o) {a : Nat} (ha : hb o a = true) : ∃ d, d < 30 ∧ Cn o a d ∧ mn o d = true := by
  obtain ⟨d, h1, h2, h3⟩ := nx_least (fun d => Cn o a d) 30 ⟨a, hO.lt ha, Cn.refl o a⟩
  refine ⟨d, h1, h2, (mn_iff hO d).mpr ⟨h2.op ha, fun e he => ?_⟩⟩
  rcases Nat.lt_or_ge e d with z | z
  · exact absurd (h2.tr he) (h3 e z)
  · exact z
theorem S30_low {x : Int32} (hx : S30 x) (h : ¬ x = 0) : ∃ c, c < 30 ∧ hb x c = true ∧ (∀ d, d < c → hb x d = false) ∧ (x &&& -x) = bt1 c := by
  obtain ⟨c, h1, h2, h3⟩ := hb_low h
  exact ⟨c, hx.lt h2, h2, h3, low_bit h1 h2 h3⟩
theorem roomsM {o : Int32} (hO : S30 o) {u : PoS} {post : Int32 → PoS → Prop} (K : post (nI (nb (mn o) 30)) u) : wp_X12_roomsOf o u post := by
  refine ⟨nb (mn o) 30 + 1, ?_⟩
  have lp : ∀ m (x : Int32) k, S30 x → (∀ d, hb x d = true → hb o d = true) → (∀ d e, hb x d = true → Cn o d e → hb x e = true) → nb (fun d => mn o d && hb x d) 30 = m → k + m = nb (mn o) 30 → wl_X12_roomsOf_4 post (m + 1) x (nI k) u := by
    intro m
    have lowmn : ∀ x : Int32, S30 x → (∀ d, hb x d = true → hb o d = true) → (∀ d e, hb x d = true → Cn o d e → hb x e = true) → ¬ x = 0 → ∃ c, c < 30 ∧ hb x c = true ∧ mn o c = true ∧ (x &&& -x) = bt1 c := by
      intro x hx hs hc h
      obtain ⟨c, h1, h2, h3, h4⟩ := S30_low hx h
      refine ⟨c, h1, h2, (mn_iff hO c).mpr ⟨hs c h2, fun e he => ?_⟩, h4⟩
      rcases Nat.lt_or_ge e c with z | z
      · exact absurd (hc c e h2 he) (bN (h3 e z))
      · exact z
    induction m with
    | zero =>
      intro x k hx hs hc hm hk
      rw [wl_X12_roomsOf_4]
      refine ⟨fun _ => by rw [show k = nb (mn o) 30 by omega]; exact K, fun h => ?_⟩
      obtain ⟨c, h1, h2, h3, h4⟩ := lowmn x hx hs hc h
      have := nb_pos (f := fun d => mn o d && hb x d) (d := c) (by rw [h2, h3]; rfl) 30 h1
      omega
    | succ m ih =>
      intro x k hx hs hc hm hk
      rw [wl_X12_roomsOf_4]
      refine ⟨fun h => ?_, fun h => ?_⟩
      · rw [nb_0 30 (fun i _ => by rw [h, hb_0, Bool.and_false])] at hm; omega
      · obtain ⟨c, h1, h2, h3, h4⟩ := lowmn x hx hs hc h
        rw [h4]
        refine comeToM (bt1_30 h1) (fun x3 e3 => ?_)
        have inR : ∀ e, hb (Rch x (bt1 c) 29) e = true ↔ Cn o c e := by
          intro e
          show cj x c e = true ↔ _
          rw [cj_iff hx h1]
          constructor
          · intro h; exact h.mono hs
          · rintro ⟨j, hj⟩
            have : ∀ j e, Wk o j c e → Wk x j c e := by
              intro j
              induction j with
              | zero => intro e h; exact h
              | succ j ih => rintro e ⟨f, g1, g2, g3⟩; exact ⟨f, ih f g1, g2, hc c e h2 ⟨j + 1, f, g1, g2, g3⟩⟩
            exact ⟨j, this j e hj⟩
        have in3 : ∀ e, hb x3 e = true ↔ hb x e = true ∧ ¬ Cn o c e := by
          intro e
          rw [e3]
          rcases Nat.lt_or_ge e 32 with z | z
          · rw [hb_and, hb_not _ z, Bool.and_eq_true]
            constructor
            · rintro ⟨g1, g2⟩
              refine ⟨g1, fun g3 => ?_⟩
              rw [(inR e).mpr g3] at g2; exact Bool.noConfusion g2
            · rintro ⟨g1, g2⟩
              refine ⟨g1, ?_⟩
              rw [bF (fun g3 => g2 ((inR e).mp g3))]; rfl
          · rw [hb_big z, hb_big z]; exact ⟨fun h => Bool.noConfusion h, fun h => Bool.noConfusion h.1⟩
        rw [nI_1]
        refine ih x3 (k + 1) (by rw [e3]; exact hx.and _) (fun d hd => hs d ((in3 d).mp hd).1) (fun d e hd he => (in3 e).mpr ⟨hc d e ((in3 d).mp hd).1 he, fun h => ((in3 d).mp hd).2 (h.tr (he.sym (hs d ((in3 d).mp hd).1)))⟩) ?_ (by omega)
        have := nb_del (f := fun d => mn o d && hb x d) (g := fun d => mn o d && hb x3 d) (d := c) (by rw [h2, h3]; rfl) (by
          rw [bF (fun z => ((in3 c).mp z).2 (Cn.refl o c)), Bool.and_false]) 30 (fun i _ hne => by
          cases e : mn o i
          · rfl
          · show hb x3 i = hb x i
            cases e2 : hb x i
            · exact bF (fun z => bN e2 ((in3 i).mp z).1)
            · exact (in3 i).mpr ⟨e2, fun z => hne (mn_eq hO h3 e z).symm⟩)
        rw [if_pos h1] at this
        omega
  refine lp (nb (mn o) 30) o 0 hO (fun _ h => h) (fun d e hd he => he.op hd) (nb_cg 30 (fun i _ => ?_)) (Nat.zero_add _)
  cases e : mn o i
  · rfl
  · rw [((mn_iff hO i).mp e).1]; rfl
/-! narrows -/
theorem bx_hb {o : Int32} {c : Nat} (hc : c < 30) (hO : S30 o) (d : Nat) : hb (o &&& (bt1 c ^^^ -1)) d = true ↔ hb o d = true ∧ d ≠ c := by
  rw [hb_and, Bool.and_eq_true]
  constructor
  · rintro ⟨h1, h2⟩
    refine ⟨h1, fun e => ?_⟩
    rw [hb_not _ (by omega), (bt1_hb hc d).mpr e] at h2; exact Bool.noConfusion h2
  · rintro ⟨h1, h2⟩
    refine ⟨h1, ?_⟩
    have := hO.lt h1
    rw [hb_not _ (by omega), bF (fun z => h2 ((bt1_hb hc d).mp z))]; rfl
theorem adj_ne {c d : Nat} (h : adj c d) : d ≠ c := by unfold adj at h; omega
theorem narrow_iff {o : Int32} (hO : S30 o) {c : Nat} (hc : c < 30) (ho : hb o c = true) : nb (mn o) 30 < nb (mn (o &&& (bt1 c ^^^ -1))) 30 ↔ ∃ a b, (adj c a ∧ hb o a = true) ∧ (adj c b ∧ hb o b = true) ∧ ¬ Cn (o &&& (bt1 c ^^^ -1)) a b := by
  have hY : S30 (o &&& (bt1 c ^^^ -1)) := hO.and _
  have yb := bx_hb hc hO
  generalize (o &&& (bt1 c ^^^ -1)) = y at *
  have sub : ∀ d, hb y d = true → hb o d = true := fun d h => ((yb d).mp h).1
  have S2 : ∀ d, d < 30 → ¬ cj o c d = true → mn y d = mn o d := by
    intro d hd hn
    rw [cj_iff hO hc] at hn
    have hdc : d ≠ c := fun e => hn (e ▸ Cn.refl o c)
    by_cases hod : hb o d = true
    · have av : ∀ j e, Wk o j d e → Wk y j d e := by
        intro j
        induction j with
        | zero => intro e h; exact h
        | succ j ih =>
          rintro e ⟨f, g1, g2, g3⟩
          refine ⟨f, ih f g1, g2, (yb e).mpr ⟨g3, fun ec => hn ?_⟩⟩
          rw [ec] at g2 g3
          exact Cn.sym hod ⟨j + 1, f, g1, g2, g3⟩
      have eq : ∀ e, Cn y d e ↔ Cn o d e := fun e => ⟨fun h => h.mono sub, fun ⟨j, h⟩ => ⟨j, av j e h⟩⟩
      cases e : mn o d
      · apply bF
        intro h
        have := (mn_iff hY d).mp h
        exact bN e ((mn_iff hO d).mpr ⟨hod, fun f hf => this.2 f ((eq f).mpr hf)⟩)
      · have := (mn_iff hO d).mp e
        exact (mn_iff hY d).mpr ⟨(yb d).mpr ⟨hod, hdc⟩, fun f hf => this.2 f ((eq f).mp hf)⟩
    · have e1 : mn o d = false := bF (fun h => hod ((mn_iff hO d).mp h).1)
      have e2 : mn y d = false := bF (fun h => hod (sub d ((mn_iff hY d).mp h).1))
      rw [e1, e2]
  have S3 : nb (fun d => mn o d && cj o c d) 30 = 1 := by
    obtain ⟨m, m1, m2, m3⟩ := mn_of hO ho
    refine nb_one m1 (by show (mn o m && cj o c m) = true; rw [m3, (cj_iff hO hc m).mpr m2]; rfl) (fun i hi hf => ?_)
    have hf : (mn o i && cj o c i) = true := hf
    rw [Bool.and_eq_true, cj_iff hO hc] at hf
    exact mn_eq hO hf.1 m3 ((hf.2.sym ho).tr m2)
  have hit : ∀ j d, Wk o j c d → hb y d = true → ∃ a, (adj c a ∧ hb o a = true) ∧ Cn y a d := by
    intro j
    induction j with
    | zero => intro d h hd; exact absurd h.symm ((yb d).mp hd).2
    | succ j ih =>
      rintro d ⟨f, g1, g2, g3⟩ hd
      by_cases e : f = c
      · rw [e] at g2; exact ⟨d, ⟨g2, g3⟩, Cn.refl y d⟩
      · obtain ⟨a, h1, h2⟩ := ih f g1 ((yb f).mpr ⟨Wk_open g1 ho, e⟩)
        exact ⟨a, h1, h2.st g2 hd⟩
  have ny : ∀ a, adj c a ∧ hb o a = true → hb y a = true := fun a h => (yb a).mpr ⟨h.2, adj_ne h.1⟩
  rw [nb_split (mn o) (cj o c) 30, nb_split (mn y) (cj o c) 30, S3, nb_cg (f := fun d => mn o d && !cj o c d) (g := fun d => mn y d && !cj o c d) 30 (fun i hi => by
    show (mn o i && !cj o c i) = (mn y i && !cj o c i)
    cases e : cj o c i
    · rw [S2 i hi (bN e)]
    · simp)]
  have : (1 + nb (fun d => mn y d && !cj o c d) 30 < nb (fun d => mn y d && cj o c d) 30 + nb (fun d => mn y d && !cj o c d) 30) ↔ 2 ≤ nb (fun d => mn y d && cj o c d) 30 := by omega
  refine this.trans (nb_two.trans ?_)
  constructor
  · rintro ⟨d1, d2, -, -, hne, h1, h2⟩
    have h1 : (mn y d1 && cj o c d1) = true := h1
    have h2 : (mn y d2 && cj o c d2) = true := h2
    rw [Bool.and_eq_true, cj_iff hO hc] at h1 h2
    obtain ⟨j1, w1⟩ := h1.2
    obtain ⟨j2, w2⟩ := h2.2
    obtain ⟨a, a1, a2⟩ := hit j1 d1 w1 ((mn_iff hY d1).mp h1.1).1
    obtain ⟨b, b1, b2⟩ := hit j2 d2 w2 ((mn_iff hY d2).mp h2.1).1
    refine ⟨a, b, a1, b1, fun h => hne (mn_eq hY h1.1 h2.1 ?_)⟩
    exact ((a2.sym (ny a a1)).tr h).tr b2
  · rintro ⟨a, b, ha, hb', hn⟩
    obtain ⟨d1, m1, m2, m3⟩ := mn_of hY (ny a ha)
    obtain ⟨d2, k1, k2, k3⟩ := mn_of hY (ny b hb')
    refine ⟨d1, d2, m1, k1, fun e => hn ?_, ?_, ?_⟩
    · rw [← e] at k2
      exact m2.tr (k2.sym (ny b hb'))
    · show (mn y d1 && cj o c d1) = true
      rw [m3, (cj_iff hO hc d1).mpr (((Cn.refl o c).st ha.1 ha.2).tr (m2.mono sub))]; rfl
    · show (mn y d2 && cj o c d2) = true
      rw [k3, (cj_iff hO hc d2).mpr (((Cn.refl o c).st hb'.1 hb'.2).tr (k2.mono sub))]; rfl
theorem narrow_cls {o : Int32} (hO : S30 o) {c : Nat} (hc : c < 30) : (¬ ((bes (bt1 c) &&& o) &&& (Rch (o &&& (bt1 c ^^^ -1)) ((bes (bt1 c) &&& o) &&& -(bes (bt1 c) &&& o)) 29 ^^^ -1)) = 0) ↔ ∃ a b, (adj c a ∧ hb o a = true) ∧ (adj c b ∧ hb o b = true) ∧ ¬ Cn (o &&& (bt1 c ^^^ -1)) a b := by
  have hY : S30 (o &&& (bt1 c ^^^ -1)) := hO.and _
  have yb := bx_hb hc hO
  generalize (o &&& (bt1 c ^^^ -1)) = y at *
  have hA : S30 (bes (bt1 c) &&& o) := (bes_30 _).and _
  have ab : ∀ a, hb (bes (bt1 c) &&& o) a = true ↔ adj c a ∧ hb o a = true := by
    intro a
    rw [hb_and, Bool.and_eq_true, bes_hb (bt1_30 hc)]
    constructor
    · rintro ⟨⟨h1, e, h2, h3⟩, h4⟩; rw [(bt1_hb hc e).mp h2] at h3; exact ⟨h3, h4⟩
    · rintro ⟨h1, h2⟩; exact ⟨⟨hO.lt h2, c, (bt1_hb hc c).mpr rfl, h1⟩, h2⟩
  generalize (bes (bt1 c) &&& o) = A at *
  have ny : ∀ a, adj c a ∧ hb o a = true → hb y a = true := fun a h => (yb a).mpr ⟨h.2, adj_ne h.1⟩
  constructor
  · intro h
    obtain ⟨b, hb30, hb'⟩ := S30_ne (hA.and _) h
    rw [hb_and, hb_not _ (by omega), Bool.and_eq_true] at hb'
    have hA0 : ¬ A = 0 := ne_of_hb hb'.1
    obtain ⟨a, a1, a2, a3, a4⟩ := S30_low hA hA0
    rw [a4] at hb'
    refine ⟨a, b, (ab a).mp a2, (ab b).mp hb'.1, fun hcn => ?_⟩
    have : hb (Rch y (bt1 a) 29) b = true := (cj_iff hY a1 b).mpr hcn
    rw [this] at hb'; exact Bool.noConfusion hb'.2
  · rintro ⟨a, b, ha, hb', hn⟩
    obtain ⟨a0, p1, p2, p3, p4⟩ := S30_low hA (ne_of_hb ((ab a).mpr ha))
    rw [p4]
    have get : ∀ e, hb A e = true → ¬ Cn y a0 e → ¬ (A &&& (Rch y (bt1 a0) 29 ^^^ -1)) = 0 := by
      intro e he hne
      refine ne_of_hb (c := e) ?_
      have := hA.lt he
      rw [hb_and, he, hb_not _ (by omega), bF (x := hb (Rch y (bt1 a0) 29) e) (fun z => hne ((cj_iff hY p1 e).mp z))]; rfl
    by_cases h : Cn y a0 a
    · refine get b ((ab b).mpr hb') (fun h2 => hn ?_)
      exact (h.sym (ny a0 ((ab a0).mp p2))).tr h2
    · exact get a ((ab a).mpr ha) h
theorem ob_narrows {LT : Nat → PoS → Prop} : Ob32 wp_X11_narrows wp_X12_narrows (Inv LT) := by
  have fld : ∃ F : Int32 → Nat → Int32, ∀ o, F o 0 = 0 ∧ ∀ c, (hb o c = true ∧ (nb (mn o) 30 < nb (mn (o &&& (bt1 c ^^^ -1))) 30) → F o (c + 1) = F o c ||| bt1 c) ∧ (¬ (hb o c = true ∧ (nb (mn o) 30 < nb (mn (o &&& (bt1 c ^^^ -1))) 30)) → F o (c + 1) = F o c) := by
    refine ⟨fun o n => Nat.rec 0 (fun c r => if hb o c = true ∧ (nb (mn o) 30 < nb (mn (o &&& (bt1 c ^^^ -1))) 30) then r ||| bt1 c else r) n, fun o => ⟨rfl, fun c => ⟨fun h => if_pos h, fun h => if_neg h⟩⟩⟩
  obtain ⟨F, hF⟩ := fld
  refine ob_same (fun u => F (opn (u.1 49)) 30) (fun u hI K hK => ?_) (fun u hI K hK => ?_)
  · refine openX (b := 0) hI.1.liv.2.2.2.opn ?_
    have hO := opn_30 (u.1 49)
    generalize opn (u.1 49) = o at *
    obtain ⟨F0, FS⟩ := hF o
    refine ⟨31, ?_⟩
    have lp : ∀ m c, c + m = 30 → wl_X11_narrows_12 K (m + 1) o (F o c) (nI c) u := by
      intro m
      induction m with
      | zero =>
        intro c hc
        obtain rfl : c = 30 := by omega
        rw [wl_X11_narrows_12]; exact ⟨fun _ => hK, fun h => absurd (by decide) h⟩
      | succ m ih =>
        intro c hc
        have ih := ih (c + 1) (by omega)
        obtain ⟨f1, f2⟩ := FS c
        rw [wl_X11_narrows_12]
        refine ⟨fun h => absurd h (nI_ge (b := 30) (by omega) (by decide)), fun _ x3 e3 => ?_⟩
        rw [show (1 : Int32) <<< (nI c &&& 31) = bt1 c from rfl] at e3
        subst e3
        refine besX (bt1_30 (by omega)) (fun x6 e6 => ?_)
        subst e6
        refine ⟨fun h => ?_, fun h => filledX ?_ ?_⟩
        · unfold wj_X11_narrows_67
          rw [f2 (fun z => absurd h (ne_of_hb (c := c) (by rw [hb_and, z.1, (bt1_hb (by omega) c).mpr rfl]; rfl)))] at ih
          rw [nI_1]; exact ih
        · exact ((bes_30 _).and _).and _
        · have ho : hb o c = true := by
            obtain ⟨d, -, hd⟩ := S30_ne (hO.and _) h
            rw [hb_and, Bool.and_eq_true] at hd
            rw [← (bt1_hb (by omega) d).mp hd.2]; exact hd.1
          have eq := (narrow_cls hO (show c < 30 by omega)).trans (narrow_iff hO (by omega) ho).symm
          refine ⟨fun h0 => ?_, fun h0 x9 e9 => ?_⟩
          · unfold wj_X11_narrows_67
            rw [f2 (fun z => (eq.mpr z.2) h0)] at ih
            rw [nI_1]; exact ih
          · unfold wj_X11_narrows_67
            rw [f1 ⟨ho, eq.mp h0⟩] at ih
            rw [e9, nI_1]; exact ih
    have := lp 30 0 rfl
    rw [F0] at this; exact this
  · refine freeM ?_
    have hO := opn_30 (u.1 49)
    generalize opn (u.1 49) = o at *
    obtain ⟨F0, FS⟩ := hF o
    refine roomsM hO ⟨31, ?_⟩
    have nbl : ∀ f, nb f 30 ≤ 30 := by
      intro f
      have : ∀ n, nb f n ≤ n := by
        intro n
        induction n with
        | zero => exact Nat.le_refl 0
        | succ n ih => rw [nb]; split <;> omega
      exact this 30
    have lp : ∀ m c, c + m = 30 → wl_X12_narrows_15 K (m + 1) o (F o c) (nI (nb (mn o) 30)) (nI c) u := by
      intro m
      induction m with
      | zero =>
        intro c hc
        obtain rfl : c = 30 := by omega
        rw [wl_X12_narrows_15]; exact ⟨fun _ => hK, fun h => absurd (by decide) h⟩
      | succ m ih =>
        intro c hc
        have ih := ih (c + 1) (by omega)
        obtain ⟨f1, f2⟩ := FS c
        have n1 := nbl (mn o)
        have n2 := nbl (mn (o &&& (bt1 c ^^^ -1)))
        rw [wl_X12_narrows_15]
        refine ⟨fun h => absurd h (nI_ge (b := 30) (by omega) (by decide)), fun _ => ?_⟩
        cases ho : hb o c
        · refine hasM_f (by omega) ho ⟨fun z => absurd rfl z, fun _ => ?_⟩
          unfold wj_X12_narrows_60
          rw [f2 (fun z => bN ho z.1)] at ih
          rw [nI_1]; exact ih
        · refine hasM_t (by omega) ho ⟨fun _ => roomsM (o := o &&& (bt1 c ^^^ -1)) (hO.and _) ?_, fun z => absurd z (by decide)⟩
          rw [q_le (by omega) (by omega)]
          refine ⟨fun h => ?_, fun h => ?_⟩
          · unfold wj_X12_narrows_58 wj_X12_narrows_60
            intro x9 e9
            rw [f2 (fun z => by have := z.2; omega)] at ih
            rw [e9, nI_1, Int32.or_zero]; exact ih
          · unfold wj_X12_narrows_58 wj_X12_narrows_60
            intro x9 e9
            rw [f1 ⟨ho, by omega⟩] at ih
            rw [e9, nI_1]; exact ih
    have := lp 30 0 rfl
    rw [F0] at this; exact this
