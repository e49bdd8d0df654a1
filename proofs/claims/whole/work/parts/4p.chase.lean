/-! A CHASE: where one is caught by now -/
theorem sid_cases : ∀ c, c < 30 → ∀ w, w < 4 → sid c w = -1 ∨ ∃ d, d < 30 ∧ sid c w = nI d := by
  intro c hc w hw
  unfold sid
  match w, hw with
  | 0, _ =>
    rw [if_pos rfl]
    by_cases h : c < 6
    · rw [if_pos h]; exact Or.inl rfl
    · rw [if_neg h]; exact Or.inr ⟨c - 6, by omega, rfl⟩
  | 1, _ =>
    rw [if_neg (by decide), if_pos rfl]
    by_cases h : c % 6 = 0
    · rw [if_pos h]; exact Or.inl rfl
    · rw [if_neg h]; exact Or.inr ⟨c - 1, by omega, rfl⟩
  | 2, _ =>
    rw [if_neg (by decide), if_neg (by decide), if_pos rfl]
    by_cases h : 5 ≤ c % 6
    · rw [if_pos h]; exact Or.inl rfl
    · rw [if_neg h]; exact Or.inr ⟨c + 1, by omega, rfl⟩
  | 3, _ =>
    rw [if_neg (by decide), if_neg (by decide), if_neg (by decide)]
    by_cases h : 24 ≤ c
    · rw [if_pos h]; exact Or.inl rfl
    · rw [if_neg h]; exact Or.inr ⟨c + 6, by omega, rfl⟩
theorem sbt_hb {c w d : Nat} (hc : c < 30) (hw : w < 4) : hb (sbt c w) d = true ↔ d < 30 ∧ sid c w = nI d := by
  unfold sbt
  rcases sid_cases c hc w hw with e | ⟨e, he, h⟩
  · rw [if_pos e, hb_0]
    refine ⟨fun h => Bool.noConfusion h, fun h => ?_⟩
    rw [e] at h
    exact absurd h.2.symm (q_neg0 (by omega))
  · rw [h, if_neg (q_neg0 (by omega))]
    show hb (bt1 e) d = true ↔ _
    rw [bt1_hb he]
    constructor
    · intro h; exact ⟨by omega, by rw [h]⟩
    · intro h; exact ((nI_eq (by omega) (by omega)).mp h.2).symm
theorem side_iff {c d : Nat} (hc : c < 30) : hb (bes (bt1 c)) d = true ↔ ∃ w, w < 4 ∧ d < 30 ∧ sid c w = nI d := by
  rw [← nbs c hc, hb_or, hb_or, hb_or, hb_or, hb_0]
  simp only [Bool.or_eq_true, sbt_hb hc (show 0 < 4 by decide), sbt_hb hc (show 1 < 4 by decide), sbt_hb hc (show 2 < 4 by decide), sbt_hb hc (show 3 < 4 by decide)]
  constructor
  · rintro ((((h | h) | h) | h) | h)
    · exact Bool.noConfusion h
    · exact ⟨0, by decide, h⟩
    · exact ⟨1, by decide, h⟩
    · exact ⟨2, by decide, h⟩
    · exact ⟨3, by decide, h⟩
  · rintro ⟨w, hw, h⟩
    match w, hw, h with
    | 0, _, h => exact Or.inl (Or.inl (Or.inl (Or.inr h)))
    | 1, _, h => exact Or.inl (Or.inl (Or.inr h))
    | 2, _, h => exact Or.inl (Or.inr h)
    | 3, _, h => exact Or.inr h
/-- where one at c can go -/
def gls (o : Int32) (c : Nat) : Int32 := (bes (bt1 c) ||| bt1 c) &&& o
theorem gls_hb {o : Int32} {c : Nat} (hc : c < 30) (d : Nat) : hb (gls o c) d = true ↔ hb o d = true ∧ (d = c ∨ hb (bes (bt1 c)) d = true) := by
  unfold gls
  rw [hb_and, hb_or, Bool.and_eq_true, Bool.or_eq_true, bt1_hb hc]
  constructor
  · rintro ⟨h1 | h1, h2⟩
    · exact ⟨h2, Or.inr h1⟩
    · exact ⟨h2, Or.inl h1⟩
  · rintro ⟨h2, h1 | h1⟩
    · exact ⟨Or.inr h1, h2⟩
    · exact ⟨Or.inl h1, h2⟩
theorem gls_30 {o : Int32} (hO : S30 o) (c : Nat) : S30 (gls o c) := hO.and' _
def alP (o : Int32) (c w : Nat) : Prop := ∃ d, d < 30 ∧ sid c w = nI d ∧ hb o d = true
noncomputable def alF (o : Int32) (F : Nat → Int32) (c : Nat) : Nat → Int32
  | 0 => F c
  | w + 1 => @ite _ (alP o c w) (Classical.propDecidable _) (alF o F c w &&& F (nN (sid c w))) (alF o F c w)
theorem alF_t {o : Int32} {F : Nat → Int32} {c w : Nat} (h : alP o c w) : alF o F c (w + 1) = alF o F c w &&& F (nN (sid c w)) := if_pos h
theorem alF_f {o : Int32} {F : Nat → Int32} {c w : Nat} (h : ¬ alP o c w) : alF o F c (w + 1) = alF o F c w := if_neg h
theorem alF_hb {o : Int32} {F : Nat → Int32} {c : Nat} (s : Nat) : ∀ n, hb (alF o F c n) s = true ↔ hb (F c) s = true ∧ ∀ w d, w < n → d < 30 → sid c w = nI d → hb o d = true → hb (F d) s = true := by
  intro n
  induction n with
  | zero => exact ⟨fun h => ⟨h, fun w d hw => by omega⟩, fun h => h.1⟩
  | succ n ih =>
    by_cases h : alP o c n
    · rw [alF_t h, hb_and, Bool.and_eq_true, ih]
      obtain ⟨d, hd, e, ho⟩ := h
      rw [e, nN_nI (by omega)]
      constructor
      · rintro ⟨⟨h1, h2⟩, h3⟩
        refine ⟨h1, fun w d' hw hd' e' ho' => ?_⟩
        by_cases y : w = n
        · rw [y, e] at e'
          rw [← (nI_eq (by omega) (by omega)).mp e']; exact h3
        · exact h2 w d' (by omega) hd' e' ho'
      · rintro ⟨h1, h2⟩
        exact ⟨⟨h1, fun w d' hw => h2 w d' (by omega)⟩, h2 n d (by omega) hd e ho⟩
    · rw [alF_f h, ih]
      constructor
      · rintro ⟨h1, h2⟩
        refine ⟨h1, fun w d' hw hd' e' ho' => ?_⟩
        by_cases y : w = n
        · rw [y] at e'; exact absurd ⟨d', hd', e', ho'⟩ h
        · exact h2 w d' (by omega) hd' e' ho'
      · rintro ⟨h1, h2⟩
        exact ⟨h1, fun w d' hw => h2 w d' (by omega)⟩
theorem alF_gl {o : Int32} {F : Nat → Int32} {c : Nat} (hO : S30 o) (hc : c < 30) (ho : hb o c = true) (s : Nat) : hb (alF o F c 4) s = true ↔ ∀ d, hb (gls o c) d = true → hb (F d) s = true := by
  rw [alF_hb]
  constructor
  · rintro ⟨h1, h2⟩ d hd
    rcases ((gls_hb hc d).mp hd) with ⟨h3, h4 | h4⟩
    · rw [h4]; exact h1
    · obtain ⟨w, hw, h5, h6⟩ := (side_iff hc).mp h4
      exact h2 w d hw h5 h6 h3
  · intro h
    exact ⟨h c ((gls_hb hc c).mpr ⟨ho, Or.inl rfl⟩), fun w d hw hd e hod => h d ((gls_hb hc d).mpr ⟨hod, Or.inr ((side_iff hc).mpr ⟨w, hw, hd, e⟩)⟩)⟩
/-- by the CELL of whoever flees: the CELLS of SHOWER from which it is caught in t turns -/
noncomputable def WW (o : Int32) (v : Nat) : Nat → Nat → Int32
  | 0, c => bt1 c
  | t + 1, c => if hb o c = true then alF o (fun d => Rch o (WW o v t d) v) c 4 ||| bt1 c else bt1 c
section CHASE
variable {o : Int32} {v : Nat}
theorem alF_30 {F : Nat → Int32} {c : Nat} (h : S30 (F c)) : ∀ n, S30 (alF o F c n) := by
  intro n
  induction n with
  | zero => exact h
  | succ n ih =>
    by_cases z : alP o c n
    · rw [alF_t z]; exact ih.and _
    · rw [alF_f z]; exact ih
theorem WW_30 : ∀ t c, c < 30 → S30 (WW o v t c) := by
  intro t
  induction t with
  | zero => intro c hc; exact bt1_30 hc
  | succ t ih =>
    intro c hc
    rw [WW]
    by_cases z : hb o c = true
    · rw [if_pos z]; exact (alF_30 (o := o) (F := fun d => Rch o (WW o v t d) v) (c := c) (show S30 (Rch o (WW o v t c) v) from Rch_30 (ih c hc) v) 4).or (bt1_30 hc)
    · rw [if_neg z]; exact bt1_30 hc
theorem WW_s (hO : S30 o) {t c : Nat} (hc : c < 30) (ho : hb o c = true) (s : Nat) : hb (WW o v (t + 1) c) s = true ↔ s = c ∨ ∀ d, hb (gls o c) d = true → hb (Rch o (WW o v t d) v) s = true := by
  rw [WW, if_pos ho, hb_or, Bool.or_eq_true, alF_gl hO hc ho, bt1_hb hc]
  constructor
  · rintro (h | h)
    · exact Or.inr h
    · exact Or.inl h
  · rintro (h | h)
    · exact Or.inr h
    · exact Or.inl h
theorem WW_c {t c : Nat} (ho : ¬ hb o c = true) : WW o v t c = bt1 c := by
  cases t with
  | zero => rfl
  | succ t => rw [WW, if_neg ho]
theorem WW_self (t : Nat) {c : Nat} (hc : c < 30) : hb (WW o v t c) c = true := by
  cases t with
  | zero => exact (bt1_hb hc c).mpr rfl
  | succ t =>
    rw [WW]
    by_cases z : hb o c = true
    · rw [if_pos z, hb_or, (bt1_hb hc c).mpr rfl, Bool.or_true]
    · rw [if_neg z]; exact (bt1_hb hc c).mpr rfl
theorem Rch_up (hO : S30 o) {x y : Int32} (hx : S30 x) (hy : S30 y) (h : ∀ d, hb x d = true → hb y d = true) {d : Nat} (hd : hb (Rch o x v) d = true) : hb (Rch o y v) d = true := by
  obtain ⟨a, j, h1, h2, h3⟩ := (Rch_iff hO hx v d).mp hd
  exact (Rch_iff hO hy v d).mpr ⟨a, j, h1, h a h2, h3⟩
theorem WW_mono (hO : S30 o) : ∀ t c, c < 30 → ∀ s, hb (WW o v t c) s = true → hb (WW o v (t + 1) c) s = true := by
  intro t
  induction t with
  | zero =>
    intro c hc s h
    rw [(bt1_hb hc s).mp h]; exact WW_self 1 hc
  | succ t ih =>
    intro c hc s h
    by_cases ho : hb o c = true
    · rcases (WW_s hO hc ho s).mp h with e | h
      · rw [e]; exact WW_self _ hc
      · refine (WW_s hO hc ho s).mpr (Or.inr (fun d hd => ?_))
        have d30 := (gls_30 hO c).lt hd
        exact Rch_up hO (WW_30 t d d30) (WW_30 (t + 1) d d30) (ih d d30) (h d hd)
    · rw [WW_c ho] at h ⊢; exact h
theorem WW_le (hO : S30 o) {t t' c : Nat} (hc : c < 30) (h : t ≤ t') {s : Nat} (hs : hb (WW o v t c) s = true) : hb (WW o v t' c) s = true := by
  obtain ⟨k, rfl⟩ : ∃ k, t' = t + k := ⟨t' - t, by omega⟩
  induction k with
  | zero => exact hs
  | succ k ih => exact WW_mono hO (t + k) c hc s (ih (by omega))
theorem WW_open (hO : S30 o) : ∀ t c, c < 30 → hb o c = true → ∀ s, hb (WW o v t c) s = true → hb o s = true := by
  intro t
  induction t with
  | zero => intro c hc ho s h; rw [(bt1_hb hc s).mp h]; exact ho
  | succ t ih =>
    intro c hc ho s h
    rcases (WW_s hO hc ho s).mp h with e | h
    · rw [e]; exact ho
    · have := h c ((gls_hb hc c).mpr ⟨ho, Or.inl rfl⟩)
      obtain ⟨a, j, h1, h2, h3⟩ := (Rch_iff hO (WW_30 t c hc) v s).mp this
      exact Wk_open h3 (ih c hc ho a h2)
/-- SHOWER's turn, as the reference sees it: from s to where one at d is caught -/
theorem soon_iff (hO : S30 o) {t d s : Nat} (hd : d < 30) (hod : hb o d = true) (hs : s < 30) (hos : hb o s = true) : hb (Rch o (WW o v t d) v) s = true ↔ ∃ s', s' < 30 ∧ hb (Rch o (bt1 s) v) s' = true ∧ hb (WW o v t d) s' = true := by
  rw [Rch_iff hO (WW_30 t d hd)]
  constructor
  · rintro ⟨a, j, h1, h2, h3⟩
    have ha := WW_open hO t d hd hod a h2
    refine ⟨a, hO.lt ha, ?_, h2⟩
    exact (Rch1 hO hs v a).mpr ⟨j, h1, Wk_sym j a s ha h3⟩
  · rintro ⟨s', h0, h1, h2⟩
    obtain ⟨j, h3, h4⟩ := (Rch1 hO hs v s').mp h1
    exact ⟨s', j, h3, h2, Wk_sym j s s' hos h4⟩
def stab (o : Int32) (v t : Nat) : Prop := ∀ c, c < 30 → WW o v (t + 1) c = WW o v t c
theorem stab_s (hO : S30 o) {t : Nat} (h : stab o v t) : stab o v (t + 1) := by
  intro c hc
  by_cases ho : hb o c = true
  · refine (WW_30 _ c hc).ext (WW_30 _ c hc) (fun s _ => ?_)
    have e : hb (WW o v (t + 1 + 1) c) s = true ↔ hb (WW o v (t + 1) c) s = true := by
      rw [WW_s hO hc ho, WW_s hO hc ho]
      constructor
      · rintro (z | z)
        · exact Or.inl z
        · exact Or.inr (fun d hd => by rw [← h d ((gls_30 hO c).lt hd)]; exact z d hd)
      · rintro (z | z)
        · exact Or.inl z
        · exact Or.inr (fun d hd => by rw [h d ((gls_30 hO c).lt hd)]; exact z d hd)
    cases e1 : hb (WW o v (t + 1) c) s
    · exact bF (fun z => bN e1 (e.mp z))
    · exact e.mpr e1
  · rw [WW_c ho, WW_c ho]
theorem stab_all (hO : S30 o) {t : Nat} (h : stab o v t) : ∀ k c, c < 30 → WW o v (t + k) c = WW o v t c := by
  have hs : ∀ k, stab o v (t + k) := by
    intro k
    induction k with
    | zero => exact h
    | succ k ih => exact stab_s hO ih
  intro k
  induction k with
  | zero => intro c _; rfl
  | succ k ih => intro c hc; rw [show t + (k + 1) = t + k + 1 by omega, hs k c hc, ih c hc]
/-! it comes to an end -/
noncomputable def tot (o : Int32) (v t : Nat) : Nat → Nat
  | 0 => 0
  | c + 1 => tot o v t c + cnt (WW o v t c) 30
theorem tot_le (t : Nat) : ∀ n, tot o v t n ≤ 30 * n := by
  intro n
  induction n with
  | zero => exact Nat.le_refl 0
  | succ n ih => rw [tot]; have := cnt_le (WW o v t n) 30; omega
theorem tot_mono (hO : S30 o) (t : Nat) : ∀ n, n ≤ 30 → tot o v t n ≤ tot o v (t + 1) n := by
  intro n
  induction n with
  | zero => intro _; exact Nat.le_refl 0
  | succ n ih =>
    intro hn
    rw [tot, tot]
    have h1 := ih (by omega)
    have h2 := cnt_mono (WW_mono hO (v := v) t n (by omega)) 30
    omega
theorem tot_lt (hO : S30 o) (t : Nat) {c : Nat} (hc : c < 30) (h : ¬ WW o v (t + 1) c = WW o v t c) : ∀ n, n ≤ 30 → c < n → tot o v t n < tot o v (t + 1) n := by
  intro n
  induction n with
  | zero => intro _ h; omega
  | succ n ih =>
    intro hn hcn
    rw [tot, tot]
    by_cases e : c = n
    · have h1 := tot_mono hO (v := v) t n (by omega)
      have : ∃ d, hb (WW o v (t + 1) c) d = true ∧ hb (WW o v t c) d = false := by
        apply Classical.byContradiction
        intro hno
        apply h
        refine (WW_30 _ c hc).ext (WW_30 _ c hc) (fun d _ => ?_)
        cases e1 : hb (WW o v t c) d
        · exact bF (fun z => hno ⟨d, z, e1⟩)
        · exact WW_mono hO t c hc d e1
      obtain ⟨d, d1, d2⟩ := this
      have h2 := cnt_lt (WW_mono hO (v := v) t c hc) d1 d2 30 ((WW_30 _ c hc).lt d1)
      rw [e] at h2
      omega
    · have h1 := ih (by omega) (by omega)
      have h2 := cnt_mono (WW_mono hO (v := v) t n (by omega)) 30
      omega
theorem stab_ex (hO : S30 o) : ∃ E, E < 900 ∧ stab o v E ∧ ∀ t, t < E → ¬ stab o v t := by
  have h0 : 1 ≤ tot o v 0 30 := by
    have : ∀ n, 1 ≤ n → 1 ≤ tot o v 0 n := by
      intro n
      induction n with
      | zero => intro h; omega
      | succ n ih =>
        intro _
        rw [tot]
        cases n with
        | zero =>
          have : 1 ≤ cnt (WW o v 0 0) 30 := by
            have := cnt_step (WW o v 0 0) (c := 0) (c' := 30) (by decide) (WW_self 0 (by decide))
            omega
          omega
        | succ n => have := ih (by omega); omega
    exact this 30 (by decide)
  have hex : ∃ E, E < 900 ∧ stab o v E := by
    apply Classical.byContradiction
    intro hno
    have : ∀ t, t ≤ 900 → t + 1 ≤ tot o v t 30 := by
      intro t
      induction t with
      | zero => intro _; exact h0
      | succ t ih =>
        intro ht
        have ih := ih (by omega)
        have : ¬ stab o v t := fun h => hno ⟨t, by omega, h⟩
        have : ∃ c, c < 30 ∧ ¬ WW o v (t + 1) c = WW o v t c := by
          apply Classical.byContradiction
          intro h2
          apply this
          intro c hc
          apply Classical.byContradiction
          intro h3
          exact h2 ⟨c, hc, h3⟩
        obtain ⟨c, hc, hne⟩ := this
        have := tot_lt hO t hc hne 30 (Nat.le_refl _) hc
        omega
    have h1 := this 900 (Nat.le_refl _)
    have h2 := tot_le (o := o) (v := v) 900 30
    omega
  exact nx_least (stab o v) 900 hex
end CHASE
