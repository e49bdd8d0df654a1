/-! WAYS: what can be come to in k STEPS -/
/-- from a to b in k STEPS, through CELLS of o -/
def Wk (o : Int32) : Nat → Nat → Nat → Prop
  | 0, a, b => a = b
  | k + 1, a, b => ∃ c, Wk o k a c ∧ adj c b ∧ hb o b = true
theorem Wk_left {o : Int32} : ∀ (k a b : Nat), Wk o (k + 1) a b ↔ ∃ c, adj a c ∧ hb o c = true ∧ Wk o k c b := by
  intro k
  induction k with
  | zero => intro a b; constructor
            · rintro ⟨c, rfl, h1, h2⟩; exact ⟨b, h1, h2, rfl⟩
            · rintro ⟨c, h1, h2, rfl⟩; exact ⟨a, rfl, h1, h2⟩
  | succ k ih =>
    intro a b
    constructor
    · rintro ⟨c, h, h1, h2⟩
      obtain ⟨d, g1, g2, g3⟩ := (ih a c).mp h
      exact ⟨d, g1, g2, c, g3, h1, h2⟩
    · rintro ⟨d, g1, g2, c, g3, h1, h2⟩
      exact ⟨c, (ih a c).mpr ⟨d, g1, g2, g3⟩, h1, h2⟩
theorem Wk_open {o : Int32} {k a b : Nat} (h : Wk o k a b) (ha : hb o a = true) : hb o b = true := by
  cases k with
  | zero => cases h; exact ha
  | succ k => exact h.choose_spec.2.2
theorem Wk_sym {o : Int32} : ∀ (k a b : Nat), hb o a = true → Wk o k a b → Wk o k b a := by
  intro k
  induction k with
  | zero => intro a b _ h; exact h.symm
  | succ k ih =>
    intro a b ha h
    obtain ⟨c, h1, h2, h3⟩ := h
    exact (Wk_left k b a).mpr ⟨c, adj_sym h2, Wk_open h1 ha, ih a c ha h1⟩
theorem Wk_add {o : Int32} {a b : Nat} : ∀ (k : Nat) (j c : Nat), Wk o j a b → Wk o k b c → Wk o (j + k) a c := by
  intro k
  induction k with
  | zero => intro j c h1 h2; cases h2; exact h1
  | succ k ih =>
    intro j c h1 h2
    obtain ⟨d, g1, g2, g3⟩ := h2
    exact ⟨d, ih j d h1 g1, g2, g3⟩
/-- what is come to from s in k STEPS or fewer -/
def Rch (o s : Int32) : Nat → Int32
  | 0 => s
  | k + 1 => Rch o s k ||| (bes (Rch o s k) &&& o)
theorem Rch_30 {o s : Int32} (hs : S30 s) : ∀ k, S30 (Rch o s k) := by
  intro k
  induction k with
  | zero => exact hs
  | succ k ih => exact ih.or ((bes_30 _).and o)
theorem Rch_iff {o s : Int32} (hO : S30 o) (hs : S30 s) : ∀ k d, hb (Rch o s k) d = true ↔ ∃ a j, j ≤ k ∧ hb s a = true ∧ Wk o j a d := by
  intro k
  induction k with
  | zero => intro d; constructor
            · intro h; exact ⟨d, 0, Nat.le_refl 0, h, rfl⟩
            · rintro ⟨a, j, hj, h, hw⟩
              obtain rfl : j = 0 := by omega
              cases hw; exact h
  | succ k ih =>
    intro d
    rw [Rch, hb_or, hb_and, Bool.or_eq_true, Bool.and_eq_true, bes_hb (Rch_30 hs k), ih]
    constructor
    · rintro (⟨a, j, hj, h, hw⟩ | ⟨⟨h30, c, hc, ha⟩, ho⟩)
      · exact ⟨a, j, by omega, h, hw⟩
      · obtain ⟨a, j, hj, h, hw⟩ := (ih c).mp hc
        exact ⟨a, j + 1, by omega, h, c, hw, ha, ho⟩
    · rintro ⟨a, j, hj, h, hw⟩
      rcases Nat.lt_or_ge k j with q | q
      · obtain rfl : j = k + 1 := by omega
        obtain ⟨c, h1, h2, h3⟩ := hw
        exact Or.inr ⟨⟨hO.lt h3, c, (ih c).mpr ⟨a, k, Nat.le_refl k, h, h1⟩, h2⟩, h3⟩
      · exact Or.inl ⟨a, j, q, h, hw⟩
theorem Rch_mono {o s : Int32} {k j : Nat} (h : k ≤ j) {d : Nat} (hd : hb (Rch o s k) d = true) : hb (Rch o s j) d = true := by
  induction j with
  | zero => obtain rfl : k = 0 := by omega
            exact hd
  | succ j ih =>
    rcases Nat.lt_or_ge j k with q | q
    · obtain rfl : k = j + 1 := by omega
      exact hd
    · rw [Rch, hb_or, ih q]; rfl
/-- what is come to in k STEPS and not in fewer -/
def Nw (o s : Int32) : Nat → Int32
  | 0 => s
  | k + 1 => (bes (Nw o s k) &&& o) &&& (Rch o s k ^^^ -1)
theorem Nw_30 {o s : Int32} (hs : S30 s) : ∀ k, S30 (Nw o s k) := by
  intro k
  cases k with
  | zero => exact hs
  | succ k => exact ((bes_30 _).and o).and _
theorem Nw_le {o s : Int32} (hs : S30 s) : ∀ k d, hb (Nw o s k) d = true → hb (Rch o s k) d = true := by
  intro k
  induction k with
  | zero => intro d h; exact h
  | succ k ih =>
    intro d h
    rw [Nw, hb_and, hb_and, Bool.and_eq_true, Bool.and_eq_true] at h
    obtain ⟨h30, c, hc, ha⟩ := (bes_hb (Nw_30 hs k) d).mp h.1.1
    rw [Rch, hb_or, hb_and, (bes_hb (Rch_30 hs k) d).mpr ⟨h30, c, ih c hc, ha⟩, h.1.2, Bool.and_true, Bool.or_true]
theorem Nw_or {o s : Int32} (hs : S30 s) : ∀ k, Rch o s (k + 1) = Rch o s k ||| Nw o s (k + 1) := by
  have key : ∀ k d, hb (bes (Rch o s k)) d = true → hb o d = true → hb (Rch o s k) d = true ∨ hb (Nw o s (k + 1)) d = true := by
    intro k
    induction k with
    | zero =>
      intro d h1 h2
      cases e : hb (Rch o s 0) d
      · right
        have h32 : d < 32 := by have := (bes_30 _).lt h1; omega
        rw [Nw, hb_and, hb_and, hb_not _ h32, e, h2]
        rw [Rch] at h1; rw [Nw, h1]; rfl
      · left; rfl
    | succ k ih =>
      intro d h1 h2
      cases e : hb (Rch o s (k + 1)) d
      · right
        have h32 : d < 32 := by have := (bes_30 _).lt h1; omega
        obtain ⟨h30, c, hc, ha⟩ := (bes_hb (Rch_30 hs (k + 1)) d).mp h1
        have hcR : hb (Rch o s k) c = true ∨ hb (Nw o s (k + 1)) c = true := by
          rw [Rch, hb_or, Bool.or_eq_true, hb_and, Bool.and_eq_true] at hc
          rcases hc with hc | ⟨hc1, hc2⟩
          · exact Or.inl hc
          · exact ih c hc1 hc2
        rcases hcR with hc' | hc'
        · exfalso
          have : hb (Rch o s (k + 1)) d = true := by
            rw [Rch, hb_or, hb_and, (bes_hb (Rch_30 hs k) d).mpr ⟨h30, c, hc', ha⟩, h2, Bool.and_true, Bool.or_true]
          rw [this] at e; exact Bool.noConfusion e
        · rw [Nw, hb_and, hb_and, hb_not _ h32, e, h2, (bes_hb (Nw_30 hs (k + 1)) d).mpr ⟨h30, c, hc', ha⟩]; rfl
      · left; rfl
  intro k
  refine (Rch_30 hs (k + 1)).ext ((Rch_30 hs k).or (Nw_30 hs (k + 1))) (fun d hd => ?_)
  rw [hb_or]
  cases e : hb (Rch o s (k + 1)) d
  · cases e1 : hb (Rch o s k) d
    · cases e2 : hb (Nw o s (k + 1)) d
      · rfl
      · rw [Nw_le hs _ _ e2] at e; exact Bool.noConfusion e
    · rw [Rch_mono (Nat.le_succ k) e1] at e; exact Bool.noConfusion e
  · rw [Rch, hb_or, hb_and, Bool.or_eq_true, Bool.and_eq_true] at e
    rcases e with e | ⟨e1, e2⟩
    · rw [e]; rfl
    · rcases key k d e1 e2 with z | z
      · rw [z]; rfl
      · rw [z, Bool.or_true]
theorem Nw_iff {o s : Int32} (hs : S30 s) (k d : Nat) : hb (Nw o s k) d = true ↔ hb (Rch o s k) d = true ∧ ∀ j, j < k → hb (Rch o s j) d = false := by
  cases k with
  | zero => exact ⟨fun h => ⟨h, fun j hj => absurd hj (Nat.not_lt_zero j)⟩, fun h => h.1⟩
  | succ k =>
    constructor
    · intro h
      refine ⟨Nw_le hs _ _ h, fun j hj => ?_⟩
      have h32 : d < 32 := by have := (Nw_30 hs (k + 1)).lt h; omega
      rw [Nw, hb_and, hb_not _ h32, Bool.and_eq_true] at h
      cases e : hb (Rch o s j) d
      · rfl
      · rw [Rch_mono (show j ≤ k by omega) e] at h; exact absurd h.2 (by decide)
    · rintro ⟨h1, h2⟩
      rw [Nw_or hs, hb_or, h2 k (by omega)] at h1
      exact h1
theorem bes_0 : bes 0 = 0 := S30_eq0 (bes_30 0) (fun d _ => by
  cases e : hb (bes 0) d
  · rfl
  · obtain ⟨_, c, hc, _⟩ := (bes_hb S30_0 d).mp e
    rw [hb_0] at hc; exact Bool.noConfusion hc)
theorem Nw_0 {o s : Int32} {k : Nat} (h : Nw o s k = 0) : ∀ j, Nw o s (k + j) = 0 := by
  intro j
  induction j with
  | zero => exact h
  | succ j ih => rw [show k + (j + 1) = (k + j) + 1 by omega, Nw, ih, bes_0, show (0 : Int32) &&& o = 0 from Int32.zero_and, Int32.zero_and]
/-- how many -/
def cnt (x : Int32) : Nat → Nat
  | 0 => 0
  | c + 1 => cnt x c + (if hb x c = true then 1 else 0)
theorem cnt_le (x : Int32) : ∀ n, cnt x n ≤ n := by
  intro n
  induction n with
  | zero => exact Nat.le_refl 0
  | succ n ih => rw [cnt]; by_cases q : hb x n = true
                 · rw [if_pos q]; omega
                 · rw [if_neg q]; omega
theorem cnt_mono {x y : Int32} (h : ∀ c, hb x c = true → hb y c = true) : ∀ n, cnt x n ≤ cnt y n := by
  intro n
  induction n with
  | zero => exact Nat.le_refl 0
  | succ n ih =>
    rw [cnt, cnt]
    by_cases q : hb x n = true
    · rw [if_pos q, if_pos (h n q)]; omega
    · rw [if_neg q]; omega
theorem cnt_lt {x y : Int32} (h : ∀ c, hb x c = true → hb y c = true) {d : Nat} (h1 : hb y d = true) (h2 : hb x d = false) : ∀ n, d < n → cnt x n < cnt y n := by
  intro n
  induction n with
  | zero => intro hd; omega
  | succ n ih =>
    intro hd
    rw [cnt, cnt]
    by_cases e : d = n
    · subst e
      rw [if_pos h1, if_neg (by rw [h2]; decide)]
      have := cnt_mono h d
      omega
    · have := ih (by omega)
      by_cases q : hb x n = true
      · rw [if_pos q, if_pos (h n q)]; omega
      · rw [if_neg q]; omega
theorem Nw_cnt {o s : Int32} (hs : S30 s) : ∀ k, ¬ Nw o s k = 0 → k + 1 ≤ cnt (Rch o s k) 30 := by
  intro k
  induction k with
  | zero =>
    intro h
    obtain ⟨c, hc, e⟩ := S30_ne hs h
    have := cnt_lt (x := 0) (y := s) (fun c h => by rw [hb_0] at h; exact Bool.noConfusion h) e (hb_0 c) 30 hc
    rw [Rch]; omega
  | succ k ih =>
    intro h
    have := ih (fun q => h (Nw_0 q 1))
    obtain ⟨c, hc, e⟩ := S30_ne (Nw_30 hs (k + 1)) h
    have e' := (Nw_iff hs (k + 1) c).mp e
    have := cnt_lt (x := Rch o s k) (y := Rch o s (k + 1)) (fun c h => Rch_mono (Nat.le_succ k) h) e'.1 (e'.2 k (by omega)) 30 hc
    omega
theorem Nw_30k {o s : Int32} (hs : S30 s) {k : Nat} (h : 30 ≤ k) : Nw o s k = 0 := by
  apply Classical.byContradiction
  intro q
  have h1 := Nw_cnt hs k q
  have h2 := cnt_le (Rch o s k) 30
  omega
theorem Rch_top {o s : Int32} (hs : S30 s) {k : Nat} (h : 29 ≤ k) : Rch o s k = Rch o s 29 := by
  obtain ⟨j, rfl⟩ : ∃ j, k = 29 + j := ⟨k - 29, by omega⟩
  induction j with
  | zero => rfl
  | succ j ih => rw [show 29 + (j + 1) = (29 + j) + 1 by omega, Nw_or hs, Nw_30k hs (by omega), Int32.or_zero]; exact ih (by omega)
/-- the first k from which on b is come to -/
def fsK (o s : Int32) (b : Nat) : Nat → Nat → Int32
  | 0, _ => -1
  | f + 1, k => if hb (Rch o s k) b = true then nI k else fsK o s b f (k + 1)
theorem fsK_is (o s : Int32) (b : Nat) : ∀ f k, (∃ j, k ≤ j ∧ j < k + f ∧ fsK o s b f k = nI j ∧ hb (Rch o s j) b = true ∧ ∀ i, k ≤ i → i < j → hb (Rch o s i) b = false) ∨ (fsK o s b f k = -1 ∧ ∀ i, k ≤ i → i < k + f → hb (Rch o s i) b = false) := by
  intro f
  induction f with
  | zero => intro k; exact Or.inr ⟨rfl, fun i h1 h2 => by omega⟩
  | succ f ih =>
    intro k
    rw [fsK]
    by_cases q : hb (Rch o s k) b = true
    · rw [if_pos q]; exact Or.inl ⟨k, by omega, by omega, rfl, q, fun i h1 h2 => by omega⟩
    · rw [if_neg q]
      have q' : hb (Rch o s k) b = false := by cases e : hb (Rch o s k) b
                                               · rfl
                                               · exact absurd e q
      rcases ih (k + 1) with ⟨j, h1, h2, h3, h4, h5⟩ | ⟨h1, h2⟩
      · refine Or.inl ⟨j, by omega, by omega, h3, h4, fun i g1 g2 => ?_⟩
        by_cases e : i = k
        · rw [e]; exact q'
        · exact h5 i (by omega) g2
      · refine Or.inr ⟨h1, fun i g1 g2 => ?_⟩
        by_cases e : i = k
        · rw [e]; exact q'
        · exact h2 i (by omega) (by omega)
def bt1 (a : Nat) : Int32 := 1 <<< (nI a &&& 31)
/-- the STEPS from a to b through o; -1: no WAY -/
def dst (o : Int32) (a b : Nat) : Int32 := if hb o a = true then fsK o (bt1 a) b 30 0 else -1
theorem bt1_hb {a : Nat} (ha : a < 30) (c : Nat) : hb (bt1 a) c = true ↔ c = a := by
  unfold bt1
  rcases Nat.lt_or_ge c 32 with q | q
  · rw [bit1 a (by omega) q, decide_eq_true_iff]
  · rw [hb_big q]; exact ⟨fun h => Bool.noConfusion h, fun h => by omega⟩
theorem bt1_30 {a : Nat} (ha : a < 30) : S30 (bt1 a) := S30_bit ha
theorem Rch1 {o : Int32} (hO : S30 o) {a : Nat} (ha : a < 30) (k d : Nat) : hb (Rch o (bt1 a) k) d = true ↔ ∃ j, j ≤ k ∧ Wk o j a d := by
  rw [Rch_iff hO (bt1_30 ha)]
  constructor
  · rintro ⟨a', j, hj, h, hw⟩
    rw [(bt1_hb ha a').mp h] at hw; exact ⟨j, hj, hw⟩
  · rintro ⟨j, hj, hw⟩
    exact ⟨a, j, hj, (bt1_hb ha a).mpr rfl, hw⟩
/-- what dst says -/
theorem dst_is {o : Int32} (hO : S30 o) {a : Nat} (ha : a < 30) (hoa : hb o a = true) (b : Nat) : (∃ k, k < 30 ∧ dst o a b = nI k ∧ Wk o k a b ∧ ∀ j, j < k → ¬ Wk o j a b) ∨ (dst o a b = -1 ∧ ∀ j, ¬ Wk o j a b) := by
  unfold dst
  rw [if_pos hoa]
  rcases fsK_is o (bt1 a) b 30 0 with ⟨j, _, h2, h3, h4, h5⟩ | ⟨h1, h2⟩
  · left
    have hn : ∀ i, i < j → ¬ Wk o i a b := fun i hi hw => by
      have := h5 i (Nat.zero_le i) hi
      rw [(Rch1 hO ha i b).mpr ⟨i, Nat.le_refl i, hw⟩] at this; exact Bool.noConfusion this
    obtain ⟨i, hi, hw⟩ := (Rch1 hO ha j b).mp h4
    have : i = j := by
      rcases Nat.lt_or_ge i j with q | q
      · exact absurd hw (hn i q)
      · omega
    subst this
    exact ⟨i, by omega, h3, hw, hn⟩
  · right
    refine ⟨h1, fun j hw => ?_⟩
    have hj := (Rch1 hO ha j b).mpr ⟨j, Nat.le_refl j, hw⟩
    rcases Nat.lt_or_ge j 29 with q | q
    · rw [h2 j (Nat.zero_le j) (by omega)] at hj; exact Bool.noConfusion hj
    · rw [Rch_top (bt1_30 ha) q, h2 29 (by decide) (by decide)] at hj; exact Bool.noConfusion hj
theorem dst_sym {o : Int32} (hO : S30 o) {a b : Nat} (ha : a < 30) (hb' : b < 30) (hoa : hb o a = true) (hob : hb o b = true) : dst o a b = dst o b a := by
  rcases dst_is hO ha hoa b with ⟨k, hk, e1, w1, n1⟩ | ⟨e1, n1⟩ <;> rcases dst_is hO hb' hob a with ⟨j, hj, e2, w2, n2⟩ | ⟨e2, n2⟩
  · have : k = j := by
      rcases Nat.lt_trichotomy k j with q | q | q
      · exact absurd (Wk_sym k a b hoa w1) (n2 k q)
      · exact q
      · exact absurd (Wk_sym j b a hob w2) (n1 j q)
    rw [e1, e2, this]
  · exact absurd (Wk_sym k a b hoa w1) (n2 k)
  · exact absurd (Wk_sym j b a hob w2) (n1 j)
  · rw [e1, e2]
theorem dst_shut {o : Int32} (hO : S30 o) {a b : Nat} (ha : a < 30) (h : hb o b = false) : dst o a b = -1 := by
  by_cases hoa : hb o a = true
  · rcases dst_is hO ha hoa b with ⟨k, hk, e1, w1, n1⟩ | ⟨e1, n1⟩
    · rw [Wk_open w1 hoa] at h; exact Bool.noConfusion h
    · exact e1
  · unfold dst; rw [if_neg hoa]
theorem dst_cases (o : Int32) (a b : Nat) : dst o a b = -1 ∨ ∃ k, k < 30 ∧ dst o a b = nI k := by
  unfold dst
  by_cases h : hb o a = true
  · rw [if_pos h]
    rcases fsK_is o (bt1 a) b 30 0 with ⟨j, _, h2, h3, h4, h5⟩ | ⟨h1, h2⟩
    · exact Or.inr ⟨j, by omega, h3⟩
    · exact Or.inl h1
  · rw [if_neg h]; exact Or.inl rfl
