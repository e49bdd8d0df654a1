/-! ROSTERS: in their order, and the first of least COST -/
def fu (f : Nat → Nat) (d p : Nat) : Nat → Nat := fun j => if j = d then p else f j
theorem fu_s (f : Nat → Nat) (d p : Nat) : fu f d p d = p := if_pos rfl
theorem fu_o {f : Nat → Nat} {d p j : Nat} (h : j ≠ d) : fu f d p j = f j := if_neg h
theorem fu_fu (f : Nat → Nat) (d p q : Nat) : fu (fu f d p) d q = fu f d q := by
  funext j
  by_cases e : j = d
  · rw [e, fu_s, fu_s]
  · rw [fu_o e, fu_o e, fu_o e]
def ct (f : Nat → Nat) (p : Nat) : Nat → Nat
  | 0 => 0
  | j + 1 => ct f p j + (if f j = p then 1 else 0)
theorem ct_cg {f g : Nat → Nat} {p : Nat} : ∀ n, (∀ j, j < n → f j = g j) → ct f p n = ct g p n := by
  intro n
  induction n with
  | zero => intro _; rfl
  | succ n ih => intro h; rw [ct, ct, ih (fun j hj => h j (by omega)), h n (by omega)]
theorem ct_le (f : Nat → Nat) (p : Nat) : ∀ n, ct f p n ≤ n := by
  intro n
  induction n with
  | zero => exact Nat.le_refl 0
  | succ n ih => rw [ct]; split <;> omega
def okR (k : Nat) (f : Nat → Nat) (day p : Nat) : Bool := decide (ct f p day < k) && (decide (day = 0) || !decide (f (day - 1) = p))
theorem okR_iff {k : Nat} {f : Nat → Nat} {day p : Nat} : okR k f day p = true ↔ ct f p day < k ∧ (day = 0 ∨ ¬ f (day - 1) = p) := by
  unfold okR
  rw [Bool.and_eq_true, Bool.or_eq_true, decide_eq_true_eq, decide_eq_true_eq, Bool.not_eq_true', decide_eq_false_iff_not]
theorem okR_cg {k : Nat} {f g : Nat → Nat} {day p : Nat} (h : ∀ j, j < day → f j = g j) : okR k f day p = okR k g day p := by
  unfold okR
  rw [ct_cg day h]
  by_cases e : day = 0
  · rw [decide_eq_true e]; rfl
  · rw [h (day - 1) (by omega)]
def cat (g : Nat → List (Nat → Nat)) : Nat → Nat → List (Nat → Nat)
  | 0, _ => []
  | c + 1, p => g p ++ cat g c (p + 1)
theorem cat_cg {g h : Nat → List (Nat → Nat)} : ∀ c p, (∀ q, p ≤ q → q < p + c → g q = h q) → cat g c p = cat h c p := by
  intro c
  induction c with
  | zero => intro p _; rfl
  | succ c ih => intro p H; rw [cat, cat, H p (by omega) (by omega), ih (p + 1) (fun q h1 h2 => H q (by omega) (by omega))]
theorem cat_mem {g : Nat → List (Nat → Nat)} {x : Nat → Nat} : ∀ c p, x ∈ cat g c p → ∃ q, p ≤ q ∧ q < p + c ∧ x ∈ g q := by
  intro c
  induction c with
  | zero => intro p h; rw [cat] at h; exact absurd h (by simp)
  | succ c ih =>
    intro p h
    rw [cat, List.mem_append] at h
    rcases h with h | h
    · exact ⟨p, by omega, by omega, h⟩
    · obtain ⟨q, h1, h2, h3⟩ := ih (p + 1) h
      exact ⟨q, by omega, by omega, h3⟩
def rlv (n k : Nat) : Nat → (Nat → Nat) → List (Nat → Nat)
  | 0, f => [f]
  | d + 1, f => cat (fun p => if okR k f (6 - d) p = true then rlv n k d (fu f (6 - d) p) else []) n 0
def rbr (n k d : Nat) (f : Nat → Nat) (p : Nat) : List (Nat → Nat) := if okR k f (6 - d) p = true then rlv n k d (fu f (6 - d) p) else []
theorem rlv_s (n k d : Nat) (f : Nat → Nat) : rlv n k (d + 1) f = cat (rbr n k d f) n 0 := rfl
theorem rlv_cg (n k : Nat) : ∀ d, d ≤ 7 → ∀ f g : Nat → Nat, (∀ j, j < 7 - d ∨ 7 ≤ j → f j = g j) → rlv n k d f = rlv n k d g := by
  intro d
  induction d with
  | zero =>
    intro _ f g h
    rw [rlv, rlv]
    congr 1
    funext j
    exact h j (by omega)
  | succ d ih =>
    intro hd f g h
    rw [rlv_s, rlv_s]
    refine cat_cg n 0 (fun q _ _ => ?_)
    unfold rbr
    rw [okR_cg (g := g) (fun j hj => h j (by omega))]
    by_cases e : okR k g (6 - d) q = true
    · rw [if_pos e, if_pos e]
      refine ih (by omega) _ _ (fun j hj => ?_)
      by_cases z : j = 6 - d
      · rw [z, fu_s, fu_s]
      · rw [fu_o z, fu_o z]; exact h j (by omega)
    · rw [if_neg e, if_neg e]
theorem rbr_cg (n k : Nat) {d : Nat} (hd : d ≤ 6) {f g : Nat → Nat} (h : ∀ j, j < 6 - d ∨ 7 ≤ j → f j = g j) (q : Nat) : rbr n k d f q = rbr n k d g q := by
  unfold rbr
  rw [okR_cg (g := g) (fun j hj => h j (by omega))]
  by_cases e : okR k g (6 - d) q = true
  · rw [if_pos e, if_pos e]
    refine rlv_cg n k d (by omega) _ _ (fun j hj => ?_)
    by_cases z : j = 6 - d
    · rw [z, fu_s, fu_s]
    · rw [fu_o z, fu_o z]; exact h j (by omega)
  · rw [if_neg e, if_neg e]
/-- what is left: at day e from p on, and behind that -/
def rrm (n k : Nat) : Nat → (Nat → Nat) → Nat → List (Nat → Nat)
  | 0, _, _ => []
  | e + 1, f, p => cat (rbr n k (6 - e) f) (n - p) p ++ rrm n k e f (f (e - 1) + 1)
theorem rrm_cg (n k : Nat) : ∀ e, e ≤ 7 → ∀ f g : Nat → Nat, (∀ j, j < e - 1 ∨ 7 ≤ j → f j = g j) → ∀ p, rrm n k e f p = rrm n k e g p := by
  intro e
  induction e with
  | zero => intro _ f g _ p; rfl
  | succ e ih =>
    intro he f g h p
    rw [rrm, rrm, cat_cg (g := rbr n k (6 - e) f) (h := rbr n k (6 - e) g) _ _ (fun q _ _ => rbr_cg n k (by omega) (fun j hj => h j (by omega)) q)]
    congr 1
    cases e with
    | zero => rfl
    | succ e =>
      rw [show f (e + 1 - 1) = g (e + 1 - 1) from h _ (by omega)]
      exact ih (by omega) f g (fun j hj => h j (by omega)) _
theorem r_rest (n k : Nat) : ∀ d e, e + d = 6 → ∀ m f p g tl, p + m = n → cat (rbr n k d f) m p = g :: tl → (∀ j, j < e ∨ 7 ≤ j → g j = f j) ∧ rrm n k 7 g (g 6 + 1) = tl ++ rrm n k e f (f (e - 1) + 1) := by
  intro d
  induction d with
  | zero =>
    intro e he m
    obtain rfl : e = 6 := by omega
    induction m with
    | zero => intro f p g tl _ h; rw [cat] at h; exact absurd h (by simp)
    | succ m ih =>
      intro f p g tl hp h
      rw [cat] at h
      by_cases ok : okR k f 6 p = true
      · have e1 : rbr n k 0 f p = [fu f 6 p] := by unfold rbr; rw [if_pos ok]; rfl
        rw [e1, List.cons_append, List.nil_append] at h
        obtain ⟨h1, h2⟩ := List.cons.inj h
        subst h1
        refine ⟨fun j hj => fu_o (by omega), ?_⟩
        rw [rrm, fu_s, show n - (p + 1) = m by omega, ← h2, cat_cg (g := rbr n k (6 - 6) (fu f 6 p)) (h := rbr n k 0 f) m (p + 1) (fun q _ _ => rbr_cg n k (by omega) (fun j hj => fu_o (by omega)) q), fu_o (show 6 - 1 ≠ 6 by decide), rrm_cg n k 6 (by decide) (fu f 6 p) f (fun j hj => fu_o (by omega))]
      · have e1 : rbr n k 0 f p = [] := by unfold rbr; rw [if_neg ok]
        rw [e1, List.nil_append] at h
        exact ih f (p + 1) g tl (by omega) h
  | succ d ihd =>
    intro e he m
    induction m with
    | zero => intro f p g tl _ h; rw [cat] at h; exact absurd h (by simp)
    | succ m ih =>
      intro f p g tl hp h
      rw [cat] at h
      have ed : 6 - (d + 1) = e := by omega
      by_cases ok : okR k f e p = true
      · have e1 : rbr n k (d + 1) f p = cat (rbr n k d (fu f e p)) n 0 := by unfold rbr; rw [ed, if_pos ok]; rfl
        rw [e1] at h
        cases hc : cat (rbr n k d (fu f e p)) n 0 with
        | nil =>
          rw [hc, List.nil_append] at h
          exact ih f (p + 1) g tl (by omega) h
        | cons g1 tl1 =>
          rw [hc, List.cons_append] at h
          obtain ⟨h1, h2⟩ := List.cons.inj h
          subst h1
          obtain ⟨i1, i2⟩ := ihd (e + 1) (by omega) n (fu f e p) 0 g1 tl1 (Nat.zero_add n) hc
          refine ⟨fun j hj => by rw [i1 j (by omega), fu_o (by omega)], ?_⟩
          rw [i2, ← h2, List.append_assoc]
          congr 1
          rw [Nat.add_sub_cancel, fu_s, rrm, show n - (p + 1) = m by omega, show 6 - e = d + 1 by omega]
          congr 1
          · exact cat_cg m (p + 1) (fun q _ _ => rbr_cg n k (by omega) (fun j hj => fu_o (by omega)) q)
          · cases e with
            | zero => rfl
            | succ e =>
              rw [fu_o (show e + 1 - 1 ≠ e + 1 by omega)]
              exact rrm_cg n k (e + 1) (by omega) _ _ (fun j hj => fu_o (by omega)) _
      · have e1 : rbr n k (d + 1) f p = [] := by unfold rbr; rw [ed, if_neg ok]
        rw [e1, List.nil_append] at h
        exact ih f (p + 1) g tl (by omega) h
/-! COST -/
def smC (c : Nat → Nat → Nat) (f : Nat → Nat) : Nat → Nat
  | 0 => 0
  | j + 1 => smC c f j + c (f j) j
theorem smC_cg {c : Nat → Nat → Nat} {f g : Nat → Nat} : ∀ n, (∀ j, j < n → f j = g j) → smC c f n = smC c g n := by
  intro n
  induction n with
  | zero => intro _; rfl
  | succ n ih => intro h; rw [smC, smC, ih (fun j hj => h j (by omega)), h n (by omega)]
theorem smC_le {c : Nat → Nat → Nat} (hc : ∀ p d, c p d ≤ 99) (f : Nat → Nat) : ∀ n, smC c f n ≤ 99 * n := by
  intro n
  induction n with
  | zero => exact Nat.le_refl 0
  | succ n ih => rw [smC]; have := hc (f n) n; omega
def upB (c : Nat → Nat → Nat) (B : Nat × (Nat → Nat)) (f : Nat → Nat) : Nat × (Nat → Nat) := if smC c f 7 < B.1 then (smC c f 7, f) else B
def foB (c : Nat → Nat → Nat) (B : Nat × (Nat → Nat)) (L : List (Nat → Nat)) : Nat × (Nat → Nat) := L.foldl (upB c) B
theorem foB_no {c : Nat → Nat → Nat} {B : Nat × (Nat → Nat)} : ∀ L : List (Nat → Nat), (∀ g, g ∈ L → B.1 ≤ smC c g 7) → foB c B L = B := by
  intro L
  induction L with
  | nil => intro _; rfl
  | cons g L ih =>
    intro h
    have e : upB c B g = B := by unfold upB; rw [if_neg (by have := h g (by simp); omega)]
    show foB c (upB c B g) L = B
    rw [e]
    exact ih (fun g' hg => h g' (by simp [hg]))
theorem foB_app (c : Nat → Nat → Nat) (B : Nat × (Nat → Nat)) (L M : List (Nat → Nat)) : foB c B (L ++ M) = foB c (foB c B L) M := List.foldl_append
def rbm (g : Nat → Nat) (p : Nat) : Nat → Nat
  | 0 => 1000000
  | q + 1 => if q = p then rbm g p q else min (rbm g p q) (g q)
def rb (c : Nat → Nat → Nat) (n : Nat) : Nat → Nat → Nat
  | 0, _ => 0
  | d + 1, p => rbm (fun q => c q (6 - d) + rb c n d q) p n
theorem rbm_le (g : Nat → Nat) (p : Nat) : ∀ m, rbm g p m ≤ 1000000 ∧ ∀ q, q < m → q ≠ p → rbm g p m ≤ g q := by
  intro m
  induction m with
  | zero => exact ⟨Nat.le_refl _, fun q hq => by omega⟩
  | succ m ih =>
    rw [rbm]
    by_cases e : m = p
    · rw [if_pos e]
      exact ⟨ih.1, fun q hq hne => ih.2 q (by omega) hne⟩
    · rw [if_neg e]
      refine ⟨by have := ih.1; omega, fun q hq hne => ?_⟩
      by_cases z : q = m
      · rw [z]; omega
      · have := ih.2 q (by omega) hne; omega
theorem rb_le (c : Nat → Nat → Nat) (n d p : Nat) : rb c n d p ≤ 1000000 := by
  cases d with
  | zero => exact Nat.zero_le _
  | succ d => exact (rbm_le _ p n).1
theorem rb_low {c : Nat → Nat → Nat} {n k : Nat} : ∀ d e, e + d = 7 → 1 ≤ e → ∀ f g, g ∈ rlv n k d f → smC c f e + rb c n d (f (e - 1)) ≤ smC c g 7 := by
  intro d
  induction d with
  | zero =>
    intro e he h1 f g hg
    obtain rfl : e = 7 := by omega
    rw [rlv, List.mem_singleton] at hg
    rw [hg]; exact Nat.le_refl _
  | succ d ih =>
    intro e he h1 f g hg
    rw [rlv_s] at hg
    obtain ⟨q, -, hq, hm⟩ := cat_mem n 0 hg
    have ed : 6 - d = e := by omega
    unfold rbr at hm
    by_cases ok : okR k f (6 - d) q = true
    · rw [if_pos ok] at hm
      rw [ed] at ok hm
      have h2 := ih (e + 1) (by omega) (by omega) _ g hm
      rw [Nat.add_sub_cancel, fu_s, smC, fu_s, smC_cg (g := f) e (fun j hj => fu_o (by omega))] at h2
      have h3 := ((okR_iff.mp ok).2.resolve_left (by omega))
      have h4 := (rbm_le (fun q => c q (6 - d) + rb c n d q) (f (e - 1)) n).2 q (by omega) (fun z => h3 z.symm)
      rw [ed] at h4
      show smC c f e + rbm (fun q => c q (6 - d) + rb c n d q) (f (e - 1)) n ≤ smC c g 7
      rw [ed]
      have h4 : rbm (fun q => c q e + rb c n d q) (f (e - 1)) n ≤ c q e + rb c n d q := h4
      omega
    · rw [if_neg ok] at hm; exact absurd hm (by simp)
