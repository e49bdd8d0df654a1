/-! TOURS: the orders in their order -/
def tlv (N : Nat) (R : (Nat → Nat) → Nat → Nat → Bool) : Nat → Nat → (Nat → Nat) → List (Nat → Nat)
  | 0, _, f => [f]
  | d + 1, e, f => cat (fun p => if ct f p e = 0 ∧ R f e p = true then tlv N R d (e + 1) (fu f e p) else []) N 0
def tbr (N : Nat) (R : (Nat → Nat) → Nat → Nat → Bool) (d e : Nat) (f : Nat → Nat) (p : Nat) : List (Nat → Nat) := if ct f p e = 0 ∧ R f e p = true then tlv N R d (e + 1) (fu f e p) else []
theorem tlv_s (N : Nat) (R : (Nat → Nat) → Nat → Nat → Bool) (d e : Nat) (f : Nat → Nat) : tlv N R (d + 1) e f = cat (tbr N R d e f) N 0 := rfl
/-- the next order, as the reference finds it -/
def nxi (f : Nat → Nat) : Nat → Option Nat
  | 0 => none
  | i + 1 => if f i ≤ f (i + 1) then some i else nxi f i
def nxk (f : Nat → Nat) (i : Nat) : Nat → Nat
  | 0 => 0
  | k + 1 => if f i ≤ f (k + 1) then k + 1 else nxk f i k
def sw (f : Nat → Nat) (i k : Nat) : Nat → Nat := fun j => if j = k then f i else if j = i then f k else f j
def rvF (f : Nat → Nat) : Nat → Nat → Nat → Nat → Nat
  | 0, _, _ => f
  | c + 1, p, q => if q ≤ p then f else rvF (sw f p q) c (p + 1) (q - 1)
def nxF (N : Nat) (f : Nat → Nat) : Option (Nat → Nat) := match nxi f (N - 1) with
  | none => none
  | some i => some (rvF (sw f i (nxk f i (N - 1))) 5 (i + 1) (N - 1))
def chF (N : Nat) : List (Nat → Nat) → Bool
  | [] => true
  | [g] => (nxF N g).isNone
  | g :: h :: t => (match nxF N g with
    | none => false
    | some k => decide ((List.range N).map k = (List.range N).map h)) && chF N (h :: t)
def allT (f : Nat → Nat) (e p : Nat) : Bool := true
def tALL (N : Nat) : List (Nat → Nat) := tlv N allT N 0 (fun _ => 0)
theorem ch_all : ∀ N, N < 6 → chF N (tALL N) = true := by decide +kernel
theorem ch_head : ∀ N, N < 6 → ((tALL N).head?.map (fun g => (List.range N).map g)) = some (List.range N) := by decide +kernel
theorem ch_has : ∀ N, N < 6 → ((tALL N).all (fun g => (List.range N).all (fun p => ((List.range N).map g).contains p && decide (g p < N)))) = true := by decide +kernel
theorem tlv_sub (N : Nat) (R : (Nat → Nat) → Nat → Nat → Bool) : ∀ d e f g, g ∈ tlv N R d e f → g ∈ tlv N allT d e f := by
  intro d
  induction d with
  | zero => intro e f g h; exact h
  | succ d ih =>
    have key : ∀ e f g c p, g ∈ cat (tbr N R d e f) c p → g ∈ cat (tbr N allT d e f) c p := by
      intro e f g c
      induction c with
      | zero => intro p h; exact h
      | succ c ihc =>
        intro p h
        rw [cat, List.mem_append] at h ⊢
        rcases h with h | h
        · left
          unfold tbr at h ⊢
          by_cases z : ct f p e = 0 ∧ R f e p = true
          · rw [if_pos z] at h
            rw [if_pos ⟨z.1, rfl⟩]; exact ih _ _ _ h
          · rw [if_neg z] at h; exact absurd h (by simp)
        · right; exact ihc (p + 1) h
    intro e f g h
    rw [tlv_s] at h ⊢
    exact key e f g N 0 h
theorem tlv_all (N : Nat) (R : (Nat → Nat) → Nat → Nat → Bool) (hR : ∀ f e p, (∀ j, j < e → f j < N) → p < N → R f e p = true) : ∀ d e f, (∀ j, j < e → f j < N) → tlv N R d e f = tlv N allT d e f := by
  intro d
  induction d with
  | zero => intro e f _; rfl
  | succ d ih =>
    intro e f hf
    rw [tlv_s, tlv_s]
    refine cat_cg N 0 (fun q _ hq => ?_)
    unfold tbr
    have hq : q < N := by omega
    by_cases z : ct f q e = 0
    · rw [if_pos ⟨z, hR f e q hf hq⟩, if_pos ⟨z, rfl⟩]
      refine ih (e + 1) (fu f e q) (fun j hj => ?_)
      by_cases y : j = e
      · rw [y, fu_s]; exact hq
      · rw [fu_o y]; exact hf j (by omega)
    · rw [if_neg (fun h => z h.1), if_neg (fun h => z h.1)]
/-! how far in all -/
def tsF (dd : Nat → Nat → Nat) (N : Nat) (g : Nat → Nat) : Nat → Nat
  | 0 => 0
  | k + 1 => tsF dd N g k + dd (if k = 0 then N else g (k - 1)) (g k)
theorem tsF_cg {dd : Nat → Nat → Nat} {N : Nat} {f g : Nat → Nat} : ∀ n, (∀ j, j < n → f j = g j) → tsF dd N f n = tsF dd N g n := by
  intro n
  induction n with
  | zero => intro _; rfl
  | succ n ih =>
    intro h
    rw [tsF, tsF, ih (fun j hj => h j (by omega)), h n (by omega)]
    by_cases z : n = 0
    · rw [if_pos z, if_pos z]
    · rw [if_neg z, if_neg z, h (n - 1) (by omega)]
theorem tsF_fu {dd : Nat → Nat → Nat} {N : Nat} (f : Nat → Nat) (e p : Nat) : tsF dd N (fu f e p) (e + 1) = tsF dd N f e + dd (if e = 0 then N else f (e - 1)) p := by
  rw [tsF, fu_s, tsF_cg (g := f) e (fun j hj => fu_o (by omega))]
  by_cases z : e = 0
  · rw [if_pos z, if_pos z]
  · rw [if_neg z, if_neg z, fu_o (by omega)]
theorem tsF_le {dd : Nat → Nat → Nat} {N : Nat} (hd : ∀ i k, dd i k ≤ 30) (g : Nat → Nat) : ∀ n, tsF dd N g n ≤ 30 * n := by
  intro n
  induction n with
  | zero => exact Nat.le_refl 0
  | succ n ih => rw [tsF]; have := hd (if n = 0 then N else g (n - 1)) (g n); omega
def upT (S : (Nat → Nat) → Nat) (B : Nat × (Nat → Nat)) (f : Nat → Nat) : Nat × (Nat → Nat) := if S f < B.1 then (S f, f) else B
def foT (S : (Nat → Nat) → Nat) (B : Nat × (Nat → Nat)) (L : List (Nat → Nat)) : Nat × (Nat → Nat) := L.foldl (upT S) B
theorem foT_no {S : (Nat → Nat) → Nat} {B : Nat × (Nat → Nat)} : ∀ L : List (Nat → Nat), (∀ g, g ∈ L → B.1 ≤ S g) → foT S B L = B := by
  intro L
  induction L with
  | nil => intro _; rfl
  | cons g L ih =>
    intro h
    have e : upT S B g = B := by unfold upT; rw [if_neg (by have := h g (by simp); omega)]
    show foT S (upT S B g) L = B
    rw [e]
    exact ih (fun g' hg => h g' (by simp [hg]))
theorem foT_app (S : (Nat → Nat) → Nat) (B : Nat × (Nat → Nat)) (L M : List (Nat → Nat)) : foT S B (L ++ M) = foT S (foT S B L) M := List.foldl_append
theorem foT_le (S : (Nat → Nat) → Nat) : ∀ (L : List (Nat → Nat)) (B : Nat × (Nat → Nat)), (foT S B L).1 ≤ B.1 := by
  intro L
  induction L with
  | nil => intro B; exact Nat.le_refl _
  | cons g L ih =>
    intro B
    refine Nat.le_trans (ih (upT S B g)) ?_
    unfold upT
    by_cases z : S g < B.1
    · rw [if_pos z]; exact Nat.le_of_lt z
    · rw [if_neg z]; exact Nat.le_refl _
theorem ct_0 {f : Nat → Nat} {p : Nat} : ∀ e, ct f p e = 0 ↔ ∀ j, j < e → ¬ f j = p := by
  intro e
  induction e with
  | zero => exact ⟨fun _ j hj => by omega, fun _ => rfl⟩
  | succ e ih =>
    rw [ct]
    by_cases z : f e = p
    · rw [if_pos z]
      exact ⟨fun h => by omega, fun h => absurd z (h e (by omega))⟩
    · rw [if_neg z, Nat.add_zero, ih]
      constructor
      · intro h j hj
        by_cases y : j = e
        · rw [y]; exact z
        · exact h j (by omega)
      · intro h j hj; exact h j (by omega)
/-- each CELL yet to come takes one STEP at least -/
theorem ts_low {dd : Nat → Nat → Nat} {N : Nat} {R : (Nat → Nat) → Nat → Nat → Bool} (h1 : ∀ f e q, 1 ≤ e → (∀ j, j < e → f j < N) → q < N → R f e q = true → ¬ f (e - 1) = q → 1 ≤ dd (f (e - 1)) q) : ∀ d e f g, 1 ≤ e → (∀ j, j < e → f j < N) → g ∈ tlv N R d e f → tsF dd N f e + d ≤ tsF dd N g (e + d) := by
  intro d
  induction d with
  | zero => intro e f g _ _ hg; rw [tlv, List.mem_singleton] at hg; rw [hg]; exact Nat.le_refl _
  | succ d ih =>
    intro e f g he hf hg
    rw [tlv_s] at hg
    obtain ⟨q, -, hq, hm⟩ := cat_mem N 0 hg
    unfold tbr at hm
    by_cases z : ct f q e = 0 ∧ R f e q = true
    · rw [if_pos z] at hm
      have := ih (e + 1) (fu f e q) g (by omega) (fun j hj => by
        by_cases y : j = e
        · rw [y, fu_s]; omega
        · rw [fu_o y]; exact hf j (by omega)) hm
      rw [tsF_fu, if_neg (by omega)] at this
      have h2 := h1 f e q he hf (by omega) z.2 ((ct_0 e).mp z.1 (e - 1) (by omega))
      rw [show e + 1 + d = e + (d + 1) by omega] at this
      omega
    · rw [if_neg z] at hm; exact absurd hm (by simp)
/-! the CELLS of a set in their order -/
theorem cnt_step (A : Int32) {c c' : Nat} (h : c < c') (hc : hb A c = true) : cnt A c < cnt A c' := by
  have : ∀ m, cnt A (c + 1) ≤ cnt A (c + 1 + m) := by
    intro m
    induction m with
    | zero => exact Nat.le_refl _
    | succ m ih =>
      have e : cnt A (c + 1 + (m + 1)) = cnt A (c + 1 + m) + (if hb A (c + 1 + m) = true then 1 else 0) := rfl
      rw [e]; omega
  have h2 := this (c' - (c + 1))
  rw [show c + 1 + (c' - (c + 1)) = c' by omega, cnt, if_pos hc] at h2
  omega
theorem cnt_inj {A : Int32} {c c' : Nat} (hc : hb A c = true) (hc' : hb A c' = true) (h : cnt A c = cnt A c') : c = c' := by
  rcases Nat.lt_trichotomy c c' with z | z | z
  · have := cnt_step A z hc; omega
  · exact z
  · have := cnt_step A z hc'; omega
theorem cnt_ex {A : Int32} : ∀ n p, p < cnt A n → ∃ c, c < n ∧ hb A c = true ∧ cnt A c = p := by
  intro n
  induction n with
  | zero => intro p h; rw [cnt] at h; omega
  | succ n ih =>
    intro p h
    rw [cnt] at h
    by_cases z : hb A n = true
    · rw [if_pos z] at h
      by_cases y : p < cnt A n
      · obtain ⟨c, h1, h2, h3⟩ := ih p y
        exact ⟨c, by omega, h2, h3⟩
      · exact ⟨n, by omega, z, by omega⟩
    · rw [if_neg z] at h
      obtain ⟨c, h1, h2, h3⟩ := ih p (by omega)
      exact ⟨c, by omega, h2, h3⟩
theorem cnt_32 {A : Int32} (hA : S30 A) : cnt A 32 = cnt A 30 := by
  rw [show 32 = 30 + 1 + 1 from rfl, cnt, cnt, hA 30 (by decide), hA (30 + 1) (by decide)]; rfl
