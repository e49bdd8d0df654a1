/-! the reference's summedUp does what its code is worth -/
def Bd (x : Int) : Prop := -1000000 ≤ x ∧ x ≤ 1000000
def VAt (g : Nat → Int64) : List Int → Prop
  | [] => True
  | x :: V => (g V.length).toInt = x ∧ Bd x ∧ VAt g V
def TAt (f : Nat → Int32) : List Bool → Prop
  | [] => True
  | t :: T => f T.length = nI (if t = true then 1 else 0) ∧ TAt f T
def upL (g : Nat → Int64) (k : Nat) (v : Int64) : Nat → Int64 := fun b => if b = k then v else g b
theorem upL_eq (g : Nat → Int64) (k : Nat) (v : Int64) : upL g k v k = v := if_pos rfl
theorem upL_ne {g : Nat → Int64} {k : Nat} {v : Int64} {j : Nat} (h : j ≠ k) : upL g k v j = g j := if_neg h
theorem pL_s {u : PoS} {j k : Nat} {v : Int64} : (pL u j k v).2.1 j = upL (u.2.1 j) k v := by
  funext b
  show (if j = j ∧ b = k then v else u.2.1 j b) = if b = k then v else u.2.1 j b
  by_cases q : b = k
  · rw [if_pos ⟨rfl, q⟩, if_pos q]
  · rw [if_neg (fun w => q w.2), if_neg q]
theorem VAt_up {g : Nat → Int64} {a : Nat} {v : Int64} : ∀ {V : List Int}, VAt g V → V.length ≤ a → VAt (upL g a v) V := by
  intro V
  induction V with
  | nil => intro _ _; exact trivial
  | cons x V ih =>
    rintro ⟨h1, h2, h3⟩ hl
    simp only [List.length_cons] at hl
    exact ⟨by rw [upL_ne (by omega)]; exact h1, h2, ih h3 (by omega)⟩
theorem TAt_up {f : Nat → Int32} {a : Nat} {v : Int32} : ∀ {T : List Bool}, TAt f T → T.length ≤ a → TAt (up f a v) T := by
  intro T
  induction T with
  | nil => intro _ _; exact trivial
  | cons t T ih =>
    rintro ⟨h1, h3⟩ hl
    simp only [List.length_cons] at hl
    exact ⟨by rw [up_ne (by omega)]; exact h1, ih h3 (by omega)⟩
theorem clM_b (v : Int) : Bd (clM v) := clI_b (by decide) v
theorem clipM {x : Int64} {u : PoS} {post : Int64 → PoS → Prop} (H : ∀ r : Int64, r.toInt = clM x.toInt → post r u) : wp_X12_clip x u post := by
  unfold wp_X12_clip
  rw [(lgc x _).2, (lgc x _).1]
  refine ⟨fun a => ⟨fun b => H x ?_, fun b => H _ ?_⟩, fun a => H _ ?_⟩
  · rw [show (1000000 : Int64).toInt = 1000000 from rfl] at a
    rw [show (-1000000 : Int64).toInt = -1000000 from rfl] at b
    rw [clM, clI, if_neg (by omega), if_neg (by omega)]
  · rw [show (-1000000 : Int64).toInt = -1000000 from rfl] at b ⊢
    rw [clM, clI, if_pos (by omega)]
  · rw [show (1000000 : Int64).toInt = 1000000 from rfl] at a ⊢
    rw [clM, clI, if_neg (by omega), if_pos (by omega)]
theorem bm64 {v : Int} (h1 : -2 ^ 63 ≤ v) (h2 : v < 2 ^ 63) : v.bmod (2 ^ 64) = v := Int.bmod_eq_of_le (by omega) (by omega)
theorem mul_b {x y : Int} (hx : Bd x) (hy : Bd y) : -1000000000000 ≤ x * y ∧ x * y ≤ 1000000000000 := by
  have h : (x * y).natAbs ≤ 1000000 * 1000000 := by
    rw [Int.natAbs_mul]
    exact Nat.mul_le_mul (by unfold Bd at hx; omega) (by unfold Bd at hy; omega)
  omega
theorem tdiv_b {x y : Int} {b : Nat} (hx : x.natAbs ≤ b) : (x.tdiv y).natAbs ≤ b := by
  rw [Int.natAbs_tdiv]
  exact Nat.le_trans (Nat.div_le_self _ _) hx
theorem lgz (x : Int64) : lg_cmp x 0 = 0 ↔ x.toInt = 0 := by
  rw [lg0e]
  exact ⟨fun h => by rw [h]; rfl, fun h => Int64.toInt_inj.mp (by rw [h]; rfl)⟩
theorem twoM {o : Nat} {x y : Int64} {u : PoS} {post : Int64 → PoS → Prop} (ho : 6 ≤ o ∧ o ≤ 9) (hx : Bd x.toInt) (hy : Bd y.toInt) (H : ∀ r : Int64, r.toInt = twoE o x.toInt y.toInt → post r u) : wp_X12_two (nI o) x y u post := by
  have m := mul_b hx hy
  have dv := tdiv_b (x := x.toInt) (y := y.toInt) (b := 1000000) (by unfold Bd at hx; omega)
  unfold Bd at hx hy
  unfold wp_X12_two
  simp (disch := omega) only [q_lit, q_eq]
  unfold twoE at H
  refine ⟨fun e => clipM (fun r hr => H r ?_), fun e => clipM (fun r hr => H r ?_), fun e => clipM (fun r hr => H r ?_), fun a b c => ⟨fun e => ⟨fun q => ?_, clipM (fun r hr => H r ?_)⟩, fun e => H _ ?_⟩⟩
  · rw [if_pos e, hr, Int64.toInt_add, bm64 (by omega) (by omega)]
  · rw [if_neg (by omega), if_pos e, hr, Int64.toInt_sub, bm64 (by omega) (by omega)]
  · rw [if_neg (by omega), if_neg (by omega), if_pos e, hr, Int64.toInt_mul, bm64 (by omega) (by omega)]
  · exact e ((lgz y).mpr (by rw [q]; rfl))
  · have y0 : ¬ y.toInt = 0 := fun q => e ((lgz y).mpr q)
    rw [if_neg a, if_neg b, if_neg c, if_pos (by omega), if_neg y0, hr, Int64.toInt_div, bm64 (by omega) (by omega)]
  · have y0 := (lgz y).mp e
    rw [if_neg a, if_neg b, if_neg c, if_pos (by omega), if_pos y0]; rfl
theorem shareM {x y : Int64} {u : PoS} {post : Int64 → PoS → Prop} (hx : Bd x.toInt) (hy : Bd y.toInt) (H : ∀ r : Int64, r.toInt = twoE 4 x.toInt y.toInt → post r u) : wp_X12_shareOf x y u post := by
  have dv := tdiv_b (x := 100 * x.toInt) (y := y.toInt) (b := 100000000) (by unfold Bd at hx; omega)
  unfold Bd at hx hy
  have e100 : (100 * x).toInt = 100 * x.toInt := by
    rw [Int64.toInt_mul, show (100 : Int64).toInt = 100 from rfl, bm64 (by omega) (by omega)]
  unfold wp_X12_shareOf
  refine ⟨fun e => ⟨fun q => e ((lgz y).mpr (by rw [q]; rfl)), ?_⟩, fun e => ?_⟩
  · have y0 : ¬ y.toInt = 0 := fun q => e ((lgz y).mpr q)
    refine clipM (post := post) (fun r hr => H r ?_)
    rw [hr, Int64.toInt_div, e100, bm64 (by omega) (by omega), twoE, if_neg (by decide), if_neg (by decide), if_neg (by decide), if_neg (by decide), if_neg y0]
  · have y0 := (lgz y).mp e
    refine clipM (post := post) (fun r hr => H r ?_)
    rw [hr, twoE, if_neg (by decide), if_neg (by decide), if_neg (by decide), if_neg (by decide), if_pos y0]; rfl
theorem lgc2 (x y : Int64) : (lg_cmp x y < 0 ↔ x.toInt < y.toInt) ∧ (0 < lg_cmp x y ↔ y.toInt < x.toInt) := by
  have h := lgc x y
  have p : lg_cmp x y < 0 ↔ ¬ 0 ≤ lg_cmp x y := by
    rw [Int32.lt_iff_toInt_lt, Int32.le_iff_toInt_le]; omega
  have p2 : 0 < lg_cmp x y ↔ ¬ lg_cmp x y ≤ 0 := by
    rw [Int32.lt_iff_toInt_lt, Int32.le_iff_toInt_le]; omega
  rw [p, p2, h.1, h.2]
  omega
theorem askedM {o : Nat} {x y : Int64} {u : PoS} {post : Int32 → PoS → Prop} (ho : isCmp o) (H : post (nI (if cmpE o x.toInt y.toInt = true then 1 else 0)) u) : wp_X12_isAsked (nI o) x y u post := by
  unfold isCmp at ho
  have e0 : lg_cmp x y = 0 ↔ x.toInt = y.toInt := by rw [lg0e]; exact ⟨fun h => by rw [h], fun h => Int64.toInt_inj.mp h⟩
  unfold wp_X12_isAsked
  rw [e0, (lgc2 x y).1, (lgc2 x y).2, (lgc x y).1, (lgc x y).2]
  simp (disch := omega) only [q_lit, q_eq]
  unfold cmpE at H
  refine ⟨fun a => ⟨fun b => ⟨fun c => ⟨fun d => ⟨fun e => ⟨fun w => ?_, fun w => ?_⟩, fun e => ⟨fun w => ?_, fun w => ?_⟩⟩, fun d => ⟨fun w => ?_, fun w => ?_⟩⟩, fun c => ⟨fun w => ?_, fun w => ?_⟩⟩, fun b => ⟨fun w => ?_, fun w => ?_⟩⟩, fun a => ⟨fun w => ?_, fun w => ?_⟩⟩
  · rw [if_neg a, if_neg b, if_neg c, if_neg d, if_neg e, if_neg (by simp [w])] at H; exact H
  · rw [if_neg a, if_neg b, if_neg c, if_neg d, if_neg e, if_pos (by simp [w])] at H; exact H
  · rw [if_neg a, if_neg b, if_neg c, if_neg d, if_pos e, if_neg (by simp [w])] at H; exact H
  · rw [if_neg a, if_neg b, if_neg c, if_neg d, if_pos e, if_pos (by simp [w])] at H; exact H
  · rw [if_neg a, if_neg b, if_neg c, if_pos d, if_neg (by simp; omega)] at H; exact H
  · rw [if_neg a, if_neg b, if_neg c, if_pos d, if_pos (by simp; omega)] at H; exact H
  · rw [if_neg a, if_neg b, if_pos c, if_neg (by simp; omega)] at H; exact H
  · rw [if_neg a, if_neg b, if_pos c, if_pos (by simp; omega)] at H; exact H
  · rw [if_neg a, if_pos b, if_neg (by simp; omega)] at H; exact H
  · rw [if_neg a, if_pos b, if_pos (by simp; omega)] at H; exact H
  · rw [if_pos a, if_neg (by simp; omega)] at H; exact H
  · rw [if_pos a, if_pos (by simp; omega)] at H; exact H
theorem joinedM {o : Nat} {t s : Bool} {u : PoS} {post : Int32 → PoS → Prop} (ho : isJn o) (H : post (nI (if (if o = 21 then t && s else t || s) = true then 1 else 0)) u) : wp_X12_joined (nI o) (nI (if t = true then 1 else 0)) (nI (if s = true then 1 else 0)) u post := by
  unfold wp_X12_joined
  rcases ho with rfl | rfl
  · refine ⟨fun q => absurd rfl q, fun _ => ?_⟩
    cases t <;> cases s
    · exact ⟨fun _ => H, fun q => absurd rfl q⟩
    · exact ⟨fun _ => H, fun q => absurd rfl q⟩
    · exact ⟨fun q => absurd q (show ¬ nI 1 = 0 by decide), fun _ => ⟨fun _ => H, fun q => absurd rfl q⟩⟩
    · exact ⟨fun q => absurd q (show ¬ nI 1 = 0 by decide), fun _ => ⟨fun q => absurd q (show ¬ nI 1 = 0 by decide), fun _ => H⟩⟩
  · refine ⟨fun _ => ?_, fun q => absurd q (by decide)⟩
    cases t <;> cases s
    · exact ⟨fun q => absurd rfl q, fun _ => ⟨fun _ => H, fun q => absurd rfl q⟩⟩
    · exact ⟨fun q => absurd rfl q, fun _ => ⟨fun q => absurd q (show ¬ nI 1 = 0 by decide), fun _ => H⟩⟩
    · exact ⟨fun _ => H, fun q => absurd q (show ¬ nI 1 = 0 by decide)⟩
    · exact ⟨fun _ => H, fun q => absurd q (show ¬ nI 1 = 0 by decide)⟩
