/-! the class's judge does what its code is worth -/
def SAt (f : Nat → Int32) : List Int → Prop
  | [] => True
  | x :: V => (f V.length).toInt = x ∧ Bd x ∧ SAt f V
theorem SAt_up {f : Nat → Int32} {a : Nat} {v : Int32} : ∀ {V : List Int}, SAt f V → V.length ≤ a → SAt (up f a v) V := by
  intro V
  induction V with
  | nil => intro _ _; exact trivial
  | cons x V ih =>
    rintro ⟨h1, h2, h3⟩ hl
    simp only [List.length_cons] at hl
    exact ⟨by rw [up_ne (by omega)]; exact h1, h2, ih h3 (by omega)⟩
theorem lclip (r : Int64) : (Int64.toInt32 (lmax (-1000000) (lmin 1000000 r))).toInt = clM r.toInt := by
  unfold lmax lmin clM clI
  by_cases q1 : r < 1000000
  · have h1 := Int64.lt_iff_toInt_lt.mp q1
    rw [show (1000000 : Int64).toInt = 1000000 from rfl] at h1
    rw [if_pos q1]
    by_cases q2 : r < -1000000
    · have h2 := Int64.lt_iff_toInt_lt.mp q2
      rw [show (-1000000 : Int64).toInt = -1000000 from rfl] at h2
      rw [if_pos q2, if_pos h2]; decide
    · have h2 : ¬ r.toInt < -1000000 := fun h => q2 (Int64.lt_iff_toInt_lt.mpr h)
      rw [if_neg q2, if_neg h2, if_neg (by omega), Int64.toInt_toInt32, Int.bmod_eq_of_le (by omega) (by omega)]
  · have h1 : ¬ r.toInt < 1000000 := fun h => q1 (Int64.lt_iff_toInt_lt.mpr h)
    rw [if_neg q1, if_neg (show ¬ (1000000 : Int64) < -1000000 by decide), if_neg (by omega)]
    by_cases q3 : 1000000 < r.toInt
    · rw [if_pos q3]; decide
    · rw [if_neg q3, show r.toInt = 1000000 by omega]; decide
theorem bm32 {v : Int} (h1 : -2 ^ 31 ≤ v) (h2 : v < 2 ^ 31) : v.bmod (2 ^ 32) = v := Int.bmod_eq_of_le (by omega) (by omega)
theorem i32_z {x : Int32} : x = 0 ↔ x.toInt = 0 := ⟨fun h => by rw [h]; rfl, fun h => i32_eq (by rw [h]; rfl)⟩
theorem joinX4 {x y : Int32} {u : PoS} {post : Int64 → PoS → Prop} (hx : Bd x.toInt) (hy : Bd y.toInt) (H : ∀ r : Int64, clM r.toInt = binE 4 x.toInt y.toInt → post r u) : wp_X2_joined (nI (opw 4)) x y u post := by
  have m := mul_b hx hy
  have dv := tdiv_b (x := x.toInt) (y := y.toInt) (b := 1000000) (by unfold Bd at hx; omega)
  have ds := tdiv_b (x := x.toInt * 100) (y := y.toInt) (b := 100000000) (by unfold Bd at hx; omega)
  have q0 := @i32_z y
  have c0 : clM 0 = 0 := by unfold clM clI; rw [if_neg (by omega), if_neg (by omega)]
  have c1 : clM 1 = 1 := by unfold clM clI; rw [if_neg (by omega), if_neg (by omega)]
  unfold Bd at hx hy
  have H0 : binE 4 x.toInt y.toInt = 0 → post 0 u := fun h => H 0 (by rw [h]; exact c0)
  have H1 : binE 4 x.toInt y.toInt = 1 → post 1 u := fun h => H 1 (by rw [h]; exact c1)
  show wp_X2_joined (nI 17) _ _ u post
  refine ⟨fun _ => ?_, fun q => absurd q (by decide), fun q => absurd q (by decide), fun q => absurd q (by decide), fun q => absurd q (by decide), fun q => absurd q (by decide), fun q => absurd q (by decide), fun q => absurd q (by decide), fun q => absurd q (by decide), fun q => absurd q (by decide), fun q => absurd q (by decide), fun q => absurd q (by decide), fun q => absurd q (by decide), fun q => absurd q (by decide), fun q => absurd q (by decide), fun q => absurd q (by decide), fun q => absurd q (by decide), fun q => absurd q (by decide), fun q => absurd q (by decide), fun q => absurd q (by decide), fun q => absurd q (by decide), fun q => absurd q (by decide), fun q => absurd q (by decide), fun q => absurd q (by decide), fun h _ _ _ _ _ _ _ _ _ _ _ _ _ _ _ _ _ _ _ _ _ _ _ => absurd rfl h⟩
  refine ⟨fun a => ⟨a, H _ ?_⟩, fun a => H0 ?_⟩
  · have y0 : ¬ y.toInt = 0 := fun h => a (q0.mpr h)
    rw [Int32.toInt_toInt64, Int32.toInt_div, Int32.toInt_mul, show (100 : Int32).toInt = 100 from rfl, bm32 (v := x.toInt * 100) (by omega) (by omega), bm32 (by omega) (by omega)]
    show clM _ = if y.toInt = 0 then 0 else clM ((100 * x.toInt).tdiv y.toInt)
    rw [if_neg y0, Int.mul_comm 100]
  · show (if y.toInt = 0 then 0 else clM ((100 * x.toInt).tdiv y.toInt)) = 0
    rw [if_pos (q0.mp a)]
theorem joinX6 {x y : Int32} {u : PoS} {post : Int64 → PoS → Prop} (hx : Bd x.toInt) (hy : Bd y.toInt) (H : ∀ r : Int64, clM r.toInt = binE 6 x.toInt y.toInt → post r u) : wp_X2_joined (nI (opw 6)) x y u post := by
  have m := mul_b hx hy
  have dv := tdiv_b (x := x.toInt) (y := y.toInt) (b := 1000000) (by unfold Bd at hx; omega)
  have ds := tdiv_b (x := x.toInt * 100) (y := y.toInt) (b := 100000000) (by unfold Bd at hx; omega)
  have q0 := @i32_z y
  have c0 : clM 0 = 0 := by unfold clM clI; rw [if_neg (by omega), if_neg (by omega)]
  have c1 : clM 1 = 1 := by unfold clM clI; rw [if_neg (by omega), if_neg (by omega)]
  unfold Bd at hx hy
  have H0 : binE 6 x.toInt y.toInt = 0 → post 0 u := fun h => H 0 (by rw [h]; exact c0)
  have H1 : binE 6 x.toInt y.toInt = 1 → post 1 u := fun h => H 1 (by rw [h]; exact c1)
  show wp_X2_joined (nI 32) _ _ u post
  refine ⟨fun q => absurd q (by decide), fun q => absurd q (by decide), fun q => absurd q (by decide), fun q => absurd q (by decide), fun q => absurd q (by decide), fun q => absurd q (by decide), fun q => absurd q (by decide), fun q => absurd q (by decide), fun q => absurd q (by decide), fun q => absurd q (by decide), fun q => absurd q (by decide), fun q => absurd q (by decide), fun q => absurd q (by decide), fun q => absurd q (by decide), fun q => absurd q (by decide), fun _ => ?_, fun q => absurd q (by decide), fun q => absurd q (by decide), fun q => absurd q (by decide), fun q => absurd q (by decide), fun q => absurd q (by decide), fun q => absurd q (by decide), fun q => absurd q (by decide), fun q => absurd q (by decide), fun _ _ _ _ _ _ _ _ _ _ _ _ _ _ _ h _ _ _ _ _ _ _ _ => absurd rfl h⟩
  refine H _ ?_
  rw [Int32.toInt_toInt64, Int32.toInt_add, bm32 (by omega) (by omega), binE, if_neg (by decide), if_neg (by decide), twoE, if_pos rfl]
theorem joinX7 {x y : Int32} {u : PoS} {post : Int64 → PoS → Prop} (hx : Bd x.toInt) (hy : Bd y.toInt) (H : ∀ r : Int64, clM r.toInt = binE 7 x.toInt y.toInt → post r u) : wp_X2_joined (nI (opw 7)) x y u post := by
  have m := mul_b hx hy
  have dv := tdiv_b (x := x.toInt) (y := y.toInt) (b := 1000000) (by unfold Bd at hx; omega)
  have ds := tdiv_b (x := x.toInt * 100) (y := y.toInt) (b := 100000000) (by unfold Bd at hx; omega)
  have q0 := @i32_z y
  have c0 : clM 0 = 0 := by unfold clM clI; rw [if_neg (by omega), if_neg (by omega)]
  have c1 : clM 1 = 1 := by unfold clM clI; rw [if_neg (by omega), if_neg (by omega)]
  unfold Bd at hx hy
  have H0 : binE 7 x.toInt y.toInt = 0 → post 0 u := fun h => H 0 (by rw [h]; exact c0)
  have H1 : binE 7 x.toInt y.toInt = 1 → post 1 u := fun h => H 1 (by rw [h]; exact c1)
  show wp_X2_joined (nI 33) _ _ u post
  refine ⟨fun q => absurd q (by decide), fun q => absurd q (by decide), fun q => absurd q (by decide), fun q => absurd q (by decide), fun q => absurd q (by decide), fun q => absurd q (by decide), fun q => absurd q (by decide), fun q => absurd q (by decide), fun q => absurd q (by decide), fun q => absurd q (by decide), fun q => absurd q (by decide), fun q => absurd q (by decide), fun q => absurd q (by decide), fun q => absurd q (by decide), fun q => absurd q (by decide), fun q => absurd q (by decide), fun _ => ?_, fun q => absurd q (by decide), fun q => absurd q (by decide), fun q => absurd q (by decide), fun q => absurd q (by decide), fun q => absurd q (by decide), fun q => absurd q (by decide), fun q => absurd q (by decide), fun _ _ _ _ _ _ _ _ _ _ _ _ _ _ _ _ h _ _ _ _ _ _ _ => absurd rfl h⟩
  refine H _ ?_
  rw [Int32.toInt_toInt64, Int32.toInt_sub, bm32 (by omega) (by omega), binE, if_neg (by decide), if_neg (by decide), twoE, if_neg (by decide), if_pos rfl]
theorem joinX8 {x y : Int32} {u : PoS} {post : Int64 → PoS → Prop} (hx : Bd x.toInt) (hy : Bd y.toInt) (H : ∀ r : Int64, clM r.toInt = binE 8 x.toInt y.toInt → post r u) : wp_X2_joined (nI (opw 8)) x y u post := by
  have m := mul_b hx hy
  have dv := tdiv_b (x := x.toInt) (y := y.toInt) (b := 1000000) (by unfold Bd at hx; omega)
  have ds := tdiv_b (x := x.toInt * 100) (y := y.toInt) (b := 100000000) (by unfold Bd at hx; omega)
  have q0 := @i32_z y
  have c0 : clM 0 = 0 := by unfold clM clI; rw [if_neg (by omega), if_neg (by omega)]
  have c1 : clM 1 = 1 := by unfold clM clI; rw [if_neg (by omega), if_neg (by omega)]
  unfold Bd at hx hy
  have H0 : binE 8 x.toInt y.toInt = 0 → post 0 u := fun h => H 0 (by rw [h]; exact c0)
  have H1 : binE 8 x.toInt y.toInt = 1 → post 1 u := fun h => H 1 (by rw [h]; exact c1)
  show wp_X2_joined (nI 34) _ _ u post
  refine ⟨fun q => absurd q (by decide), fun q => absurd q (by decide), fun q => absurd q (by decide), fun q => absurd q (by decide), fun q => absurd q (by decide), fun q => absurd q (by decide), fun q => absurd q (by decide), fun q => absurd q (by decide), fun q => absurd q (by decide), fun q => absurd q (by decide), fun q => absurd q (by decide), fun q => absurd q (by decide), fun q => absurd q (by decide), fun q => absurd q (by decide), fun q => absurd q (by decide), fun q => absurd q (by decide), fun q => absurd q (by decide), fun _ => ?_, fun q => absurd q (by decide), fun q => absurd q (by decide), fun q => absurd q (by decide), fun q => absurd q (by decide), fun q => absurd q (by decide), fun q => absurd q (by decide), fun _ _ _ _ _ _ _ _ _ _ _ _ _ _ _ _ _ h _ _ _ _ _ _ => absurd rfl h⟩
  refine H _ ?_
  rw [Int64.toInt_mul, Int32.toInt_toInt64, Int32.toInt_toInt64, bm64 (by omega) (by omega), binE, if_neg (by decide), if_neg (by decide), twoE, if_neg (by decide), if_neg (by decide), if_pos rfl]
theorem joinX9 {x y : Int32} {u : PoS} {post : Int64 → PoS → Prop} (hx : Bd x.toInt) (hy : Bd y.toInt) (H : ∀ r : Int64, clM r.toInt = binE 9 x.toInt y.toInt → post r u) : wp_X2_joined (nI (opw 9)) x y u post := by
  have m := mul_b hx hy
  have dv := tdiv_b (x := x.toInt) (y := y.toInt) (b := 1000000) (by unfold Bd at hx; omega)
  have ds := tdiv_b (x := x.toInt * 100) (y := y.toInt) (b := 100000000) (by unfold Bd at hx; omega)
  have q0 := @i32_z y
  have c0 : clM 0 = 0 := by unfold clM clI; rw [if_neg (by omega), if_neg (by omega)]
  have c1 : clM 1 = 1 := by unfold clM clI; rw [if_neg (by omega), if_neg (by omega)]
  unfold Bd at hx hy
  have H0 : binE 9 x.toInt y.toInt = 0 → post 0 u := fun h => H 0 (by rw [h]; exact c0)
  have H1 : binE 9 x.toInt y.toInt = 1 → post 1 u := fun h => H 1 (by rw [h]; exact c1)
  show wp_X2_joined (nI 35) _ _ u post
  refine ⟨fun q => absurd q (by decide), fun q => absurd q (by decide), fun q => absurd q (by decide), fun q => absurd q (by decide), fun q => absurd q (by decide), fun q => absurd q (by decide), fun q => absurd q (by decide), fun q => absurd q (by decide), fun q => absurd q (by decide), fun q => absurd q (by decide), fun q => absurd q (by decide), fun q => absurd q (by decide), fun q => absurd q (by decide), fun q => absurd q (by decide), fun q => absurd q (by decide), fun q => absurd q (by decide), fun q => absurd q (by decide), fun q => absurd q (by decide), fun _ => ?_, fun q => absurd q (by decide), fun q => absurd q (by decide), fun q => absurd q (by decide), fun q => absurd q (by decide), fun q => absurd q (by decide), fun _ _ _ _ _ _ _ _ _ _ _ _ _ _ _ _ _ _ h _ _ _ _ _ => absurd rfl h⟩
  refine ⟨fun a => ⟨a, H _ ?_⟩, fun a => H0 ?_⟩
  · have y0 : ¬ y.toInt = 0 := fun h => a (q0.mpr h)
    rw [Int32.toInt_toInt64, Int32.toInt_div, bm32 (by omega) (by omega)]
    show clM _ = if y.toInt = 0 then 0 else clM (x.toInt.tdiv y.toInt)
    rw [if_neg y0]
  · show (if y.toInt = 0 then 0 else clM (x.toInt.tdiv y.toInt)) = 0
    rw [if_pos (q0.mp a)]
theorem joinX10 {x y : Int32} {u : PoS} {post : Int64 → PoS → Prop} (hx : Bd x.toInt) (hy : Bd y.toInt) (H : ∀ r : Int64, clM r.toInt = binE 10 x.toInt y.toInt → post r u) : wp_X2_joined (nI (opw 10)) x y u post := by
  have m := mul_b hx hy
  have dv := tdiv_b (x := x.toInt) (y := y.toInt) (b := 1000000) (by unfold Bd at hx; omega)
  have ds := tdiv_b (x := x.toInt * 100) (y := y.toInt) (b := 100000000) (by unfold Bd at hx; omega)
  have q0 := @i32_z y
  have c0 : clM 0 = 0 := by unfold clM clI; rw [if_neg (by omega), if_neg (by omega)]
  have c1 : clM 1 = 1 := by unfold clM clI; rw [if_neg (by omega), if_neg (by omega)]
  unfold Bd at hx hy
  have H0 : binE 10 x.toInt y.toInt = 0 → post 0 u := fun h => H 0 (by rw [h]; exact c0)
  have H1 : binE 10 x.toInt y.toInt = 1 → post 1 u := fun h => H 1 (by rw [h]; exact c1)
  show wp_X2_joined (nI 28) _ _ u post
  refine ⟨fun q => absurd q (by decide), fun q => absurd q (by decide), fun q => absurd q (by decide), fun q => absurd q (by decide), fun q => absurd q (by decide), fun q => absurd q (by decide), fun q => absurd q (by decide), fun q => absurd q (by decide), fun q => absurd q (by decide), fun q => absurd q (by decide), fun q => absurd q (by decide), fun _ => ?_, fun q => absurd q (by decide), fun q => absurd q (by decide), fun q => absurd q (by decide), fun q => absurd q (by decide), fun q => absurd q (by decide), fun q => absurd q (by decide), fun q => absurd q (by decide), fun q => absurd q (by decide), fun q => absurd q (by decide), fun q => absurd q (by decide), fun q => absurd q (by decide), fun q => absurd q (by decide), fun _ _ _ _ _ _ _ _ _ _ _ h _ _ _ _ _ _ _ _ _ _ _ _ => absurd rfl h⟩
  rw [Int32.le_iff_toInt_le]
  refine ⟨fun a => H0 ?_, fun a => H1 ?_⟩
  · show b01 (decide (x.toInt < y.toInt)) = 0
    rw [decide_eq_false (by omega)]; rfl
  · show b01 (decide (x.toInt < y.toInt)) = 1
    rw [decide_eq_true (by omega)]; rfl
theorem joinX11 {x y : Int32} {u : PoS} {post : Int64 → PoS → Prop} (hx : Bd x.toInt) (hy : Bd y.toInt) (H : ∀ r : Int64, clM r.toInt = binE 11 x.toInt y.toInt → post r u) : wp_X2_joined (nI (opw 11)) x y u post := by
  have m := mul_b hx hy
  have dv := tdiv_b (x := x.toInt) (y := y.toInt) (b := 1000000) (by unfold Bd at hx; omega)
  have ds := tdiv_b (x := x.toInt * 100) (y := y.toInt) (b := 100000000) (by unfold Bd at hx; omega)
  have q0 := @i32_z y
  have c0 : clM 0 = 0 := by unfold clM clI; rw [if_neg (by omega), if_neg (by omega)]
  have c1 : clM 1 = 1 := by unfold clM clI; rw [if_neg (by omega), if_neg (by omega)]
  unfold Bd at hx hy
  have H0 : binE 11 x.toInt y.toInt = 0 → post 0 u := fun h => H 0 (by rw [h]; exact c0)
  have H1 : binE 11 x.toInt y.toInt = 1 → post 1 u := fun h => H 1 (by rw [h]; exact c1)
  show wp_X2_joined (nI 39) _ _ u post
  refine ⟨fun q => absurd q (by decide), fun q => absurd q (by decide), fun q => absurd q (by decide), fun q => absurd q (by decide), fun q => absurd q (by decide), fun q => absurd q (by decide), fun q => absurd q (by decide), fun q => absurd q (by decide), fun q => absurd q (by decide), fun q => absurd q (by decide), fun q => absurd q (by decide), fun q => absurd q (by decide), fun q => absurd q (by decide), fun q => absurd q (by decide), fun q => absurd q (by decide), fun q => absurd q (by decide), fun q => absurd q (by decide), fun q => absurd q (by decide), fun q => absurd q (by decide), fun q => absurd q (by decide), fun q => absurd q (by decide), fun q => absurd q (by decide), fun _ => ?_, fun q => absurd q (by decide), fun _ _ _ _ _ _ _ _ _ _ _ _ _ _ _ _ _ _ _ _ _ _ h _ => absurd rfl h⟩
  rw [Int32.lt_iff_toInt_lt]
  refine ⟨fun a => H0 ?_, fun a => H1 ?_⟩
  · show b01 (decide (x.toInt ≤ y.toInt)) = 0
    rw [decide_eq_false (by omega)]; rfl
  · show b01 (decide (x.toInt ≤ y.toInt)) = 1
    rw [decide_eq_true (by omega)]; rfl
theorem joinX12 {x y : Int32} {u : PoS} {post : Int64 → PoS → Prop} (hx : Bd x.toInt) (hy : Bd y.toInt) (H : ∀ r : Int64, clM r.toInt = binE 12 x.toInt y.toInt → post r u) : wp_X2_joined (nI (opw 12)) x y u post := by
  have m := mul_b hx hy
  have dv := tdiv_b (x := x.toInt) (y := y.toInt) (b := 1000000) (by unfold Bd at hx; omega)
  have ds := tdiv_b (x := x.toInt * 100) (y := y.toInt) (b := 100000000) (by unfold Bd at hx; omega)
  have q0 := @i32_z y
  have c0 : clM 0 = 0 := by unfold clM clI; rw [if_neg (by omega), if_neg (by omega)]
  have c1 : clM 1 = 1 := by unfold clM clI; rw [if_neg (by omega), if_neg (by omega)]
  unfold Bd at hx hy
  have H0 : binE 12 x.toInt y.toInt = 0 → post 0 u := fun h => H 0 (by rw [h]; exact c0)
  have H1 : binE 12 x.toInt y.toInt = 1 → post 1 u := fun h => H 1 (by rw [h]; exact c1)
  show wp_X2_joined (nI 29) _ _ u post
  refine ⟨fun q => absurd q (by decide), fun q => absurd q (by decide), fun q => absurd q (by decide), fun q => absurd q (by decide), fun q => absurd q (by decide), fun q => absurd q (by decide), fun q => absurd q (by decide), fun q => absurd q (by decide), fun q => absurd q (by decide), fun q => absurd q (by decide), fun q => absurd q (by decide), fun q => absurd q (by decide), fun _ => ?_, fun q => absurd q (by decide), fun q => absurd q (by decide), fun q => absurd q (by decide), fun q => absurd q (by decide), fun q => absurd q (by decide), fun q => absurd q (by decide), fun q => absurd q (by decide), fun q => absurd q (by decide), fun q => absurd q (by decide), fun q => absurd q (by decide), fun q => absurd q (by decide), fun _ _ _ _ _ _ _ _ _ _ _ _ h _ _ _ _ _ _ _ _ _ _ _ => absurd rfl h⟩
  rw [Int32.le_iff_toInt_le]
  refine ⟨fun a => H0 ?_, fun a => H1 ?_⟩
  · show b01 (decide (y.toInt < x.toInt)) = 0
    rw [decide_eq_false (by omega)]; rfl
  · show b01 (decide (y.toInt < x.toInt)) = 1
    rw [decide_eq_true (by omega)]; rfl
theorem joinX13 {x y : Int32} {u : PoS} {post : Int64 → PoS → Prop} (hx : Bd x.toInt) (hy : Bd y.toInt) (H : ∀ r : Int64, clM r.toInt = binE 13 x.toInt y.toInt → post r u) : wp_X2_joined (nI (opw 13)) x y u post := by
  have m := mul_b hx hy
  have dv := tdiv_b (x := x.toInt) (y := y.toInt) (b := 1000000) (by unfold Bd at hx; omega)
  have ds := tdiv_b (x := x.toInt * 100) (y := y.toInt) (b := 100000000) (by unfold Bd at hx; omega)
  have q0 := @i32_z y
  have c0 : clM 0 = 0 := by unfold clM clI; rw [if_neg (by omega), if_neg (by omega)]
  have c1 : clM 1 = 1 := by unfold clM clI; rw [if_neg (by omega), if_neg (by omega)]
  unfold Bd at hx hy
  have H0 : binE 13 x.toInt y.toInt = 0 → post 0 u := fun h => H 0 (by rw [h]; exact c0)
  have H1 : binE 13 x.toInt y.toInt = 1 → post 1 u := fun h => H 1 (by rw [h]; exact c1)
  show wp_X2_joined (nI 40) _ _ u post
  refine ⟨fun q => absurd q (by decide), fun q => absurd q (by decide), fun q => absurd q (by decide), fun q => absurd q (by decide), fun q => absurd q (by decide), fun q => absurd q (by decide), fun q => absurd q (by decide), fun q => absurd q (by decide), fun q => absurd q (by decide), fun q => absurd q (by decide), fun q => absurd q (by decide), fun q => absurd q (by decide), fun q => absurd q (by decide), fun q => absurd q (by decide), fun q => absurd q (by decide), fun q => absurd q (by decide), fun q => absurd q (by decide), fun q => absurd q (by decide), fun q => absurd q (by decide), fun q => absurd q (by decide), fun q => absurd q (by decide), fun q => absurd q (by decide), fun q => absurd q (by decide), fun _ => ?_, fun _ _ _ _ _ _ _ _ _ _ _ _ _ _ _ _ _ _ _ _ _ _ _ h => absurd rfl h⟩
  rw [Int32.lt_iff_toInt_lt]
  refine ⟨fun a => H0 ?_, fun a => H1 ?_⟩
  · show b01 (decide (y.toInt ≤ x.toInt)) = 0
    rw [decide_eq_false (by omega)]; rfl
  · show b01 (decide (y.toInt ≤ x.toInt)) = 1
    rw [decide_eq_true (by omega)]; rfl
theorem joinX14 {x y : Int32} {u : PoS} {post : Int64 → PoS → Prop} (hx : Bd x.toInt) (hy : Bd y.toInt) (H : ∀ r : Int64, clM r.toInt = binE 14 x.toInt y.toInt → post r u) : wp_X2_joined (nI (opw 14)) x y u post := by
  have m := mul_b hx hy
  have dv := tdiv_b (x := x.toInt) (y := y.toInt) (b := 1000000) (by unfold Bd at hx; omega)
  have ds := tdiv_b (x := x.toInt * 100) (y := y.toInt) (b := 100000000) (by unfold Bd at hx; omega)
  have q0 := @i32_z y
  have c0 : clM 0 = 0 := by unfold clM clI; rw [if_neg (by omega), if_neg (by omega)]
  have c1 : clM 1 = 1 := by unfold clM clI; rw [if_neg (by omega), if_neg (by omega)]
  unfold Bd at hx hy
  have H0 : binE 14 x.toInt y.toInt = 0 → post 0 u := fun h => H 0 (by rw [h]; exact c0)
  have H1 : binE 14 x.toInt y.toInt = 1 → post 1 u := fun h => H 1 (by rw [h]; exact c1)
  show wp_X2_joined (nI 30) _ _ u post
  refine ⟨fun q => absurd q (by decide), fun q => absurd q (by decide), fun q => absurd q (by decide), fun q => absurd q (by decide), fun q => absurd q (by decide), fun q => absurd q (by decide), fun q => absurd q (by decide), fun q => absurd q (by decide), fun q => absurd q (by decide), fun q => absurd q (by decide), fun q => absurd q (by decide), fun q => absurd q (by decide), fun q => absurd q (by decide), fun _ => ?_, fun q => absurd q (by decide), fun q => absurd q (by decide), fun q => absurd q (by decide), fun q => absurd q (by decide), fun q => absurd q (by decide), fun q => absurd q (by decide), fun q => absurd q (by decide), fun q => absurd q (by decide), fun q => absurd q (by decide), fun q => absurd q (by decide), fun _ _ _ _ _ _ _ _ _ _ _ _ _ h _ _ _ _ _ _ _ _ _ _ => absurd rfl h⟩
  refine ⟨fun a => H0 ?_, fun a => H1 ?_⟩
  · show b01 (decide (x.toInt = y.toInt)) = 0
    rw [decide_eq_false (fun h => a (i32_eq h))]; rfl
  · show b01 (decide (x.toInt = y.toInt)) = 1
    rw [decide_eq_true (by rw [a])]; rfl
theorem joinX15 {x y : Int32} {u : PoS} {post : Int64 → PoS → Prop} (hx : Bd x.toInt) (hy : Bd y.toInt) (H : ∀ r : Int64, clM r.toInt = binE 15 x.toInt y.toInt → post r u) : wp_X2_joined (nI (opw 15)) x y u post := by
  have m := mul_b hx hy
  have dv := tdiv_b (x := x.toInt) (y := y.toInt) (b := 1000000) (by unfold Bd at hx; omega)
  have ds := tdiv_b (x := x.toInt * 100) (y := y.toInt) (b := 100000000) (by unfold Bd at hx; omega)
  have q0 := @i32_z y
  have c0 : clM 0 = 0 := by unfold clM clI; rw [if_neg (by omega), if_neg (by omega)]
  have c1 : clM 1 = 1 := by unfold clM clI; rw [if_neg (by omega), if_neg (by omega)]
  unfold Bd at hx hy
  have H0 : binE 15 x.toInt y.toInt = 0 → post 0 u := fun h => H 0 (by rw [h]; exact c0)
  have H1 : binE 15 x.toInt y.toInt = 1 → post 1 u := fun h => H 1 (by rw [h]; exact c1)
  show wp_X2_joined (nI 31) _ _ u post
  refine ⟨fun q => absurd q (by decide), fun q => absurd q (by decide), fun q => absurd q (by decide), fun q => absurd q (by decide), fun q => absurd q (by decide), fun q => absurd q (by decide), fun q => absurd q (by decide), fun q => absurd q (by decide), fun q => absurd q (by decide), fun q => absurd q (by decide), fun q => absurd q (by decide), fun q => absurd q (by decide), fun q => absurd q (by decide), fun q => absurd q (by decide), fun _ => ?_, fun q => absurd q (by decide), fun q => absurd q (by decide), fun q => absurd q (by decide), fun q => absurd q (by decide), fun q => absurd q (by decide), fun q => absurd q (by decide), fun q => absurd q (by decide), fun q => absurd q (by decide), fun q => absurd q (by decide), fun _ _ _ _ _ _ _ _ _ _ _ _ _ _ h _ _ _ _ _ _ _ _ _ => absurd rfl h⟩
  refine ⟨fun a => H0 ?_, fun a => H1 ?_⟩
  · show b01 (decide (x.toInt ≠ y.toInt)) = 0
    rw [decide_eq_false (show ¬ x.toInt ≠ y.toInt from fun h => h (by rw [a]))]; rfl
  · show b01 (decide (x.toInt ≠ y.toInt)) = 1
    rw [decide_eq_true (show x.toInt ≠ y.toInt from fun h => a (i32_eq h))]; rfl
theorem joinX21 {x y : Int32} {u : PoS} {post : Int64 → PoS → Prop} (hx : Bd x.toInt) (hy : Bd y.toInt) (hx1 : x = nI 0 ∨ x = nI 1) (hy1 : y = nI 0 ∨ y = nI 1) (H : ∀ r : Int64, clM r.toInt = binE 21 x.toInt y.toInt → post r u) : wp_X2_joined (nI (opw 21)) x y u post := by
  have m := mul_b hx hy
  have dv := tdiv_b (x := x.toInt) (y := y.toInt) (b := 1000000) (by unfold Bd at hx; omega)
  have ds := tdiv_b (x := x.toInt * 100) (y := y.toInt) (b := 100000000) (by unfold Bd at hx; omega)
  have q0 := @i32_z y
  have c0 : clM 0 = 0 := by unfold clM clI; rw [if_neg (by omega), if_neg (by omega)]
  have c1 : clM 1 = 1 := by unfold clM clI; rw [if_neg (by omega), if_neg (by omega)]
  unfold Bd at hx hy
  have H0 : binE 21 x.toInt y.toInt = 0 → post 0 u := fun h => H 0 (by rw [h]; exact c0)
  have H1 : binE 21 x.toInt y.toInt = 1 → post 1 u := fun h => H 1 (by rw [h]; exact c1)
  show wp_X2_joined (nI 27) _ _ u post
  refine ⟨fun q => absurd q (by decide), fun q => absurd q (by decide), fun q => absurd q (by decide), fun q => absurd q (by decide), fun q => absurd q (by decide), fun q => absurd q (by decide), fun q => absurd q (by decide), fun q => absurd q (by decide), fun q => absurd q (by decide), fun q => absurd q (by decide), fun _ => ?_, fun q => absurd q (by decide), fun q => absurd q (by decide), fun q => absurd q (by decide), fun q => absurd q (by decide), fun q => absurd q (by decide), fun q => absurd q (by decide), fun q => absurd q (by decide), fun q => absurd q (by decide), fun q => absurd q (by decide), fun q => absurd q (by decide), fun q => absurd q (by decide), fun q => absurd q (by decide), fun q => absurd q (by decide), fun _ _ _ _ _ _ _ _ _ _ h _ _ _ _ _ _ _ _ _ _ _ _ _ => absurd rfl h⟩
  rcases hx1 with rfl | rfl <;> rcases hy1 with rfl | rfl
  · exact H _ (by rw [show (Int32.toInt64 (nI 0 &&& nI 0)).toInt = 0 by decide, c0]; decide)
  · exact H _ (by rw [show (Int32.toInt64 (nI 0 &&& nI 1)).toInt = 0 by decide, c0]; decide)
  · exact H _ (by rw [show (Int32.toInt64 (nI 1 &&& nI 0)).toInt = 0 by decide, c0]; decide)
  · exact H _ (by rw [show (Int32.toInt64 (nI 1 &&& nI 1)).toInt = 1 by decide, c1]; decide)
theorem joinX22 {x y : Int32} {u : PoS} {post : Int64 → PoS → Prop} (hx : Bd x.toInt) (hy : Bd y.toInt) (hx1 : x = nI 0 ∨ x = nI 1) (hy1 : y = nI 0 ∨ y = nI 1) (H : ∀ r : Int64, clM r.toInt = binE 22 x.toInt y.toInt → post r u) : wp_X2_joined (nI (opw 22)) x y u post := by
  have m := mul_b hx hy
  have dv := tdiv_b (x := x.toInt) (y := y.toInt) (b := 1000000) (by unfold Bd at hx; omega)
  have ds := tdiv_b (x := x.toInt * 100) (y := y.toInt) (b := 100000000) (by unfold Bd at hx; omega)
  have q0 := @i32_z y
  have c0 : clM 0 = 0 := by unfold clM clI; rw [if_neg (by omega), if_neg (by omega)]
  have c1 : clM 1 = 1 := by unfold clM clI; rw [if_neg (by omega), if_neg (by omega)]
  unfold Bd at hx hy
  have H0 : binE 22 x.toInt y.toInt = 0 → post 0 u := fun h => H 0 (by rw [h]; exact c0)
  have H1 : binE 22 x.toInt y.toInt = 1 → post 1 u := fun h => H 1 (by rw [h]; exact c1)
  show wp_X2_joined (nI 26) _ _ u post
  refine ⟨fun q => absurd q (by decide), fun q => absurd q (by decide), fun q => absurd q (by decide), fun q => absurd q (by decide), fun q => absurd q (by decide), fun q => absurd q (by decide), fun q => absurd q (by decide), fun q => absurd q (by decide), fun q => absurd q (by decide), fun _ => ?_, fun q => absurd q (by decide), fun q => absurd q (by decide), fun q => absurd q (by decide), fun q => absurd q (by decide), fun q => absurd q (by decide), fun q => absurd q (by decide), fun q => absurd q (by decide), fun q => absurd q (by decide), fun q => absurd q (by decide), fun q => absurd q (by decide), fun q => absurd q (by decide), fun q => absurd q (by decide), fun q => absurd q (by decide), fun q => absurd q (by decide), fun _ _ _ _ _ _ _ _ _ h _ _ _ _ _ _ _ _ _ _ _ _ _ _ => absurd rfl h⟩
  rcases hx1 with rfl | rfl <;> rcases hy1 with rfl | rfl
  · exact H _ (by rw [show (Int32.toInt64 (nI 0 ||| nI 0)).toInt = 0 by decide, c0]; decide)
  · exact H _ (by rw [show (Int32.toInt64 (nI 0 ||| nI 1)).toInt = 1 by decide, c1]; decide)
  · exact H _ (by rw [show (Int32.toInt64 (nI 1 ||| nI 0)).toInt = 1 by decide, c1]; decide)
  · exact H _ (by rw [show (Int32.toInt64 (nI 1 ||| nI 1)).toInt = 1 by decide, c1]; decide)
theorem joinX {o : Nat} {x y : Int32} {u : PoS} {post : Int64 → PoS → Prop} (hx : Bd x.toInt) (hy : Bd y.toInt) (ho : isTwo o ∨ isCmp o ∨ (isJn o ∧ (x = nI 0 ∨ x = nI 1) ∧ (y = nI 0 ∨ y = nI 1))) (H : ∀ r : Int64, clM r.toInt = binE o x.toInt y.toInt → post r u) : wp_X2_joined (nI (opw o)) x y u post := by
  have cases : o = 4 ∨ o = 6 ∨ o = 7 ∨ o = 8 ∨ o = 9 ∨ o = 10 ∨ o = 11 ∨ o = 12 ∨ o = 13 ∨ o = 14 ∨ o = 15 ∨ (o = 21 ∧ (x = nI 0 ∨ x = nI 1) ∧ (y = nI 0 ∨ y = nI 1)) ∨ (o = 22 ∧ (x = nI 0 ∨ x = nI 1) ∧ (y = nI 0 ∨ y = nI 1)) := by
    rcases ho with h | h | ⟨h, h2⟩
    · unfold isTwo at h; omega
    · unfold isCmp at h; omega
    · unfold isJn at h
      rcases h with h | h
      · exact Or.inr (Or.inr (Or.inr (Or.inr (Or.inr (Or.inr (Or.inr (Or.inr (Or.inr (Or.inr (Or.inr (Or.inl ⟨h, h2⟩)))))))))))
      · exact Or.inr (Or.inr (Or.inr (Or.inr (Or.inr (Or.inr (Or.inr (Or.inr (Or.inr (Or.inr (Or.inr (Or.inr ⟨h, h2⟩)))))))))))
  rcases cases with rfl | rfl | rfl | rfl | rfl | rfl | rfl | rfl | rfl | rfl | rfl | ⟨rfl, hx1, hy1⟩ | ⟨rfl, hx1, hy1⟩
  · exact joinX4 hx hy H
  · exact joinX6 hx hy H
  · exact joinX7 hx hy H
  · exact joinX8 hx hy H
  · exact joinX9 hx hy H
  · exact joinX10 hx hy H
  · exact joinX11 hx hy H
  · exact joinX12 hx hy H
  · exact joinX13 hx hy H
  · exact joinX14 hx hy H
  · exact joinX15 hx hy H
  · exact joinX21 hx hy hx1 hy1 H
  · exact joinX22 hx hy hx1 hy1 H
theorem isNameX {w : Nat} {u : PoS} {post : Int32 → PoS → Prop} (hw : w < 64) (h1 : 9 ≤ w → w ≤ 16 → post 1 u) (h0 : ¬ (9 ≤ w ∧ w ≤ 16) → post 0 u) : wp_X9_isName (nI w) u post := by
  unfold wp_X9_isName
  rw [show (9 : Int32) = nI 9 from rfl, show (16 : Int32) = nI 16 from rfl, q_lt (by omega) (by omega), q_lt (by omega) (by omega)]
  exact ⟨fun q => h0 (by omega), fun q => ⟨fun q2 => h0 (by omega), fun q2 => h1 (by omega) (by omega)⟩⟩
theorem namX {u : PoS} {b p κ : Nat} {a : Nat → Int32} {s : Int32} {post : Int32 → PoS → Prop} (hE : EnvX u b p a) (h9 : 9 ≤ κ) (h15 : κ ≤ 15) (H : ∀ r : Int32, r.toInt = env a p s (κ - 9) → post r u) : wp_X2_named b (nI κ) (nI p) u post := by
  obtain ⟨hb, hL, hp⟩ := hE
  obtain ⟨hc, g1, g2, hp5⟩ := atF_of hL hp
  obtain ⟨c, w, t, d, -, -, -, -, -, f1, f2, f3, f4, f5, f6, f7, f8⟩ := hL.per hp
  have cel := hL.2.2.2.1 (atF a p) hc
  unfold wp_X2_named
  rw [show (0 : Int32) + nI p = nI p by rw [Int32.zero_add], q_cl (by omega), gI_def, g2]
  refine ⟨rl_in (by omega), fun x1 ex => ?_⟩
  subst ex
  rw [show (10 : Int32) + nI p = nI (10 + p) by simp (disch := omega) only [q_lit, nI_add, pk_mul, q_sub, q_rem, q_div, q_vp, q_cl, q_lt, q_le, q_eq, q_neg1, gI_def], show (15 : Int32) + nI p = nI (15 + p) by simp (disch := omega) only [q_lit, nI_add, pk_mul, q_sub, q_rem, q_div, q_vp, q_cl, q_lt, q_le, q_eq, q_neg1, gI_def], show (86 : Int32) + nI (atF a p) = nI (86 + atF a p) by simp (disch := omega) only [q_lit, nI_add, pk_mul, q_sub, q_rem, q_div, q_vp, q_cl, q_lt, q_le, q_eq, q_neg1, gI_def], show (20 : Int32) + nI (atF a p) = nI (20 + atF a p) by simp (disch := omega) only [q_lit, nI_add, pk_mul, q_sub, q_rem, q_div, q_vp, q_cl, q_lt, q_le, q_eq, q_neg1, gI_def], q_cl (by omega), q_cl (by omega), q_cl (by omega), q_cl (by omega), gI_def, gI_def, gI_def, gI_def, gI_def, f6, f8, cel.1, cel.2.2.1, hL.1.2.2.1]
  have hκ : κ = 9 ∨ κ = 10 ∨ κ = 11 ∨ κ = 12 ∨ κ = 13 ∨ κ = 14 ∨ κ = 15 := by omega
  have z : ∀ {P Q : Prop}, ¬ P → P → Q := fun h q => absurd q h
  rcases hκ with rfl | rfl | rfl | rfl | rfl | rfl | rfl
  · exact ⟨fun _ => ⟨rl_in (k := 51) (by decide), H _ rfl⟩, z (by decide), z (by decide), z (by decide), z (by decide), z (by decide), fun h _ _ _ _ _ => absurd rfl h⟩
  · exact ⟨z (by decide), fun _ => H _ (by rw [nI_toInt (by omega)]; rfl), z (by decide), z (by decide), z (by decide), z (by decide), fun _ h _ _ _ _ => absurd rfl h⟩
  · exact ⟨z (by decide), z (by decide), fun _ => ⟨rl_in (by omega), H _ (by rw [← f5]; rfl)⟩, z (by decide), z (by decide), z (by decide), fun _ _ h _ _ _ => absurd rfl h⟩
  · exact ⟨z (by decide), z (by decide), z (by decide), fun _ => ⟨rl_in (by omega), H _ (by rw [← f7]; rfl)⟩, z (by decide), z (by decide), fun _ _ _ h _ _ => absurd rfl h⟩
  · exact ⟨z (by decide), z (by decide), z (by decide), z (by decide), fun _ => H _ (by rw [← g1]; rfl), z (by decide), fun _ _ _ _ h _ => absurd rfl h⟩
  · exact ⟨z (by decide), z (by decide), z (by decide), z (by decide), z (by decide), fun _ => ⟨rl_in (by omega), H _ rfl⟩, fun _ _ _ _ _ h => absurd rfl h⟩
  · exact ⟨z (by decide), z (by decide), z (by decide), z (by decide), z (by decide), z (by decide), fun _ _ _ _ _ _ => ⟨rl_in (by omega), H _ rfl⟩⟩
theorem envB {u : PoS} {b p : Nat} {a ρ : Nat → Int32} {s : Int32} (hL : Liv ρ a) (hp : p < nN (a 0)) (hs : Sm 99 s) : BE (env a p s) := by
  obtain ⟨c, w, t, d, hc, hw, ht, hd, hp5, f1, f2, f3, f4, f5, f6, f7, f8⟩ := hL.per hp
  obtain ⟨h30, g1, g2, -⟩ := atF_of hL hp
  obtain ⟨m, hm, em⟩ := hL.2.1.2.2.2.1
  obtain ⟨n, hn, rfl⟩ := hs
  have cel : ∀ x, x < 30 → (0 ≤ (a (40 + x)).toInt ∧ (a (40 + x)).toInt ≤ 99) ∧ 0 ≤ (a (70 + x)).toInt ∧ (a (70 + x)).toInt ≤ 99 := fun x hx => by
    obtain ⟨-, ⟨i, hi, e1⟩, -, ⟨j, hj, e2⟩, -⟩ := hL.2.2.2.1 x hx
    rw [e1, e2, nI_toInt (by omega), nI_toInt (by omega)]; omega
  have cc := cel _ h30
  intro i hi
  unfold env
  rw [em, f5, f7, f1, nI_toInt (by omega), nI_toInt (by omega), nI_toInt (by omega), nI_toInt (by omega), nI_toInt (by omega)]
  split
  · omega
  split
  · omega
  split
  · omega
  split
  · omega
  split
  · omega
  split
  · omega
  split
  · omega
  split
  · omega
  · have := cel (i - 8) (by omega)
    omega
theorem XN_le {A : Nat → Nat × Nat} {e : Nat → Int} {j : Nat} {W : List Int} : ∀ {n i : Nat} {V : List Int}, XN A e n i V j W → i ≤ j := by
  intro n
  induction n with
  | zero => rintro i V ⟨rfl, rfl⟩; exact Nat.le_refl _
  | succ n ih =>
    rintro i V ⟨i1, V1, ⟨-, h1⟩, h2⟩
    have := ih h2
    rcases h1 with ⟨_, _, _, h⟩ | ⟨_, _, h⟩ | ⟨_, h, _, h', _⟩ | ⟨_, h, _, x, _, h'⟩ | ⟨_, x, Z, _, _, h⟩ | ⟨_, x, Z, _, _, h⟩ | ⟨_, x, Z, _, _, h⟩ | ⟨o, _, h, _⟩
    · omega
    · omega
    · omega
    · split at h' <;> omega
    · omega
    · omega
    · omega
    · omega
theorem b01_t {x : Int32} {t : Bool} (h : x.toInt = b01 t) : x = nI (if t = true then 1 else 0) := by
  apply i32_eq
  rw [h]; cases t <;> rfl
theorem bd01 (t : Bool) : Bd (b01 t) := by unfold Bd; cases t <;> decide
