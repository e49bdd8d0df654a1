/-! MORE ROWS: names for a remainder and an unsigned shift; a name for the top of the stack; literal places; the laws' components -/
def irem (x y : Int32) : Int32 := x - x / y * y
def lrem (x y : Int64) : Int64 := x - x / y * y
def ushr (x y : Int32) : Int32 := (x.toUInt32 >>> (y.toUInt32 &&& Int32.toUInt32 31)).toInt32
def imax (x y : Int32) : Int32 := if x < y then y else x
def imin (x y : Int32) : Int32 := if y < x then y else x
def lmax (x y : Int64) : Int64 := if y < x then x else y
def lmin (x y : Int64) : Int64 := if y < x then y else x
theorem vp4 {x : Int32} (h : vp_in x 4) : x.toNatClampNeg < 4 := Nat.not_le.mp fun q => h (Or.inr q)
theorem lw_obj {i : Nat} (h : i < 4) : lay (7 + i) = .inr (2, [11 + 4 * i + 3, 12 + 4 * i + 3, 13 + 4 * i + 3, 14 + 4 * i + 3, 0, 0, 0, 0]) := by
  match i, h with
  | 0, _ => rfl
  | 1, _ => rfl
  | 2, _ => rfl
  | 3, _ => rfl
theorem lw_l0 {i : Nat} (h : i < 4) : lay (11 + 4 * i) = .inl (0, 24) := by
  match i, h with
  | 0, _ => rfl
  | 1, _ => rfl
  | 2, _ => rfl
  | 3, _ => rfl
theorem lw_l1 {i : Nat} (h : i < 4) : lay (12 + 4 * i) = .inl (0, 24) := by
  match i, h with
  | 0, _ => rfl
  | 1, _ => rfl
  | 2, _ => rfl
  | 3, _ => rfl
theorem lw_l2 {i : Nat} (h : i < 4) : lay (13 + 4 * i) = .inl (0, 24) := by
  match i, h with
  | 0, _ => rfl
  | 1, _ => rfl
  | 2, _ => rfl
  | 3, _ => rfl
theorem sk_obj {b : Nat} (h : b < 2) : lay (1 + b) = .inr (6, [3 + b + 3, 6 + 3, 46 + 3]) := by
  match b, h with
  | 0, _ => rfl
  | 1, _ => rfl
section AROWS2
variable {p : Program} {l : Launch} {e : Env} {R : Room} {s : State} {m : MethodId} {args : Array Value} {below : List Frame} {meth : Method} {c : Code} {V : VEn} {nL nc ns : Nat} {Q : State → Prop} {cc : ByteArray} {own : String} {ret : Option FieldType} {pc : Nat} {lv : List (Nat × Value)} {rest : List Value} {u : PoS}
theorem a_topi {x : Int32} (kk : ∀ y : Int32, y = x → AtS p l e R s m args below meth c V nL nc ns Q pc lv (.int y :: rest) u) : AtS p l e R s m args below meth c V nL nc ns Q pc lv (.int x :: rest) u := kk x rfl
theorem a_topl {x : Int64} (kk : ∀ y : Int64, y = x → AtS p l e R s m args below meth c V nL nc ns Q pc lv (.long y :: rest) u) : AtS p l e R s m args below meth c V nL nc ns Q pc lv (.long x :: rest) u := kk x rfl
theorem a_topu {st : List Value} (kk : ∀ z : PoS, z = u → AtS p l e R s m args below meth c V nL nc ns Q pc lv st z) : AtS p l e R s m args below meth c V nL nc ns Q pc lv st u := kk u rfl
theorem b_irem (C : CxS p s m args meth c V cc nL own ret) {x y : Int32} (hd : decode cc pc = .ok (.irem, 1)) (hne : ¬ y = 0) (kk : AtS p l e R s m args below meth c V nL nc ns Q (pc + 1) lv (.int (irem x y) :: rest) u) : AtS p l e R s m args below meth c V nL nc ns Q pc lv (.int y :: .int x :: rest) u := a_irem C hd hne kk
theorem b_lrem (C : CxS p s m args meth c V cc nL own ret) {x y : Int64} (hd : decode cc pc = .ok (.lrem, 1)) (hne : ¬ y = 0) (kk : AtS p l e R s m args below meth c V nL nc ns Q (pc + 1) lv (.long (lrem x y) :: rest) u) : AtS p l e R s m args below meth c V nL nc ns Q pc lv (.long y :: .long x :: rest) u := a_lrem C hd hne kk
theorem b_iushr (C : CxS p s m args meth c V cc nL own ret) {x y : Int32} (hd : decode cc pc = .ok (.iushr, 1)) (kk : AtS p l e R s m args below meth c V nL nc ns Q (pc + 1) lv (.int (ushr x y) :: rest) u) : AtS p l e R s m args below meth c V nL nc ns Q pc lv (.int y :: .int x :: rest) u := a_iushr C hd kk
theorem b_iald (C : CxS p s m args meth c V cc nL own ret) {j n : Nat} {i : Int32} (k : Nat) (hd : decode cc pc = .ok (.iaload, 1)) (hj : j < 69) (hl : lay j = .inl (0, n)) (hi : vp_in i n) (hk : i.toNatClampNeg = k) (kk : AtS p l e R s m args below meth c V nL nc ns Q (pc + 1) lv (.int (gI u j k) :: rest) u) : AtS p l e R s m args below meth c V nL nc ns Q pc lv (.int i :: .ref (eA V j) :: rest) u := by
  subst hk
  exact a_iald C hd hj hl hi kk
theorem b_zald (C : CxS p s m args meth c V cc nL own ret) {j n : Nat} {i : Int32} (k : Nat) (hd : decode cc pc = .ok (.baload, 1)) (hj : j < 69) (hl : lay j = .inl (2, n)) (hi : vp_in i n) (hk : i.toNatClampNeg = k) (kk : AtS p l e R s m args below meth c V nL nc ns Q (pc + 1) lv (.int (gI u j k) :: rest) u) : AtS p l e R s m args below meth c V nL nc ns Q pc lv (.int i :: .ref (eA V j) :: rest) u := by
  subst hk
  exact a_zald C hd hj hl hi kk
theorem b_lald (C : CxS p s m args meth c V cc nL own ret) {j n : Nat} {i : Int32} (k : Nat) (hd : decode cc pc = .ok (.laload, 1)) (hj : j < 69) (hl : lay j = .inl (1, n)) (hi : vp_in i n) (hk : i.toNatClampNeg = k) (kk : AtS p l e R s m args below meth c V nL nc ns Q (pc + 1) lv (.long (gL u j k) :: rest) u) : AtS p l e R s m args below meth c V nL nc ns Q pc lv (.int i :: .ref (eA V j) :: rest) u := by
  subst hk
  exact a_lald C hd hj hl hi kk
theorem b_iast (C : CxS p s m args meth c V cc nL own ret) {j n : Nat} {i v : Int32} (k : Nat) (hd : decode cc pc = .ok (.iastore, 1)) (hj : j < 69) (hl : lay j = .inl (0, n)) (hi : vp_in i n) (hk : i.toNatClampNeg = k) (kk : AtS p l e R s m args below meth c V nL nc ns Q (pc + 1) lv rest (pI u j k v)) : AtS p l e R s m args below meth c V nL nc ns Q pc lv (.int v :: .int i :: .ref (eA V j) :: rest) u := by
  subst hk
  exact a_iast C hd hj hl hi kk
theorem b_zast (C : CxS p s m args meth c V cc nL own ret) {j n : Nat} {i v : Int32} (k : Nat) (hd : decode cc pc = .ok (.bastore, 1)) (hj : j < 69) (hl : lay j = .inl (2, n)) (hi : vp_in i n) (hk : i.toNatClampNeg = k) (kk : AtS p l e R s m args below meth c V nL nc ns Q (pc + 1) lv rest (pI u j k (vp_nar .boolean v))) : AtS p l e R s m args below meth c V nL nc ns Q pc lv (.int v :: .int i :: .ref (eA V j) :: rest) u := by
  subst hk
  exact a_zast C hd hj hl hi kk
theorem b_last (C : CxS p s m args meth c V cc nL own ret) {j n : Nat} {i : Int32} {v : Int64} (k : Nat) (hd : decode cc pc = .ok (.lastore, 1)) (hj : j < 69) (hl : lay j = .inl (1, n)) (hi : vp_in i n) (hk : i.toNatClampNeg = k) (kk : AtS p l e R s m args below meth c V nL nc ns Q (pc + 1) lv rest (pL u j k v)) : AtS p l e R s m args below meth c V nL nc ns Q pc lv (.long v :: .int i :: .ref (eA V j) :: rest) u := by
  subst hk
  exact a_last C hd hj hl hi kk
theorem b_mmax (C : CxS p s m args meth c V cc nL own ret) {index : Nat} {x y : Int32} (hd : decode cc pc = .ok (.invokestatic index, 3)) (w1 : Cond.methodLink own index Lib.Math.max.name ∈ BW) (w2 : Cond.static Lib.Math.max.name ∈ BW) (w3 : Cond.initialized "java/lang/Math" ∈ BW) (w4 : Cond.code Lib.Math.max.name Lib.Math.max.code 2 (some .int) ∈ BW) (hf : 1 ≤ R.frames) (hlo : (rest.map fun v => v.category).sum + 13 ≤ R.locals) (hcs : nc ≤ R.cells ∧ ns ≤ R.slots) (kk : AtS p l e R s m args below meth c V nL nc ns Q (pc + 3) lv (.int (imax x y) :: rest) u) : AtS p l e R s m args below meth c V nL nc ns Q pc lv (.int y :: .int x :: rest) u := a_mmax C hd w1 w2 w3 w4 hf hlo hcs kk
theorem b_mmin (C : CxS p s m args meth c V cc nL own ret) {index : Nat} {x y : Int32} (hd : decode cc pc = .ok (.invokestatic index, 3)) (w1 : Cond.methodLink own index Lib.Math.min.name ∈ BW) (w2 : Cond.static Lib.Math.min.name ∈ BW) (w3 : Cond.initialized "java/lang/Math" ∈ BW) (w4 : Cond.code Lib.Math.min.name Lib.Math.min.code 2 (some .int) ∈ BW) (hf : 1 ≤ R.frames) (hlo : (rest.map fun v => v.category).sum + 13 ≤ R.locals) (hcs : nc ≤ R.cells ∧ ns ≤ R.slots) (kk : AtS p l e R s m args below meth c V nL nc ns Q (pc + 3) lv (.int (imin x y) :: rest) u) : AtS p l e R s m args below meth c V nL nc ns Q pc lv (.int y :: .int x :: rest) u := a_mmin C hd w1 w2 w3 w4 hf hlo hcs kk
theorem b_mmaxL (C : CxS p s m args meth c V cc nL own ret) {index : Nat} {x y : Int64} (hd : decode cc pc = .ok (.invokestatic index, 3)) (w1 : Cond.methodLink own index Lib.MathLoose.max_long.x ∈ BW) (w2 : Cond.static Lib.MathLoose.max_long.x ∈ BW) (w3 : Cond.initialized "java/lang/Math" ∈ BW) (w4 : Cond.code Lib.MathLoose.max_long.x Lib.MathLoose.max_long.code 4 (some .long) ∈ BW) (hf : 1 ≤ R.frames) (hlo : (rest.map fun v => v.category).sum + 15 ≤ R.locals) (hcs : nc ≤ R.cells ∧ ns ≤ R.slots) (kk : AtS p l e R s m args below meth c V nL nc ns Q (pc + 3) lv (.long (lmax x y) :: rest) u) : AtS p l e R s m args below meth c V nL nc ns Q pc lv (.long y :: .long x :: rest) u := a_mmaxL C hd w1 w2 w3 w4 hf hlo hcs kk
theorem b_mminL (C : CxS p s m args meth c V cc nL own ret) {index : Nat} {x y : Int64} (hd : decode cc pc = .ok (.invokestatic index, 3)) (w1 : Cond.methodLink own index Lib.MathLoose.min_long.x ∈ BW) (w2 : Cond.static Lib.MathLoose.min_long.x ∈ BW) (w3 : Cond.initialized "java/lang/Math" ∈ BW) (w4 : Cond.code Lib.MathLoose.min_long.x Lib.MathLoose.min_long.code 4 (some .long) ∈ BW) (hf : 1 ≤ R.frames) (hlo : (rest.map fun v => v.category).sum + 15 ≤ R.locals) (hcs : nc ≤ R.cells ∧ ns ≤ R.slots) (kk : AtS p l e R s m args below meth c V nL nc ns Q (pc + 3) lv (.long (lmin x y) :: rest) u) : AtS p l e R s m args below meth c V nL nc ns Q pc lv (.long y :: .long x :: rest) u := a_mminL C hd w1 w2 w3 w4 hf hlo hcs kk
end AROWS2
theorem vp_lit {i : Int32} {n : Nat} (h : ¬ (i < 0 ∨ n ≤ i.toNatClampNeg)) : vp_in i n := h
def IsB (x : Int32) : Prop := x = 0 ∨ x = 1
theorem isB_n {x : Int32} (h : IsB x) : narrow .boolean (.int x) = .int x := by rcases h with rfl | rfl <;> rfl
theorem isB_f {x : Int32} (h : IsB x) : fits .boolean (.int x) = true := by rcases h with rfl | rfl <;> rfl
theorem tsw_out {x : Int32} (lo hi : Int) (h : ∀ q : Int, lo ≤ q → q ≤ hi → ¬ x.toInt = q) : x.toInt < lo ∨ hi < x.toInt := by
  by_cases h1 : x.toInt < lo
  · exact Or.inl h1
  · by_cases h2 : hi < x.toInt
    · exact Or.inr h2
    · exact absurd rfl (h x.toInt (by omega) (by omega))
theorem rm_ok {d n D : Nat} (h : d + 1 ≤ D) (hn : n ≤ 45) : d + 1 ≤ (Rm D).frames ∧ 8 + (n + 11) + 64 * d ≤ (Rm D).locals := ⟨h, by show _ ≤ 64 * D; omega⟩
theorem rm_f {D : Nat} (h : 1 ≤ D) : 1 ≤ (Rm D).frames := h
theorem rm_c {D : Nat} (h : 1 ≤ D) : (([] : List Value).map fun v => v.category).sum + (nativeFrameWords "java/lang/System" "arraycopy" 5 + 11) ≤ (Rm D).locals := Nat.le_trans (show _ ≤ 64 * 1 by decide) (Nat.mul_le_mul_left 64 h)
