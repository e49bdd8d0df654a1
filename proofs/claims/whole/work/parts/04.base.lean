/-! THE STATE of class and reference as one: component j (0 .. 68) is an object or an array of the two systems; gI u j k is the int in it at place k (an object's slot, an array's place), gL a long, gR the component that a moving reference names. -/
abbrev PoS : Type := (Nat → Nat → Int32) × (Nat → Nat → Int64) × (Nat → Nat → Nat)
def gI (u : PoS) (j k : Nat) : Int32 := u.1 j k
def gL (u : PoS) (j k : Nat) : Int64 := u.2.1 j k
def gR (u : PoS) (j k : Nat) : Nat := u.2.2 j k
def pI (u : PoS) (j k : Nat) (v : Int32) : PoS := (fun a b => if a = j ∧ b = k then v else u.1 a b, u.2)
def pL (u : PoS) (j k : Nat) (v : Int64) : PoS := (u.1, fun a b => if a = j ∧ b = k then v else u.2.1 a b, u.2.2)
def pR (u : PoS) (j k : Nat) (v : Nat) : PoS := (u.1, u.2.1, fun a b => if a = j ∧ b = k then v else u.2.2 a b)
def cI (u : PoS) (j0 j1 sp dp n : Nat) : PoS := (fun a b => if a = j1 then va_cpy (u.1 j0) (u.1 j1) sp dp n b else u.1 a b, u.2)
/-- what a component is: an array (0 int, 1 long, 2 boolean, 3 laws) of a length, or an object: its class's place in vwCl, its slots (0 int, 1 long, 2 a moving reference, r + 3 the component r) -/
def lay : Nat → (Nat × Nat) ⊕ (Nat × List Nat)
  | 0 => .inr (8, [4, 5, 6, 8, 9, 30, 34, 0, 0, 35, 38, 41, 47])
  | 1 => .inr (6, [6, 9, 49])
  | 2 => .inr (6, [7, 9, 49])
  | 3 => .inl (0, 2735)
  | 4 => .inl (0, 117)
  | 5 => .inl (0, 2735)
  | 6 => .inl (3, 4)
  | 7 => .inr (2, [14, 15, 16, 17, 0, 0, 0, 0])
  | 8 => .inr (2, [18, 19, 20, 21, 0, 0, 0, 0])
  | 9 => .inr (2, [22, 23, 24, 25, 0, 0, 0, 0])
  | 10 => .inr (2, [26, 27, 28, 29, 0, 0, 0, 0])
  | 11 => .inl (0, 24)
  | 12 => .inl (0, 24)
  | 13 => .inl (0, 24)
  | 14 => .inl (0, 300)
  | 15 => .inl (0, 24)
  | 16 => .inl (0, 24)
  | 17 => .inl (0, 24)
  | 18 => .inl (0, 300)
  | 19 => .inl (0, 24)
  | 20 => .inl (0, 24)
  | 21 => .inl (0, 24)
  | 22 => .inl (0, 300)
  | 23 => .inl (0, 24)
  | 24 => .inl (0, 24)
  | 25 => .inl (0, 24)
  | 26 => .inl (0, 300)
  | 27 => .inr (4, [0, 0, 31, 32, 33, 0, 0, 0, 2, 0, 0])
  | 28 => .inl (0, 301)
  | 29 => .inl (0, 301)
  | 30 => .inl (0, 301)
  | 31 => .inl (0, 300)
  | 32 => .inr (0, [0, 0, 36, 37])
  | 33 => .inl (0, 30)
  | 34 => .inl (0, 30)
  | 35 => .inr (7, [0, 39, 40, 0, 0])
  | 36 => .inl (0, 5)
  | 37 => .inl (0, 5)
  | 38 => .inr (5, [0, 42, 43, 44, 45, 2, 0, 0])
  | 39 => .inl (0, 7)
  | 40 => .inl (0, 7)
  | 41 => .inl (0, 5)
  | 42 => .inl (0, 35)
  | 43 => .inl (0, 0)
  | 44 => .inr (3, [48])
  | 45 => .inl (0, 30)
  | 46 => .inr (1, [50])
  | 47 => .inl (0, 64)
  | 48 => .inr (9, [52, 53, 54, 55, 0, 0, 0, 0, 0, 0, 0, 1, 0, 0, 0, 56, 0, 0, 0, 0, 57, 58, 59, 60, 0, 0, 61, 62, 63, 64, 65, 66, 67, 68, 69, 70, 71])
  | 49 => .inl (0, 3703)
  | 50 => .inl (0, 3703)
  | 51 => .inl (0, 2724)
  | 52 => .inl (0, 300)
  | 53 => .inl (0, 160)
  | 54 => .inl (0, 8)
  | 55 => .inl (1, 330)
  | 56 => .inl (2, 330)
  | 57 => .inl (0, 30)
  | 58 => .inl (0, 70)
  | 59 => .inl (0, 900)
  | 60 => .inl (0, 30)
  | 61 => .inl (0, 5)
  | 62 => .inl (0, 5)
  | 63 => .inl (0, 36)
  | 64 => .inl (0, 5)
  | 65 => .inl (0, 7)
  | 66 => .inl (0, 7)
  | 67 => .inl (0, 5)
  | 68 => .inl (1, 11)
  | _ => .inl (0, 0)
def fv (ad : Nat → Nat) (u : PoS) (j k : Nat) : Nat → Value
  | 0 => .int (gI u j k)
  | 1 => .long (gL u j k)
  | 2 => .ref (ad (gR u j k))
  | r + 3 => .ref (ad r)
def fvs (ad : Nat → Nat) (u : PoS) (j : Nat) : Nat → List Nat → List Value
  | _, [] => []
  | k, c :: cs => fv ad u j k c :: fvs ad u j (k + 1) cs
theorem fvs_get (ad : Nat → Nat) (u : PoS) (j : Nat) : ∀ (ks : List Nat) (k0 k : Nat), (fvs ad u j k0 ks)[k]? = (ks[k]?).map (fun c => fv ad u j (k0 + k) c)
  | [], _, _ => by simp [fvs]
  | c :: cs, k0, 0 => by simp [fvs]
  | c :: cs, k0, k + 1 => by
    have h := fvs_get ad u j cs (k0 + 1) k
    simp only [fvs, List.getElem?_cons_succ, h]
    rw [show k0 + 1 + k = k0 + (k + 1) by omega]
theorem fvs_len (ad : Nat → Nat) (u : PoS) (j : Nat) : ∀ (ks : List Nat) (k0 : Nat), (fvs ad u j k0 ks).length = ks.length
  | [], _ => rfl
  | c :: cs, k0 => by simp [fvs, fvs_len ad u j cs (k0 + 1)]
theorem fv_congr {ad : Nat → Nat} {u u' : PoS} {j : Nat} {k : Nat} (h1 : u'.1 j k = u.1 j k) (h2 : u'.2.1 j k = u.2.1 j k) (h3 : u'.2.2 j k = u.2.2 j k) (c : Nat) : fv ad u' j k c = fv ad u j k c := by
  match c with
  | 0 => simp [fv, gI, h1]
  | 1 => simp [fv, gL, h2]
  | 2 => simp [fv, gR, h3]
  | r + 3 => rfl
/-- one slot is another: all others stay -/
theorem fvs_set {ad : Nat → Nat} {u u' : PoS} {j k c : Nat} {ks : List Nat} {v : Value} (hk : ks[k]? = some c) (hv : fv ad u' j k c = v) (h1 : ∀ b, b ≠ k → u'.1 j b = u.1 j b) (h2 : ∀ b, b ≠ k → u'.2.1 j b = u.2.1 j b) (h3 : ∀ b, b ≠ k → u'.2.2 j b = u.2.2 j b) : (fvs ad u j 0 ks).set k v = fvs ad u' j 0 ks := by
  apply List.ext_getElem?
  intro i
  rw [List.getElem?_set, fvs_get, fvs_get, fvs_len]
  have hkl : k < ks.length := (List.getElem?_eq_some_iff.mp hk).1
  by_cases hi : k = i
  · subst hi
    rw [if_pos rfl, if_pos hkl, hk, Nat.zero_add]
    simp [hv]
  · rw [if_neg hi, Nat.zero_add]
    cases h : ks[i]? with
    | none => rfl
    | some c' => simp only [Option.map_some]; rw [fv_congr (h1 i (Ne.symm hi)) (h2 i (Ne.symm hi)) (h3 i (Ne.symm hi))]
def cel (ad : Nat → Nat) (cy : Nat → ClassId) (u : PoS) (j : Nat) : va_E := match lay j with
  | .inl (t, n) => .inl (cy j, n, if t = 1 then .inr (.inl (u.2.1 j)) else if t = 3 then .inr (.inr (.inr (.inr (fun k => some (ad (7 + k)))))) else .inl (u.1 j))
  | .inr (ci, ks) => .inr (ci, fvs ad u j 0 ks)
theorem fvs_congr {ad : Nat → Nat} {u u' : PoS} {j : Nat} (h1 : u'.1 j = u.1 j) (h2 : u'.2.1 j = u.2.1 j) (h3 : u'.2.2 j = u.2.2 j) (ks : List Nat) : fvs ad u' j 0 ks = fvs ad u j 0 ks := by
  apply List.ext_getElem?
  intro i
  rw [fvs_get, fvs_get]
  cases h : ks[i]? with
  | none => rfl
  | some c' => exact congrArg some (fv_congr (congrFun h1 _) (congrFun h2 _) (congrFun h3 _) c')
theorem cel_congr {ad : Nat → Nat} {cy : Nat → ClassId} {u u' : PoS} {j : Nat} (h1 : u'.1 j = u.1 j) (h2 : u'.2.1 j = u.2.1 j) (h3 : u'.2.2 j = u.2.2 j) : cel ad cy u' j = cel ad cy u j := by
  unfold cel
  split
  · rw [h1, h2]
  · rw [fvs_congr h1 h2 h3]
def aty (x : (Nat × Nat) ⊕ (Nat × List Nat)) : FieldType := match x with
  | .inl (t, _) => if t = 1 then .long else if t = 2 then .boolean else if t = 3 then .object "RainOnTheOne$Law" else .int
  | .inr _ => .int
def Wd (ad : Nat → Nat) (cy : Nat → ClassId) (u : PoS) : va_W := (List.range 69).map (fun j => (ad j, cel ad cy u j))
def tysL (cy : Nat → ClassId) : List (ClassId × FieldType) := (List.range 69).map (fun j => (cy j, aty (lay j)))
theorem Wd_get {ad : Nat → Nat} {cy : Nat → ClassId} {u : PoS} {j : Nat} (h : j < 69) : (Wd ad cy u)[j]? = some (ad j, cel ad cy u j) := by simp [Wd, h]
theorem tys_get {cy : Nat → ClassId} {j : Nat} (h : j < 69) : (tysL cy)[j]? = some (cy j, aty (lay j)) := by simp [tysL, h]
theorem Wd_set {ad : Nat → Nat} {cy : Nat → ClassId} {u u' : PoS} {j : Nat} {e : va_E} (he : cel ad cy u' j = e) (hc : ∀ i, i ≠ j → cel ad cy u' i = cel ad cy u i) : (Wd ad cy u).set j (ad j, e) = Wd ad cy u' := by
  apply List.ext_getElem?
  intro i
  subst he
  rw [List.getElem?_set]
  by_cases hi : j = i
  · subst hi
    by_cases h : j < 69
    · rw [Wd_get h]; simp [Wd, h]
    · simp [Wd, h]
  · rw [if_neg hi]
    by_cases h : i < 69
    · rw [Wd_get h, Wd_get h, hc i (Ne.symm hi)]
    · simp [Wd, h]
theorem cel_pI_ne {ad : Nat → Nat} {cy : Nat → ClassId} {u : PoS} {j k : Nat} {v : Int32} (i : Nat) (h : i ≠ j) : cel ad cy (pI u j k v) i = cel ad cy u i := cel_congr (by funext b; simp [pI, h]) rfl rfl
theorem cel_pL_ne {ad : Nat → Nat} {cy : Nat → ClassId} {u : PoS} {j k : Nat} {v : Int64} (i : Nat) (h : i ≠ j) : cel ad cy (pL u j k v) i = cel ad cy u i := cel_congr rfl (by funext b; simp [pL, h]) rfl
theorem cel_pR_ne {ad : Nat → Nat} {cy : Nat → ClassId} {u : PoS} {j k : Nat} {v : Nat} (i : Nat) (h : i ≠ j) : cel ad cy (pR u j k v) i = cel ad cy u i := cel_congr rfl rfl (by funext b; simp [pR, h])
theorem cel_cI_ne {ad : Nat → Nat} {cy : Nat → ClassId} {u : PoS} {j0 j sp dp n : Nat} (i : Nat) (h : i ≠ j) : cel ad cy (cI u j0 j sp dp n) i = cel ad cy u i := cel_congr (by funext b; simp [cI, h]) rfl rfl
theorem cel_arr {ad : Nat → Nat} {cy : Nat → ClassId} {u : PoS} {j t n : Nat} (h : lay j = .inl (t, n)) : cel ad cy u j = .inl (cy j, n, if t = 1 then .inr (.inl (u.2.1 j)) else if t = 3 then .inr (.inr (.inr (.inr (fun k => some (ad (7 + k)))))) else .inl (u.1 j)) := by simp [cel, h]
theorem cel_obj {ad : Nat → Nat} {cy : Nat → ClassId} {u : PoS} {j ci : Nat} {ks : List Nat} (h : lay j = .inr (ci, ks)) : cel ad cy u j = .inr (ci, fvs ad u j 0 ks) := by simp [cel, h]
theorem lay_law {i : Nat} (h : i < 4) : lay (7 + i) = .inr (2, [14 + 4 * i, 15 + 4 * i, 16 + 4 * i, 17 + 4 * i, 0, 0, 0, 0]) := by
  match i, h with
  | 0, _ => rfl
  | 1, _ => rfl
  | 2, _ => rfl
  | 3, _ => rfl
theorem lay_lk {i c : Nat} (h : i < 4) (hc : c < 3) : lay (11 + 4 * i + c) = .inl (0, 24) := by
  match i, h, c, hc with
  | 0, _, 0, _ => rfl
  | 0, _, 1, _ => rfl
  | 0, _, 2, _ => rfl
  | 1, _, 0, _ => rfl
  | 1, _, 1, _ => rfl
  | 1, _, 2, _ => rfl
  | 2, _, 0, _ => rfl
  | 2, _, 1, _ => rfl
  | 2, _, 2, _ => rfl
  | 3, _, 0, _ => rfl
  | 3, _, 1, _ => rfl
  | 3, _, 2, _ => rfl
theorem lay_lc {i : Nat} (h : i < 4) : lay (14 + 4 * i) = .inl (0, 300) := by
  match i, h with
  | 0, _ => rfl
  | 1, _ => rfl
  | 2, _ => rfl
  | 3, _ => rfl
def rowLen (b : Nat) : Nat := if b = 0 then 2735 else 117
theorem lay_sky {b : Nat} (h : b < 2) : lay (1 + b) = .inr (6, [6 + b, 9, 49]) := by
  match b, h with
  | 0, _ => rfl
  | 1, _ => rfl
theorem lay_row {b : Nat} (h : b < 2) : lay (3 + b) = .inl (0, rowLen b) := by
  match b, h with
  | 0, _ => rfl
  | 1, _ => rfl
/-- reading behind a write -/
theorem gI_pI (u : PoS) (j k : Nat) (v : Int32) (a b : Nat) : gI (pI u j k v) a b = if a = j ∧ b = k then v else gI u a b := rfl
theorem gI_pL (u : PoS) (j k : Nat) (v : Int64) (a b : Nat) : gI (pL u j k v) a b = gI u a b := rfl
theorem gI_pR (u : PoS) (j k : Nat) (v : Nat) (a b : Nat) : gI (pR u j k v) a b = gI u a b := rfl
theorem gL_pI (u : PoS) (j k : Nat) (v : Int32) (a b : Nat) : gL (pI u j k v) a b = gL u a b := rfl
theorem gL_pL (u : PoS) (j k : Nat) (v : Int64) (a b : Nat) : gL (pL u j k v) a b = if a = j ∧ b = k then v else gL u a b := rfl
theorem gL_pR (u : PoS) (j k : Nat) (v : Nat) (a b : Nat) : gL (pR u j k v) a b = gL u a b := rfl
theorem gR_pI (u : PoS) (j k : Nat) (v : Int32) (a b : Nat) : gR (pI u j k v) a b = gR u a b := rfl
theorem gR_pL (u : PoS) (j k : Nat) (v : Int64) (a b : Nat) : gR (pL u j k v) a b = gR u a b := rfl
theorem gR_pR (u : PoS) (j k : Nat) (v : Nat) (a b : Nat) : gR (pR u j k v) a b = if a = j ∧ b = k then v else gR u a b := rfl
theorem gI_cI (u : PoS) (j0 j1 sp dp n a b : Nat) : gI (cI u j0 j1 sp dp n) a b = if a = j1 then (if dp ≤ b ∧ b < dp + n then gI u j0 (sp + (b - dp)) else gI u j1 b) else gI u a b := rfl
theorem gL_cI (u : PoS) (j0 j1 sp dp n a b : Nat) : gL (cI u j0 j1 sp dp n) a b = gL u a b := rfl
theorem gR_cI (u : PoS) (j0 j1 sp dp n a b : Nat) : gR (cI u j0 j1 sp dp n) a b = gR u a b := rfl
