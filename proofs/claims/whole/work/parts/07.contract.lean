/-! WORDS AND CONTRACTS: one list of words for every method; a method's contract over the state; the judgement AtS: 'from here, with these locals, this stack and this state, the method comes to its end' -/
def jsLen : List Nat := [136, 11]
def jsByt : List (List Int32) := [[119, 97, 110, 116, 115, 32, 112, 111, 117, 114, 115, 32, 112, 101, 114, 115, 111, 110, 32, 102, 105, 101, 108, 100, 32, 115, 104, 101, 100, 32, 119, 97, 108, 107, 32, 104, 97, 116, 32, 98, 97, 114, 101, 32, 100, 114, 97, 119, 32, 109, 105, 110, 117, 116, 101, 32, 119, 104, 111, 32, 119, 101, 116, 32, 98, 101, 101, 110, 32, 97, 116, 32, 110, 101, 101, 100, 32, 119, 97, 116, 101, 114, 32, 115, 116, 101, 112, 115, 32, 115, 104, 97, 114, 101, 32, 119, 97, 116, 101, 114, 115, 32, 105, 102, 32, 110, 111, 116, 32, 111, 102, 32, 116, 111, 32, 116, 104, 101, 110, 32, 101, 108, 115, 101, 32, 101, 110, 100, 32, 111, 114, 32, 97, 110, 100, 32], [60, 62, 61, 35, 43, 45, 42, 47, 40, 41, 59]]
def jsT0 : String := "wants pours person field shed walk hat bare draw minute who wet been at need water steps share waters if not of to then else end or and "
def jsT1 : String := "<>=#+-*/();"
/-- the room of a method from which calls go d deep -/
def Rm (d : Nat) : Room := { frames := d, cells := 0, slots := 0, locals := 64 * d }
/-- the names of a world: classes' numbers and slots, components' addresses, array classes, the two texts' objects and their rows -/
abbrev VEn : Type := (Nat → ClassId) × (Nat → Nat → Nat) × (Nat → Nat) × (Nat → ClassId) × (Nat → Nat) × (Nat → Nat)
abbrev eG (V : VEn) : va_G := (V.1, V.2.1)
abbrev eA (V : VEn) : Nat → Nat := V.2.2.1
abbrev eY (V : VEn) : Nat → ClassId := V.2.2.2.1
abbrev eK (V : VEn) : Nat → Nat := V.2.2.2.2.1
abbrev eV (V : VEn) : Nat → Nat := V.2.2.2.2.2
def WV (V : VEn) (u : PoS) : va_W := Wd (eA V) (eY V) u
def AX (V : VEn) (sz : Nat) : Nat → Prop := fun q => (∃ j, j < 69 ∧ q = eA V j) ∨ sz ≤ q
def Apart (V : VEn) : Prop := ∀ i j, i < 69 → j < 69 → eA V i = eA V j → i = j
def NW (U : State) : Prop := va_Nw (.methodLinkNest "RainOnTheOne$Sky" 32 yX11_isCell "RainOnTheOne") U ∧ va_Nw (.methodLinkNest "RainOnTheOne$Reader" 151 yX11_isWithin "RainOnTheOne") U ∧ va_Nw (.methodLinkNest "RainOnTheOne$Judge" 40 yX11_isCell "RainOnTheOne") U
def SK (V : VEn) (A : Nat → Prop) (U : State) : Prop := vk_R "RainOnTheOne$Reader" 93 jsT0 (eK V 0) U ∧ vk_R "RainOnTheOne$Reader" 105 jsT1 (eK V 1) U ∧ vk_S 2 jsLen jsByt (eK V) (eV V) A U U.heap ∧ va_Z "java/lang/String" "COMPACT_STRINGS" "Z" (.int 1) A U U.heap ∧ va_Zq "jdk/internal/util/Preconditions" "SIOOBE_FORMATTER" "Ljava/util/function/BiFunction;" A U U.heap
def EK (V : VEn) (sz : Nat) (U : State) : Prop := va_K (eG V) vwCl (tysL (eY V)) U ∧ Apart V ∧ NW U ∧ SK V (AX V sz) U
/-- what a method may take as given -/
def Pre (V : VEn) (sz : Nat) (u : PoS) (U : State) : Prop := U.heap.size = sz ∧ va_P (eG V) vwCl (WV V u) U.heap ∧ EK V sz U
def KI (l : Launch) (V : VEn) (y : MethodName) (cc : ByteArray) (n : Nat) (r : FieldType) (d : Nat) (av : List Value) (u : PoS) (post : Int32 → PoS → Prop) : Prop :=
  ∀ sz : Nat, Met l y (Cond.code y cc n (some r) :: BW) (Rm d) (va_Pc av (Pre V sz u)) (va_Qi post (fun u' t => va_P (eG V) vwCl (WV V u') t.heap) (AX V sz)) 0 0 (AX V sz)
def KL (l : Launch) (V : VEn) (y : MethodName) (cc : ByteArray) (n : Nat) (r : FieldType) (d : Nat) (av : List Value) (u : PoS) (post : Int64 → PoS → Prop) : Prop :=
  ∀ sz : Nat, Met l y (Cond.code y cc n (some r) :: BW) (Rm d) (va_Pc av (Pre V sz u)) (va_Ql post (fun u' t => va_P (eG V) vwCl (WV V u') t.heap) (AX V sz)) 0 0 (AX V sz)
def KV (l : Launch) (V : VEn) (y : MethodName) (cc : ByteArray) (n : Nat) (d : Nat) (av : List Value) (u : PoS) (post : PoS → Prop) : Prop :=
  ∀ sz : Nat, Met l y (Cond.code y cc n none :: BW) (Rm d) (va_Pc av (Pre V sz u)) (va_Qv post (fun u' t => va_P (eG V) vwCl (WV V u') t.heap) (AX V sz)) 0 0 (AX V sz)
/-- what a body's walk has at hand -/
def CxS (p : Program) (s : State) (m : MethodId) (args : Array Value) (meth : Method) (c : Code) (V : VEn) (cc : ByteArray) (nL : Nat) (own : String) (ret : Option FieldType) : Prop :=
  p.tables.exec = Jvm.exec ∧ c.code = cc ∧ c.maxLocals = nL ∧ s.vm.findClass own = some m.cls ∧ (∀ w ∈ BW, w.before args s = true) ∧ meth.sig.returnType = ret ∧ meth.locks = false ∧ EK V s.heap.size s
def AtS (p : Program) (l : Launch) (e : Env) (R : Room) (s : State) (m : MethodId) (args : Array Value) (below : List Frame) (meth : Method) (c : Code) (V : VEn) (nL nc ns : Nat) (Q : State → Prop) (pc : Nat) (lv : List (Nat × Value)) (st : List Value) (u : PoS) : Prop :=
  ∀ (H : Heap) (locs : List Loc) (ls : Array Slot), lv_has ls nL lv → va_P (eG V) vwCl (WV V u) H → va_S (AX V s.heap.size) s.heap H locs → W p l e R s m args below meth c H locs nc ns Q (F0 m pc ls st)
def QI (V : VEn) (below : List Frame) (args : Array Value) (s : State) (post : Int32 → PoS → Prop) : State → Prop := MQ below (va_Qi post (fun u' t => va_P (eG V) vwCl (WV V u') t.heap) (AX V s.heap.size)) args s 0 0 (AX V s.heap.size)
def QL (V : VEn) (below : List Frame) (args : Array Value) (s : State) (post : Int64 → PoS → Prop) : State → Prop := MQ below (va_Ql post (fun u' t => va_P (eG V) vwCl (WV V u') t.heap) (AX V s.heap.size)) args s 0 0 (AX V s.heap.size)
def QV (V : VEn) (below : List Frame) (args : Array Value) (s : State) (post : PoS → Prop) : State → Prop := MQ below (va_Qv post (fun u' t => va_P (eG V) vwCl (WV V u') t.heap) (AX V s.heap.size)) args s 0 0 (AX V s.heap.size)
theorem wv_in {V : VEn} {u : PoS} {i : Nat} {q : Nat × va_E} (h : (WV V u)[i]? = some q) : i < 69 ∧ q = (eA V i, cel (eA V) (eY V) u i) := by
  by_cases hi : i < 69
  · rw [WV, Wd_get hi] at h
    exact ⟨hi, (Option.some.inj h).symm⟩
  · simp [WV, Wd, hi] at h
theorem ax_D {V : VEn} {sz : Nat} (u : PoS) (h : Apart V) : va_D (AX V sz) (WV V u) := by
  refine ⟨fun i j p q hp hq e => ?_, fun k q hq => ?_⟩
  · obtain ⟨hi, rfl⟩ := wv_in hp
    obtain ⟨hj, rfl⟩ := wv_in hq
    exact h i j hi hj e
  · obtain ⟨hi, rfl⟩ := wv_in hq
    exact Or.inl ⟨k, hi, rfl⟩
theorem ax_le {V : VEn} {a b : Nat} (h : a ≤ b) : ∀ q, AX V b q → AX V a q := fun q hq => hq.elim Or.inl (fun z => Or.inr (Nat.le_trans h z))
theorem nw_warm {s U : State} (hW : s.WarmedH U.vm) (h : NW s) : NW U := ⟨va_Nw.warmM hW h.1, va_Nw.warmM hW h.2.1, va_Nw.warmM hW h.2.2⟩
theorem va_Z_same {C n d : String} {v : Value} {A : Nat → Prop} {u U : State} {H : Heap} (hvm : u.vm.Alike U.vm) (h : va_Z C n d v A u H) : va_Z C n d v A U H := va_Z.moved hvm h
/-- what holds at a method's entry holds at a call inside it -/
theorem ek_call {V : VEn} {s U : State} {H : Heap} {locs : List Loc} (h : EK V s.heap.size s) (hS : va_S (AX V s.heap.size) s.heap H locs) (hU : U.heap = H) (hW : s.WarmedH U.vm) : EK V H.size U := by
  obtain ⟨h1, h2, h3, h4, h5, h6, h7, h8⟩ := h
  refine ⟨va_K.moved hW.alike h1, h2, nw_warm hW h3, vk_R.warm hW h4, vk_R.warm hW h5, ?_, ?_, ?_⟩
  · rw [hU]
    exact ((vk_S.moved hW.alike h6).kept hS.2.1).narrow (ax_le hS.1)
  · rw [hU]
    exact ((va_Z.moved hW.alike h7).kept hS.2.1).narrow (ax_le hS.1)
  · rw [hU]
    exact ((va_Zq.moved hW.alike h8).kept hS.2.1).narrow (ax_le hS.1)
theorem pre_blind {V : VEn} {sz : Nat} {u : PoS} {av : List Value} : FrameBlind (va_Pc av (Pre V sz u)) := by
  intro a U g mk q
  obtain ⟨q0, q1, q2, q3, q4, q5, q6, q7, q8, q9, q10⟩ := q
  exact ⟨q0, q1, q2, va_K.moved (u := U) (U := U.calling g mk a) (Vm.Alike.refl U.vm) q3, q4, ⟨va_Nw.same rfl (u := U) rfl q5.1, va_Nw.same rfl (u := U) rfl q5.2.1, va_Nw.same rfl (u := U) rfl q5.2.2⟩, vk_R.same (u := U) rfl q6, vk_R.same (u := U) rfl q7, vk_S.moved (u := U) (U := U.calling g mk a) (Vm.Alike.refl U.vm) q8, va_Z.moved (u := U) (U := U.calling g mk a) (Vm.Alike.refl U.vm) q9, va_Zq.moved (u := U) (U := U.calling g mk a) (Vm.Alike.refl U.vm) q10⟩
