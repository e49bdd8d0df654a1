/-! RainOnTheOneModel.nextToken()V -/
def wj_X12_nextToken_26 (k0 : PoS → Prop) (post : PoS → Prop) (u : PoS) : Prop := ∀ z3 : PoS, z3 = pI u 48 7 ((gI u 48 7) + 1) → k0  z3
def wl_X12_nextToken_0 (k39 : PoS → Prop) (post : PoS → Prop) : Nat → PoS → Prop
  | 0, _ => False
  | n + 1, u => wp_X12_byteAt (gI u 48 7) u (fun (r1 : Int32) (u2 : PoS) => ((r1 = 32 → wj_X12_nextToken_26 (wl_X12_nextToken_0 k39 post n) post  u2) ∧ (¬ r1 = 32 → wp_X12_byteAt (gI u2 48 7) u2 (fun (r4 : Int32) (u5 : PoS) => ((¬ r4 = 10 → k39  u5) ∧ (r4 = 10 → wj_X12_nextToken_26 (wl_X12_nextToken_0 k39 post n) post  u5))))))
def wj_X12_nextToken_297 (post : PoS → Prop) (s0 : Int32) (u : PoS) : Prop := ∀ z22 : PoS, z22 = pI u 48 9 s0 → ∀ z23 : PoS, z23 = pI z22 48 7 ((gI z22 48 7) + 1) → post z23
def wj_X12_nextToken_272 (post : PoS → Prop) (v1 : Int32) (u : PoS) : Prop := wp_X12_byteAt (gI u 48 7) u (fun (r20 : Int32) (u21 : PoS) => ((¬ r20 = 61 → post u21) ∧ (r20 = 61 → ((¬ v1 = 60 → wj_X12_nextToken_297 post 5 u21) ∧ (v1 = 60 → wj_X12_nextToken_297 post 4 u21)))))
def wj_X12_nextToken_247 (post : PoS → Prop) (v1 : Int32) (s0 : Int32) (u : PoS) : Prop := ∀ z18 : PoS, z18 = pI u 48 9 s0 → ∀ z19 : PoS, z19 = pI z18 48 7 ((gI z18 48 7) + 1) → ((v1 = 60 → wj_X12_nextToken_272 post v1 z19) ∧ (¬ v1 = 60 → ((¬ v1 = 62 → post z19) ∧ (v1 = 62 → wj_X12_nextToken_272 post v1 z19))))
def wj_X12_nextToken_218 (k168 : PoS → Prop) (post : PoS → Prop) (s0 : Int64) (u : PoS) : Prop := ∀ z37 : PoS, z37 = pL u 48 11 s0 → ∀ z38 : PoS, z38 = pI z37 48 7 ((gI z37 48 7) + 1) → k168  z38
def wl_X12_nextToken_168 (post : PoS → Prop) : Nat → PoS → Prop
  | 0, _ => False
  | n + 1, u => wp_X12_byteAt (gI u 48 7) u (fun (r31 : Int32) (u32 : PoS) => wp_X12_isLetterByte r31 u32 (fun (r33 : Int32) (u34 : PoS) => ((r33 = 0 → post u34) ∧ (¬ r33 = 0 → (((lg_cmp ((gL u34 48 11) >>> (Int32.toInt64 48 &&& 63)) 0) = 0 → wp_X12_byteAt (gI u34 48 7) u34 (fun (r35 : Int32) (u36 : PoS) => wj_X12_nextToken_218 (wl_X12_nextToken_168 post n) post (((gL u34 48 11) <<< (Int32.toInt64 8 &&& 63)) ||| (Int32.toInt64 r35)) u36)) ∧ (¬ (lg_cmp ((gL u34 48 11) >>> (Int32.toInt64 48 &&& 63)) 0) = 0 → wj_X12_nextToken_218 (wl_X12_nextToken_168 post n) post 1152921504606846976 u34))))))
def wj_X12_nextToken_135 (k85 : PoS → Prop) (post : PoS → Prop) (s0 : Int32) (u : PoS) : Prop := ∀ z50 : PoS, z50 = pI u 48 10 s0 → ∀ z51 : PoS, z51 = pI z50 48 7 ((gI z50 48 7) + 1) → k85  z51
def wl_X12_nextToken_85 (post : PoS → Prop) : Nat → PoS → Prop
  | 0, _ => False
  | n + 1, u => wp_X12_byteAt (gI u 48 7) u (fun (r44 : Int32) (u45 : PoS) => wp_X12_isFigure r44 u45 (fun (r46 : Int32) (u47 : PoS) => ((r46 = 0 → post u47) ∧ (¬ r46 = 0 → (((gI u47 48 10) ≤ 99999 → wp_X12_byteAt (gI u47 48 7) u47 (fun (r48 : Int32) (u49 : PoS) => wj_X12_nextToken_135 (wl_X12_nextToken_85 post n) post (((10 * (gI u47 48 10)) + r48) - 48) u49)) ∧ (¬ (gI u47 48 10) ≤ 99999 → wj_X12_nextToken_135 (wl_X12_nextToken_85 post n) post (gI u47 48 10) u47))))))
def wp_X12_nextToken (u : PoS) (post : PoS → Prop) : Prop := (∃ n0, wl_X12_nextToken_0 (fun (u8 : PoS) => ∀ z9 : PoS, z9 = pI u8 48 8 (gI u8 48 7) → wp_X12_byteAt (gI z9 48 7) z9 (fun (r10 : Int32) (u11 : PoS) => ((0 ≤ r10 → wp_X12_isFigure r10 u11 (fun (r12 : Int32) (u13 : PoS) => ((r12 = 0 → wp_X12_isLetterByte r10 u13 (fun (r14 : Int32) (u15 : PoS) => ((r14 = 0 → wp_X12_isSign r10 u15 (fun (r16 : Int32) (u17 : PoS) => ((r16 = 0 → wj_X12_nextToken_247 post r10 3 u17) ∧ (¬ r16 = 0 → wj_X12_nextToken_247 post r10 r10 u17)))) ∧ (¬ r14 = 0 → ∀ z29 : PoS, z29 = pI u15 48 9 2 → ∀ z30 : PoS, z30 = pL z29 48 11 0 → (∃ n168, wl_X12_nextToken_168 post n168  z30))))) ∧ (¬ r12 = 0 → ∀ z42 : PoS, z42 = pI u13 48 9 1 → ∀ z43 : PoS, z43 = pI z42 48 10 0 → (∃ n85, wl_X12_nextToken_85 post n85  z43))))) ∧ (¬ 0 ≤ r10 → ∀ z55 : PoS, z55 = pI u11 48 9 0 → post z55)))) post n0  u)
set_option maxHeartbeats 4000000 in
set_option maxRecDepth 100000 in
theorem tj_X12_nextToken_26 {p : Program} {l : Launch} {e : Env} {s : State} {m : MethodId} {args : Array Value} {below : List Frame} {meth : Method} {c : Code} {V : VEn} {k0 : PoS → Prop} {post : PoS → Prop} (C : CxS p s m args meth c V cX12_nextToken 2 RX12 none) (hk0 : ∀ (u : PoS), k0  u → AtS p l e (Rm 1) s m args below meth c V 2 0 0 (QV V below args s post) 0 [(0, .ref (eA V 48))] [] u) (u : PoS) (h : wj_X12_nextToken_26 k0 post  u) : AtS p l e (Rm 1) s m args below meth c V 2 0 0 (QV V below args s post) 26 [(0, .ref (eA V 48))] [] u := by
  rw [wj_X12_nextToken_26] at h
  refine a_aload_n C 0 dX12_nextToken_26 rfl rfl ?_
  refine a_dup C dX12_nextToken_27 rfl ?_
  refine a_geti C 7 dX12_nextToken_28 (by decide) rfl rfl rfl ib_12 (by decide) bw_1029 ?_
  refine a_iconst C 1 dX12_nextToken_31 (by decide) ?_
  refine a_iadd C dX12_nextToken_32 ?_
  refine a_puti C (ty := .int) 7 dX12_nextToken_33 (by decide) rfl rfl rfl ib_12 (by decide) bw_1029 tyX12 tyX12_ok nmX12 rfl (by decide +kernel) rfl rfl ?_
  refine a_topu (fun z3 ez3 => ?_)
  have h := h z3 ez3
  refine a_goto C 0 dX12_nextToken_36 (by decide) ?_
  exact hk0 _ h
set_option maxHeartbeats 4000000 in
set_option maxRecDepth 100000 in
theorem tl_X12_nextToken_0 {p : Program} {l : Launch} {e : Env} {s : State} {m : MethodId} {args : Array Value} {below : List Frame} {meth : Method} {c : Code} {V : VEn} {k39 : PoS → Prop} {post : PoS → Prop} (C : CxS p s m args meth c V cX12_nextToken 2 RX12 none) (hk39 : ∀ (u : PoS), k39  u → AtS p l e (Rm 1) s m args below meth c V 2 0 0 (QV V below args s post) 39 [(0, .ref (eA V 48))] [] u) : ∀ (n : Nat) (u : PoS), wl_X12_nextToken_0 k39 post n  u → AtS p l e (Rm 1) s m args below meth c V 2 0 0 (QV V below args s post) 0 [(0, .ref (eA V 48))] [] u := by
  intro n
  induction n with
  | zero => intro u h; exact h.elim
  | succ n ih =>
    intro u h
    rw [wl_X12_nextToken_0] at h
    refine a_aload_n C 0 dX12_nextToken_0 rfl rfl ?_
    refine a_aload_n C 0 dX12_nextToken_1 rfl rfl ?_
    refine a_geti C 7 dX12_nextToken_2 (by decide) rfl rfl rfl ib_12 (by decide) bw_1029 ?_
    refine a_callVi C dX12_nextToken_5 (m_X12_byteAt l V h) bw_1198 bw_1200 bw_47 bw_123 bw_1201 (by decide) rfl rfl np_X12_byteAt rfl rfl (by decide) (Nat.le_of_ble_eq_true rfl) ⟨Nat.zero_le _, Nat.zero_le _⟩ (fun r1 u2 h => ?_)
    refine a_bipush C 32 dX12_nextToken_8 (by decide) ?_
    refine a_icmp_eq C 26 dX12_nextToken_10 (by decide) (fun c7 => ?_) (fun c7 => ?_)
    · have h := h.1 c7
      refine tj_X12_nextToken_26 C ih _ h
    · have h := h.2 c7
      refine a_aload_n C 0 dX12_nextToken_13 rfl rfl ?_
      refine a_aload_n C 0 dX12_nextToken_14 rfl rfl ?_
      refine a_geti C 7 dX12_nextToken_15 (by decide) rfl rfl rfl ib_12 (by decide) bw_1029 ?_
      refine a_callVi C dX12_nextToken_18 (m_X12_byteAt l V h) bw_1198 bw_1200 bw_47 bw_123 bw_1201 (by decide) rfl rfl np_X12_byteAt rfl rfl (by decide) (Nat.le_of_ble_eq_true rfl) ⟨Nat.zero_le _, Nat.zero_le _⟩ (fun r4 u5 h => ?_)
      refine a_bipush C 10 dX12_nextToken_21 (by decide) ?_
      refine a_icmp_ne C 39 dX12_nextToken_23 (by decide) (fun c6 => ?_) (fun c6 => ?_)
      · have h := h.1 c6
        exact hk39 _ h
      · have h := h.2 c6
        refine tj_X12_nextToken_26 C ih _ h
set_option maxHeartbeats 4000000 in
set_option maxRecDepth 100000 in
theorem tj_X12_nextToken_297 {p : Program} {l : Launch} {e : Env} {s : State} {m : MethodId} {args : Array Value} {below : List Frame} {meth : Method} {c : Code} {V : VEn} {post : PoS → Prop} (C : CxS p s m args meth c V cX12_nextToken 2 RX12 none) (s0 : Int32) (u : PoS) (h : wj_X12_nextToken_297 post s0 u) : AtS p l e (Rm 1) s m args below meth c V 2 0 0 (QV V below args s post) 297 [(0, .ref (eA V 48))] [.int s0, .ref (eA V 48)] u := by
  rw [wj_X12_nextToken_297] at h
  refine a_puti C (ty := .int) 9 dX12_nextToken_297 (by decide) rfl rfl rfl ib_12 (by decide) bw_1031 tyX12 tyX12_ok nmX12 rfl (by decide +kernel) rfl rfl ?_
  refine a_topu (fun z22 ez22 => ?_)
  have h := h z22 ez22
  refine a_aload_n C 0 dX12_nextToken_300 rfl rfl ?_
  refine a_dup C dX12_nextToken_301 rfl ?_
  refine a_geti C 7 dX12_nextToken_302 (by decide) rfl rfl rfl ib_12 (by decide) bw_1029 ?_
  refine a_iconst C 1 dX12_nextToken_305 (by decide) ?_
  refine a_iadd C dX12_nextToken_306 ?_
  refine a_puti C (ty := .int) 7 dX12_nextToken_307 (by decide) rfl rfl rfl ib_12 (by decide) bw_1029 tyX12 tyX12_ok nmX12 rfl (by decide +kernel) rfl rfl ?_
  refine a_topu (fun z23 ez23 => ?_)
  have h := h z23 ez23
  exact a_vret C dX12_nextToken_310 h
set_option maxHeartbeats 4000000 in
set_option maxRecDepth 100000 in
theorem tj_X12_nextToken_272 {p : Program} {l : Launch} {e : Env} {s : State} {m : MethodId} {args : Array Value} {below : List Frame} {meth : Method} {c : Code} {V : VEn} {post : PoS → Prop} (C : CxS p s m args meth c V cX12_nextToken 2 RX12 none) (v1 : Int32) (u : PoS) (h : wj_X12_nextToken_272 post v1 u) : AtS p l e (Rm 1) s m args below meth c V 2 0 0 (QV V below args s post) 272 [(0, .ref (eA V 48)), (1, .int v1)] [] u := by
  rw [wj_X12_nextToken_272] at h
  refine a_aload_n C 0 dX12_nextToken_272 rfl rfl ?_
  refine a_aload_n C 0 dX12_nextToken_273 rfl rfl ?_
  refine a_geti C 7 dX12_nextToken_274 (by decide) rfl rfl rfl ib_12 (by decide) bw_1029 ?_
  refine a_callVi C dX12_nextToken_277 (m_X12_byteAt l V h) bw_1198 bw_1200 bw_47 bw_123 bw_1201 (by decide) rfl rfl np_X12_byteAt rfl rfl (by decide) (Nat.le_of_ble_eq_true rfl) ⟨Nat.zero_le _, Nat.zero_le _⟩ (fun r20 u21 h => ?_)
  refine a_bipush C 61 dX12_nextToken_280 (by decide) ?_
  refine a_icmp_ne C 310 dX12_nextToken_282 (by decide) (fun c25 => ?_) (fun c25 => ?_)
  · have h := h.1 c25
    exact a_vret C dX12_nextToken_310 h
  · have h := h.2 c25
    refine a_aload_n C 0 dX12_nextToken_285 rfl rfl ?_
    refine a_iload_n C 1 dX12_nextToken_286 rfl rfl ?_
    refine a_bipush C 60 dX12_nextToken_287 (by decide) ?_
    refine a_icmp_ne C 296 dX12_nextToken_289 (by decide) (fun c24 => ?_) (fun c24 => ?_)
    · have h := h.1 c24
      refine a_iconst C 5 dX12_nextToken_296 (by decide) ?_
      refine a_sub [0] rfl ?_
      refine tj_X12_nextToken_297 C _ _ h
    · have h := h.2 c24
      refine a_iconst C 4 dX12_nextToken_292 (by decide) ?_
      refine a_goto C 297 dX12_nextToken_293 (by decide) ?_
      refine a_sub [0] rfl ?_
      refine tj_X12_nextToken_297 C _ _ h
set_option maxHeartbeats 4000000 in
set_option maxRecDepth 100000 in
theorem tj_X12_nextToken_247 {p : Program} {l : Launch} {e : Env} {s : State} {m : MethodId} {args : Array Value} {below : List Frame} {meth : Method} {c : Code} {V : VEn} {post : PoS → Prop} (C : CxS p s m args meth c V cX12_nextToken 2 RX12 none) (v1 : Int32) (s0 : Int32) (u : PoS) (h : wj_X12_nextToken_247 post v1 s0 u) : AtS p l e (Rm 1) s m args below meth c V 2 0 0 (QV V below args s post) 247 [(0, .ref (eA V 48)), (1, .int v1)] [.int s0, .ref (eA V 48)] u := by
  rw [wj_X12_nextToken_247] at h
  refine a_puti C (ty := .int) 9 dX12_nextToken_247 (by decide) rfl rfl rfl ib_12 (by decide) bw_1031 tyX12 tyX12_ok nmX12 rfl (by decide +kernel) rfl rfl ?_
  refine a_topu (fun z18 ez18 => ?_)
  have h := h z18 ez18
  refine a_aload_n C 0 dX12_nextToken_250 rfl rfl ?_
  refine a_dup C dX12_nextToken_251 rfl ?_
  refine a_geti C 7 dX12_nextToken_252 (by decide) rfl rfl rfl ib_12 (by decide) bw_1029 ?_
  refine a_iconst C 1 dX12_nextToken_255 (by decide) ?_
  refine a_iadd C dX12_nextToken_256 ?_
  refine a_puti C (ty := .int) 7 dX12_nextToken_257 (by decide) rfl rfl rfl ib_12 (by decide) bw_1029 tyX12 tyX12_ok nmX12 rfl (by decide +kernel) rfl rfl ?_
  refine a_topu (fun z19 ez19 => ?_)
  have h := h z19 ez19
  refine a_iload_n C 1 dX12_nextToken_260 rfl rfl ?_
  refine a_bipush C 60 dX12_nextToken_261 (by decide) ?_
  refine a_icmp_eq C 272 dX12_nextToken_263 (by decide) (fun c27 => ?_) (fun c27 => ?_)
  · have h := h.1 c27
    refine tj_X12_nextToken_272 C _ _ h
  · have h := h.2 c27
    refine a_iload_n C 1 dX12_nextToken_266 rfl rfl ?_
    refine a_bipush C 62 dX12_nextToken_267 (by decide) ?_
    refine a_icmp_ne C 310 dX12_nextToken_269 (by decide) (fun c26 => ?_) (fun c26 => ?_)
    · have h := h.1 c26
      exact a_vret C dX12_nextToken_310 h
    · have h := h.2 c26
      refine tj_X12_nextToken_272 C _ _ h
set_option maxHeartbeats 4000000 in
set_option maxRecDepth 100000 in
theorem tj_X12_nextToken_218 {p : Program} {l : Launch} {e : Env} {s : State} {m : MethodId} {args : Array Value} {below : List Frame} {meth : Method} {c : Code} {V : VEn} {k168 : PoS → Prop} {post : PoS → Prop} (C : CxS p s m args meth c V cX12_nextToken 2 RX12 none) (hk168 : ∀ (u : PoS), k168  u → AtS p l e (Rm 1) s m args below meth c V 2 0 0 (QV V below args s post) 168 [(0, .ref (eA V 48))] [] u) (s0 : Int64) (u : PoS) (h : wj_X12_nextToken_218 k168 post s0 u) : AtS p l e (Rm 1) s m args below meth c V 2 0 0 (QV V below args s post) 218 [(0, .ref (eA V 48))] [.long s0, .ref (eA V 48)] u := by
  rw [wj_X12_nextToken_218] at h
  refine a_putl C (ty := .long) 11 dX12_nextToken_218 (by decide) rfl rfl rfl ib_12 (by decide) bw_1033 tyX12 tyX12_ok nmX12 rfl (by decide +kernel) rfl rfl ?_
  refine a_topu (fun z37 ez37 => ?_)
  have h := h z37 ez37
  refine a_aload_n C 0 dX12_nextToken_221 rfl rfl ?_
  refine a_dup C dX12_nextToken_222 rfl ?_
  refine a_geti C 7 dX12_nextToken_223 (by decide) rfl rfl rfl ib_12 (by decide) bw_1029 ?_
  refine a_iconst C 1 dX12_nextToken_226 (by decide) ?_
  refine a_iadd C dX12_nextToken_227 ?_
  refine a_puti C (ty := .int) 7 dX12_nextToken_228 (by decide) rfl rfl rfl ib_12 (by decide) bw_1029 tyX12 tyX12_ok nmX12 rfl (by decide +kernel) rfl rfl ?_
  refine a_topu (fun z38 ez38 => ?_)
  have h := h z38 ez38
  refine a_goto C 168 dX12_nextToken_231 (by decide) ?_
  exact hk168 _ h
set_option maxHeartbeats 4000000 in
set_option maxRecDepth 100000 in
theorem tl_X12_nextToken_168 {p : Program} {l : Launch} {e : Env} {s : State} {m : MethodId} {args : Array Value} {below : List Frame} {meth : Method} {c : Code} {V : VEn} {post : PoS → Prop} (C : CxS p s m args meth c V cX12_nextToken 2 RX12 none) : ∀ (n : Nat) (u : PoS), wl_X12_nextToken_168 post n  u → AtS p l e (Rm 1) s m args below meth c V 2 0 0 (QV V below args s post) 168 [(0, .ref (eA V 48))] [] u := by
  intro n
  induction n with
  | zero => intro u h; exact h.elim
  | succ n ih =>
    intro u h
    rw [wl_X12_nextToken_168] at h
    refine a_aload_n C 0 dX12_nextToken_168 rfl rfl ?_
    refine a_aload_n C 0 dX12_nextToken_169 rfl rfl ?_
    refine a_geti C 7 dX12_nextToken_170 (by decide) rfl rfl rfl ib_12 (by decide) bw_1029 ?_
    refine a_callVi C dX12_nextToken_173 (m_X12_byteAt l V h) bw_1198 bw_1200 bw_47 bw_123 bw_1201 (by decide) rfl rfl np_X12_byteAt rfl rfl (by decide) (Nat.le_of_ble_eq_true rfl) ⟨Nat.zero_le _, Nat.zero_le _⟩ (fun r31 u32 h => ?_)
    refine a_callSi C dX12_nextToken_176 (m_X12_isLetterByte l V h) bw_1206 bw_1207 bw_123 bw_1208 np_X12_isLetterByte rfl rfl (by decide) (Nat.le_of_ble_eq_true rfl) ⟨Nat.zero_le _, Nat.zero_le _⟩ (fun r33 u34 h => ?_)
    refine a_if_eq C 310 dX12_nextToken_179 (by decide) (fun c40 => ?_) (fun c40 => ?_)
    · have h := h.1 c40
      exact a_vret C dX12_nextToken_310 h
    · have h := h.2 c40
      refine a_aload_n C 0 dX12_nextToken_182 rfl rfl ?_
      refine a_aload_n C 0 dX12_nextToken_183 rfl rfl ?_
      refine a_getl C 11 dX12_nextToken_184 (by decide) rfl rfl rfl ib_12 (by decide) bw_1033 ?_
      refine a_bipush C 48 dX12_nextToken_187 (by decide) ?_
      refine a_lshr C dX12_nextToken_189 ?_
      refine a_lconst C 0 dX12_nextToken_190 (by decide) ?_
      refine a_lcmp C dX12_nextToken_191 ?_
      refine a_if_eq C 201 dX12_nextToken_192 (by decide) (fun c39 => ?_) (fun c39 => ?_)
      · have h := h.1 c39
        refine a_aload_n C 0 dX12_nextToken_201 rfl rfl ?_
        refine a_getl C 11 dX12_nextToken_202 (by decide) rfl rfl rfl ib_12 (by decide) bw_1033 ?_
        refine a_bipush C 8 dX12_nextToken_205 (by decide) ?_
        refine a_lshl C dX12_nextToken_207 ?_
        refine a_aload_n C 0 dX12_nextToken_208 rfl rfl ?_
        refine a_aload_n C 0 dX12_nextToken_209 rfl rfl ?_
        refine a_geti C 7 dX12_nextToken_210 (by decide) rfl rfl rfl ib_12 (by decide) bw_1029 ?_
        refine a_callVi C dX12_nextToken_213 (m_X12_byteAt l V h) bw_1198 bw_1200 bw_47 bw_123 bw_1201 (by decide) rfl rfl np_X12_byteAt rfl rfl (by decide) (Nat.le_of_ble_eq_true rfl) ⟨Nat.zero_le _, Nat.zero_le _⟩ (fun r35 u36 h => ?_)
        refine a_i2l C dX12_nextToken_216 ?_
        refine a_lor C dX12_nextToken_217 ?_
        refine tj_X12_nextToken_218 C ih _ _ h
      · have h := h.2 c39
        refine a_ldc2 C dX12_nextToken_195 bw_1209 ?_
        refine a_goto C 218 dX12_nextToken_198 (by decide) ?_
        refine tj_X12_nextToken_218 C ih _ _ h
set_option maxHeartbeats 4000000 in
set_option maxRecDepth 100000 in
theorem tj_X12_nextToken_135 {p : Program} {l : Launch} {e : Env} {s : State} {m : MethodId} {args : Array Value} {below : List Frame} {meth : Method} {c : Code} {V : VEn} {k85 : PoS → Prop} {post : PoS → Prop} (C : CxS p s m args meth c V cX12_nextToken 2 RX12 none) (hk85 : ∀ (u : PoS), k85  u → AtS p l e (Rm 1) s m args below meth c V 2 0 0 (QV V below args s post) 85 [(0, .ref (eA V 48))] [] u) (s0 : Int32) (u : PoS) (h : wj_X12_nextToken_135 k85 post s0 u) : AtS p l e (Rm 1) s m args below meth c V 2 0 0 (QV V below args s post) 135 [(0, .ref (eA V 48))] [.int s0, .ref (eA V 48)] u := by
  rw [wj_X12_nextToken_135] at h
  refine a_puti C (ty := .int) 10 dX12_nextToken_135 (by decide) rfl rfl rfl ib_12 (by decide) bw_1032 tyX12 tyX12_ok nmX12 rfl (by decide +kernel) rfl rfl ?_
  refine a_topu (fun z50 ez50 => ?_)
  have h := h z50 ez50
  refine a_aload_n C 0 dX12_nextToken_138 rfl rfl ?_
  refine a_dup C dX12_nextToken_139 rfl ?_
  refine a_geti C 7 dX12_nextToken_140 (by decide) rfl rfl rfl ib_12 (by decide) bw_1029 ?_
  refine a_iconst C 1 dX12_nextToken_143 (by decide) ?_
  refine a_iadd C dX12_nextToken_144 ?_
  refine a_puti C (ty := .int) 7 dX12_nextToken_145 (by decide) rfl rfl rfl ib_12 (by decide) bw_1029 tyX12 tyX12_ok nmX12 rfl (by decide +kernel) rfl rfl ?_
  refine a_topu (fun z51 ez51 => ?_)
  have h := h z51 ez51
  refine a_goto C 85 dX12_nextToken_148 (by decide) ?_
  exact hk85 _ h
set_option maxHeartbeats 4000000 in
set_option maxRecDepth 100000 in
theorem tl_X12_nextToken_85 {p : Program} {l : Launch} {e : Env} {s : State} {m : MethodId} {args : Array Value} {below : List Frame} {meth : Method} {c : Code} {V : VEn} {post : PoS → Prop} (C : CxS p s m args meth c V cX12_nextToken 2 RX12 none) : ∀ (n : Nat) (u : PoS), wl_X12_nextToken_85 post n  u → AtS p l e (Rm 1) s m args below meth c V 2 0 0 (QV V below args s post) 85 [(0, .ref (eA V 48))] [] u := by
  intro n
  induction n with
  | zero => intro u h; exact h.elim
  | succ n ih =>
    intro u h
    rw [wl_X12_nextToken_85] at h
    refine a_aload_n C 0 dX12_nextToken_85 rfl rfl ?_
    refine a_aload_n C 0 dX12_nextToken_86 rfl rfl ?_
    refine a_geti C 7 dX12_nextToken_87 (by decide) rfl rfl rfl ib_12 (by decide) bw_1029 ?_
    refine a_callVi C dX12_nextToken_90 (m_X12_byteAt l V h) bw_1198 bw_1200 bw_47 bw_123 bw_1201 (by decide) rfl rfl np_X12_byteAt rfl rfl (by decide) (Nat.le_of_ble_eq_true rfl) ⟨Nat.zero_le _, Nat.zero_le _⟩ (fun r44 u45 h => ?_)
    refine a_callSi C dX12_nextToken_93 (m_X12_isFigure l V h) bw_1202 bw_1203 bw_123 bw_1204 np_X12_isFigure rfl rfl (by decide) (Nat.le_of_ble_eq_true rfl) ⟨Nat.zero_le _, Nat.zero_le _⟩ (fun r46 u47 h => ?_)
    refine a_if_eq C 310 dX12_nextToken_96 (by decide) (fun c53 => ?_) (fun c53 => ?_)
    · have h := h.1 c53
      exact a_vret C dX12_nextToken_310 h
    · have h := h.2 c53
      refine a_aload_n C 0 dX12_nextToken_99 rfl rfl ?_
      refine a_aload_n C 0 dX12_nextToken_100 rfl rfl ?_
      refine a_geti C 10 dX12_nextToken_101 (by decide) rfl rfl rfl ib_12 (by decide) bw_1032 ?_
      refine a_ldc C dX12_nextToken_104 bw_1205 ?_
      refine a_icmp_le C 116 dX12_nextToken_106 (by decide) (fun c52 => ?_) (fun c52 => ?_)
      · have h := h.1 c52
        refine a_bipush C 10 dX12_nextToken_116 (by decide) ?_
        refine a_aload_n C 0 dX12_nextToken_118 rfl rfl ?_
        refine a_geti C 10 dX12_nextToken_119 (by decide) rfl rfl rfl ib_12 (by decide) bw_1032 ?_
        refine a_imul C dX12_nextToken_122 ?_
        refine a_aload_n C 0 dX12_nextToken_123 rfl rfl ?_
        refine a_aload_n C 0 dX12_nextToken_124 rfl rfl ?_
        refine a_geti C 7 dX12_nextToken_125 (by decide) rfl rfl rfl ib_12 (by decide) bw_1029 ?_
        refine a_callVi C dX12_nextToken_128 (m_X12_byteAt l V h) bw_1198 bw_1200 bw_47 bw_123 bw_1201 (by decide) rfl rfl np_X12_byteAt rfl rfl (by decide) (Nat.le_of_ble_eq_true rfl) ⟨Nat.zero_le _, Nat.zero_le _⟩ (fun r48 u49 h => ?_)
        refine a_iadd C dX12_nextToken_131 ?_
        refine a_bipush C 48 dX12_nextToken_132 (by decide) ?_
        refine a_isub C dX12_nextToken_134 ?_
        refine tj_X12_nextToken_135 C ih _ _ h
      · have h := h.2 c52
        refine a_aload_n C 0 dX12_nextToken_109 rfl rfl ?_
        refine a_geti C 10 dX12_nextToken_110 (by decide) rfl rfl rfl ib_12 (by decide) bw_1032 ?_
        refine a_goto C 135 dX12_nextToken_113 (by decide) ?_
        refine tj_X12_nextToken_135 C ih _ _ h
theorem np_X12_nextToken : yX12_nextToken.cls ≠ "java/lang/invoke/MethodHandle" ∧ yX12_nextToken.cls ≠ "java/lang/invoke/VarHandle" ∧ (parseMethodDescriptor yX12_nextToken.desc).map (fun d => d.parameters.length) = some 0 := by decide +kernel
set_option maxHeartbeats 4000000 in
set_option maxRecDepth 100000 in
theorem m_X12_nextToken (l : Launch) (V : VEn) {u : PoS} {post : PoS → Prop} (h : wp_X12_nextToken  u post) : KV l V yX12_nextToken cX12_nextToken 2 1 [.ref (eA V 48)] u post := by
  refine KV_of (by decide) (Nat.le_of_ble_eq_true rfl) (lv := [(0, .ref (eA V 48))]) rfl ?_
  intro p e s m args below meth c C
  rw [wp_X12_nextToken] at h
  obtain ⟨n0, h⟩ := h
  refine tl_X12_nextToken_0 C (fun u8 h => ?_) n0 _ h
  refine a_aload_n C 0 dX12_nextToken_39 rfl rfl ?_
  refine a_aload_n C 0 dX12_nextToken_40 rfl rfl ?_
  refine a_geti C 7 dX12_nextToken_41 (by decide) rfl rfl rfl ib_12 (by decide) bw_1029 ?_
  refine a_puti C (ty := .int) 8 dX12_nextToken_44 (by decide) rfl rfl rfl ib_12 (by decide) bw_1030 tyX12 tyX12_ok nmX12 rfl (by decide +kernel) rfl rfl ?_
  refine a_topu (fun z9 ez9 => ?_)
  have h := h z9 ez9
  refine a_aload_n C 0 dX12_nextToken_47 rfl rfl ?_
  refine a_aload_n C 0 dX12_nextToken_48 rfl rfl ?_
  refine a_geti C 7 dX12_nextToken_49 (by decide) rfl rfl rfl ib_12 (by decide) bw_1029 ?_
  refine a_callVi C dX12_nextToken_52 (m_X12_byteAt l V h) bw_1198 bw_1200 bw_47 bw_123 bw_1201 (by decide) rfl rfl np_X12_byteAt rfl rfl (by decide) (Nat.le_of_ble_eq_true rfl) ⟨Nat.zero_le _, Nat.zero_le _⟩ (fun r10 u11 h => ?_)
  refine a_istore_n C [(1, .int r10), (0, .ref (eA V 48))] dX12_nextToken_55 rfl (by decide) rfl ?_
  refine a_iload_n C 0 dX12_nextToken_56 rfl rfl ?_
  refine a_if_ge C 68 dX12_nextToken_57 (by decide) (fun c56 => ?_) (fun c56 => ?_)
  · have h := h.1 c56
    refine a_iload_n C 0 dX12_nextToken_68 rfl rfl ?_
    refine a_callSi C dX12_nextToken_69 (m_X12_isFigure l V h) bw_1202 bw_1203 bw_123 bw_1204 np_X12_isFigure rfl rfl (by decide) (Nat.le_of_ble_eq_true rfl) ⟨Nat.zero_le _, Nat.zero_le _⟩ (fun r12 u13 h => ?_)
    refine a_if_eq C 151 dX12_nextToken_72 (by decide) (fun c54 => ?_) (fun c54 => ?_)
    · have h := h.1 c54
      refine a_iload_n C 0 dX12_nextToken_151 rfl rfl ?_
      refine a_callSi C dX12_nextToken_152 (m_X12_isLetterByte l V h) bw_1206 bw_1207 bw_123 bw_1208 np_X12_isLetterByte rfl rfl (by decide) (Nat.le_of_ble_eq_true rfl) ⟨Nat.zero_le _, Nat.zero_le _⟩ (fun r14 u15 h => ?_)
      refine a_if_eq C 234 dX12_nextToken_155 (by decide) (fun c41 => ?_) (fun c41 => ?_)
      · have h := h.1 c41
        refine a_aload_n C 1 dX12_nextToken_234 rfl rfl ?_
        refine a_iload_n C 0 dX12_nextToken_235 rfl rfl ?_
        refine a_callSi C dX12_nextToken_236 (m_X12_isSign l V h) bw_1210 bw_1211 bw_123 bw_1212 np_X12_isSign rfl rfl (by decide) (Nat.le_of_ble_eq_true rfl) ⟨Nat.zero_le _, Nat.zero_le _⟩ (fun r16 u17 h => ?_)
        refine a_if_eq C 246 dX12_nextToken_239 (by decide) (fun c28 => ?_) (fun c28 => ?_)
        · have h := h.1 c28
          refine a_iconst C 3 dX12_nextToken_246 (by decide) ?_
          refine a_sub [1, 0] rfl ?_
          refine tj_X12_nextToken_247 C _ _ _ h
        · have h := h.2 c28
          refine a_iload_n C 0 dX12_nextToken_242 rfl rfl ?_
          refine a_goto C 247 dX12_nextToken_243 (by decide) ?_
          refine a_sub [1, 0] rfl ?_
          refine tj_X12_nextToken_247 C _ _ _ h
      · have h := h.2 c41
        refine a_aload_n C 1 dX12_nextToken_158 rfl rfl ?_
        refine a_iconst C 2 dX12_nextToken_159 (by decide) ?_
        refine a_puti C (ty := .int) 9 dX12_nextToken_160 (by decide) rfl rfl rfl ib_12 (by decide) bw_1031 tyX12 tyX12_ok nmX12 rfl (by decide +kernel) rfl rfl ?_
        refine a_topu (fun z29 ez29 => ?_)
        have h := h z29 ez29
        refine a_aload_n C 1 dX12_nextToken_163 rfl rfl ?_
        refine a_lconst C 0 dX12_nextToken_164 (by decide) ?_
        refine a_putl C (ty := .long) 11 dX12_nextToken_165 (by decide) rfl rfl rfl ib_12 (by decide) bw_1033 tyX12 tyX12_ok nmX12 rfl (by decide +kernel) rfl rfl ?_
        refine a_topu (fun z30 ez30 => ?_)
        have h := h z30 ez30
        refine a_sub [1] rfl ?_
        obtain ⟨n168, h⟩ := h
        refine tl_X12_nextToken_168 C n168 _ h
    · have h := h.2 c54
      refine a_aload_n C 1 dX12_nextToken_75 rfl rfl ?_
      refine a_iconst C 1 dX12_nextToken_76 (by decide) ?_
      refine a_puti C (ty := .int) 9 dX12_nextToken_77 (by decide) rfl rfl rfl ib_12 (by decide) bw_1031 tyX12 tyX12_ok nmX12 rfl (by decide +kernel) rfl rfl ?_
      refine a_topu (fun z42 ez42 => ?_)
      have h := h z42 ez42
      refine a_aload_n C 1 dX12_nextToken_80 rfl rfl ?_
      refine a_iconst C 0 dX12_nextToken_81 (by decide) ?_
      refine a_puti C (ty := .int) 10 dX12_nextToken_82 (by decide) rfl rfl rfl ib_12 (by decide) bw_1032 tyX12 tyX12_ok nmX12 rfl (by decide +kernel) rfl rfl ?_
      refine a_topu (fun z43 ez43 => ?_)
      have h := h z43 ez43
      refine a_sub [1] rfl ?_
      obtain ⟨n85, h⟩ := h
      refine tl_X12_nextToken_85 C n85 _ h
  · have h := h.2 c56
    refine a_aload_n C 1 dX12_nextToken_60 rfl rfl ?_
    refine a_iconst C 0 dX12_nextToken_61 (by decide) ?_
    refine a_puti C (ty := .int) 9 dX12_nextToken_62 (by decide) rfl rfl rfl ib_12 (by decide) bw_1031 tyX12 tyX12_ok nmX12 rfl (by decide +kernel) rfl rfl ?_
    refine a_topu (fun z55 ez55 => ?_)
    have h := h z55 ez55
    refine a_goto C 310 dX12_nextToken_65 (by decide) ?_
    exact a_vret C dX12_nextToken_310 h

/-! RainOnTheOneModel.w2(II)J -/
def wp_X12_w2 (a0 : Int32) (a1 : Int32) (u : PoS) (post : Int64 → PoS → Prop) : Prop := post (((Int32.toInt64 a0) <<< (Int32.toInt64 8 &&& 63)) ||| (Int32.toInt64 a1)) u
theorem np_X12_w2 : yX12_w2.cls ≠ "java/lang/invoke/MethodHandle" ∧ yX12_w2.cls ≠ "java/lang/invoke/VarHandle" ∧ (parseMethodDescriptor yX12_w2.desc).map (fun d => d.parameters.length) = some 2 := by decide +kernel
set_option maxHeartbeats 4000000 in
set_option maxRecDepth 100000 in
theorem m_X12_w2 (l : Launch) (V : VEn) {a0 : Int32} {a1 : Int32} {u : PoS} {post : Int64 → PoS → Prop} (h : wp_X12_w2 a0 a1 u post) : KL l V yX12_w2 cX12_w2 2 .long 0 [.int a0, .int a1] u post := by
  refine KL_of (by decide) (Nat.le_of_ble_eq_true rfl) (lv := [(0, .int a0), (1, .int a1)]) rfl ?_
  intro p e s m args below meth c C
  rw [wp_X12_w2] at h
  refine a_iload_n C 0 dX12_w2_0 rfl rfl ?_
  refine a_i2l C dX12_w2_1 ?_
  refine a_bipush C 8 dX12_w2_2 (by decide) ?_
  refine a_lshl C dX12_w2_4 ?_
  refine a_iload_n C 1 dX12_w2_5 rfl rfl ?_
  refine a_i2l C dX12_w2_6 ?_
  refine a_lor C dX12_w2_7 ?_
  exact a_lret C dX12_w2_8 h

/-! RainOnTheOneModel.w3(III)J -/
def wp_X12_w3 (a0 : Int32) (a1 : Int32) (a2 : Int32) (u : PoS) (post : Int64 → PoS → Prop) : Prop := wp_X12_w2 a0 a1 u (fun (r1 : Int64) (u2 : PoS) => post ((r1 <<< (Int32.toInt64 8 &&& 63)) ||| (Int32.toInt64 a2)) u2)
theorem np_X12_w3 : yX12_w3.cls ≠ "java/lang/invoke/MethodHandle" ∧ yX12_w3.cls ≠ "java/lang/invoke/VarHandle" ∧ (parseMethodDescriptor yX12_w3.desc).map (fun d => d.parameters.length) = some 3 := by decide +kernel
set_option maxHeartbeats 4000000 in
set_option maxRecDepth 100000 in
theorem m_X12_w3 (l : Launch) (V : VEn) {a0 : Int32} {a1 : Int32} {a2 : Int32} {u : PoS} {post : Int64 → PoS → Prop} (h : wp_X12_w3 a0 a1 a2 u post) : KL l V yX12_w3 cX12_w3 3 .long 1 [.int a0, .int a1, .int a2] u post := by
  refine KL_of (by decide) (Nat.le_of_ble_eq_true rfl) (lv := [(0, .int a0), (1, .int a1), (2, .int a2)]) rfl ?_
  intro p e s m args below meth c C
  rw [wp_X12_w3] at h
  refine a_iload_n C 0 dX12_w3_0 rfl rfl ?_
  refine a_iload_n C 1 dX12_w3_1 rfl rfl ?_
  refine a_callSl C dX12_w3_2 (m_X12_w2 l V h) bw_1230 bw_1231 bw_123 bw_1232 np_X12_w2 rfl rfl (by decide) (Nat.le_of_ble_eq_true rfl) ⟨Nat.zero_le _, Nat.zero_le _⟩ (fun r1 u2 h => ?_)
  refine a_bipush C 8 dX12_w3_5 (by decide) ?_
  refine a_lshl C dX12_w3_7 ?_
  refine a_iload_n C 2 dX12_w3_8 rfl rfl ?_
  refine a_i2l C dX12_w3_9 ?_
  refine a_lor C dX12_w3_10 ?_
  exact a_lret C dX12_w3_11 h

/-! RainOnTheOneModel.w4(IIII)J -/
def wp_X12_w4 (a0 : Int32) (a1 : Int32) (a2 : Int32) (a3 : Int32) (u : PoS) (post : Int64 → PoS → Prop) : Prop := wp_X12_w3 a0 a1 a2 u (fun (r1 : Int64) (u2 : PoS) => post ((r1 <<< (Int32.toInt64 8 &&& 63)) ||| (Int32.toInt64 a3)) u2)
theorem np_X12_w4 : yX12_w4.cls ≠ "java/lang/invoke/MethodHandle" ∧ yX12_w4.cls ≠ "java/lang/invoke/VarHandle" ∧ (parseMethodDescriptor yX12_w4.desc).map (fun d => d.parameters.length) = some 4 := by decide +kernel
set_option maxHeartbeats 4000000 in
set_option maxRecDepth 100000 in
theorem m_X12_w4 (l : Launch) (V : VEn) {a0 : Int32} {a1 : Int32} {a2 : Int32} {a3 : Int32} {u : PoS} {post : Int64 → PoS → Prop} (h : wp_X12_w4 a0 a1 a2 a3 u post) : KL l V yX12_w4 cX12_w4 4 .long 2 [.int a0, .int a1, .int a2, .int a3] u post := by
  refine KL_of (by decide) (Nat.le_of_ble_eq_true rfl) (lv := [(0, .int a0), (1, .int a1), (2, .int a2), (3, .int a3)]) rfl ?_
  intro p e s m args below meth c C
  rw [wp_X12_w4] at h
  refine a_iload_n C 0 dX12_w4_0 rfl rfl ?_
  refine a_iload_n C 1 dX12_w4_1 rfl rfl ?_
  refine a_iload_n C 2 dX12_w4_2 rfl rfl ?_
  refine a_callSl C dX12_w4_3 (m_X12_w3 l V h) bw_1227 bw_1228 bw_123 bw_1229 np_X12_w3 rfl rfl (by decide) (Nat.le_of_ble_eq_true rfl) ⟨Nat.zero_le _, Nat.zero_le _⟩ (fun r1 u2 h => ?_)
  refine a_bipush C 8 dX12_w4_6 (by decide) ?_
  refine a_lshl C dX12_w4_8 ?_
  refine a_iload_n C 3 dX12_w4_9 rfl rfl ?_
  refine a_i2l C dX12_w4_10 ?_
  refine a_lor C dX12_w4_11 ?_
  exact a_lret C dX12_w4_12 h

/-! RainOnTheOneModel.w5(IIIII)J -/
def wp_X12_w5 (a0 : Int32) (a1 : Int32) (a2 : Int32) (a3 : Int32) (a4 : Int32) (u : PoS) (post : Int64 → PoS → Prop) : Prop := wp_X12_w4 a0 a1 a2 a3 u (fun (r1 : Int64) (u2 : PoS) => post ((r1 <<< (Int32.toInt64 8 &&& 63)) ||| (Int32.toInt64 a4)) u2)
theorem np_X12_w5 : yX12_w5.cls ≠ "java/lang/invoke/MethodHandle" ∧ yX12_w5.cls ≠ "java/lang/invoke/VarHandle" ∧ (parseMethodDescriptor yX12_w5.desc).map (fun d => d.parameters.length) = some 5 := by decide +kernel
set_option maxHeartbeats 4000000 in
set_option maxRecDepth 100000 in
theorem m_X12_w5 (l : Launch) (V : VEn) {a0 : Int32} {a1 : Int32} {a2 : Int32} {a3 : Int32} {a4 : Int32} {u : PoS} {post : Int64 → PoS → Prop} (h : wp_X12_w5 a0 a1 a2 a3 a4 u post) : KL l V yX12_w5 cX12_w5 5 .long 3 [.int a0, .int a1, .int a2, .int a3, .int a4] u post := by
  refine KL_of (by decide) (Nat.le_of_ble_eq_true rfl) (lv := [(0, .int a0), (1, .int a1), (2, .int a2), (3, .int a3), (4, .int a4)]) rfl ?_
  intro p e s m args below meth c C
  rw [wp_X12_w5] at h
  refine a_iload_n C 0 dX12_w5_0 rfl rfl ?_
  refine a_iload_n C 1 dX12_w5_1 rfl rfl ?_
  refine a_iload_n C 2 dX12_w5_2 rfl rfl ?_
  refine a_iload_n C 3 dX12_w5_3 rfl rfl ?_
  refine a_callSl C dX12_w5_4 (m_X12_w4 l V h) bw_1224 bw_1225 bw_123 bw_1226 np_X12_w4 rfl rfl (by decide) (Nat.le_of_ble_eq_true rfl) ⟨Nat.zero_le _, Nat.zero_le _⟩ (fun r1 u2 h => ?_)
  refine a_bipush C 8 dX12_w5_7 (by decide) ?_
  refine a_lshl C dX12_w5_9 ?_
  refine a_iload C 4 dX12_w5_10 rfl ?_
  refine a_i2l C dX12_w5_12 ?_
  refine a_lor C dX12_w5_13 ?_
  exact a_lret C dX12_w5_14 h

/-! RainOnTheOneModel.w6(IIIIII)J -/
def wp_X12_w6 (a0 : Int32) (a1 : Int32) (a2 : Int32) (a3 : Int32) (a4 : Int32) (a5 : Int32) (u : PoS) (post : Int64 → PoS → Prop) : Prop := wp_X12_w5 a0 a1 a2 a3 a4 u (fun (r1 : Int64) (u2 : PoS) => post ((r1 <<< (Int32.toInt64 8 &&& 63)) ||| (Int32.toInt64 a5)) u2)
theorem np_X12_w6 : yX12_w6.cls ≠ "java/lang/invoke/MethodHandle" ∧ yX12_w6.cls ≠ "java/lang/invoke/VarHandle" ∧ (parseMethodDescriptor yX12_w6.desc).map (fun d => d.parameters.length) = some 6 := by decide +kernel
set_option maxHeartbeats 4000000 in
set_option maxRecDepth 100000 in
theorem m_X12_w6 (l : Launch) (V : VEn) {a0 : Int32} {a1 : Int32} {a2 : Int32} {a3 : Int32} {a4 : Int32} {a5 : Int32} {u : PoS} {post : Int64 → PoS → Prop} (h : wp_X12_w6 a0 a1 a2 a3 a4 a5 u post) : KL l V yX12_w6 cX12_w6 6 .long 4 [.int a0, .int a1, .int a2, .int a3, .int a4, .int a5] u post := by
  refine KL_of (by decide) (Nat.le_of_ble_eq_true rfl) (lv := [(0, .int a0), (1, .int a1), (2, .int a2), (3, .int a3), (4, .int a4), (5, .int a5)]) rfl ?_
  intro p e s m args below meth c C
  rw [wp_X12_w6] at h
  refine a_iload_n C 0 dX12_w6_0 rfl rfl ?_
  refine a_iload_n C 1 dX12_w6_1 rfl rfl ?_
  refine a_iload_n C 2 dX12_w6_2 rfl rfl ?_
  refine a_iload_n C 3 dX12_w6_3 rfl rfl ?_
  refine a_iload C 4 dX12_w6_4 rfl ?_
  refine a_callSl C dX12_w6_6 (m_X12_w5 l V h) bw_1221 bw_1222 bw_123 bw_1223 np_X12_w5 rfl rfl (by decide) (Nat.le_of_ble_eq_true rfl) ⟨Nat.zero_le _, Nat.zero_le _⟩ (fun r1 u2 h => ?_)
  refine a_bipush C 8 dX12_w6_9 (by decide) ?_
  refine a_lshl C dX12_w6_11 ?_
  refine a_iload C 5 dX12_w6_12 rfl ?_
  refine a_i2l C dX12_w6_14 ?_
  refine a_lor C dX12_w6_15 ?_
  exact a_lret C dX12_w6_16 h

/-! RainOnTheOneModel.isWord(J)Z -/
def wp_X12_isWord (a0 : Int64) (u : PoS) (post : Int32 → PoS → Prop) : Prop := ((¬ (gI u 48 9) = 2 → post 0 u) ∧ ((gI u 48 9) = 2 → ((¬ (lg_cmp (gL u 48 11) a0) = 0 → post 0 u) ∧ ((lg_cmp (gL u 48 11) a0) = 0 → post 1 u))))
theorem np_X12_isWord : yX12_isWord.cls ≠ "java/lang/invoke/MethodHandle" ∧ yX12_isWord.cls ≠ "java/lang/invoke/VarHandle" ∧ (parseMethodDescriptor yX12_isWord.desc).map (fun d => d.parameters.length) = some 1 := by decide +kernel
set_option maxHeartbeats 4000000 in
set_option maxRecDepth 100000 in
theorem m_X12_isWord (l : Launch) (V : VEn) {a0 : Int64} {u : PoS} {post : Int32 → PoS → Prop} (h : wp_X12_isWord a0 u post) : KI l V yX12_isWord cX12_isWord 3 .boolean 0 [.ref (eA V 48), .long a0] u post := by
  refine KI_of (by decide) (Nat.le_of_ble_eq_true rfl) (lv := [(0, .ref (eA V 48)), (1, .long a0)]) rfl ?_
  intro p e s m args below meth c C
  rw [wp_X12_isWord] at h
  refine a_aload_n C 0 dX12_isWord_0 rfl rfl ?_
  refine a_geti C 9 dX12_isWord_1 (by decide) rfl rfl rfl ib_12 (by decide) bw_1031 ?_
  refine a_iconst C 2 dX12_isWord_4 (by decide) ?_
  refine a_icmp_ne C 21 dX12_isWord_5 (by decide) (fun c2 => ?_) (fun c2 => ?_)
  · have h := h.1 c2
    refine a_iconst C 0 dX12_isWord_21 (by decide) ?_
    exact a_zret C rfl dX12_isWord_22 h
  · have h := h.2 c2
    refine a_aload_n C 0 dX12_isWord_8 rfl rfl ?_
    refine a_getl C 11 dX12_isWord_9 (by decide) rfl rfl rfl ib_12 (by decide) bw_1033 ?_
    refine a_lload_n C 1 dX12_isWord_12 rfl rfl ?_
    refine a_lcmp C dX12_isWord_13 ?_
    refine a_if_ne C 21 dX12_isWord_14 (by decide) (fun c1 => ?_) (fun c1 => ?_)
    · have h := h.1 c1
      refine a_iconst C 0 dX12_isWord_21 (by decide) ?_
      exact a_zret C rfl dX12_isWord_22 h
    · have h := h.2 c1
      refine a_iconst C 1 dX12_isWord_17 (by decide) ?_
      refine a_goto C 22 dX12_isWord_18 (by decide) ?_
      exact a_zret C rfl dX12_isWord_22 h

/-! RainOnTheOneModel.emit(II)V -/
def wp_X12_emit (a0 : Int32) (a1 : Int32) (u : PoS) (post : PoS → Prop) : Prop := vp_in (((gI u 48 12) + 73) + (2 * (gI u 48 13))) 2724 ∧ ∀ z1 : PoS, z1 = pI u 51 (Int32.toNatClampNeg (((gI u 48 12) + 73) + (2 * (gI u 48 13)))) a0 → vp_in ((((gI z1 48 12) + 73) + (2 * (gI z1 48 13))) + 1) 2724 ∧ ∀ z2 : PoS, z2 = pI z1 51 (Int32.toNatClampNeg ((((gI z1 48 12) + 73) + (2 * (gI z1 48 13))) + 1)) a1 → ∀ z3 : PoS, z3 = pI z2 48 13 ((gI z2 48 13) + 1) → post z3
theorem np_X12_emit : yX12_emit.cls ≠ "java/lang/invoke/MethodHandle" ∧ yX12_emit.cls ≠ "java/lang/invoke/VarHandle" ∧ (parseMethodDescriptor yX12_emit.desc).map (fun d => d.parameters.length) = some 2 := by decide +kernel
set_option maxHeartbeats 4000000 in
set_option maxRecDepth 100000 in
theorem m_X12_emit (l : Launch) (V : VEn) {a0 : Int32} {a1 : Int32} {u : PoS} {post : PoS → Prop} (h : wp_X12_emit a0 a1 u post) : KV l V yX12_emit cX12_emit 3 0 [.ref (eA V 48), .int a0, .int a1] u post := by
  refine KV_of (by decide) (Nat.le_of_ble_eq_true rfl) (lv := [(0, .ref (eA V 48)), (1, .int a0), (2, .int a1)]) rfl ?_
  intro p e s m args below meth c C
  rw [wp_X12_emit] at h
  refine a_aload_n C 0 dX12_emit_0 rfl rfl ?_
  refine a_getr C 2 (r := 51) dX12_emit_1 (by decide) rfl rfl rfl ib_12 (by decide) bw_1024 ?_
  refine a_aload_n C 0 dX12_emit_4 rfl rfl ?_
  refine a_geti C 12 dX12_emit_5 (by decide) rfl rfl rfl ib_12 (by decide) bw_1034 ?_
  refine a_bipush C 73 dX12_emit_8 (by decide) ?_
  refine a_iadd C dX12_emit_10 ?_
  refine a_iconst C 2 dX12_emit_11 (by decide) ?_
  refine a_aload_n C 0 dX12_emit_12 rfl rfl ?_
  refine a_geti C 13 dX12_emit_13 (by decide) rfl rfl rfl ib_12 (by decide) bw_1035 ?_
  refine a_imul C dX12_emit_16 ?_
  refine a_iadd C dX12_emit_17 ?_
  refine a_iload_n C 1 dX12_emit_18 rfl rfl ?_
  refine b_iast C (Int32.toNatClampNeg (((gI u 48 12) + 73) + (2 * (gI u 48 13)))) dX12_emit_19 (by decide) rfl h.1 rfl ?_
  have h := h.2
  refine a_topu (fun z1 ez1 => ?_)
  have h := h z1 ez1
  refine a_aload_n C 0 dX12_emit_20 rfl rfl ?_
  refine a_getr C 2 (r := 51) dX12_emit_21 (by decide) rfl rfl rfl ib_12 (by decide) bw_1024 ?_
  refine a_aload_n C 0 dX12_emit_24 rfl rfl ?_
  refine a_geti C 12 dX12_emit_25 (by decide) rfl rfl rfl ib_12 (by decide) bw_1034 ?_
  refine a_bipush C 73 dX12_emit_28 (by decide) ?_
  refine a_iadd C dX12_emit_30 ?_
  refine a_iconst C 2 dX12_emit_31 (by decide) ?_
  refine a_aload_n C 0 dX12_emit_32 rfl rfl ?_
  refine a_geti C 13 dX12_emit_33 (by decide) rfl rfl rfl ib_12 (by decide) bw_1035 ?_
  refine a_imul C dX12_emit_36 ?_
  refine a_iadd C dX12_emit_37 ?_
  refine a_iconst C 1 dX12_emit_38 (by decide) ?_
  refine a_iadd C dX12_emit_39 ?_
  refine a_iload_n C 2 dX12_emit_40 rfl rfl ?_
  refine b_iast C (Int32.toNatClampNeg ((((gI z1 48 12) + 73) + (2 * (gI z1 48 13))) + 1)) dX12_emit_41 (by decide) rfl h.1 rfl ?_
  have h := h.2
  refine a_topu (fun z2 ez2 => ?_)
  have h := h z2 ez2
  refine a_aload_n C 0 dX12_emit_42 rfl rfl ?_
  refine a_dup C dX12_emit_43 rfl ?_
  refine a_geti C 13 dX12_emit_44 (by decide) rfl rfl rfl ib_12 (by decide) bw_1035 ?_
  refine a_iconst C 1 dX12_emit_47 (by decide) ?_
  refine a_iadd C dX12_emit_48 ?_
  refine a_puti C (ty := .int) 13 dX12_emit_49 (by decide) rfl rfl rfl ib_12 (by decide) bw_1035 tyX12 tyX12_ok nmX12 rfl (by decide +kernel) rfl rfl ?_
  refine a_topu (fun z3 ez3 => ?_)
  have h := h z3 ez3
  exact a_vret C dX12_emit_52 h

/-! RainOnTheOneModel.nameOf()I -/
def wp_X12_nameOf (u : PoS) (post : Int32 → PoS → Prop) : Prop := (((gI u 48 9) = 2 → wp_X12_w6 109 105 110 117 116 101 u (fun (r1 : Int64) (u2 : PoS) => ((¬ (lg_cmp (gL u 48 11) r1) = 0 → wp_X12_w3 119 104 111 u2 (fun (r3 : Int64) (u4 : PoS) => ((¬ (lg_cmp (gL u2 48 11) r3) = 0 → wp_X12_w3 119 101 116 u4 (fun (r5 : Int64) (u6 : PoS) => ((¬ (lg_cmp (gL u4 48 11) r5) = 0 → wp_X12_w4 98 101 101 110 u6 (fun (r7 : Int64) (u8 : PoS) => ((¬ (lg_cmp (gL u6 48 11) r7) = 0 → wp_X12_w2 97 116 u8 (fun (r9 : Int64) (u10 : PoS) => ((¬ (lg_cmp (gL u8 48 11) r9) = 0 → wp_X12_w4 110 101 101 100 u10 (fun (r11 : Int64) (u12 : PoS) => ((¬ (lg_cmp (gL u10 48 11) r11) = 0 → wp_X12_w5 119 97 116 101 114 u12 (fun (r13 : Int64) (u14 : PoS) => ((¬ (lg_cmp (gL u12 48 11) r13) = 0 → wp_X12_w5 115 116 101 112 115 u14 (fun (r15 : Int64) (u16 : PoS) => ((¬ (lg_cmp (gL u14 48 11) r15) = 0 → post (-1) u16) ∧ ((lg_cmp (gL u14 48 11) r15) = 0 → post 7 u16)))) ∧ ((lg_cmp (gL u12 48 11) r13) = 0 → post 6 u14)))) ∧ ((lg_cmp (gL u10 48 11) r11) = 0 → post 5 u12)))) ∧ ((lg_cmp (gL u8 48 11) r9) = 0 → post 4 u10)))) ∧ ((lg_cmp (gL u6 48 11) r7) = 0 → post 3 u8)))) ∧ ((lg_cmp (gL u4 48 11) r5) = 0 → post 2 u6)))) ∧ ((lg_cmp (gL u2 48 11) r3) = 0 → post 1 u4)))) ∧ ((lg_cmp (gL u 48 11) r1) = 0 → post 0 u2)))) ∧ (¬ (gI u 48 9) = 2 → post (-1) u))
theorem np_X12_nameOf : yX12_nameOf.cls ≠ "java/lang/invoke/MethodHandle" ∧ yX12_nameOf.cls ≠ "java/lang/invoke/VarHandle" ∧ (parseMethodDescriptor yX12_nameOf.desc).map (fun d => d.parameters.length) = some 0 := by decide +kernel
set_option maxHeartbeats 4000000 in
set_option maxRecDepth 100000 in
theorem m_X12_nameOf (l : Launch) (V : VEn) {u : PoS} {post : Int32 → PoS → Prop} (h : wp_X12_nameOf  u post) : KI l V yX12_nameOf cX12_nameOf 1 .int 5 [.ref (eA V 48)] u post := by
  refine KI_of (by decide) (Nat.le_of_ble_eq_true rfl) (lv := [(0, .ref (eA V 48))]) rfl ?_
  intro p e s m args below meth c C
  rw [wp_X12_nameOf] at h
  refine a_aload_n C 0 dX12_nameOf_0 rfl rfl ?_
  refine a_geti C 9 dX12_nameOf_1 (by decide) rfl rfl rfl ib_12 (by decide) bw_1031 ?_
  refine a_iconst C 2 dX12_nameOf_4 (by decide) ?_
  refine a_icmp_eq C 10 dX12_nameOf_5 (by decide) (fun c25 => ?_) (fun c25 => ?_)
  · have h := h.1 c25
    refine a_aload_n C 0 dX12_nameOf_10 rfl rfl ?_
    refine a_getl C 11 dX12_nameOf_11 (by decide) rfl rfl rfl ib_12 (by decide) bw_1033 ?_
    refine a_bipush C 109 dX12_nameOf_14 (by decide) ?_
    refine a_bipush C 105 dX12_nameOf_16 (by decide) ?_
    refine a_bipush C 110 dX12_nameOf_18 (by decide) ?_
    refine a_bipush C 117 dX12_nameOf_20 (by decide) ?_
    refine a_bipush C 116 dX12_nameOf_22 (by decide) ?_
    refine a_bipush C 101 dX12_nameOf_24 (by decide) ?_
    refine a_callSl C dX12_nameOf_26 (m_X12_w6 l V h) bw_1237 bw_1238 bw_123 bw_1239 np_X12_w6 rfl rfl (by decide) (Nat.le_of_ble_eq_true rfl) ⟨Nat.zero_le _, Nat.zero_le _⟩ (fun r1 u2 h => ?_)
    refine a_lcmp C dX12_nameOf_29 ?_
    refine a_if_ne C 35 dX12_nameOf_30 (by decide) (fun c24 => ?_) (fun c24 => ?_)
    · have h := h.1 c24
      refine a_aload_n C 0 dX12_nameOf_35 rfl rfl ?_
      refine a_getl C 11 dX12_nameOf_36 (by decide) rfl rfl rfl ib_12 (by decide) bw_1033 ?_
      refine a_bipush C 119 dX12_nameOf_39 (by decide) ?_
      refine a_bipush C 104 dX12_nameOf_41 (by decide) ?_
      refine a_bipush C 111 dX12_nameOf_43 (by decide) ?_
      refine a_callSl C dX12_nameOf_45 (m_X12_w3 l V h) bw_1227 bw_1228 bw_123 bw_1229 np_X12_w3 rfl rfl (by decide) (Nat.le_of_ble_eq_true rfl) ⟨Nat.zero_le _, Nat.zero_le _⟩ (fun r3 u4 h => ?_)
      refine a_lcmp C dX12_nameOf_48 ?_
      refine a_if_ne C 54 dX12_nameOf_49 (by decide) (fun c23 => ?_) (fun c23 => ?_)
      · have h := h.1 c23
        refine a_aload_n C 0 dX12_nameOf_54 rfl rfl ?_
        refine a_getl C 11 dX12_nameOf_55 (by decide) rfl rfl rfl ib_12 (by decide) bw_1033 ?_
        refine a_bipush C 119 dX12_nameOf_58 (by decide) ?_
        refine a_bipush C 101 dX12_nameOf_60 (by decide) ?_
        refine a_bipush C 116 dX12_nameOf_62 (by decide) ?_
        refine a_callSl C dX12_nameOf_64 (m_X12_w3 l V h) bw_1227 bw_1228 bw_123 bw_1229 np_X12_w3 rfl rfl (by decide) (Nat.le_of_ble_eq_true rfl) ⟨Nat.zero_le _, Nat.zero_le _⟩ (fun r5 u6 h => ?_)
        refine a_lcmp C dX12_nameOf_67 ?_
        refine a_if_ne C 73 dX12_nameOf_68 (by decide) (fun c22 => ?_) (fun c22 => ?_)
        · have h := h.1 c22
          refine a_aload_n C 0 dX12_nameOf_73 rfl rfl ?_
          refine a_getl C 11 dX12_nameOf_74 (by decide) rfl rfl rfl ib_12 (by decide) bw_1033 ?_
          refine a_bipush C 98 dX12_nameOf_77 (by decide) ?_
          refine a_bipush C 101 dX12_nameOf_79 (by decide) ?_
          refine a_bipush C 101 dX12_nameOf_81 (by decide) ?_
          refine a_bipush C 110 dX12_nameOf_83 (by decide) ?_
          refine a_callSl C dX12_nameOf_85 (m_X12_w4 l V h) bw_1224 bw_1225 bw_123 bw_1226 np_X12_w4 rfl rfl (by decide) (Nat.le_of_ble_eq_true rfl) ⟨Nat.zero_le _, Nat.zero_le _⟩ (fun r7 u8 h => ?_)
          refine a_lcmp C dX12_nameOf_88 ?_
          refine a_if_ne C 94 dX12_nameOf_89 (by decide) (fun c21 => ?_) (fun c21 => ?_)
          · have h := h.1 c21
            refine a_aload_n C 0 dX12_nameOf_94 rfl rfl ?_
            refine a_getl C 11 dX12_nameOf_95 (by decide) rfl rfl rfl ib_12 (by decide) bw_1033 ?_
            refine a_bipush C 97 dX12_nameOf_98 (by decide) ?_
            refine a_bipush C 116 dX12_nameOf_100 (by decide) ?_
            refine a_callSl C dX12_nameOf_102 (m_X12_w2 l V h) bw_1230 bw_1231 bw_123 bw_1232 np_X12_w2 rfl rfl (by decide) (Nat.le_of_ble_eq_true rfl) ⟨Nat.zero_le _, Nat.zero_le _⟩ (fun r9 u10 h => ?_)
            refine a_lcmp C dX12_nameOf_105 ?_
            refine a_if_ne C 111 dX12_nameOf_106 (by decide) (fun c20 => ?_) (fun c20 => ?_)
            · have h := h.1 c20
              refine a_aload_n C 0 dX12_nameOf_111 rfl rfl ?_
              refine a_getl C 11 dX12_nameOf_112 (by decide) rfl rfl rfl ib_12 (by decide) bw_1033 ?_
              refine a_bipush C 110 dX12_nameOf_115 (by decide) ?_
              refine a_bipush C 101 dX12_nameOf_117 (by decide) ?_
              refine a_bipush C 101 dX12_nameOf_119 (by decide) ?_
              refine a_bipush C 100 dX12_nameOf_121 (by decide) ?_
              refine a_callSl C dX12_nameOf_123 (m_X12_w4 l V h) bw_1224 bw_1225 bw_123 bw_1226 np_X12_w4 rfl rfl (by decide) (Nat.le_of_ble_eq_true rfl) ⟨Nat.zero_le _, Nat.zero_le _⟩ (fun r11 u12 h => ?_)
              refine a_lcmp C dX12_nameOf_126 ?_
              refine a_if_ne C 132 dX12_nameOf_127 (by decide) (fun c19 => ?_) (fun c19 => ?_)
              · have h := h.1 c19
                refine a_aload_n C 0 dX12_nameOf_132 rfl rfl ?_
                refine a_getl C 11 dX12_nameOf_133 (by decide) rfl rfl rfl ib_12 (by decide) bw_1033 ?_
                refine a_bipush C 119 dX12_nameOf_136 (by decide) ?_
                refine a_bipush C 97 dX12_nameOf_138 (by decide) ?_
                refine a_bipush C 116 dX12_nameOf_140 (by decide) ?_
                refine a_bipush C 101 dX12_nameOf_142 (by decide) ?_
                refine a_bipush C 114 dX12_nameOf_144 (by decide) ?_
                refine a_callSl C dX12_nameOf_146 (m_X12_w5 l V h) bw_1221 bw_1222 bw_123 bw_1223 np_X12_w5 rfl rfl (by decide) (Nat.le_of_ble_eq_true rfl) ⟨Nat.zero_le _, Nat.zero_le _⟩ (fun r13 u14 h => ?_)
                refine a_lcmp C dX12_nameOf_149 ?_
                refine a_if_ne C 158 dX12_nameOf_150 (by decide) (fun c18 => ?_) (fun c18 => ?_)
                · have h := h.1 c18
                  refine a_aload_n C 0 dX12_nameOf_158 rfl rfl ?_
                  refine a_getl C 11 dX12_nameOf_159 (by decide) rfl rfl rfl ib_12 (by decide) bw_1033 ?_
                  refine a_bipush C 115 dX12_nameOf_162 (by decide) ?_
                  refine a_bipush C 116 dX12_nameOf_164 (by decide) ?_
                  refine a_bipush C 101 dX12_nameOf_166 (by decide) ?_
                  refine a_bipush C 112 dX12_nameOf_168 (by decide) ?_
                  refine a_bipush C 115 dX12_nameOf_170 (by decide) ?_
                  refine a_callSl C dX12_nameOf_172 (m_X12_w5 l V h) bw_1221 bw_1222 bw_123 bw_1223 np_X12_w5 rfl rfl (by decide) (Nat.le_of_ble_eq_true rfl) ⟨Nat.zero_le _, Nat.zero_le _⟩ (fun r15 u16 h => ?_)
                  refine a_lcmp C dX12_nameOf_175 ?_
                  refine a_if_ne C 184 dX12_nameOf_176 (by decide) (fun c17 => ?_) (fun c17 => ?_)
                  · have h := h.1 c17
                    refine a_iconst C (-1) dX12_nameOf_184 (by decide) ?_
                    exact a_iret C dX12_nameOf_185 h
                  · have h := h.2 c17
                    refine a_bipush C 7 dX12_nameOf_179 (by decide) ?_
                    refine a_goto C 185 dX12_nameOf_181 (by decide) ?_
                    exact a_iret C dX12_nameOf_185 h
                · have h := h.2 c18
                  refine a_bipush C 6 dX12_nameOf_153 (by decide) ?_
                  refine a_goto C 185 dX12_nameOf_155 (by decide) ?_
                  exact a_iret C dX12_nameOf_185 h
              · have h := h.2 c19
                refine a_iconst C 5 dX12_nameOf_130 (by decide) ?_
                exact a_iret C dX12_nameOf_131 h
            · have h := h.2 c20
              refine a_iconst C 4 dX12_nameOf_109 (by decide) ?_
              exact a_iret C dX12_nameOf_110 h
          · have h := h.2 c21
            refine a_iconst C 3 dX12_nameOf_92 (by decide) ?_
            exact a_iret C dX12_nameOf_93 h
        · have h := h.2 c22
          refine a_iconst C 2 dX12_nameOf_71 (by decide) ?_
          exact a_iret C dX12_nameOf_72 h
      · have h := h.2 c23
        refine a_iconst C 1 dX12_nameOf_52 (by decide) ?_
        exact a_iret C dX12_nameOf_53 h
    · have h := h.2 c24
      refine a_iconst C 0 dX12_nameOf_33 (by decide) ?_
      exact a_iret C dX12_nameOf_34 h
  · have h := h.2 c25
    refine a_iconst C (-1) dX12_nameOf_8 (by decide) ?_
    exact a_iret C dX12_nameOf_9 h

/-! RainOnTheOneModel.rank(I)I -/
def wp_X12_rank (a0 : Int32) (u : PoS) (post : Int32 → PoS → Prop) : Prop := ((a0 < 40 → ((¬ a0 = 22 → ((¬ a0 = 21 → ((¬ a0 = 20 → ((a0 < 10 → ((a0 = 5 → post 7 u) ∧ (¬ a0 = 5 → ((a0 = 2 → post 7 u) ∧ (¬ a0 = 2 → ((¬ a0 = 4 → ((a0 < 8 → post 5 u) ∧ (¬ a0 < 8 → post 6 u))) ∧ (a0 = 4 → post 7 u))))))) ∧ (¬ a0 < 10 → post 4 u))) ∧ (a0 = 20 → post 3 u))) ∧ (a0 = 21 → post 2 u))) ∧ (a0 = 22 → post 1 u))) ∧ (¬ a0 < 40 → post 0 u))
theorem np_X12_rank : yX12_rank.cls ≠ "java/lang/invoke/MethodHandle" ∧ yX12_rank.cls ≠ "java/lang/invoke/VarHandle" ∧ (parseMethodDescriptor yX12_rank.desc).map (fun d => d.parameters.length) = some 1 := by decide +kernel
set_option maxHeartbeats 4000000 in
set_option maxRecDepth 100000 in
theorem m_X12_rank (l : Launch) (V : VEn) {a0 : Int32} {u : PoS} {post : Int32 → PoS → Prop} (h : wp_X12_rank a0 u post) : KI l V yX12_rank cX12_rank 1 .int 0 [.int a0] u post := by
  refine KI_of (by decide) (Nat.le_of_ble_eq_true rfl) (lv := [(0, .int a0)]) rfl ?_
  intro p e s m args below meth c C
  rw [wp_X12_rank] at h
  refine a_iload_n C 0 dX12_rank_0 rfl rfl ?_
  refine a_bipush C 40 dX12_rank_1 (by decide) ?_
  refine a_icmp_lt C 10 dX12_rank_3 (by decide) (fun c9 => ?_) (fun c9 => ?_)
  · have h := h.1 c9
    refine a_iload_n C 0 dX12_rank_10 rfl rfl ?_
    refine a_bipush C 22 dX12_rank_11 (by decide) ?_
    refine a_icmp_ne C 20 dX12_rank_13 (by decide) (fun c8 => ?_) (fun c8 => ?_)
    · have h := h.1 c8
      refine a_iload_n C 0 dX12_rank_20 rfl rfl ?_
      refine a_bipush C 21 dX12_rank_21 (by decide) ?_
      refine a_icmp_ne C 30 dX12_rank_23 (by decide) (fun c7 => ?_) (fun c7 => ?_)
      · have h := h.1 c7
        refine a_iload_n C 0 dX12_rank_30 rfl rfl ?_
        refine a_bipush C 20 dX12_rank_31 (by decide) ?_
        refine a_icmp_ne C 40 dX12_rank_33 (by decide) (fun c6 => ?_) (fun c6 => ?_)
        · have h := h.1 c6
          refine a_iload_n C 0 dX12_rank_40 rfl rfl ?_
          refine a_bipush C 10 dX12_rank_41 (by decide) ?_
          refine a_icmp_lt C 50 dX12_rank_43 (by decide) (fun c5 => ?_) (fun c5 => ?_)
          · have h := h.1 c5
            refine a_iload_n C 0 dX12_rank_50 rfl rfl ?_
            refine a_iconst C 5 dX12_rank_51 (by decide) ?_
            refine a_icmp_eq C 65 dX12_rank_52 (by decide) (fun c4 => ?_) (fun c4 => ?_)
            · have h := h.1 c4
              refine a_bipush C 7 dX12_rank_65 (by decide) ?_
              refine a_goto C 82 dX12_rank_67 (by decide) ?_
              exact a_iret C dX12_rank_82 h
            · have h := h.2 c4
              refine a_iload_n C 0 dX12_rank_55 rfl rfl ?_
              refine a_iconst C 2 dX12_rank_56 (by decide) ?_
              refine a_icmp_eq C 65 dX12_rank_57 (by decide) (fun c3 => ?_) (fun c3 => ?_)
              · have h := h.1 c3
                refine a_bipush C 7 dX12_rank_65 (by decide) ?_
                refine a_goto C 82 dX12_rank_67 (by decide) ?_
                exact a_iret C dX12_rank_82 h
              · have h := h.2 c3
                refine a_iload_n C 0 dX12_rank_60 rfl rfl ?_
                refine a_iconst C 4 dX12_rank_61 (by decide) ?_
                refine a_icmp_ne C 70 dX12_rank_62 (by decide) (fun c2 => ?_) (fun c2 => ?_)
                · have h := h.1 c2
                  refine a_iload_n C 0 dX12_rank_70 rfl rfl ?_
                  refine a_bipush C 8 dX12_rank_71 (by decide) ?_
                  refine a_icmp_lt C 81 dX12_rank_73 (by decide) (fun c1 => ?_) (fun c1 => ?_)
                  · have h := h.1 c1
                    refine a_iconst C 5 dX12_rank_81 (by decide) ?_
                    exact a_iret C dX12_rank_82 h
                  · have h := h.2 c1
                    refine a_bipush C 6 dX12_rank_76 (by decide) ?_
                    refine a_goto C 82 dX12_rank_78 (by decide) ?_
                    exact a_iret C dX12_rank_82 h
                · have h := h.2 c2
                  refine a_bipush C 7 dX12_rank_65 (by decide) ?_
                  refine a_goto C 82 dX12_rank_67 (by decide) ?_
                  exact a_iret C dX12_rank_82 h
          · have h := h.2 c5
            refine a_iconst C 4 dX12_rank_46 (by decide) ?_
            refine a_goto C 82 dX12_rank_47 (by decide) ?_
            exact a_iret C dX12_rank_82 h
        · have h := h.2 c6
          refine a_iconst C 3 dX12_rank_36 (by decide) ?_
          refine a_goto C 82 dX12_rank_37 (by decide) ?_
          exact a_iret C dX12_rank_82 h
      · have h := h.2 c7
        refine a_iconst C 2 dX12_rank_26 (by decide) ?_
        refine a_goto C 82 dX12_rank_27 (by decide) ?_
        exact a_iret C dX12_rank_82 h
    · have h := h.2 c8
      refine a_iconst C 1 dX12_rank_16 (by decide) ?_
      refine a_goto C 82 dX12_rank_17 (by decide) ?_
      exact a_iret C dX12_rank_82 h
  · have h := h.2 c9
    refine a_iconst C 0 dX12_rank_6 (by decide) ?_
    refine a_goto C 82 dX12_rank_7 (by decide) ?_
    exact a_iret C dX12_rank_82 h

/-! RainOnTheOneModel.settle(I)V -/
def wj_X12_settle_80 (k0 : Int32 → PoS → Prop) (post : PoS → Prop) (v1 : Int32) (u : PoS) : Prop := ∀ z8 : PoS, z8 = pI u 48 17 ((gI u 48 17) - 1) → k0 v1 z8
def wl_X12_settle_0 (post : PoS → Prop) : Nat → Int32 → PoS → Prop
  | 0, _, _ => False
  | n + 1, v1, u => (((gI u 48 16) ≤ 0 → post u) ∧ (¬ (gI u 48 16) ≤ 0 → vp_in ((gI u 48 16) - 1) 160 ∧ wp_X12_rank (gI u 53 (Int32.toNatClampNeg ((gI u 48 16) - 1))) u (fun (r1 : Int32) (u2 : PoS) => ((r1 < v1 → post u2) ∧ (¬ r1 < v1 → ∀ z3 : PoS, z3 = pI u2 48 16 ((gI u2 48 16) - 1) → vp_in (gI z3 48 16) 160 ∧ wp_X12_emit (gI z3 53 (Int32.toNatClampNeg (gI z3 48 16))) 0 z3 (fun (u5 : PoS) => vp_in (gI u5 48 16) 160 ∧ wp_X12_rank (gI u5 53 (Int32.toNatClampNeg (gI u5 48 16))) u5 (fun (r6 : Int32) (u7 : PoS) => ((r6 = 7 → wj_X12_settle_80 (wl_X12_settle_0 post n) post v1 u7) ∧ (¬ r6 = 7 → vp_in (gI u7 48 16) 160 ∧ ((¬ (gI u7 53 (Int32.toNatClampNeg (gI u7 48 16))) = 20 → wl_X12_settle_0 post n v1 u7) ∧ ((gI u7 53 (Int32.toNatClampNeg (gI u7 48 16))) = 20 → wj_X12_settle_80 (wl_X12_settle_0 post n) post v1 u7)))))))))))
def wp_X12_settle (a0 : Int32) (u : PoS) (post : PoS → Prop) : Prop := (∃ n0, wl_X12_settle_0 post n0 a0 u)
set_option maxHeartbeats 4000000 in
set_option maxRecDepth 100000 in
theorem tj_X12_settle_80 {p : Program} {l : Launch} {e : Env} {s : State} {m : MethodId} {args : Array Value} {below : List Frame} {meth : Method} {c : Code} {V : VEn} {k0 : Int32 → PoS → Prop} {post : PoS → Prop} (C : CxS p s m args meth c V cX12_settle 2 RX12 none) (hk0 : ∀ (v1 : Int32) (u : PoS), k0 v1 u → AtS p l e (Rm 1) s m args below meth c V 2 0 0 (QV V below args s post) 0 [(0, .ref (eA V 48)), (1, .int v1)] [] u) (v1 : Int32) (u : PoS) (h : wj_X12_settle_80 k0 post v1 u) : AtS p l e (Rm 1) s m args below meth c V 2 0 0 (QV V below args s post) 80 [(0, .ref (eA V 48)), (1, .int v1)] [] u := by
  rw [wj_X12_settle_80] at h
  refine a_aload_n C 0 dX12_settle_80 rfl rfl ?_
  refine a_dup C dX12_settle_81 rfl ?_
  refine a_geti C 17 dX12_settle_82 (by decide) rfl rfl rfl ib_12 (by decide) bw_1039 ?_
  refine a_iconst C 1 dX12_settle_85 (by decide) ?_
  refine a_isub C dX12_settle_86 ?_
  refine a_puti C (ty := .int) 17 dX12_settle_87 (by decide) rfl rfl rfl ib_12 (by decide) bw_1039 tyX12 tyX12_ok nmX12 rfl (by decide +kernel) rfl rfl ?_
  refine a_topu (fun z8 ez8 => ?_)
  have h := h z8 ez8
  refine a_goto C 0 dX12_settle_90 (by decide) ?_
  exact hk0 _ _ h
set_option maxHeartbeats 4000000 in
set_option maxRecDepth 100000 in
theorem tl_X12_settle_0 {p : Program} {l : Launch} {e : Env} {s : State} {m : MethodId} {args : Array Value} {below : List Frame} {meth : Method} {c : Code} {V : VEn} {post : PoS → Prop} (C : CxS p s m args meth c V cX12_settle 2 RX12 none) : ∀ (n : Nat) (v1 : Int32) (u : PoS), wl_X12_settle_0 post n v1 u → AtS p l e (Rm 1) s m args below meth c V 2 0 0 (QV V below args s post) 0 [(0, .ref (eA V 48)), (1, .int v1)] [] u := by
  intro n
  induction n with
  | zero => intro v1 u h; exact h.elim
  | succ n ih =>
    intro v1 u h
    rw [wl_X12_settle_0] at h
    refine a_aload_n C 0 dX12_settle_0 rfl rfl ?_
    refine a_geti C 16 dX12_settle_1 (by decide) rfl rfl rfl ib_12 (by decide) bw_1038 ?_
    refine a_if_le C 93 dX12_settle_4 (by decide) (fun c12 => ?_) (fun c12 => ?_)
    · have h := h.1 c12
      exact a_vret C dX12_settle_93 h
    · have h := h.2 c12
      refine a_aload_n C 0 dX12_settle_7 rfl rfl ?_
      refine a_getr C 15 (r := 53) dX12_settle_8 (by decide) rfl rfl rfl ib_12 (by decide) bw_1037 ?_
      refine a_aload_n C 0 dX12_settle_11 rfl rfl ?_
      refine a_geti C 16 dX12_settle_12 (by decide) rfl rfl rfl ib_12 (by decide) bw_1038 ?_
      refine a_iconst C 1 dX12_settle_15 (by decide) ?_
      refine a_isub C dX12_settle_16 ?_
      refine b_iald C (Int32.toNatClampNeg ((gI u 48 16) - 1)) dX12_settle_17 (by decide) rfl h.1 rfl ?_
      have h := h.2
      refine a_callSi C dX12_settle_18 (m_X12_rank l V h) bw_1283 bw_1284 bw_123 bw_1285 np_X12_rank rfl rfl (by decide) (Nat.le_of_ble_eq_true rfl) ⟨Nat.zero_le _, Nat.zero_le _⟩ (fun r1 u2 h => ?_)
      refine a_iload_n C 1 dX12_settle_21 rfl rfl ?_
      refine a_icmp_lt C 93 dX12_settle_22 (by decide) (fun c11 => ?_) (fun c11 => ?_)
      · have h := h.1 c11
        exact a_vret C dX12_settle_93 h
      · have h := h.2 c11
        refine a_aload_n C 0 dX12_settle_25 rfl rfl ?_
        refine a_dup C dX12_settle_26 rfl ?_
        refine a_geti C 16 dX12_settle_27 (by decide) rfl rfl rfl ib_12 (by decide) bw_1038 ?_
        refine a_iconst C 1 dX12_settle_30 (by decide) ?_
        refine a_isub C dX12_settle_31 ?_
        refine a_puti C (ty := .int) 16 dX12_settle_32 (by decide) rfl rfl rfl ib_12 (by decide) bw_1038 tyX12 tyX12_ok nmX12 rfl (by decide +kernel) rfl rfl ?_
        refine a_topu (fun z3 ez3 => ?_)
        have h := h z3 ez3
        refine a_aload_n C 0 dX12_settle_35 rfl rfl ?_
        refine a_aload_n C 0 dX12_settle_36 rfl rfl ?_
        refine a_getr C 15 (r := 53) dX12_settle_37 (by decide) rfl rfl rfl ib_12 (by decide) bw_1037 ?_
        refine a_aload_n C 0 dX12_settle_40 rfl rfl ?_
        refine a_geti C 16 dX12_settle_41 (by decide) rfl rfl rfl ib_12 (by decide) bw_1038 ?_
        refine b_iald C (Int32.toNatClampNeg (gI z3 48 16)) dX12_settle_44 (by decide) rfl h.1 rfl ?_
        have h := h.2
        refine a_iconst C 0 dX12_settle_45 (by decide) ?_
        refine a_callVv C dX12_settle_46 (m_X12_emit l V h) bw_1294 bw_1296 bw_63 bw_123 bw_1297 (by decide) rfl rfl np_X12_emit rfl rfl (by decide) (Nat.le_of_ble_eq_true rfl) ⟨Nat.zero_le _, Nat.zero_le _⟩ (fun u5 h => ?_)
        refine a_aload_n C 0 dX12_settle_49 rfl rfl ?_
        refine a_getr C 15 (r := 53) dX12_settle_50 (by decide) rfl rfl rfl ib_12 (by decide) bw_1037 ?_
        refine a_aload_n C 0 dX12_settle_53 rfl rfl ?_
        refine a_geti C 16 dX12_settle_54 (by decide) rfl rfl rfl ib_12 (by decide) bw_1038 ?_
        refine b_iald C (Int32.toNatClampNeg (gI u5 48 16)) dX12_settle_57 (by decide) rfl h.1 rfl ?_
        have h := h.2
        refine a_callSi C dX12_settle_58 (m_X12_rank l V h) bw_1283 bw_1284 bw_123 bw_1285 np_X12_rank rfl rfl (by decide) (Nat.le_of_ble_eq_true rfl) ⟨Nat.zero_le _, Nat.zero_le _⟩ (fun r6 u7 h => ?_)
        refine a_bipush C 7 dX12_settle_61 (by decide) ?_
        refine a_icmp_eq C 80 dX12_settle_63 (by decide) (fun c10 => ?_) (fun c10 => ?_)
        · have h := h.1 c10
          refine tj_X12_settle_80 C ih _ _ h
        · have h := h.2 c10
          refine a_aload_n C 0 dX12_settle_66 rfl rfl ?_
          refine a_getr C 15 (r := 53) dX12_settle_67 (by decide) rfl rfl rfl ib_12 (by decide) bw_1037 ?_
          refine a_aload_n C 0 dX12_settle_70 rfl rfl ?_
          refine a_geti C 16 dX12_settle_71 (by decide) rfl rfl rfl ib_12 (by decide) bw_1038 ?_
          refine b_iald C (Int32.toNatClampNeg (gI u7 48 16)) dX12_settle_74 (by decide) rfl h.1 rfl ?_
          have h := h.2
          refine a_bipush C 20 dX12_settle_75 (by decide) ?_
          refine a_icmp_ne C 0 dX12_settle_77 (by decide) (fun c9 => ?_) (fun c9 => ?_)
          · have h := h.1 c9
            exact ih _ _ h
          · have h := h.2 c9
            refine tj_X12_settle_80 C ih _ _ h
theorem np_X12_settle : yX12_settle.cls ≠ "java/lang/invoke/MethodHandle" ∧ yX12_settle.cls ≠ "java/lang/invoke/VarHandle" ∧ (parseMethodDescriptor yX12_settle.desc).map (fun d => d.parameters.length) = some 1 := by decide +kernel
set_option maxHeartbeats 4000000 in
set_option maxRecDepth 100000 in
theorem m_X12_settle (l : Launch) (V : VEn) {a0 : Int32} {u : PoS} {post : PoS → Prop} (h : wp_X12_settle a0 u post) : KV l V yX12_settle cX12_settle 2 1 [.ref (eA V 48), .int a0] u post := by
  refine KV_of (by decide) (Nat.le_of_ble_eq_true rfl) (lv := [(0, .ref (eA V 48)), (1, .int a0)]) rfl ?_
  intro p e s m args below meth c C
  rw [wp_X12_settle] at h
  obtain ⟨n0, h⟩ := h
  refine tl_X12_settle_0 C n0 _ _ h

/-! RainOnTheOneModel.openAt()I -/
def wl_X12_openAt_7 (post : Int32 → PoS → Prop) : Nat → Int32 → PoS → Prop
  | 0, _, _ => False
  | n + 1, v1, u => ((v1 < 0 → post v1 u) ∧ (¬ v1 < 0 → vp_in v1 160 ∧ ((40 ≤ (gI u 53 (Int32.toNatClampNeg v1)) → post v1 u) ∧ (¬ 40 ≤ (gI u 53 (Int32.toNatClampNeg v1)) → wl_X12_openAt_7 post n (v1 + (-1)) u))))
def wp_X12_openAt (u : PoS) (post : Int32 → PoS → Prop) : Prop := ∀ x1 : Int32, x1 = ((gI u 48 16) - 1) → (∃ n7, wl_X12_openAt_7 post n7 x1 u)
set_option maxHeartbeats 4000000 in
set_option maxRecDepth 100000 in
theorem tl_X12_openAt_7 {p : Program} {l : Launch} {e : Env} {s : State} {m : MethodId} {args : Array Value} {below : List Frame} {meth : Method} {c : Code} {V : VEn} {post : Int32 → PoS → Prop} (C : CxS p s m args meth c V cX12_openAt 2 RX12 (some .int)) : ∀ (n : Nat) (v1 : Int32) (u : PoS), wl_X12_openAt_7 post n v1 u → AtS p l e (Rm 0) s m args below meth c V 2 0 0 (QI V below args s post) 7 [(0, .ref (eA V 48)), (1, .int v1)] [] u := by
  intro n
  induction n with
  | zero => intro v1 u h; exact h.elim
  | succ n ih =>
    intro v1 u h
    rw [wl_X12_openAt_7] at h
    refine a_iload_n C 1 dX12_openAt_7 rfl rfl ?_
    refine a_if_lt C 28 dX12_openAt_8 (by decide) (fun c3 => ?_) (fun c3 => ?_)
    · have h := h.1 c3
      refine a_iload_n C 1 dX12_openAt_28 rfl rfl ?_
      exact a_iret C dX12_openAt_29 h
    · have h := h.2 c3
      refine a_aload_n C 0 dX12_openAt_11 rfl rfl ?_
      refine a_getr C 15 (r := 53) dX12_openAt_12 (by decide) rfl rfl rfl ib_12 (by decide) bw_1037 ?_
      refine a_iload_n C 1 dX12_openAt_15 rfl rfl ?_
      refine b_iald C (Int32.toNatClampNeg v1) dX12_openAt_16 (by decide) rfl h.1 rfl ?_
      have h := h.2
      refine a_bipush C 40 dX12_openAt_17 (by decide) ?_
      refine a_icmp_ge C 28 dX12_openAt_19 (by decide) (fun c2 => ?_) (fun c2 => ?_)
      · have h := h.1 c2
        refine a_iload_n C 1 dX12_openAt_28 rfl rfl ?_
        exact a_iret C dX12_openAt_29 h
      · have h := h.2 c2
        refine a_iinc C (v1 + (-1)) 1 [(1, .int (v1 + (-1))), (0, .ref (eA V 48))] dX12_openAt_22 rfl (congrArg (fun z => v1 + z) (show Int32.ofInt (-1) = (-1) by decide)) (by decide) rfl ?_
        refine a_goto C 7 dX12_openAt_25 (by decide) ?_
        refine a_sub [1, 0] rfl ?_
        exact ih _ _ h
theorem np_X12_openAt : yX12_openAt.cls ≠ "java/lang/invoke/MethodHandle" ∧ yX12_openAt.cls ≠ "java/lang/invoke/VarHandle" ∧ (parseMethodDescriptor yX12_openAt.desc).map (fun d => d.parameters.length) = some 0 := by decide +kernel
set_option maxHeartbeats 4000000 in
set_option maxRecDepth 100000 in
theorem m_X12_openAt (l : Launch) (V : VEn) {u : PoS} {post : Int32 → PoS → Prop} (h : wp_X12_openAt  u post) : KI l V yX12_openAt cX12_openAt 2 .int 0 [.ref (eA V 48)] u post := by
  refine KI_of (by decide) (Nat.le_of_ble_eq_true rfl) (lv := [(0, .ref (eA V 48))]) rfl ?_
  intro p e s m args below meth c C
  rw [wp_X12_openAt] at h
  refine a_aload_n C 0 dX12_openAt_0 rfl rfl ?_
  refine a_geti C 16 dX12_openAt_1 (by decide) rfl rfl rfl ib_12 (by decide) bw_1038 ?_
  refine a_iconst C 1 dX12_openAt_4 (by decide) ?_
  refine a_isub C dX12_openAt_5 ?_
  refine a_topi (fun x1 ex1 => ?_)
  have h := h x1 ex1
  refine a_istore_n C [(1, .int x1), (0, .ref (eA V 48))] dX12_openAt_6 rfl (by decide) rfl ?_
  refine a_sub [1, 0] rfl ?_
  obtain ⟨n7, h⟩ := h
  refine tl_X12_openAt_7 C n7 _ _ h

/-! RainOnTheOneModel.openNow()I -/
def wp_X12_openNow (u : PoS) (post : Int32 → PoS → Prop) : Prop := wp_X12_openAt u (fun (r1 : Int32) (u2 : PoS) => ((0 ≤ r1 → wp_X12_openAt u2 (fun (r3 : Int32) (u4 : PoS) => vp_in r3 160 ∧ post (gI u4 53 (Int32.toNatClampNeg r3)) u4)) ∧ (¬ 0 ≤ r1 → post (-1) u2)))
theorem np_X12_openNow : yX12_openNow.cls ≠ "java/lang/invoke/MethodHandle" ∧ yX12_openNow.cls ≠ "java/lang/invoke/VarHandle" ∧ (parseMethodDescriptor yX12_openNow.desc).map (fun d => d.parameters.length) = some 0 := by decide +kernel
set_option maxHeartbeats 4000000 in
set_option maxRecDepth 100000 in
theorem m_X12_openNow (l : Launch) (V : VEn) {u : PoS} {post : Int32 → PoS → Prop} (h : wp_X12_openNow  u post) : KI l V yX12_openNow cX12_openNow 1 .int 1 [.ref (eA V 48)] u post := by
  refine KI_of (by decide) (Nat.le_of_ble_eq_true rfl) (lv := [(0, .ref (eA V 48))]) rfl ?_
  intro p e s m args below meth c C
  rw [wp_X12_openNow] at h
  refine a_aload_n C 0 dX12_openNow_0 rfl rfl ?_
  refine a_callVi C dX12_openNow_1 (m_X12_openAt l V h) bw_1275 bw_1277 bw_59 bw_123 bw_1278 (by decide) rfl rfl np_X12_openAt rfl rfl (by decide) (Nat.le_of_ble_eq_true rfl) ⟨Nat.zero_le _, Nat.zero_le _⟩ (fun r1 u2 h => ?_)
  refine a_if_ge C 11 dX12_openNow_4 (by decide) (fun c5 => ?_) (fun c5 => ?_)
  · have h := h.1 c5
    refine a_aload_n C 0 dX12_openNow_11 rfl rfl ?_
    refine a_getr C 15 (r := 53) dX12_openNow_12 (by decide) rfl rfl rfl ib_12 (by decide) bw_1037 ?_
    refine a_aload_n C 0 dX12_openNow_15 rfl rfl ?_
    refine a_callVi C dX12_openNow_16 (m_X12_openAt l V h) bw_1275 bw_1277 bw_59 bw_123 bw_1278 (by decide) rfl rfl np_X12_openAt rfl rfl (by decide) (Nat.le_of_ble_eq_true rfl) ⟨Nat.zero_le _, Nat.zero_le _⟩ (fun r3 u4 h => ?_)
    refine b_iald C (Int32.toNatClampNeg r3) dX12_openNow_19 (by decide) rfl h.1 rfl ?_
    have h := h.2
    exact a_iret C dX12_openNow_20 h
  · have h := h.2 c5
    refine a_iconst C (-1) dX12_openNow_7 (by decide) ?_
    refine a_goto C 20 dX12_openNow_8 (by decide) ?_
    exact a_iret C dX12_openNow_20 h

/-! RainOnTheOneModel.isCompared()Z -/
def wl_X12_isCompared_7 (k30 : Int32 → PoS → Prop) (post : Int32 → PoS → Prop) : Nat → Int32 → PoS → Prop
  | 0, _, _ => False
  | n + 1, v1, u => ((v1 < 0 → k30 v1 u) ∧ (¬ v1 < 0 → vp_in v1 160 ∧ wp_X12_rank (gI u 53 (Int32.toNatClampNeg v1)) u (fun (r2 : Int32) (u3 : PoS) => ((r2 ≤ 4 → k30 v1 u3) ∧ (¬ r2 ≤ 4 → wl_X12_isCompared_7 k30 post n (v1 + (-1)) u3)))))
def wj_X12_isCompared_30 (post : Int32 → PoS → Prop) (v1 : Int32) (u : PoS) : Prop := ((v1 < 0 → post 0 u) ∧ (¬ v1 < 0 → vp_in v1 160 ∧ wp_X12_rank (gI u 53 (Int32.toNatClampNeg v1)) u (fun (r7 : Int32) (u8 : PoS) => ((¬ r7 = 4 → post 0 u8) ∧ (r7 = 4 → post 1 u8)))))
def wp_X12_isCompared (u : PoS) (post : Int32 → PoS → Prop) : Prop := ∀ x1 : Int32, x1 = ((gI u 48 16) - 1) → (∃ n7, wl_X12_isCompared_7 (fun (v16 : Int32) (u6 : PoS) => wj_X12_isCompared_30 post v16 u6) post n7 x1 u)
set_option maxHeartbeats 4000000 in
set_option maxRecDepth 100000 in
theorem tl_X12_isCompared_7 {p : Program} {l : Launch} {e : Env} {s : State} {m : MethodId} {args : Array Value} {below : List Frame} {meth : Method} {c : Code} {V : VEn} {k30 : Int32 → PoS → Prop} {post : Int32 → PoS → Prop} (C : CxS p s m args meth c V cX12_isCompared 2 RX12 (some .boolean)) (hk30 : ∀ (v1 : Int32) (u : PoS), k30 v1 u → AtS p l e (Rm 1) s m args below meth c V 2 0 0 (QI V below args s post) 30 [(0, .ref (eA V 48)), (1, .int v1)] [] u) : ∀ (n : Nat) (v1 : Int32) (u : PoS), wl_X12_isCompared_7 k30 post n v1 u → AtS p l e (Rm 1) s m args below meth c V 2 0 0 (QI V below args s post) 7 [(0, .ref (eA V 48)), (1, .int v1)] [] u := by
  intro n
  induction n with
  | zero => intro v1 u h; exact h.elim
  | succ n ih =>
    intro v1 u h
    rw [wl_X12_isCompared_7] at h
    refine a_iload_n C 1 dX12_isCompared_7 rfl rfl ?_
    refine a_if_lt C 30 dX12_isCompared_8 (by decide) (fun c5 => ?_) (fun c5 => ?_)
    · have h := h.1 c5
      exact hk30 _ _ h
    · have h := h.2 c5
      refine a_aload_n C 0 dX12_isCompared_11 rfl rfl ?_
      refine a_getr C 15 (r := 53) dX12_isCompared_12 (by decide) rfl rfl rfl ib_12 (by decide) bw_1037 ?_
      refine a_iload_n C 1 dX12_isCompared_15 rfl rfl ?_
      refine b_iald C (Int32.toNatClampNeg v1) dX12_isCompared_16 (by decide) rfl h.1 rfl ?_
      have h := h.2
      refine a_callSi C dX12_isCompared_17 (m_X12_rank l V h) bw_1283 bw_1284 bw_123 bw_1285 np_X12_rank rfl rfl (by decide) (Nat.le_of_ble_eq_true rfl) ⟨Nat.zero_le _, Nat.zero_le _⟩ (fun r2 u3 h => ?_)
      refine a_iconst C 4 dX12_isCompared_20 (by decide) ?_
      refine a_icmp_le C 30 dX12_isCompared_21 (by decide) (fun c4 => ?_) (fun c4 => ?_)
      · have h := h.1 c4
        exact hk30 _ _ h
      · have h := h.2 c4
        refine a_iinc C (v1 + (-1)) 1 [(1, .int (v1 + (-1))), (0, .ref (eA V 48))] dX12_isCompared_24 rfl (congrArg (fun z => v1 + z) (show Int32.ofInt (-1) = (-1) by decide)) (by decide) rfl ?_
        refine a_goto C 7 dX12_isCompared_27 (by decide) ?_
        refine a_sub [1, 0] rfl ?_
        exact ih _ _ h
set_option maxHeartbeats 4000000 in
set_option maxRecDepth 100000 in
theorem tj_X12_isCompared_30 {p : Program} {l : Launch} {e : Env} {s : State} {m : MethodId} {args : Array Value} {below : List Frame} {meth : Method} {c : Code} {V : VEn} {post : Int32 → PoS → Prop} (C : CxS p s m args meth c V cX12_isCompared 2 RX12 (some .boolean)) (v1 : Int32) (u : PoS) (h : wj_X12_isCompared_30 post v1 u) : AtS p l e (Rm 1) s m args below meth c V 2 0 0 (QI V below args s post) 30 [(0, .ref (eA V 48)), (1, .int v1)] [] u := by
  rw [wj_X12_isCompared_30] at h
  refine a_iload_n C 1 dX12_isCompared_30 rfl rfl ?_
  refine a_if_lt C 51 dX12_isCompared_31 (by decide) (fun c10 => ?_) (fun c10 => ?_)
  · have h := h.1 c10
    refine a_iconst C 0 dX12_isCompared_51 (by decide) ?_
    exact a_zret C rfl dX12_isCompared_52 h
  · have h := h.2 c10
    refine a_aload_n C 0 dX12_isCompared_34 rfl rfl ?_
    refine a_getr C 15 (r := 53) dX12_isCompared_35 (by decide) rfl rfl rfl ib_12 (by decide) bw_1037 ?_
    refine a_iload_n C 1 dX12_isCompared_38 rfl rfl ?_
    refine b_iald C (Int32.toNatClampNeg v1) dX12_isCompared_39 (by decide) rfl h.1 rfl ?_
    have h := h.2
    refine a_callSi C dX12_isCompared_40 (m_X12_rank l V h) bw_1283 bw_1284 bw_123 bw_1285 np_X12_rank rfl rfl (by decide) (Nat.le_of_ble_eq_true rfl) ⟨Nat.zero_le _, Nat.zero_le _⟩ (fun r7 u8 h => ?_)
    refine a_iconst C 4 dX12_isCompared_43 (by decide) ?_
    refine a_icmp_ne C 51 dX12_isCompared_44 (by decide) (fun c9 => ?_) (fun c9 => ?_)
    · have h := h.1 c9
      refine a_iconst C 0 dX12_isCompared_51 (by decide) ?_
      exact a_zret C rfl dX12_isCompared_52 h
    · have h := h.2 c9
      refine a_iconst C 1 dX12_isCompared_47 (by decide) ?_
      refine a_goto C 52 dX12_isCompared_48 (by decide) ?_
      exact a_zret C rfl dX12_isCompared_52 h
theorem np_X12_isCompared : yX12_isCompared.cls ≠ "java/lang/invoke/MethodHandle" ∧ yX12_isCompared.cls ≠ "java/lang/invoke/VarHandle" ∧ (parseMethodDescriptor yX12_isCompared.desc).map (fun d => d.parameters.length) = some 0 := by decide +kernel
set_option maxHeartbeats 4000000 in
set_option maxRecDepth 100000 in
theorem m_X12_isCompared (l : Launch) (V : VEn) {u : PoS} {post : Int32 → PoS → Prop} (h : wp_X12_isCompared  u post) : KI l V yX12_isCompared cX12_isCompared 2 .boolean 1 [.ref (eA V 48)] u post := by
  refine KI_of (by decide) (Nat.le_of_ble_eq_true rfl) (lv := [(0, .ref (eA V 48))]) rfl ?_
  intro p e s m args below meth c C
  rw [wp_X12_isCompared] at h
  refine a_aload_n C 0 dX12_isCompared_0 rfl rfl ?_
  refine a_geti C 16 dX12_isCompared_1 (by decide) rfl rfl rfl ib_12 (by decide) bw_1038 ?_
  refine a_iconst C 1 dX12_isCompared_4 (by decide) ?_
  refine a_isub C dX12_isCompared_5 ?_
  refine a_topi (fun x1 ex1 => ?_)
  have h := h x1 ex1
  refine a_istore_n C [(1, .int x1), (0, .ref (eA V 48))] dX12_isCompared_6 rfl (by decide) rfl ?_
  refine a_sub [1, 0] rfl ?_
  obtain ⟨n7, h⟩ := h
  refine tl_X12_isCompared_7 C (fun v16 u6 h => ?_) n7 _ _ h
  refine tj_X12_isCompared_30 C _ _ h

/-! RainOnTheOneModel.isAskAhead()Z -/
def wp_X12_isAskAhead (u : PoS) (post : Int32 → PoS → Prop) : Prop := wp_X12_openNow u (fun (r1 : Int32) (u2 : PoS) => ((¬ r1 = 42 → post 0 u2) ∧ (r1 = 42 → vp_in ((gI u2 48 16) - 1) 160 ∧ ((40 ≤ (gI u2 53 (Int32.toNatClampNeg ((gI u2 48 16) - 1))) → post 1 u2) ∧ (¬ 40 ≤ (gI u2 53 (Int32.toNatClampNeg ((gI u2 48 16) - 1))) → vp_in ((gI u2 48 16) - 1) 160 ∧ wp_X12_rank (gI u2 53 (Int32.toNatClampNeg ((gI u2 48 16) - 1))) u2 (fun (r3 : Int32) (u4 : PoS) => wp_X12_isIn r3 1 3 u4 (fun (r5 : Int32) (u6 : PoS) => ((r5 = 0 → post 0 u6) ∧ (¬ r5 = 0 → post 1 u6)))))))))
theorem np_X12_isAskAhead : yX12_isAskAhead.cls ≠ "java/lang/invoke/MethodHandle" ∧ yX12_isAskAhead.cls ≠ "java/lang/invoke/VarHandle" ∧ (parseMethodDescriptor yX12_isAskAhead.desc).map (fun d => d.parameters.length) = some 0 := by decide +kernel
set_option maxHeartbeats 4000000 in
set_option maxRecDepth 100000 in
theorem m_X12_isAskAhead (l : Launch) (V : VEn) {u : PoS} {post : Int32 → PoS → Prop} (h : wp_X12_isAskAhead  u post) : KI l V yX12_isAskAhead cX12_isAskAhead 1 .boolean 2 [.ref (eA V 48)] u post := by
  refine KI_of (by decide) (Nat.le_of_ble_eq_true rfl) (lv := [(0, .ref (eA V 48))]) rfl ?_
  intro p e s m args below meth c C
  rw [wp_X12_isAskAhead] at h
  refine a_aload_n C 0 dX12_isAskAhead_0 rfl rfl ?_
  refine a_callVi C dX12_isAskAhead_1 (m_X12_openNow l V h) bw_1271 bw_1273 bw_58 bw_123 bw_1274 (by decide) rfl rfl np_X12_openNow rfl rfl (by decide) (Nat.le_of_ble_eq_true rfl) ⟨Nat.zero_le _, Nat.zero_le _⟩ (fun r1 u2 h => ?_)
  refine a_bipush C 42 dX12_isAskAhead_4 (by decide) ?_
  refine a_icmp_ne C 51 dX12_isAskAhead_6 (by decide) (fun c9 => ?_) (fun c9 => ?_)
  · have h := h.1 c9
    refine a_iconst C 0 dX12_isAskAhead_51 (by decide) ?_
    exact a_zret C rfl dX12_isAskAhead_52 h
  · have h := h.2 c9
    refine a_aload_n C 0 dX12_isAskAhead_9 rfl rfl ?_
    refine a_getr C 15 (r := 53) dX12_isAskAhead_10 (by decide) rfl rfl rfl ib_12 (by decide) bw_1037 ?_
    refine a_aload_n C 0 dX12_isAskAhead_13 rfl rfl ?_
    refine a_geti C 16 dX12_isAskAhead_14 (by decide) rfl rfl rfl ib_12 (by decide) bw_1038 ?_
    refine a_iconst C 1 dX12_isAskAhead_17 (by decide) ?_
    refine a_isub C dX12_isAskAhead_18 ?_
    refine b_iald C (Int32.toNatClampNeg ((gI u2 48 16) - 1)) dX12_isAskAhead_19 (by decide) rfl h.1 rfl ?_
    have h := h.2
    refine a_bipush C 40 dX12_isAskAhead_20 (by decide) ?_
    refine a_icmp_ge C 47 dX12_isAskAhead_22 (by decide) (fun c8 => ?_) (fun c8 => ?_)
    · have h := h.1 c8
      refine a_iconst C 1 dX12_isAskAhead_47 (by decide) ?_
      refine a_goto C 52 dX12_isAskAhead_48 (by decide) ?_
      exact a_zret C rfl dX12_isAskAhead_52 h
    · have h := h.2 c8
      refine a_aload_n C 0 dX12_isAskAhead_25 rfl rfl ?_
      refine a_getr C 15 (r := 53) dX12_isAskAhead_26 (by decide) rfl rfl rfl ib_12 (by decide) bw_1037 ?_
      refine a_aload_n C 0 dX12_isAskAhead_29 rfl rfl ?_
      refine a_geti C 16 dX12_isAskAhead_30 (by decide) rfl rfl rfl ib_12 (by decide) bw_1038 ?_
      refine a_iconst C 1 dX12_isAskAhead_33 (by decide) ?_
      refine a_isub C dX12_isAskAhead_34 ?_
      refine b_iald C (Int32.toNatClampNeg ((gI u2 48 16) - 1)) dX12_isAskAhead_35 (by decide) rfl h.1 rfl ?_
      have h := h.2
      refine a_callSi C dX12_isAskAhead_36 (m_X12_rank l V h) bw_1283 bw_1284 bw_123 bw_1285 np_X12_rank rfl rfl (by decide) (Nat.le_of_ble_eq_true rfl) ⟨Nat.zero_le _, Nat.zero_le _⟩ (fun r3 u4 h => ?_)
      refine a_iconst C 1 dX12_isAskAhead_39 (by decide) ?_
      refine a_iconst C 3 dX12_isAskAhead_40 (by decide) ?_
      refine a_callSi C dX12_isAskAhead_41 (m_X12_isIn l V h) bw_1147 bw_1148 bw_123 bw_1149 np_X12_isIn rfl rfl (by decide) (Nat.le_of_ble_eq_true rfl) ⟨Nat.zero_le _, Nat.zero_le _⟩ (fun r5 u6 h => ?_)
      refine a_if_eq C 51 dX12_isAskAhead_44 (by decide) (fun c7 => ?_) (fun c7 => ?_)
      · have h := h.1 c7
        refine a_iconst C 0 dX12_isAskAhead_51 (by decide) ?_
        exact a_zret C rfl dX12_isAskAhead_52 h
      · have h := h.2 c7
        refine a_iconst C 1 dX12_isAskAhead_47 (by decide) ?_
        refine a_goto C 52 dX12_isAskAhead_48 (by decide) ?_
        exact a_zret C rfl dX12_isAskAhead_52 h

/-! RainOnTheOneModel.opened(I)I -/
def wp_X12_opened (a0 : Int32) (u : PoS) (post : Int32 → PoS → Prop) : Prop := ((¬ (gI u 48 17) = 8 → ∀ z1 : PoS, z1 = pI u 48 17 ((gI u 48 17) + 1) → vp_in (gI z1 48 16) 160 ∧ ∀ z2 : PoS, z2 = pI z1 53 (Int32.toNatClampNeg (gI z1 48 16)) a0 → ∀ z3 : PoS, z3 = pI z2 48 16 ((gI z2 48 16) + 1) → wp_X12_nextToken z3 (fun (u5 : PoS) => post 0 u5)) ∧ ((gI u 48 17) = 8 → post 3 u))
theorem np_X12_opened : yX12_opened.cls ≠ "java/lang/invoke/MethodHandle" ∧ yX12_opened.cls ≠ "java/lang/invoke/VarHandle" ∧ (parseMethodDescriptor yX12_opened.desc).map (fun d => d.parameters.length) = some 1 := by decide +kernel
set_option maxHeartbeats 4000000 in
set_option maxRecDepth 100000 in
theorem m_X12_opened (l : Launch) (V : VEn) {a0 : Int32} {u : PoS} {post : Int32 → PoS → Prop} (h : wp_X12_opened a0 u post) : KI l V yX12_opened cX12_opened 2 .int 2 [.ref (eA V 48), .int a0] u post := by
  refine KI_of (by decide) (Nat.le_of_ble_eq_true rfl) (lv := [(0, .ref (eA V 48)), (1, .int a0)]) rfl ?_
  intro p e s m args below meth c C
  rw [wp_X12_opened] at h
  refine a_aload_n C 0 dX12_opened_0 rfl rfl ?_
  refine a_geti C 17 dX12_opened_1 (by decide) rfl rfl rfl ib_12 (by decide) bw_1039 ?_
  refine a_bipush C 8 dX12_opened_4 (by decide) ?_
  refine a_icmp_ne C 11 dX12_opened_6 (by decide) (fun c6 => ?_) (fun c6 => ?_)
  · have h := h.1 c6
    refine a_aload_n C 0 dX12_opened_11 rfl rfl ?_
    refine a_dup C dX12_opened_12 rfl ?_
    refine a_geti C 17 dX12_opened_13 (by decide) rfl rfl rfl ib_12 (by decide) bw_1039 ?_
    refine a_iconst C 1 dX12_opened_16 (by decide) ?_
    refine a_iadd C dX12_opened_17 ?_
    refine a_puti C (ty := .int) 17 dX12_opened_18 (by decide) rfl rfl rfl ib_12 (by decide) bw_1039 tyX12 tyX12_ok nmX12 rfl (by decide +kernel) rfl rfl ?_
    refine a_topu (fun z1 ez1 => ?_)
    have h := h z1 ez1
    refine a_aload_n C 0 dX12_opened_21 rfl rfl ?_
    refine a_getr C 15 (r := 53) dX12_opened_22 (by decide) rfl rfl rfl ib_12 (by decide) bw_1037 ?_
    refine a_aload_n C 0 dX12_opened_25 rfl rfl ?_
    refine a_geti C 16 dX12_opened_26 (by decide) rfl rfl rfl ib_12 (by decide) bw_1038 ?_
    refine a_iload_n C 1 dX12_opened_29 rfl rfl ?_
    refine b_iast C (Int32.toNatClampNeg (gI z1 48 16)) dX12_opened_30 (by decide) rfl h.1 rfl ?_
    have h := h.2
    refine a_topu (fun z2 ez2 => ?_)
    have h := h z2 ez2
    refine a_aload_n C 0 dX12_opened_31 rfl rfl ?_
    refine a_dup C dX12_opened_32 rfl ?_
    refine a_geti C 16 dX12_opened_33 (by decide) rfl rfl rfl ib_12 (by decide) bw_1038 ?_
    refine a_iconst C 1 dX12_opened_36 (by decide) ?_
    refine a_iadd C dX12_opened_37 ?_
    refine a_puti C (ty := .int) 16 dX12_opened_38 (by decide) rfl rfl rfl ib_12 (by decide) bw_1038 tyX12 tyX12_ok nmX12 rfl (by decide +kernel) rfl rfl ?_
    refine a_topu (fun z3 ez3 => ?_)
    have h := h z3 ez3
    refine a_aload_n C 0 dX12_opened_41 rfl rfl ?_
    refine a_callVv C dX12_opened_42 (m_X12_nextToken l V h) bw_1194 bw_1196 bw_46 bw_123 bw_1197 (by decide) rfl rfl np_X12_nextToken rfl rfl (by decide) (Nat.le_of_ble_eq_true rfl) ⟨Nat.zero_le _, Nat.zero_le _⟩ (fun u5 h => ?_)
    refine a_iconst C 0 dX12_opened_45 (by decide) ?_
    exact a_iret C dX12_opened_46 h
  · have h := h.2 c6
    refine a_iconst C 3 dX12_opened_9 (by decide) ?_
    exact a_iret C dX12_opened_10 h

/-! RainOnTheOneModel.endOne()I -/
def wp_X12_endOne (u : PoS) (post : Int32 → PoS → Prop) : Prop := wp_X12_settle 7 u (fun (u2 : PoS) => ∀ z3 : PoS, z3 = pI u2 48 18 1 → (((gI z3 48 16) = 0 → post 0 z3) ∧ (¬ (gI z3 48 16) = 0 → vp_in ((gI z3 48 16) - 1) 160 ∧ (((gI z3 53 (Int32.toNatClampNeg ((gI z3 48 16) - 1))) = 41 → wp_X12_w2 111 102 z3 (fun (r4 : Int64) (u5 : PoS) => wp_X12_isWord r4 u5 (fun (r6 : Int32) (u7 : PoS) => ((¬ r6 = 0 → wp_X12_nextToken u7 (fun (u9 : PoS) => vp_in ((gI u9 48 16) - 1) 160 ∧ ∀ z10 : PoS, z10 = pI u9 53 (Int32.toNatClampNeg ((gI u9 48 16) - 1)) 4 → ∀ z11 : PoS, z11 = pI z10 48 18 0 → post 0 z11)) ∧ (r6 = 0 → post 1 u7))))) ∧ (¬ (gI z3 53 (Int32.toNatClampNeg ((gI z3 48 16) - 1))) = 41 → post 0 z3)))))
theorem np_X12_endOne : yX12_endOne.cls ≠ "java/lang/invoke/MethodHandle" ∧ yX12_endOne.cls ≠ "java/lang/invoke/VarHandle" ∧ (parseMethodDescriptor yX12_endOne.desc).map (fun d => d.parameters.length) = some 0 := by decide +kernel
set_option maxHeartbeats 4000000 in
set_option maxRecDepth 100000 in
theorem m_X12_endOne (l : Launch) (V : VEn) {u : PoS} {post : Int32 → PoS → Prop} (h : wp_X12_endOne  u post) : KI l V yX12_endOne cX12_endOne 1 .int 2 [.ref (eA V 48)] u post := by
  refine KI_of (by decide) (Nat.le_of_ble_eq_true rfl) (lv := [(0, .ref (eA V 48))]) rfl ?_
  intro p e s m args below meth c C
  rw [wp_X12_endOne] at h
  refine a_aload_n C 0 dX12_endOne_0 rfl rfl ?_
  refine a_bipush C 7 dX12_endOne_1 (by decide) ?_
  refine a_callVv C dX12_endOne_3 (m_X12_settle l V h) bw_1290 bw_1292 bw_62 bw_123 bw_1293 (by decide) rfl rfl np_X12_settle rfl rfl (by decide) (Nat.le_of_ble_eq_true rfl) ⟨Nat.zero_le _, Nat.zero_le _⟩ (fun u2 h => ?_)
  refine a_aload_n C 0 dX12_endOne_6 rfl rfl ?_
  refine a_iconst C 1 dX12_endOne_7 (by decide) ?_
  refine a_puti C (ty := .boolean) 18 dX12_endOne_8 (by decide) rfl rfl rfl ib_12 (by decide) bw_1040 tyX12 tyX12_ok nmX12 rfl (by decide +kernel) rfl rfl ?_
  refine a_topu (fun z3 ez3 => ?_)
  have h := h z3 ez3
  refine a_aload_n C 0 dX12_endOne_11 rfl rfl ?_
  refine a_geti C 16 dX12_endOne_12 (by decide) rfl rfl rfl ib_12 (by decide) bw_1038 ?_
  refine a_if_eq C 34 dX12_endOne_15 (by decide) (fun c14 => ?_) (fun c14 => ?_)
  · have h := h.1 c14
    refine a_iconst C 0 dX12_endOne_34 (by decide) ?_
    exact a_iret C dX12_endOne_35 h
  · have h := h.2 c14
    refine a_aload_n C 0 dX12_endOne_18 rfl rfl ?_
    refine a_getr C 15 (r := 53) dX12_endOne_19 (by decide) rfl rfl rfl ib_12 (by decide) bw_1037 ?_
    refine a_aload_n C 0 dX12_endOne_22 rfl rfl ?_
    refine a_geti C 16 dX12_endOne_23 (by decide) rfl rfl rfl ib_12 (by decide) bw_1038 ?_
    refine a_iconst C 1 dX12_endOne_26 (by decide) ?_
    refine a_isub C dX12_endOne_27 ?_
    refine b_iald C (Int32.toNatClampNeg ((gI z3 48 16) - 1)) dX12_endOne_28 (by decide) rfl h.1 rfl ?_
    have h := h.2
    refine a_bipush C 41 dX12_endOne_29 (by decide) ?_
    refine a_icmp_eq C 36 dX12_endOne_31 (by decide) (fun c13 => ?_) (fun c13 => ?_)
    · have h := h.1 c13
      refine a_aload_n C 0 dX12_endOne_36 rfl rfl ?_
      refine a_bipush C 111 dX12_endOne_37 (by decide) ?_
      refine a_bipush C 102 dX12_endOne_39 (by decide) ?_
      refine a_callSl C dX12_endOne_41 (m_X12_w2 l V h) bw_1230 bw_1231 bw_123 bw_1232 np_X12_w2 rfl rfl (by decide) (Nat.le_of_ble_eq_true rfl) ⟨Nat.zero_le _, Nat.zero_le _⟩ (fun r4 u5 h => ?_)
      refine a_callVi C dX12_endOne_44 (m_X12_isWord l V h) bw_1233 bw_1235 bw_50 bw_123 bw_1236 (by decide) rfl rfl np_X12_isWord rfl rfl (by decide) (Nat.le_of_ble_eq_true rfl) ⟨Nat.zero_le _, Nat.zero_le _⟩ (fun r6 u7 h => ?_)
      refine a_if_ne C 52 dX12_endOne_47 (by decide) (fun c12 => ?_) (fun c12 => ?_)
      · have h := h.1 c12
        refine a_aload_n C 0 dX12_endOne_52 rfl rfl ?_
        refine a_callVv C dX12_endOne_53 (m_X12_nextToken l V h) bw_1194 bw_1196 bw_46 bw_123 bw_1197 (by decide) rfl rfl np_X12_nextToken rfl rfl (by decide) (Nat.le_of_ble_eq_true rfl) ⟨Nat.zero_le _, Nat.zero_le _⟩ (fun u9 h => ?_)
        refine a_aload_n C 0 dX12_endOne_56 rfl rfl ?_
        refine a_getr C 15 (r := 53) dX12_endOne_57 (by decide) rfl rfl rfl ib_12 (by decide) bw_1037 ?_
        refine a_aload_n C 0 dX12_endOne_60 rfl rfl ?_
        refine a_geti C 16 dX12_endOne_61 (by decide) rfl rfl rfl ib_12 (by decide) bw_1038 ?_
        refine a_iconst C 1 dX12_endOne_64 (by decide) ?_
        refine a_isub C dX12_endOne_65 ?_
        refine a_iconst C 4 dX12_endOne_66 (by decide) ?_
        refine b_iast C (Int32.toNatClampNeg ((gI u9 48 16) - 1)) dX12_endOne_67 (by decide) rfl h.1 rfl ?_
        have h := h.2
        refine a_topu (fun z10 ez10 => ?_)
        have h := h z10 ez10
        refine a_aload_n C 0 dX12_endOne_68 rfl rfl ?_
        refine a_iconst C 0 dX12_endOne_69 (by decide) ?_
        refine a_puti C (ty := .boolean) 18 dX12_endOne_70 (by decide) rfl rfl rfl ib_12 (by decide) bw_1040 tyX12 tyX12_ok nmX12 rfl (by decide +kernel) rfl rfl ?_
        refine a_topu (fun z11 ez11 => ?_)
        have h := h z11 ez11
        refine a_iconst C 0 dX12_endOne_73 (by decide) ?_
        exact a_iret C dX12_endOne_74 h
      · have h := h.2 c12
        refine a_iconst C 1 dX12_endOne_50 (by decide) ?_
        exact a_iret C dX12_endOne_51 h
    · have h := h.2 c13
      refine a_iconst C 0 dX12_endOne_34 (by decide) ?_
      exact a_iret C dX12_endOne_35 h

/-! RainOnTheOneModel.beginOne()I -/
def wj_X12_beginOne_82 (post : Int32 → PoS → Prop) (s0 : Int32) (s1 : Int32) (u : PoS) : Prop := wp_X12_emit s1 s0 u (fun (u4 : PoS) => wp_X12_nextToken u4 (fun (u6 : PoS) => wp_X12_endOne u6 (fun (r7 : Int32) (u8 : PoS) => post r7 u8)))
def wj_X12_beginOne_66 (post : Int32 → PoS → Prop) (v1 : Int32) (s0 : Int32) (u : PoS) : Prop := ((¬ (gI u 48 9) = 1 → wj_X12_beginOne_82 post v1 s0 u) ∧ ((gI u 48 9) = 1 → wj_X12_beginOne_82 post (gI u 48 10) s0 u))
def wj_X12_beginOne_52 (post : Int32 → PoS → Prop) (v1 : Int32) (u : PoS) : Prop := ((¬ (gI u 48 9) = 1 → wj_X12_beginOne_66 post v1 1 u) ∧ ((gI u 48 9) = 1 → wj_X12_beginOne_66 post v1 0 u))
def wj_X12_beginOne_40 (post : Int32 → PoS → Prop) (v1 : Int32) (u : PoS) : Prop := (((gI u 48 9) = 1 → wj_X12_beginOne_52 post v1 u) ∧ (¬ (gI u 48 9) = 1 → ((v1 < 0 → ((¬ (gI u 48 9) = 40 → ((¬ (gI u 48 9) = 45 → wp_X12_w5 115 104 97 114 101 u (fun (r11 : Int64) (u12 : PoS) => wp_X12_isWord r11 u12 (fun (r13 : Int32) (u14 : PoS) => ((r13 = 0 → wp_X12_w6 119 97 116 101 114 115 u14 (fun (r15 : Int64) (u16 : PoS) => wp_X12_isWord r15 u16 (fun (r17 : Int32) (u18 : PoS) => ((r17 = 0 → wp_X12_w2 105 102 u18 (fun (r19 : Int64) (u20 : PoS) => wp_X12_isWord r19 u20 (fun (r21 : Int32) (u22 : PoS) => ((r21 = 0 → wp_X12_w3 110 111 116 u22 (fun (r23 : Int64) (u24 : PoS) => wp_X12_isWord r23 u24 (fun (r25 : Int32) (u26 : PoS) => ((r25 = 0 → post 1 u26) ∧ (¬ r25 = 0 → wp_X12_isAskAhead u26 (fun (r27 : Int32) (u28 : PoS) => ((r27 = 0 → post 1 u28) ∧ (¬ r27 = 0 → wp_X12_opened 20 u28 (fun (r29 : Int32) (u30 : PoS) => post r29 u30))))))))) ∧ (¬ r21 = 0 → wp_X12_opened 42 u22 (fun (r33 : Int32) (u34 : PoS) => post r33 u34)))))) ∧ (¬ r17 = 0 → wp_X12_opened 2 u18 (fun (r36 : Int32) (u37 : PoS) => post r36 u37)))))) ∧ (¬ r13 = 0 → wp_X12_opened 41 u14 (fun (r39 : Int32) (u40 : PoS) => post r39 u40)))))) ∧ ((gI u 48 9) = 45 → wp_X12_opened 5 u (fun (r42 : Int32) (u43 : PoS) => post r42 u43)))) ∧ ((gI u 48 9) = 40 → wp_X12_opened 40 u (fun (r45 : Int32) (u46 : PoS) => post r45 u46)))) ∧ (¬ v1 < 0 → wj_X12_beginOne_52 post v1 u))))
def wj_X12_beginOne_20 (post : Int32 → PoS → Prop) (u : PoS) : Prop := wp_X12_nameOf u (fun (r1 : Int32) (u2 : PoS) => ((¬ r1 = 7 → wj_X12_beginOne_40 post r1 u2) ∧ (r1 = 7 → (((gI u2 48 14) = 0 → wj_X12_beginOne_40 post r1 u2) ∧ (¬ (gI u2 48 14) = 0 → post 5 u2)))))
def wp_X12_beginOne (u : PoS) (post : Int32 → PoS → Prop) : Prop := ((¬ (gI u 48 9) = 1 → wj_X12_beginOne_20 post  u) ∧ ((gI u 48 9) = 1 → (((gI u 48 10) ≤ 9999 → wj_X12_beginOne_20 post  u) ∧ (¬ (gI u 48 10) ≤ 9999 → post 2 u))))
set_option maxHeartbeats 4000000 in
set_option maxRecDepth 100000 in
theorem tj_X12_beginOne_82 {p : Program} {l : Launch} {e : Env} {s : State} {m : MethodId} {args : Array Value} {below : List Frame} {meth : Method} {c : Code} {V : VEn} {post : Int32 → PoS → Prop} (C : CxS p s m args meth c V cX12_beginOne 2 RX12 (some .int)) (s0 : Int32) (s1 : Int32) (u : PoS) (h : wj_X12_beginOne_82 post s0 s1 u) : AtS p l e (Rm 6) s m args below meth c V 2 0 0 (QI V below args s post) 82 [(0, .ref (eA V 48))] [.int s0, .int s1, .ref (eA V 48)] u := by
  rw [wj_X12_beginOne_82] at h
  refine a_callVv C dX12_beginOne_82 (m_X12_emit l V h) bw_1294 bw_1296 bw_63 bw_123 bw_1297 (by decide) rfl rfl np_X12_emit rfl rfl (by decide) (Nat.le_of_ble_eq_true rfl) ⟨Nat.zero_le _, Nat.zero_le _⟩ (fun u4 h => ?_)
  refine a_aload_n C 0 dX12_beginOne_85 rfl rfl ?_
  refine a_callVv C dX12_beginOne_86 (m_X12_nextToken l V h) bw_1194 bw_1196 bw_46 bw_123 bw_1197 (by decide) rfl rfl np_X12_nextToken rfl rfl (by decide) (Nat.le_of_ble_eq_true rfl) ⟨Nat.zero_le _, Nat.zero_le _⟩ (fun u6 h => ?_)
  refine a_aload_n C 0 dX12_beginOne_89 rfl rfl ?_
  refine a_callVi C dX12_beginOne_90 (m_X12_endOne l V h) bw_1302 bw_1304 bw_65 bw_123 bw_1305 (by decide) rfl rfl np_X12_endOne rfl rfl (by decide) (Nat.le_of_ble_eq_true rfl) ⟨Nat.zero_le _, Nat.zero_le _⟩ (fun r7 u8 h => ?_)
  exact a_iret C dX12_beginOne_93 h
set_option maxHeartbeats 4000000 in
set_option maxRecDepth 100000 in
theorem tj_X12_beginOne_66 {p : Program} {l : Launch} {e : Env} {s : State} {m : MethodId} {args : Array Value} {below : List Frame} {meth : Method} {c : Code} {V : VEn} {post : Int32 → PoS → Prop} (C : CxS p s m args meth c V cX12_beginOne 2 RX12 (some .int)) (v1 : Int32) (s0 : Int32) (u : PoS) (h : wj_X12_beginOne_66 post v1 s0 u) : AtS p l e (Rm 6) s m args below meth c V 2 0 0 (QI V below args s post) 66 [(0, .ref (eA V 48)), (1, .int v1)] [.int s0, .ref (eA V 48)] u := by
  rw [wj_X12_beginOne_66] at h
  refine a_aload_n C 0 dX12_beginOne_66 rfl rfl ?_
  refine a_geti C 9 dX12_beginOne_67 (by decide) rfl rfl rfl ib_12 (by decide) bw_1031 ?_
  refine a_iconst C 1 dX12_beginOne_70 (by decide) ?_
  refine a_icmp_ne C 81 dX12_beginOne_71 (by decide) (fun c9 => ?_) (fun c9 => ?_)
  · have h := h.1 c9
    refine a_iload_n C 1 dX12_beginOne_81 rfl rfl ?_
    refine a_sub [0] rfl ?_
    refine tj_X12_beginOne_82 C _ _ _ h
  · have h := h.2 c9
    refine a_aload_n C 0 dX12_beginOne_74 rfl rfl ?_
    refine a_geti C 10 dX12_beginOne_75 (by decide) rfl rfl rfl ib_12 (by decide) bw_1032 ?_
    refine a_goto C 82 dX12_beginOne_78 (by decide) ?_
    refine a_sub [0] rfl ?_
    refine tj_X12_beginOne_82 C _ _ _ h
set_option maxHeartbeats 4000000 in
set_option maxRecDepth 100000 in
theorem tj_X12_beginOne_52 {p : Program} {l : Launch} {e : Env} {s : State} {m : MethodId} {args : Array Value} {below : List Frame} {meth : Method} {c : Code} {V : VEn} {post : Int32 → PoS → Prop} (C : CxS p s m args meth c V cX12_beginOne 2 RX12 (some .int)) (v1 : Int32) (u : PoS) (h : wj_X12_beginOne_52 post v1 u) : AtS p l e (Rm 6) s m args below meth c V 2 0 0 (QI V below args s post) 52 [(0, .ref (eA V 48)), (1, .int v1)] [] u := by
  rw [wj_X12_beginOne_52] at h
  refine a_aload_n C 0 dX12_beginOne_52 rfl rfl ?_
  refine a_aload_n C 0 dX12_beginOne_53 rfl rfl ?_
  refine a_geti C 9 dX12_beginOne_54 (by decide) rfl rfl rfl ib_12 (by decide) bw_1031 ?_
  refine a_iconst C 1 dX12_beginOne_57 (by decide) ?_
  refine a_icmp_ne C 65 dX12_beginOne_58 (by decide) (fun c10 => ?_) (fun c10 => ?_)
  · have h := h.1 c10
    refine a_iconst C 1 dX12_beginOne_65 (by decide) ?_
    refine tj_X12_beginOne_66 C _ _ _ h
  · have h := h.2 c10
    refine a_iconst C 0 dX12_beginOne_61 (by decide) ?_
    refine a_goto C 66 dX12_beginOne_62 (by decide) ?_
    refine tj_X12_beginOne_66 C _ _ _ h
set_option maxHeartbeats 4000000 in
set_option maxRecDepth 100000 in
theorem tj_X12_beginOne_40 {p : Program} {l : Launch} {e : Env} {s : State} {m : MethodId} {args : Array Value} {below : List Frame} {meth : Method} {c : Code} {V : VEn} {post : Int32 → PoS → Prop} (C : CxS p s m args meth c V cX12_beginOne 2 RX12 (some .int)) (v1 : Int32) (u : PoS) (h : wj_X12_beginOne_40 post v1 u) : AtS p l e (Rm 6) s m args below meth c V 2 0 0 (QI V below args s post) 40 [(0, .ref (eA V 48)), (1, .int v1)] [] u := by
  rw [wj_X12_beginOne_40] at h
  refine a_aload_n C 0 dX12_beginOne_40 rfl rfl ?_
  refine a_geti C 9 dX12_beginOne_41 (by decide) rfl rfl rfl ib_12 (by decide) bw_1031 ?_
  refine a_iconst C 1 dX12_beginOne_44 (by decide) ?_
  refine a_icmp_eq C 52 dX12_beginOne_45 (by decide) (fun c49 => ?_) (fun c49 => ?_)
  · have h := h.1 c49
    refine tj_X12_beginOne_52 C _ _ h
  · have h := h.2 c49
    refine a_iload_n C 1 dX12_beginOne_48 rfl rfl ?_
    refine a_if_lt C 94 dX12_beginOne_49 (by decide) (fun c48 => ?_) (fun c48 => ?_)
    · have h := h.1 c48
      refine a_aload_n C 0 dX12_beginOne_94 rfl rfl ?_
      refine a_geti C 9 dX12_beginOne_95 (by decide) rfl rfl rfl ib_12 (by decide) bw_1031 ?_
      refine a_bipush C 40 dX12_beginOne_98 (by decide) ?_
      refine a_icmp_ne C 110 dX12_beginOne_100 (by decide) (fun c47 => ?_) (fun c47 => ?_)
      · have h := h.1 c47
        refine a_aload_n C 0 dX12_beginOne_110 rfl rfl ?_
        refine a_geti C 9 dX12_beginOne_111 (by decide) rfl rfl rfl ib_12 (by decide) bw_1031 ?_
        refine a_bipush C 45 dX12_beginOne_114 (by decide) ?_
        refine a_icmp_ne C 125 dX12_beginOne_116 (by decide) (fun c44 => ?_) (fun c44 => ?_)
        · have h := h.1 c44
          refine a_aload_n C 0 dX12_beginOne_125 rfl rfl ?_
          refine a_bipush C 115 dX12_beginOne_126 (by decide) ?_
          refine a_bipush C 104 dX12_beginOne_128 (by decide) ?_
          refine a_bipush C 97 dX12_beginOne_130 (by decide) ?_
          refine a_bipush C 114 dX12_beginOne_132 (by decide) ?_
          refine a_bipush C 101 dX12_beginOne_134 (by decide) ?_
          refine a_callSl C dX12_beginOne_136 (m_X12_w5 l V h) bw_1221 bw_1222 bw_123 bw_1223 np_X12_w5 rfl rfl (by decide) (Nat.le_of_ble_eq_true rfl) ⟨Nat.zero_le _, Nat.zero_le _⟩ (fun r11 u12 h => ?_)
          refine a_callVi C dX12_beginOne_139 (m_X12_isWord l V h) bw_1233 bw_1235 bw_50 bw_123 bw_1236 (by decide) rfl rfl np_X12_isWord rfl rfl (by decide) (Nat.le_of_ble_eq_true rfl) ⟨Nat.zero_le _, Nat.zero_le _⟩ (fun r13 u14 h => ?_)
          refine a_if_eq C 152 dX12_beginOne_142 (by decide) (fun c41 => ?_) (fun c41 => ?_)
          · have h := h.1 c41
            refine a_aload_n C 0 dX12_beginOne_152 rfl rfl ?_
            refine a_bipush C 119 dX12_beginOne_153 (by decide) ?_
            refine a_bipush C 97 dX12_beginOne_155 (by decide) ?_
            refine a_bipush C 116 dX12_beginOne_157 (by decide) ?_
            refine a_bipush C 101 dX12_beginOne_159 (by decide) ?_
            refine a_bipush C 114 dX12_beginOne_161 (by decide) ?_
            refine a_bipush C 115 dX12_beginOne_163 (by decide) ?_
            refine a_callSl C dX12_beginOne_165 (m_X12_w6 l V h) bw_1237 bw_1238 bw_123 bw_1239 np_X12_w6 rfl rfl (by decide) (Nat.le_of_ble_eq_true rfl) ⟨Nat.zero_le _, Nat.zero_le _⟩ (fun r15 u16 h => ?_)
            refine a_callVi C dX12_beginOne_168 (m_X12_isWord l V h) bw_1233 bw_1235 bw_50 bw_123 bw_1236 (by decide) rfl rfl np_X12_isWord rfl rfl (by decide) (Nat.le_of_ble_eq_true rfl) ⟨Nat.zero_le _, Nat.zero_le _⟩ (fun r17 u18 h => ?_)
            refine a_if_eq C 180 dX12_beginOne_171 (by decide) (fun c38 => ?_) (fun c38 => ?_)
            · have h := h.1 c38
              refine a_aload_n C 0 dX12_beginOne_180 rfl rfl ?_
              refine a_bipush C 105 dX12_beginOne_181 (by decide) ?_
              refine a_bipush C 102 dX12_beginOne_183 (by decide) ?_
              refine a_callSl C dX12_beginOne_185 (m_X12_w2 l V h) bw_1230 bw_1231 bw_123 bw_1232 np_X12_w2 rfl rfl (by decide) (Nat.le_of_ble_eq_true rfl) ⟨Nat.zero_le _, Nat.zero_le _⟩ (fun r19 u20 h => ?_)
              refine a_callVi C dX12_beginOne_188 (m_X12_isWord l V h) bw_1233 bw_1235 bw_50 bw_123 bw_1236 (by decide) rfl rfl np_X12_isWord rfl rfl (by decide) (Nat.le_of_ble_eq_true rfl) ⟨Nat.zero_le _, Nat.zero_le _⟩ (fun r21 u22 h => ?_)
              refine a_if_eq C 201 dX12_beginOne_191 (by decide) (fun c35 => ?_) (fun c35 => ?_)
              · have h := h.1 c35
                refine a_aload_n C 0 dX12_beginOne_201 rfl rfl ?_
                refine a_bipush C 110 dX12_beginOne_202 (by decide) ?_
                refine a_bipush C 111 dX12_beginOne_204 (by decide) ?_
                refine a_bipush C 116 dX12_beginOne_206 (by decide) ?_
                refine a_callSl C dX12_beginOne_208 (m_X12_w3 l V h) bw_1227 bw_1228 bw_123 bw_1229 np_X12_w3 rfl rfl (by decide) (Nat.le_of_ble_eq_true rfl) ⟨Nat.zero_le _, Nat.zero_le _⟩ (fun r23 u24 h => ?_)
                refine a_callVi C dX12_beginOne_211 (m_X12_isWord l V h) bw_1233 bw_1235 bw_50 bw_123 bw_1236 (by decide) rfl rfl np_X12_isWord rfl rfl (by decide) (Nat.le_of_ble_eq_true rfl) ⟨Nat.zero_le _, Nat.zero_le _⟩ (fun r25 u26 h => ?_)
                refine a_if_eq C 233 dX12_beginOne_214 (by decide) (fun c32 => ?_) (fun c32 => ?_)
                · have h := h.1 c32
                  refine a_iconst C 1 dX12_beginOne_233 (by decide) ?_
                  exact a_iret C dX12_beginOne_234 h
                · have h := h.2 c32
                  refine a_aload_n C 0 dX12_beginOne_217 rfl rfl ?_
                  refine a_callVi C dX12_beginOne_218 (m_X12_isAskAhead l V h) bw_1318 bw_1320 bw_69 bw_123 bw_1321 (by decide) rfl rfl np_X12_isAskAhead rfl rfl (by decide) (Nat.le_of_ble_eq_true rfl) ⟨Nat.zero_le _, Nat.zero_le _⟩ (fun r27 u28 h => ?_)
                  refine a_if_eq C 233 dX12_beginOne_221 (by decide) (fun c31 => ?_) (fun c31 => ?_)
                  · have h := h.1 c31
                    refine a_iconst C 1 dX12_beginOne_233 (by decide) ?_
                    exact a_iret C dX12_beginOne_234 h
                  · have h := h.2 c31
                    refine a_aload_n C 0 dX12_beginOne_224 rfl rfl ?_
                    refine a_bipush C 20 dX12_beginOne_225 (by decide) ?_
                    refine a_callVi C dX12_beginOne_227 (m_X12_opened l V h) bw_1314 bw_1316 bw_68 bw_123 bw_1317 (by decide) rfl rfl np_X12_opened rfl rfl (by decide) (Nat.le_of_ble_eq_true rfl) ⟨Nat.zero_le _, Nat.zero_le _⟩ (fun r29 u30 h => ?_)
                    refine a_goto C 234 dX12_beginOne_230 (by decide) ?_
                    exact a_iret C dX12_beginOne_234 h
              · have h := h.2 c35
                refine a_aload_n C 0 dX12_beginOne_194 rfl rfl ?_
                refine a_bipush C 42 dX12_beginOne_195 (by decide) ?_
                refine a_callVi C dX12_beginOne_197 (m_X12_opened l V h) bw_1314 bw_1316 bw_68 bw_123 bw_1317 (by decide) rfl rfl np_X12_opened rfl rfl (by decide) (Nat.le_of_ble_eq_true rfl) ⟨Nat.zero_le _, Nat.zero_le _⟩ (fun r33 u34 h => ?_)
                exact a_iret C dX12_beginOne_200 h
            · have h := h.2 c38
              refine a_aload_n C 0 dX12_beginOne_174 rfl rfl ?_
              refine a_iconst C 2 dX12_beginOne_175 (by decide) ?_
              refine a_callVi C dX12_beginOne_176 (m_X12_opened l V h) bw_1314 bw_1316 bw_68 bw_123 bw_1317 (by decide) rfl rfl np_X12_opened rfl rfl (by decide) (Nat.le_of_ble_eq_true rfl) ⟨Nat.zero_le _, Nat.zero_le _⟩ (fun r36 u37 h => ?_)
              exact a_iret C dX12_beginOne_179 h
          · have h := h.2 c41
            refine a_aload_n C 0 dX12_beginOne_145 rfl rfl ?_
            refine a_bipush C 41 dX12_beginOne_146 (by decide) ?_
            refine a_callVi C dX12_beginOne_148 (m_X12_opened l V h) bw_1314 bw_1316 bw_68 bw_123 bw_1317 (by decide) rfl rfl np_X12_opened rfl rfl (by decide) (Nat.le_of_ble_eq_true rfl) ⟨Nat.zero_le _, Nat.zero_le _⟩ (fun r39 u40 h => ?_)
            exact a_iret C dX12_beginOne_151 h
        · have h := h.2 c44
          refine a_aload_n C 0 dX12_beginOne_119 rfl rfl ?_
          refine a_iconst C 5 dX12_beginOne_120 (by decide) ?_
          refine a_callVi C dX12_beginOne_121 (m_X12_opened l V h) bw_1314 bw_1316 bw_68 bw_123 bw_1317 (by decide) rfl rfl np_X12_opened rfl rfl (by decide) (Nat.le_of_ble_eq_true rfl) ⟨Nat.zero_le _, Nat.zero_le _⟩ (fun r42 u43 h => ?_)
          exact a_iret C dX12_beginOne_124 h
      · have h := h.2 c47
        refine a_aload_n C 0 dX12_beginOne_103 rfl rfl ?_
        refine a_bipush C 40 dX12_beginOne_104 (by decide) ?_
        refine a_callVi C dX12_beginOne_106 (m_X12_opened l V h) bw_1314 bw_1316 bw_68 bw_123 bw_1317 (by decide) rfl rfl np_X12_opened rfl rfl (by decide) (Nat.le_of_ble_eq_true rfl) ⟨Nat.zero_le _, Nat.zero_le _⟩ (fun r45 u46 h => ?_)
        exact a_iret C dX12_beginOne_109 h
    · have h := h.2 c48
      refine tj_X12_beginOne_52 C _ _ h
set_option maxHeartbeats 4000000 in
set_option maxRecDepth 100000 in
theorem tj_X12_beginOne_20 {p : Program} {l : Launch} {e : Env} {s : State} {m : MethodId} {args : Array Value} {below : List Frame} {meth : Method} {c : Code} {V : VEn} {post : Int32 → PoS → Prop} (C : CxS p s m args meth c V cX12_beginOne 2 RX12 (some .int)) (u : PoS) (h : wj_X12_beginOne_20 post  u) : AtS p l e (Rm 6) s m args below meth c V 2 0 0 (QI V below args s post) 20 [(0, .ref (eA V 48))] [] u := by
  rw [wj_X12_beginOne_20] at h
  refine a_aload_n C 0 dX12_beginOne_20 rfl rfl ?_
  refine a_callVi C dX12_beginOne_21 (m_X12_nameOf l V h) bw_1310 bw_1312 bw_67 bw_123 bw_1313 (by decide) rfl rfl np_X12_nameOf rfl rfl (by decide) (Nat.le_of_ble_eq_true rfl) ⟨Nat.zero_le _, Nat.zero_le _⟩ (fun r1 u2 h => ?_)
  refine a_istore_n C [(1, .int r1), (0, .ref (eA V 48))] dX12_beginOne_24 rfl (by decide) rfl ?_
  refine a_iload_n C 0 dX12_beginOne_25 rfl rfl ?_
  refine a_bipush C 7 dX12_beginOne_26 (by decide) ?_
  refine a_icmp_ne C 40 dX12_beginOne_28 (by decide) (fun c51 => ?_) (fun c51 => ?_)
  · have h := h.1 c51
    refine a_sub [1, 0] rfl ?_
    refine tj_X12_beginOne_40 C _ _ h
  · have h := h.2 c51
    refine a_aload_n C 1 dX12_beginOne_31 rfl rfl ?_
    refine a_geti C 14 dX12_beginOne_32 (by decide) rfl rfl rfl ib_12 (by decide) bw_1036 ?_
    refine a_if_eq C 40 dX12_beginOne_35 (by decide) (fun c50 => ?_) (fun c50 => ?_)
    · have h := h.1 c50
      refine a_sub [1, 0] rfl ?_
      refine tj_X12_beginOne_40 C _ _ h
    · have h := h.2 c50
      refine a_iconst C 5 dX12_beginOne_38 (by decide) ?_
      exact a_iret C dX12_beginOne_39 h
theorem np_X12_beginOne : yX12_beginOne.cls ≠ "java/lang/invoke/MethodHandle" ∧ yX12_beginOne.cls ≠ "java/lang/invoke/VarHandle" ∧ (parseMethodDescriptor yX12_beginOne.desc).map (fun d => d.parameters.length) = some 0 := by decide +kernel
set_option maxHeartbeats 4000000 in
set_option maxRecDepth 100000 in
theorem m_X12_beginOne (l : Launch) (V : VEn) {u : PoS} {post : Int32 → PoS → Prop} (h : wp_X12_beginOne  u post) : KI l V yX12_beginOne cX12_beginOne 2 .int 6 [.ref (eA V 48)] u post := by
  refine KI_of (by decide) (Nat.le_of_ble_eq_true rfl) (lv := [(0, .ref (eA V 48))]) rfl ?_
  intro p e s m args below meth c C
  rw [wp_X12_beginOne] at h
  refine a_aload_n C 0 dX12_beginOne_0 rfl rfl ?_
  refine a_geti C 9 dX12_beginOne_1 (by decide) rfl rfl rfl ib_12 (by decide) bw_1031 ?_
  refine a_iconst C 1 dX12_beginOne_4 (by decide) ?_
  refine a_icmp_ne C 20 dX12_beginOne_5 (by decide) (fun c53 => ?_) (fun c53 => ?_)
  · have h := h.1 c53
    refine tj_X12_beginOne_20 C _ h
  · have h := h.2 c53
    refine a_aload_n C 0 dX12_beginOne_8 rfl rfl ?_
    refine a_geti C 10 dX12_beginOne_9 (by decide) rfl rfl rfl ib_12 (by decide) bw_1032 ?_
    refine a_sipush C 9999 dX12_beginOne_12 (by decide) ?_
    refine a_icmp_le C 20 dX12_beginOne_15 (by decide) (fun c52 => ?_) (fun c52 => ?_)
    · have h := h.1 c52
      refine tj_X12_beginOne_20 C _ h
    · have h := h.2 c52
      refine a_iconst C 2 dX12_beginOne_18 (by decide) ?_
      exact a_iret C dX12_beginOne_19 h

/-! RainOnTheOneModel.compareOf()I -/
def wp_X12_compareOf (u : PoS) (post : Int32 → PoS → Prop) : Prop := ((¬ (gI u 48 9) = 60 → ((¬ (gI u 48 9) = 4 → ((¬ (gI u 48 9) = 62 → ((¬ (gI u 48 9) = 5 → ((¬ (gI u 48 9) = 61 → ((¬ (gI u 48 9) = 35 → post (-1) u) ∧ ((gI u 48 9) = 35 → post 15 u))) ∧ ((gI u 48 9) = 61 → post 14 u))) ∧ ((gI u 48 9) = 5 → post 13 u))) ∧ ((gI u 48 9) = 62 → post 12 u))) ∧ ((gI u 48 9) = 4 → post 11 u))) ∧ ((gI u 48 9) = 60 → post 10 u))
theorem np_X12_compareOf : yX12_compareOf.cls ≠ "java/lang/invoke/MethodHandle" ∧ yX12_compareOf.cls ≠ "java/lang/invoke/VarHandle" ∧ (parseMethodDescriptor yX12_compareOf.desc).map (fun d => d.parameters.length) = some 0 := by decide +kernel
set_option maxHeartbeats 4000000 in
set_option maxRecDepth 100000 in
theorem m_X12_compareOf (l : Launch) (V : VEn) {u : PoS} {post : Int32 → PoS → Prop} (h : wp_X12_compareOf  u post) : KI l V yX12_compareOf cX12_compareOf 1 .int 0 [.ref (eA V 48)] u post := by
  refine KI_of (by decide) (Nat.le_of_ble_eq_true rfl) (lv := [(0, .ref (eA V 48))]) rfl ?_
  intro p e s m args below meth c C
  rw [wp_X12_compareOf] at h
  refine a_aload_n C 0 dX12_compareOf_0 rfl rfl ?_
  refine a_geti C 9 dX12_compareOf_1 (by decide) rfl rfl rfl ib_12 (by decide) bw_1031 ?_
  refine a_bipush C 60 dX12_compareOf_4 (by decide) ?_
  refine a_icmp_ne C 14 dX12_compareOf_6 (by decide) (fun c6 => ?_) (fun c6 => ?_)
  · have h := h.1 c6
    refine a_aload_n C 0 dX12_compareOf_14 rfl rfl ?_
    refine a_geti C 9 dX12_compareOf_15 (by decide) rfl rfl rfl ib_12 (by decide) bw_1031 ?_
    refine a_iconst C 4 dX12_compareOf_18 (by decide) ?_
    refine a_icmp_ne C 27 dX12_compareOf_19 (by decide) (fun c5 => ?_) (fun c5 => ?_)
    · have h := h.1 c5
      refine a_aload_n C 0 dX12_compareOf_27 rfl rfl ?_
      refine a_geti C 9 dX12_compareOf_28 (by decide) rfl rfl rfl ib_12 (by decide) bw_1031 ?_
      refine a_bipush C 62 dX12_compareOf_31 (by decide) ?_
      refine a_icmp_ne C 41 dX12_compareOf_33 (by decide) (fun c4 => ?_) (fun c4 => ?_)
      · have h := h.1 c4
        refine a_aload_n C 0 dX12_compareOf_41 rfl rfl ?_
        refine a_geti C 9 dX12_compareOf_42 (by decide) rfl rfl rfl ib_12 (by decide) bw_1031 ?_
        refine a_iconst C 5 dX12_compareOf_45 (by decide) ?_
        refine a_icmp_ne C 54 dX12_compareOf_46 (by decide) (fun c3 => ?_) (fun c3 => ?_)
        · have h := h.1 c3
          refine a_aload_n C 0 dX12_compareOf_54 rfl rfl ?_
          refine a_geti C 9 dX12_compareOf_55 (by decide) rfl rfl rfl ib_12 (by decide) bw_1031 ?_
          refine a_bipush C 61 dX12_compareOf_58 (by decide) ?_
          refine a_icmp_ne C 68 dX12_compareOf_60 (by decide) (fun c2 => ?_) (fun c2 => ?_)
          · have h := h.1 c2
            refine a_aload_n C 0 dX12_compareOf_68 rfl rfl ?_
            refine a_geti C 9 dX12_compareOf_69 (by decide) rfl rfl rfl ib_12 (by decide) bw_1031 ?_
            refine a_bipush C 35 dX12_compareOf_72 (by decide) ?_
            refine a_icmp_ne C 82 dX12_compareOf_74 (by decide) (fun c1 => ?_) (fun c1 => ?_)
            · have h := h.1 c1
              refine a_iconst C (-1) dX12_compareOf_82 (by decide) ?_
              exact a_iret C dX12_compareOf_83 h
            · have h := h.2 c1
              refine a_bipush C 15 dX12_compareOf_77 (by decide) ?_
              refine a_goto C 83 dX12_compareOf_79 (by decide) ?_
              exact a_iret C dX12_compareOf_83 h
          · have h := h.2 c2
            refine a_bipush C 14 dX12_compareOf_63 (by decide) ?_
            refine a_goto C 83 dX12_compareOf_65 (by decide) ?_
            exact a_iret C dX12_compareOf_83 h
        · have h := h.2 c3
          refine a_bipush C 13 dX12_compareOf_49 (by decide) ?_
          refine a_goto C 83 dX12_compareOf_51 (by decide) ?_
          exact a_iret C dX12_compareOf_83 h
      · have h := h.2 c4
        refine a_bipush C 12 dX12_compareOf_36 (by decide) ?_
        refine a_goto C 83 dX12_compareOf_38 (by decide) ?_
        exact a_iret C dX12_compareOf_83 h
    · have h := h.2 c5
      refine a_bipush C 11 dX12_compareOf_22 (by decide) ?_
      refine a_goto C 83 dX12_compareOf_24 (by decide) ?_
      exact a_iret C dX12_compareOf_83 h
  · have h := h.2 c6
    refine a_bipush C 10 dX12_compareOf_9 (by decide) ?_
    refine a_goto C 83 dX12_compareOf_11 (by decide) ?_
    exact a_iret C dX12_compareOf_83 h

/-! RainOnTheOneModel.betweenOf()I -/
def wp_X12_betweenOf (u : PoS) (post : Int32 → PoS → Prop) : Prop := ((¬ (gI u 48 9) = 43 → ((¬ (gI u 48 9) = 45 → ((¬ (gI u 48 9) = 42 → ((¬ (gI u 48 9) = 47 → wp_X12_openNow u (fun (r1 : Int32) (u2 : PoS) => ((r1 = 42 → wp_X12_isCompared u2 (fun (r3 : Int32) (u4 : PoS) => ((¬ r3 = 0 → wp_X12_w3 97 110 100 u4 (fun (r5 : Int64) (u6 : PoS) => wp_X12_isWord r5 u6 (fun (r7 : Int32) (u8 : PoS) => ((r7 = 0 → wp_X12_w2 111 114 u8 (fun (r9 : Int64) (u10 : PoS) => wp_X12_isWord r9 u10 (fun (r11 : Int32) (u12 : PoS) => ((r11 = 0 → post (-1) u12) ∧ (¬ r11 = 0 → post 22 u12))))) ∧ (¬ r7 = 0 → post 21 u8))))) ∧ (r3 = 0 → wp_X12_compareOf u4 (fun (r15 : Int32) (u16 : PoS) => post r15 u16))))) ∧ (¬ r1 = 42 → post (-1) u2)))) ∧ ((gI u 48 9) = 47 → post 9 u))) ∧ ((gI u 48 9) = 42 → post 8 u))) ∧ ((gI u 48 9) = 45 → post 7 u))) ∧ ((gI u 48 9) = 43 → post 6 u))
theorem np_X12_betweenOf : yX12_betweenOf.cls ≠ "java/lang/invoke/MethodHandle" ∧ yX12_betweenOf.cls ≠ "java/lang/invoke/VarHandle" ∧ (parseMethodDescriptor yX12_betweenOf.desc).map (fun d => d.parameters.length) = some 0 := by decide +kernel
set_option maxHeartbeats 4000000 in
set_option maxRecDepth 100000 in
theorem m_X12_betweenOf (l : Launch) (V : VEn) {u : PoS} {post : Int32 → PoS → Prop} (h : wp_X12_betweenOf  u post) : KI l V yX12_betweenOf cX12_betweenOf 1 .int 2 [.ref (eA V 48)] u post := by
  refine KI_of (by decide) (Nat.le_of_ble_eq_true rfl) (lv := [(0, .ref (eA V 48))]) rfl ?_
  intro p e s m args below meth c C
  rw [wp_X12_betweenOf] at h
  refine a_aload_n C 0 dX12_betweenOf_0 rfl rfl ?_
  refine a_geti C 9 dX12_betweenOf_1 (by decide) rfl rfl rfl ib_12 (by decide) bw_1031 ?_
  refine a_bipush C 43 dX12_betweenOf_4 (by decide) ?_
  refine a_icmp_ne C 12 dX12_betweenOf_6 (by decide) (fun c22 => ?_) (fun c22 => ?_)
  · have h := h.1 c22
    refine a_aload_n C 0 dX12_betweenOf_12 rfl rfl ?_
    refine a_geti C 9 dX12_betweenOf_13 (by decide) rfl rfl rfl ib_12 (by decide) bw_1031 ?_
    refine a_bipush C 45 dX12_betweenOf_16 (by decide) ?_
    refine a_icmp_ne C 24 dX12_betweenOf_18 (by decide) (fun c21 => ?_) (fun c21 => ?_)
    · have h := h.1 c21
      refine a_aload_n C 0 dX12_betweenOf_24 rfl rfl ?_
      refine a_geti C 9 dX12_betweenOf_25 (by decide) rfl rfl rfl ib_12 (by decide) bw_1031 ?_
      refine a_bipush C 42 dX12_betweenOf_28 (by decide) ?_
      refine a_icmp_ne C 36 dX12_betweenOf_30 (by decide) (fun c20 => ?_) (fun c20 => ?_)
      · have h := h.1 c20
        refine a_aload_n C 0 dX12_betweenOf_36 rfl rfl ?_
        refine a_geti C 9 dX12_betweenOf_37 (by decide) rfl rfl rfl ib_12 (by decide) bw_1031 ?_
        refine a_bipush C 47 dX12_betweenOf_40 (by decide) ?_
        refine a_icmp_ne C 48 dX12_betweenOf_42 (by decide) (fun c19 => ?_) (fun c19 => ?_)
        · have h := h.1 c19
          refine a_aload_n C 0 dX12_betweenOf_48 rfl rfl ?_
          refine a_callVi C dX12_betweenOf_49 (m_X12_openNow l V h) bw_1271 bw_1273 bw_58 bw_123 bw_1274 (by decide) rfl rfl np_X12_openNow rfl rfl (by decide) (Nat.le_of_ble_eq_true rfl) ⟨Nat.zero_le _, Nat.zero_le _⟩ (fun r1 u2 h => ?_)
          refine a_bipush C 42 dX12_betweenOf_52 (by decide) ?_
          refine a_icmp_eq C 59 dX12_betweenOf_54 (by decide) (fun c18 => ?_) (fun c18 => ?_)
          · have h := h.1 c18
            refine a_aload_n C 0 dX12_betweenOf_59 rfl rfl ?_
            refine a_callVi C dX12_betweenOf_60 (m_X12_isCompared l V h) bw_1279 bw_1281 bw_60 bw_123 bw_1282 (by decide) rfl rfl np_X12_isCompared rfl rfl (by decide) (Nat.le_of_ble_eq_true rfl) ⟨Nat.zero_le _, Nat.zero_le _⟩ (fun r3 u4 h => ?_)
            refine a_if_ne C 71 dX12_betweenOf_63 (by decide) (fun c17 => ?_) (fun c17 => ?_)
            · have h := h.1 c17
              refine a_aload_n C 0 dX12_betweenOf_71 rfl rfl ?_
              refine a_bipush C 97 dX12_betweenOf_72 (by decide) ?_
              refine a_bipush C 110 dX12_betweenOf_74 (by decide) ?_
              refine a_bipush C 100 dX12_betweenOf_76 (by decide) ?_
              refine a_callSl C dX12_betweenOf_78 (m_X12_w3 l V h) bw_1227 bw_1228 bw_123 bw_1229 np_X12_w3 rfl rfl (by decide) (Nat.le_of_ble_eq_true rfl) ⟨Nat.zero_le _, Nat.zero_le _⟩ (fun r5 u6 h => ?_)
              refine a_callVi C dX12_betweenOf_81 (m_X12_isWord l V h) bw_1233 bw_1235 bw_50 bw_123 bw_1236 (by decide) rfl rfl np_X12_isWord rfl rfl (by decide) (Nat.le_of_ble_eq_true rfl) ⟨Nat.zero_le _, Nat.zero_le _⟩ (fun r7 u8 h => ?_)
              refine a_if_eq C 92 dX12_betweenOf_84 (by decide) (fun c14 => ?_) (fun c14 => ?_)
              · have h := h.1 c14
                refine a_aload_n C 0 dX12_betweenOf_92 rfl rfl ?_
                refine a_bipush C 111 dX12_betweenOf_93 (by decide) ?_
                refine a_bipush C 114 dX12_betweenOf_95 (by decide) ?_
                refine a_callSl C dX12_betweenOf_97 (m_X12_w2 l V h) bw_1230 bw_1231 bw_123 bw_1232 np_X12_w2 rfl rfl (by decide) (Nat.le_of_ble_eq_true rfl) ⟨Nat.zero_le _, Nat.zero_le _⟩ (fun r9 u10 h => ?_)
                refine a_callVi C dX12_betweenOf_100 (m_X12_isWord l V h) bw_1233 bw_1235 bw_50 bw_123 bw_1236 (by decide) rfl rfl np_X12_isWord rfl rfl (by decide) (Nat.le_of_ble_eq_true rfl) ⟨Nat.zero_le _, Nat.zero_le _⟩ (fun r11 u12 h => ?_)
                refine a_if_eq C 111 dX12_betweenOf_103 (by decide) (fun c13 => ?_) (fun c13 => ?_)
                · have h := h.1 c13
                  refine a_iconst C (-1) dX12_betweenOf_111 (by decide) ?_
                  exact a_iret C dX12_betweenOf_112 h
                · have h := h.2 c13
                  refine a_bipush C 22 dX12_betweenOf_106 (by decide) ?_
                  refine a_goto C 112 dX12_betweenOf_108 (by decide) ?_
                  exact a_iret C dX12_betweenOf_112 h
              · have h := h.2 c14
                refine a_bipush C 21 dX12_betweenOf_87 (by decide) ?_
                refine a_goto C 112 dX12_betweenOf_89 (by decide) ?_
                exact a_iret C dX12_betweenOf_112 h
            · have h := h.2 c17
              refine a_aload_n C 0 dX12_betweenOf_66 rfl rfl ?_
              refine a_callVi C dX12_betweenOf_67 (m_X12_compareOf l V h) bw_1286 bw_1288 bw_61 bw_123 bw_1289 (by decide) rfl rfl np_X12_compareOf rfl rfl (by decide) (Nat.le_of_ble_eq_true rfl) ⟨Nat.zero_le _, Nat.zero_le _⟩ (fun r15 u16 h => ?_)
              exact a_iret C dX12_betweenOf_70 h
          · have h := h.2 c18
            refine a_iconst C (-1) dX12_betweenOf_57 (by decide) ?_
            exact a_iret C dX12_betweenOf_58 h
        · have h := h.2 c19
          refine a_bipush C 9 dX12_betweenOf_45 (by decide) ?_
          exact a_iret C dX12_betweenOf_47 h
      · have h := h.2 c20
        refine a_bipush C 8 dX12_betweenOf_33 (by decide) ?_
        exact a_iret C dX12_betweenOf_35 h
    · have h := h.2 c21
      refine a_bipush C 7 dX12_betweenOf_21 (by decide) ?_
      exact a_iret C dX12_betweenOf_23 h
  · have h := h.2 c22
    refine a_bipush C 6 dX12_betweenOf_9 (by decide) ?_
    exact a_iret C dX12_betweenOf_11 h

/-! RainOnTheOneModel.partOf(I)I -/
def wp_X12_partOf (a0 : Int32) (u : PoS) (post : Int32 → PoS → Prop) : Prop := ((a0 = 40 → ((¬ (gI u 48 9) = 41 → post (-1) u) ∧ ((gI u 48 9) = 41 → post 0 u))) ∧ (a0 = 41 → post (-1) u) ∧ (a0 = 42 → wp_X12_w4 116 104 101 110 u (fun (r2 : Int64) (u3 : PoS) => wp_X12_isWord r2 u3 (fun (r4 : Int32) (u5 : PoS) => ((r4 = 0 → post (-1) u5) ∧ (¬ r4 = 0 → wp_X12_isCompared u5 (fun (r6 : Int32) (u7 : PoS) => ((r6 = 0 → post (-1) u7) ∧ (¬ r6 = 0 → post 43 u7)))))))) ∧ (a0 = 43 → wp_X12_w4 101 108 115 101 u (fun (r10 : Int64) (u11 : PoS) => wp_X12_isWord r10 u11 (fun (r12 : Int32) (u13 : PoS) => ((r12 = 0 → post (-1) u13) ∧ (¬ r12 = 0 → post 44 u13))))) ∧ (a0 = 44 → wp_X12_w3 101 110 100 u (fun (r15 : Int64) (u16 : PoS) => wp_X12_isWord r15 u16 (fun (r17 : Int32) (u18 : PoS) => ((r17 = 0 → post (-1) u18) ∧ (¬ r17 = 0 → post 0 u18))))) ∧ (¬ a0 = 40 → ¬ a0 = 41 → ¬ a0 = 42 → ¬ a0 = 43 → ¬ a0 = 44 → post (-1) u))
theorem np_X12_partOf : yX12_partOf.cls ≠ "java/lang/invoke/MethodHandle" ∧ yX12_partOf.cls ≠ "java/lang/invoke/VarHandle" ∧ (parseMethodDescriptor yX12_partOf.desc).map (fun d => d.parameters.length) = some 1 := by decide +kernel
set_option maxHeartbeats 4000000 in
set_option maxRecDepth 100000 in
theorem m_X12_partOf (l : Launch) (V : VEn) {a0 : Int32} {u : PoS} {post : Int32 → PoS → Prop} (h : wp_X12_partOf a0 u post) : KI l V yX12_partOf cX12_partOf 2 .int 3 [.ref (eA V 48), .int a0] u post := by
  refine KI_of (by decide) (Nat.le_of_ble_eq_true rfl) (lv := [(0, .ref (eA V 48)), (1, .int a0)]) rfl ?_
  intro p e s m args below meth c C
  rw [wp_X12_partOf] at h
  refine a_iload_n C 1 dX12_partOf_0 rfl rfl ?_
  obtain ⟨hs0, hs1, hs2, hs3, hs4, hd0⟩ := h
  by_cases hq0 : a0 = 40
  · have h := hs0 hq0
    refine a_tableIn C (off := 35) 36 dX12_partOf_1 (by rw [hq0]; decide) (by rw [hq0]; decide) (by rw [hq0]; decide +kernel) (by decide) ?_
    refine a_aload_n C 0 dX12_partOf_36 rfl rfl ?_
    refine a_geti C 9 dX12_partOf_37 (by decide) rfl rfl rfl ib_12 (by decide) bw_1031 ?_
    refine a_bipush C 41 dX12_partOf_40 (by decide) ?_
    refine a_icmp_ne C 49 dX12_partOf_42 (by decide) (fun c1 => ?_) (fun c1 => ?_)
    · have h := h.1 c1
      refine a_iconst C (-1) dX12_partOf_49 (by decide) ?_
      exact a_iret C dX12_partOf_50 h
    · have h := h.2 c1
      refine a_iconst C 0 dX12_partOf_45 (by decide) ?_
      refine a_goto C 50 dX12_partOf_46 (by decide) ?_
      exact a_iret C dX12_partOf_50 h
  by_cases hq1 : a0 = 41
  · have h := hs1 hq1
    refine a_tableIn C (off := 129) 130 dX12_partOf_1 (by rw [hq1]; decide) (by rw [hq1]; decide) (by rw [hq1]; decide +kernel) (by decide) ?_
    refine a_iconst C (-1) dX12_partOf_130 (by decide) ?_
    exact a_iret C dX12_partOf_131 h
  by_cases hq2 : a0 = 42
  · have h := hs2 hq2
    refine a_tableIn C (off := 50) 51 dX12_partOf_1 (by rw [hq2]; decide) (by rw [hq2]; decide) (by rw [hq2]; decide +kernel) (by decide) ?_
    refine a_aload_n C 0 dX12_partOf_51 rfl rfl ?_
    refine a_bipush C 116 dX12_partOf_52 (by decide) ?_
    refine a_bipush C 104 dX12_partOf_54 (by decide) ?_
    refine a_bipush C 101 dX12_partOf_56 (by decide) ?_
    refine a_bipush C 110 dX12_partOf_58 (by decide) ?_
    refine a_callSl C dX12_partOf_60 (m_X12_w4 l V h) bw_1224 bw_1225 bw_123 bw_1226 np_X12_w4 rfl rfl (by decide) (Nat.le_of_ble_eq_true rfl) ⟨Nat.zero_le _, Nat.zero_le _⟩ (fun r2 u3 h => ?_)
    refine a_callVi C dX12_partOf_63 (m_X12_isWord l V h) bw_1233 bw_1235 bw_50 bw_123 bw_1236 (by decide) rfl rfl np_X12_isWord rfl rfl (by decide) (Nat.le_of_ble_eq_true rfl) ⟨Nat.zero_le _, Nat.zero_le _⟩ (fun r4 u5 h => ?_)
    refine a_if_eq C 81 dX12_partOf_66 (by decide) (fun c9 => ?_) (fun c9 => ?_)
    · have h := h.1 c9
      refine a_iconst C (-1) dX12_partOf_81 (by decide) ?_
      exact a_iret C dX12_partOf_82 h
    · have h := h.2 c9
      refine a_aload_n C 0 dX12_partOf_69 rfl rfl ?_
      refine a_callVi C dX12_partOf_70 (m_X12_isCompared l V h) bw_1279 bw_1281 bw_60 bw_123 bw_1282 (by decide) rfl rfl np_X12_isCompared rfl rfl (by decide) (Nat.le_of_ble_eq_true rfl) ⟨Nat.zero_le _, Nat.zero_le _⟩ (fun r6 u7 h => ?_)
      refine a_if_eq C 81 dX12_partOf_73 (by decide) (fun c8 => ?_) (fun c8 => ?_)
      · have h := h.1 c8
        refine a_iconst C (-1) dX12_partOf_81 (by decide) ?_
        exact a_iret C dX12_partOf_82 h
      · have h := h.2 c8
        refine a_bipush C 43 dX12_partOf_76 (by decide) ?_
        refine a_goto C 82 dX12_partOf_78 (by decide) ?_
        exact a_iret C dX12_partOf_82 h
  by_cases hq3 : a0 = 43
  · have h := hs3 hq3
    refine a_tableIn C (off := 82) 83 dX12_partOf_1 (by rw [hq3]; decide) (by rw [hq3]; decide) (by rw [hq3]; decide +kernel) (by decide) ?_
    refine a_aload_n C 0 dX12_partOf_83 rfl rfl ?_
    refine a_bipush C 101 dX12_partOf_84 (by decide) ?_
    refine a_bipush C 108 dX12_partOf_86 (by decide) ?_
    refine a_bipush C 115 dX12_partOf_88 (by decide) ?_
    refine a_bipush C 101 dX12_partOf_90 (by decide) ?_
    refine a_callSl C dX12_partOf_92 (m_X12_w4 l V h) bw_1224 bw_1225 bw_123 bw_1226 np_X12_w4 rfl rfl (by decide) (Nat.le_of_ble_eq_true rfl) ⟨Nat.zero_le _, Nat.zero_le _⟩ (fun r10 u11 h => ?_)
    refine a_callVi C dX12_partOf_95 (m_X12_isWord l V h) bw_1233 bw_1235 bw_50 bw_123 bw_1236 (by decide) rfl rfl np_X12_isWord rfl rfl (by decide) (Nat.le_of_ble_eq_true rfl) ⟨Nat.zero_le _, Nat.zero_le _⟩ (fun r12 u13 h => ?_)
    refine a_if_eq C 106 dX12_partOf_98 (by decide) (fun c14 => ?_) (fun c14 => ?_)
    · have h := h.1 c14
      refine a_iconst C (-1) dX12_partOf_106 (by decide) ?_
      exact a_iret C dX12_partOf_107 h
    · have h := h.2 c14
      refine a_bipush C 44 dX12_partOf_101 (by decide) ?_
      refine a_goto C 107 dX12_partOf_103 (by decide) ?_
      exact a_iret C dX12_partOf_107 h
  by_cases hq4 : a0 = 44
  · have h := hs4 hq4
    refine a_tableIn C (off := 107) 108 dX12_partOf_1 (by rw [hq4]; decide) (by rw [hq4]; decide) (by rw [hq4]; decide +kernel) (by decide) ?_
    refine a_aload_n C 0 dX12_partOf_108 rfl rfl ?_
    refine a_bipush C 101 dX12_partOf_109 (by decide) ?_
    refine a_bipush C 110 dX12_partOf_111 (by decide) ?_
    refine a_bipush C 100 dX12_partOf_113 (by decide) ?_
    refine a_callSl C dX12_partOf_115 (m_X12_w3 l V h) bw_1227 bw_1228 bw_123 bw_1229 np_X12_w3 rfl rfl (by decide) (Nat.le_of_ble_eq_true rfl) ⟨Nat.zero_le _, Nat.zero_le _⟩ (fun r15 u16 h => ?_)
    refine a_callVi C dX12_partOf_118 (m_X12_isWord l V h) bw_1233 bw_1235 bw_50 bw_123 bw_1236 (by decide) rfl rfl np_X12_isWord rfl rfl (by decide) (Nat.le_of_ble_eq_true rfl) ⟨Nat.zero_le _, Nat.zero_le _⟩ (fun r17 u18 h => ?_)
    refine a_if_eq C 128 dX12_partOf_121 (by decide) (fun c19 => ?_) (fun c19 => ?_)
    · have h := h.1 c19
      refine a_iconst C (-1) dX12_partOf_128 (by decide) ?_
      exact a_iret C dX12_partOf_129 h
    · have h := h.2 c19
      refine a_iconst C 0 dX12_partOf_124 (by decide) ?_
      refine a_goto C 129 dX12_partOf_125 (by decide) ?_
      exact a_iret C dX12_partOf_129 h
  have h := hd0 hq0 hq1 hq2 hq3 hq4
  refine a_tableOut C 130 dX12_partOf_1 (tsw_out 40 44 (fun q h1 h2 => by rcases (show q = 40 ∨ q = 41 ∨ q = 42 ∨ q = 43 ∨ q = 44 by omega) with rfl | rfl | rfl | rfl | rfl <;> first | exact lv_neT hq0 (by decide) | exact lv_neT hq1 (by decide) | exact lv_neT hq2 (by decide) | exact lv_neT hq3 (by decide) | exact lv_neT hq4 (by decide))) (by decide) ?_
  refine a_iconst C (-1) dX12_partOf_130 (by decide) ?_
  exact a_iret C dX12_partOf_131 h

/-! RainOnTheOneModel.behindOne()I -/
def wj_X12_behindOne_122 (post : Int32 → PoS → Prop) (u : PoS) : Prop := wp_X12_endOne u (fun (r17 : Int32) (u18 : PoS) => post r17 u18)
def wj_X12_behindOne_26 (post : Int32 → PoS → Prop) (v1 : Int32) (s0 : Int32) (u : PoS) : Prop := wp_X12_settle s0 u (fun (u29 : PoS) => vp_in (gI u29 48 16) 160 ∧ ∀ z30 : PoS, z30 = pI u29 53 (Int32.toNatClampNeg (gI u29 48 16)) v1 → ∀ z31 : PoS, z31 = pI z30 48 16 ((gI z30 48 16) + 1) → ∀ z32 : PoS, z32 = pI z31 48 18 0 → wp_X12_nextToken z32 (fun (u34 : PoS) => post 0 u34))
def wp_X12_behindOne (u : PoS) (post : Int32 → PoS → Prop) : Prop := wp_X12_betweenOf u (fun (r1 : Int32) (u2 : PoS) => ((r1 < 0 → wp_X12_openNow u2 (fun (r3 : Int32) (u4 : PoS) => wp_X12_partOf r3 u4 (fun (r5 : Int32) (u6 : PoS) => ((0 ≤ r5 → wp_X12_settle 1 u6 (fun (u8 : PoS) => wp_X12_nextToken u8 (fun (u10 : PoS) => ((¬ r5 = 0 → wp_X12_openAt u10 (fun (r11 : Int32) (u12 : PoS) => vp_in r11 160 ∧ ∀ z13 : PoS, z13 = pI u12 53 (Int32.toNatClampNeg r11) r5 → ∀ z14 : PoS, z14 = pI z13 48 18 0 → post 0 z14)) ∧ (r5 = 0 → ∀ z15 : PoS, z15 = pI u10 48 17 ((gI u10 48 17) - 1) → ∀ z16 : PoS, z16 = pI z15 48 16 ((gI z15 48 16) - 1) → ((¬ r3 = 44 → wj_X12_behindOne_122 post  z16) ∧ (r3 = 44 → wp_X12_emit 3 0 z16 (fun (u20 : PoS) => wj_X12_behindOne_122 post  u20)))))))) ∧ (¬ 0 ≤ r5 → post (-1) u6))))) ∧ (¬ r1 < 0 → wp_X12_rank r1 u2 (fun (r24 : Int32) (u25 : PoS) => ((¬ r24 = 4 → wp_X12_rank r1 u25 (fun (r26 : Int32) (u27 : PoS) => wj_X12_behindOne_26 post r1 r26 u27)) ∧ (r24 = 4 → wj_X12_behindOne_26 post r1 5 u25))))))
set_option maxHeartbeats 4000000 in
set_option maxRecDepth 100000 in
theorem tj_X12_behindOne_122 {p : Program} {l : Launch} {e : Env} {s : State} {m : MethodId} {args : Array Value} {below : List Frame} {meth : Method} {c : Code} {V : VEn} {post : Int32 → PoS → Prop} (C : CxS p s m args meth c V cX12_behindOne 4 RX12 (some .int)) (u : PoS) (h : wj_X12_behindOne_122 post  u) : AtS p l e (Rm 4) s m args below meth c V 4 0 0 (QI V below args s post) 122 [(0, .ref (eA V 48))] [] u := by
  rw [wj_X12_behindOne_122] at h
  refine a_aload_n C 0 dX12_behindOne_122 rfl rfl ?_
  refine a_callVi C dX12_behindOne_123 (m_X12_endOne l V h) bw_1302 bw_1304 bw_65 bw_123 bw_1305 (by decide) rfl rfl np_X12_endOne rfl rfl (by decide) (Nat.le_of_ble_eq_true rfl) ⟨Nat.zero_le _, Nat.zero_le _⟩ (fun r17 u18 h => ?_)
  exact a_iret C dX12_behindOne_126 h
set_option maxHeartbeats 4000000 in
set_option maxRecDepth 100000 in
theorem tj_X12_behindOne_26 {p : Program} {l : Launch} {e : Env} {s : State} {m : MethodId} {args : Array Value} {below : List Frame} {meth : Method} {c : Code} {V : VEn} {post : Int32 → PoS → Prop} (C : CxS p s m args meth c V cX12_behindOne 4 RX12 (some .int)) (v1 : Int32) (s0 : Int32) (u : PoS) (h : wj_X12_behindOne_26 post v1 s0 u) : AtS p l e (Rm 4) s m args below meth c V 4 0 0 (QI V below args s post) 26 [(0, .ref (eA V 48)), (1, .int v1)] [.int s0, .ref (eA V 48)] u := by
  rw [wj_X12_behindOne_26] at h
  refine a_callVv C dX12_behindOne_26 (m_X12_settle l V h) bw_1290 bw_1292 bw_62 bw_123 bw_1293 (by decide) rfl rfl np_X12_settle rfl rfl (by decide) (Nat.le_of_ble_eq_true rfl) ⟨Nat.zero_le _, Nat.zero_le _⟩ (fun u29 h => ?_)
  refine a_aload_n C 0 dX12_behindOne_29 rfl rfl ?_
  refine a_getr C 15 (r := 53) dX12_behindOne_30 (by decide) rfl rfl rfl ib_12 (by decide) bw_1037 ?_
  refine a_aload_n C 0 dX12_behindOne_33 rfl rfl ?_
  refine a_geti C 16 dX12_behindOne_34 (by decide) rfl rfl rfl ib_12 (by decide) bw_1038 ?_
  refine a_iload_n C 1 dX12_behindOne_37 rfl rfl ?_
  refine b_iast C (Int32.toNatClampNeg (gI u29 48 16)) dX12_behindOne_38 (by decide) rfl h.1 rfl ?_
  have h := h.2
  refine a_topu (fun z30 ez30 => ?_)
  have h := h z30 ez30
  refine a_aload_n C 0 dX12_behindOne_39 rfl rfl ?_
  refine a_dup C dX12_behindOne_40 rfl ?_
  refine a_geti C 16 dX12_behindOne_41 (by decide) rfl rfl rfl ib_12 (by decide) bw_1038 ?_
  refine a_iconst C 1 dX12_behindOne_44 (by decide) ?_
  refine a_iadd C dX12_behindOne_45 ?_
  refine a_puti C (ty := .int) 16 dX12_behindOne_46 (by decide) rfl rfl rfl ib_12 (by decide) bw_1038 tyX12 tyX12_ok nmX12 rfl (by decide +kernel) rfl rfl ?_
  refine a_topu (fun z31 ez31 => ?_)
  have h := h z31 ez31
  refine a_aload_n C 0 dX12_behindOne_49 rfl rfl ?_
  refine a_iconst C 0 dX12_behindOne_50 (by decide) ?_
  refine a_puti C (ty := .boolean) 18 dX12_behindOne_51 (by decide) rfl rfl rfl ib_12 (by decide) bw_1040 tyX12 tyX12_ok nmX12 rfl (by decide +kernel) rfl rfl ?_
  refine a_topu (fun z32 ez32 => ?_)
  have h := h z32 ez32
  refine a_aload_n C 0 dX12_behindOne_54 rfl rfl ?_
  refine a_callVv C dX12_behindOne_55 (m_X12_nextToken l V h) bw_1194 bw_1196 bw_46 bw_123 bw_1197 (by decide) rfl rfl np_X12_nextToken rfl rfl (by decide) (Nat.le_of_ble_eq_true rfl) ⟨Nat.zero_le _, Nat.zero_le _⟩ (fun u34 h => ?_)
  refine a_iconst C 0 dX12_behindOne_58 (by decide) ?_
  exact a_iret C dX12_behindOne_59 h
theorem np_X12_behindOne : yX12_behindOne.cls ≠ "java/lang/invoke/MethodHandle" ∧ yX12_behindOne.cls ≠ "java/lang/invoke/VarHandle" ∧ (parseMethodDescriptor yX12_behindOne.desc).map (fun d => d.parameters.length) = some 0 := by decide +kernel
set_option maxHeartbeats 4000000 in
set_option maxRecDepth 100000 in
theorem m_X12_behindOne (l : Launch) (V : VEn) {u : PoS} {post : Int32 → PoS → Prop} (h : wp_X12_behindOne  u post) : KI l V yX12_behindOne cX12_behindOne 4 .int 4 [.ref (eA V 48)] u post := by
  refine KI_of (by decide) (Nat.le_of_ble_eq_true rfl) (lv := [(0, .ref (eA V 48))]) rfl ?_
  intro p e s m args below meth c C
  rw [wp_X12_behindOne] at h
  refine a_aload_n C 0 dX12_behindOne_0 rfl rfl ?_
  refine a_callVi C dX12_behindOne_1 (m_X12_betweenOf l V h) bw_1267 bw_1269 bw_57 bw_123 bw_1270 (by decide) rfl rfl np_X12_betweenOf rfl rfl (by decide) (Nat.le_of_ble_eq_true rfl) ⟨Nat.zero_le _, Nat.zero_le _⟩ (fun r1 u2 h => ?_)
  refine a_istore_n C [(1, .int r1), (0, .ref (eA V 48))] dX12_behindOne_4 rfl (by decide) rfl ?_
  refine a_iload_n C 0 dX12_behindOne_5 rfl rfl ?_
  refine a_if_lt C 60 dX12_behindOne_6 (by decide) (fun c36 => ?_) (fun c36 => ?_)
  · have h := h.1 c36
    refine a_aload_n C 1 dX12_behindOne_60 rfl rfl ?_
    refine a_callVi C dX12_behindOne_61 (m_X12_openNow l V h) bw_1271 bw_1273 bw_58 bw_123 bw_1274 (by decide) rfl rfl np_X12_openNow rfl rfl (by decide) (Nat.le_of_ble_eq_true rfl) ⟨Nat.zero_le _, Nat.zero_le _⟩ (fun r3 u4 h => ?_)
    refine a_istore_n C [(2, .int r3), (1, .int r1), (0, .ref (eA V 48))] dX12_behindOne_64 rfl (by decide) rfl ?_
    refine a_aload_n C 2 dX12_behindOne_65 rfl rfl ?_
    refine a_iload_n C 0 dX12_behindOne_66 rfl rfl ?_
    refine a_callVi C dX12_behindOne_67 (m_X12_partOf l V h) bw_1298 bw_1300 bw_64 bw_123 bw_1301 (by decide) rfl rfl np_X12_partOf rfl rfl (by decide) (Nat.le_of_ble_eq_true rfl) ⟨Nat.zero_le _, Nat.zero_le _⟩ (fun r5 u6 h => ?_)
    refine a_istore_n C [(3, .int r5), (2, .int r3), (1, .int r1), (0, .ref (eA V 48))] dX12_behindOne_70 rfl (by decide) rfl ?_
    refine a_iload_n C 0 dX12_behindOne_71 rfl rfl ?_
    refine a_if_ge C 77 dX12_behindOne_72 (by decide) (fun c23 => ?_) (fun c23 => ?_)
    · have h := h.1 c23
      refine a_aload_n C 3 dX12_behindOne_77 rfl rfl ?_
      refine a_iconst C 1 dX12_behindOne_78 (by decide) ?_
      refine a_callVv C dX12_behindOne_79 (m_X12_settle l V h) bw_1290 bw_1292 bw_62 bw_123 bw_1293 (by decide) rfl rfl np_X12_settle rfl rfl (by decide) (Nat.le_of_ble_eq_true rfl) ⟨Nat.zero_le _, Nat.zero_le _⟩ (fun u8 h => ?_)
      refine a_aload_n C 3 dX12_behindOne_82 rfl rfl ?_
      refine a_callVv C dX12_behindOne_83 (m_X12_nextToken l V h) bw_1194 bw_1196 bw_46 bw_123 bw_1197 (by decide) rfl rfl np_X12_nextToken rfl rfl (by decide) (Nat.le_of_ble_eq_true rfl) ⟨Nat.zero_le _, Nat.zero_le _⟩ (fun u10 h => ?_)
      refine a_iload_n C 0 dX12_behindOne_86 rfl rfl ?_
      refine a_if_ne C 127 dX12_behindOne_87 (by decide) (fun c22 => ?_) (fun c22 => ?_)
      · have h := h.1 c22
        refine a_aload_n C 3 dX12_behindOne_127 rfl rfl ?_
        refine a_getr C 15 (r := 53) dX12_behindOne_128 (by decide) rfl rfl rfl ib_12 (by decide) bw_1037 ?_
        refine a_aload_n C 3 dX12_behindOne_131 rfl rfl ?_
        refine a_callVi C dX12_behindOne_132 (m_X12_openAt l V h) bw_1275 bw_1277 bw_59 bw_123 bw_1278 (by decide) rfl rfl np_X12_openAt rfl rfl (by decide) (Nat.le_of_ble_eq_true rfl) ⟨Nat.zero_le _, Nat.zero_le _⟩ (fun r11 u12 h => ?_)
        refine a_iload_n C 0 dX12_behindOne_135 rfl rfl ?_
        refine b_iast C (Int32.toNatClampNeg r11) dX12_behindOne_136 (by decide) rfl h.1 rfl ?_
        have h := h.2
        refine a_topu (fun z13 ez13 => ?_)
        have h := h z13 ez13
        refine a_aload_n C 3 dX12_behindOne_137 rfl rfl ?_
        refine a_iconst C 0 dX12_behindOne_138 (by decide) ?_
        refine a_puti C (ty := .boolean) 18 dX12_behindOne_139 (by decide) rfl rfl rfl ib_12 (by decide) bw_1040 tyX12 tyX12_ok nmX12 rfl (by decide +kernel) rfl rfl ?_
        refine a_topu (fun z14 ez14 => ?_)
        have h := h z14 ez14
        refine a_iconst C 0 dX12_behindOne_142 (by decide) ?_
        exact a_iret C dX12_behindOne_143 h
      · have h := h.2 c22
        refine a_aload_n C 3 dX12_behindOne_90 rfl rfl ?_
        refine a_dup C dX12_behindOne_91 rfl ?_
        refine a_geti C 17 dX12_behindOne_92 (by decide) rfl rfl rfl ib_12 (by decide) bw_1039 ?_
        refine a_iconst C 1 dX12_behindOne_95 (by decide) ?_
        refine a_isub C dX12_behindOne_96 ?_
        refine a_puti C (ty := .int) 17 dX12_behindOne_97 (by decide) rfl rfl rfl ib_12 (by decide) bw_1039 tyX12 tyX12_ok nmX12 rfl (by decide +kernel) rfl rfl ?_
        refine a_topu (fun z15 ez15 => ?_)
        have h := h z15 ez15
        refine a_aload_n C 3 dX12_behindOne_100 rfl rfl ?_
        refine a_dup C dX12_behindOne_101 rfl ?_
        refine a_geti C 16 dX12_behindOne_102 (by decide) rfl rfl rfl ib_12 (by decide) bw_1038 ?_
        refine a_iconst C 1 dX12_behindOne_105 (by decide) ?_
        refine a_isub C dX12_behindOne_106 ?_
        refine a_puti C (ty := .int) 16 dX12_behindOne_107 (by decide) rfl rfl rfl ib_12 (by decide) bw_1038 tyX12 tyX12_ok nmX12 rfl (by decide +kernel) rfl rfl ?_
        refine a_topu (fun z16 ez16 => ?_)
        have h := h z16 ez16
        refine a_iload_n C 1 dX12_behindOne_110 rfl rfl ?_
        refine a_bipush C 44 dX12_behindOne_111 (by decide) ?_
        refine a_icmp_ne C 122 dX12_behindOne_113 (by decide) (fun c21 => ?_) (fun c21 => ?_)
        · have h := h.1 c21
          refine a_sub [3] rfl ?_
          refine tj_X12_behindOne_122 C _ h
        · have h := h.2 c21
          refine a_aload_n C 3 dX12_behindOne_116 rfl rfl ?_
          refine a_iconst C 3 dX12_behindOne_117 (by decide) ?_
          refine a_iconst C 0 dX12_behindOne_118 (by decide) ?_
          refine a_callVv C dX12_behindOne_119 (m_X12_emit l V h) bw_1294 bw_1296 bw_63 bw_123 bw_1297 (by decide) rfl rfl np_X12_emit rfl rfl (by decide) (Nat.le_of_ble_eq_true rfl) ⟨Nat.zero_le _, Nat.zero_le _⟩ (fun u20 h => ?_)
          refine a_sub [3] rfl ?_
          refine tj_X12_behindOne_122 C _ h
    · have h := h.2 c23
      refine a_iconst C (-1) dX12_behindOne_75 (by decide) ?_
      exact a_iret C dX12_behindOne_76 h
  · have h := h.2 c36
    refine a_aload_n C 1 dX12_behindOne_9 rfl rfl ?_
    refine a_iload_n C 0 dX12_behindOne_10 rfl rfl ?_
    refine a_callSi C dX12_behindOne_11 (m_X12_rank l V h) bw_1283 bw_1284 bw_123 bw_1285 np_X12_rank rfl rfl (by decide) (Nat.le_of_ble_eq_true rfl) ⟨Nat.zero_le _, Nat.zero_le _⟩ (fun r24 u25 h => ?_)
    refine a_iconst C 4 dX12_behindOne_14 (by decide) ?_
    refine a_icmp_ne C 22 dX12_behindOne_15 (by decide) (fun c35 => ?_) (fun c35 => ?_)
    · have h := h.1 c35
      refine a_iload_n C 0 dX12_behindOne_22 rfl rfl ?_
      refine a_callSi C dX12_behindOne_23 (m_X12_rank l V h) bw_1283 bw_1284 bw_123 bw_1285 np_X12_rank rfl rfl (by decide) (Nat.le_of_ble_eq_true rfl) ⟨Nat.zero_le _, Nat.zero_le _⟩ (fun r26 u27 h => ?_)
      refine a_sub [1, 0] rfl ?_
      refine tj_X12_behindOne_26 C _ _ _ h
    · have h := h.2 c35
      refine a_iconst C 5 dX12_behindOne_18 (by decide) ?_
      refine a_goto C 26 dX12_behindOne_19 (by decide) ?_
      refine a_sub [1, 0] rfl ?_
      refine tj_X12_behindOne_26 C _ _ _ h

/-! RainOnTheOneModel.summed()I -/
def wj_X12_summed_33 (k47 : PoS → Prop) (k15 : PoS → Prop) (post : Int32 → PoS → Prop) (s0 : Int32) (u : PoS) : Prop := ((s0 ≤ 0 → ((¬ s0 = 0 → k47  u) ∧ (s0 = 0 → k15  u))) ∧ (¬ s0 ≤ 0 → post s0 u))
def wl_X12_summed_15 (k47 : PoS → Prop) (post : Int32 → PoS → Prop) : Nat → PoS → Prop
  | 0, _ => False
  | n + 1, u => (((gI u 48 18) = 0 → wp_X12_beginOne u (fun (r4 : Int32) (u5 : PoS) => wj_X12_summed_33 k47 (wl_X12_summed_15 k47 post n) post r4 u5)) ∧ (¬ (gI u 48 18) = 0 → wp_X12_behindOne u (fun (r8 : Int32) (u9 : PoS) => wj_X12_summed_33 k47 (wl_X12_summed_15 k47 post n) post r8 u9)))
def wp_X12_summed (u : PoS) (post : Int32 → PoS → Prop) : Prop := ∀ z1 : PoS, z1 = pI u 48 16 0 → ∀ z2 : PoS, z2 = pI z1 48 17 0 → ∀ z3 : PoS, z3 = pI z2 48 18 0 → (∃ n15, wl_X12_summed_15 (fun (u11 : PoS) => wp_X12_openNow u11 (fun (r12 : Int32) (u13 : PoS) => ((r12 < 0 → wp_X12_settle 1 u13 (fun (u15 : PoS) => post 0 u15)) ∧ (¬ r12 < 0 → post 1 u13)))) post n15  z3)
set_option maxHeartbeats 4000000 in
set_option maxRecDepth 100000 in
theorem tj_X12_summed_33 {p : Program} {l : Launch} {e : Env} {s : State} {m : MethodId} {args : Array Value} {below : List Frame} {meth : Method} {c : Code} {V : VEn} {k47 : PoS → Prop} {k15 : PoS → Prop} {post : Int32 → PoS → Prop} (C : CxS p s m args meth c V cX12_summed 2 RX12 (some .int)) (hk47 : ∀ (u : PoS), k47  u → AtS p l e (Rm 7) s m args below meth c V 2 0 0 (QI V below args s post) 47 [(0, .ref (eA V 48))] [] u) (hk15 : ∀ (u : PoS), k15  u → AtS p l e (Rm 7) s m args below meth c V 2 0 0 (QI V below args s post) 15 [(0, .ref (eA V 48))] [] u) (s0 : Int32) (u : PoS) (h : wj_X12_summed_33 k47 k15 post s0 u) : AtS p l e (Rm 7) s m args below meth c V 2 0 0 (QI V below args s post) 33 [(0, .ref (eA V 48))] [.int s0] u := by
  rw [wj_X12_summed_33] at h
  refine a_istore_n C [(1, .int s0), (0, .ref (eA V 48))] dX12_summed_33 rfl (by decide) rfl ?_
  refine a_iload_n C 0 dX12_summed_34 rfl rfl ?_
  refine a_if_le C 40 dX12_summed_35 (by decide) (fun c7 => ?_) (fun c7 => ?_)
  · have h := h.1 c7
    refine a_iload_n C 0 dX12_summed_40 rfl rfl ?_
    refine a_if_ne C 47 dX12_summed_41 (by decide) (fun c6 => ?_) (fun c6 => ?_)
    · have h := h.1 c6
      refine a_sub [1] rfl ?_
      exact hk47 _ h
    · have h := h.2 c6
      refine a_goto C 15 dX12_summed_44 (by decide) ?_
      refine a_sub [1] rfl ?_
      exact hk15 _ h
  · have h := h.2 c7
    refine a_iload_n C 0 dX12_summed_38 rfl rfl ?_
    exact a_iret C dX12_summed_39 h
set_option maxHeartbeats 4000000 in
set_option maxRecDepth 100000 in
theorem tl_X12_summed_15 {p : Program} {l : Launch} {e : Env} {s : State} {m : MethodId} {args : Array Value} {below : List Frame} {meth : Method} {c : Code} {V : VEn} {k47 : PoS → Prop} {post : Int32 → PoS → Prop} (C : CxS p s m args meth c V cX12_summed 2 RX12 (some .int)) (hk47 : ∀ (u : PoS), k47  u → AtS p l e (Rm 7) s m args below meth c V 2 0 0 (QI V below args s post) 47 [(0, .ref (eA V 48))] [] u) : ∀ (n : Nat) (u : PoS), wl_X12_summed_15 k47 post n  u → AtS p l e (Rm 7) s m args below meth c V 2 0 0 (QI V below args s post) 15 [(0, .ref (eA V 48))] [] u := by
  intro n
  induction n with
  | zero => intro u h; exact h.elim
  | succ n ih =>
    intro u h
    rw [wl_X12_summed_15] at h
    refine a_aload_n C 0 dX12_summed_15 rfl rfl ?_
    refine a_geti C 18 dX12_summed_16 (by decide) rfl rfl rfl ib_12 (by decide) bw_1040 ?_
    refine a_if_eq C 29 dX12_summed_19 (by decide) (fun c10 => ?_) (fun c10 => ?_)
    · have h := h.1 c10
      refine a_aload_n C 0 dX12_summed_29 rfl rfl ?_
      refine a_callVi C dX12_summed_30 (m_X12_beginOne l V h) bw_1306 bw_1308 bw_66 bw_123 bw_1309 (by decide) rfl rfl np_X12_beginOne rfl rfl (by decide) (Nat.le_of_ble_eq_true rfl) ⟨Nat.zero_le _, Nat.zero_le _⟩ (fun r4 u5 h => ?_)
      refine tj_X12_summed_33 C hk47 ih _ _ h
    · have h := h.2 c10
      refine a_aload_n C 0 dX12_summed_22 rfl rfl ?_
      refine a_callVi C dX12_summed_23 (m_X12_behindOne l V h) bw_1263 bw_1265 bw_56 bw_123 bw_1266 (by decide) rfl rfl np_X12_behindOne rfl rfl (by decide) (Nat.le_of_ble_eq_true rfl) ⟨Nat.zero_le _, Nat.zero_le _⟩ (fun r8 u9 h => ?_)
      refine a_goto C 33 dX12_summed_26 (by decide) ?_
      refine tj_X12_summed_33 C hk47 ih _ _ h
theorem np_X12_summed : yX12_summed.cls ≠ "java/lang/invoke/MethodHandle" ∧ yX12_summed.cls ≠ "java/lang/invoke/VarHandle" ∧ (parseMethodDescriptor yX12_summed.desc).map (fun d => d.parameters.length) = some 0 := by decide +kernel
set_option maxHeartbeats 4000000 in
set_option maxRecDepth 100000 in
theorem m_X12_summed (l : Launch) (V : VEn) {u : PoS} {post : Int32 → PoS → Prop} (h : wp_X12_summed  u post) : KI l V yX12_summed cX12_summed 2 .int 7 [.ref (eA V 48)] u post := by
  refine KI_of (by decide) (Nat.le_of_ble_eq_true rfl) (lv := [(0, .ref (eA V 48))]) rfl ?_
  intro p e s m args below meth c C
  rw [wp_X12_summed] at h
  refine a_aload_n C 0 dX12_summed_0 rfl rfl ?_
  refine a_iconst C 0 dX12_summed_1 (by decide) ?_
  refine a_puti C (ty := .int) 16 dX12_summed_2 (by decide) rfl rfl rfl ib_12 (by decide) bw_1038 tyX12 tyX12_ok nmX12 rfl (by decide +kernel) rfl rfl ?_
  refine a_topu (fun z1 ez1 => ?_)
  have h := h z1 ez1
  refine a_aload_n C 0 dX12_summed_5 rfl rfl ?_
  refine a_iconst C 0 dX12_summed_6 (by decide) ?_
  refine a_puti C (ty := .int) 17 dX12_summed_7 (by decide) rfl rfl rfl ib_12 (by decide) bw_1039 tyX12 tyX12_ok nmX12 rfl (by decide +kernel) rfl rfl ?_
  refine a_topu (fun z2 ez2 => ?_)
  have h := h z2 ez2
  refine a_aload_n C 0 dX12_summed_10 rfl rfl ?_
  refine a_iconst C 0 dX12_summed_11 (by decide) ?_
  refine a_puti C (ty := .boolean) 18 dX12_summed_12 (by decide) rfl rfl rfl ib_12 (by decide) bw_1040 tyX12 tyX12_ok nmX12 rfl (by decide +kernel) rfl rfl ?_
  refine a_topu (fun z3 ez3 => ?_)
  have h := h z3 ez3
  obtain ⟨n15, h⟩ := h
  refine tl_X12_summed_15 C (fun u11 h => ?_) n15 _ h
  refine a_aload_n C 0 dX12_summed_47 rfl rfl ?_
  refine a_callVi C dX12_summed_48 (m_X12_openNow l V h) bw_1271 bw_1273 bw_58 bw_123 bw_1274 (by decide) rfl rfl np_X12_openNow rfl rfl (by decide) (Nat.le_of_ble_eq_true rfl) ⟨Nat.zero_le _, Nat.zero_le _⟩ (fun r12 u13 h => ?_)
  refine a_if_lt C 56 dX12_summed_51 (by decide) (fun c16 => ?_) (fun c16 => ?_)
  · have h := h.1 c16
    refine a_aload_n C 0 dX12_summed_56 rfl rfl ?_
    refine a_iconst C 1 dX12_summed_57 (by decide) ?_
    refine a_callVv C dX12_summed_58 (m_X12_settle l V h) bw_1290 bw_1292 bw_62 bw_123 bw_1293 (by decide) rfl rfl np_X12_settle rfl rfl (by decide) (Nat.le_of_ble_eq_true rfl) ⟨Nat.zero_le _, Nat.zero_le _⟩ (fun u15 h => ?_)
    refine a_iconst C 0 dX12_summed_61 (by decide) ?_
    exact a_iret C dX12_summed_62 h
  · have h := h.2 c16
    refine a_iconst C 1 dX12_summed_54 (by decide) ?_
    exact a_iret C dX12_summed_55 h

/-! RainOnTheOneModel.figure(III)I -/
def wp_X12_figure (a0 : Int32) (a1 : Int32) (a2 : Int32) (u : PoS) (post : Int32 → PoS → Prop) : Prop := (((gI u 48 9) = 1 → wp_X12_isIn (gI u 48 10) a1 a2 u (fun (r1 : Int32) (u2 : PoS) => ((¬ r1 = 0 → vp_in a0 2724 ∧ ∀ z3 : PoS, z3 = pI u2 51 (Int32.toNatClampNeg a0) (gI u2 48 10) → wp_X12_nextToken z3 (fun (u5 : PoS) => post 0 u5)) ∧ (r1 = 0 → post 2 u2)))) ∧ (¬ (gI u 48 9) = 1 → post 1 u))
theorem np_X12_figure : yX12_figure.cls ≠ "java/lang/invoke/MethodHandle" ∧ yX12_figure.cls ≠ "java/lang/invoke/VarHandle" ∧ (parseMethodDescriptor yX12_figure.desc).map (fun d => d.parameters.length) = some 3 := by decide +kernel
set_option maxHeartbeats 4000000 in
set_option maxRecDepth 100000 in
theorem m_X12_figure (l : Launch) (V : VEn) {a0 : Int32} {a1 : Int32} {a2 : Int32} {u : PoS} {post : Int32 → PoS → Prop} (h : wp_X12_figure a0 a1 a2 u post) : KI l V yX12_figure cX12_figure 4 .int 2 [.ref (eA V 48), .int a0, .int a1, .int a2] u post := by
  refine KI_of (by decide) (Nat.le_of_ble_eq_true rfl) (lv := [(0, .ref (eA V 48)), (1, .int a0), (2, .int a1), (3, .int a2)]) rfl ?_
  intro p e s m args below meth c C
  rw [wp_X12_figure] at h
  refine a_aload_n C 0 dX12_figure_0 rfl rfl ?_
  refine a_geti C 9 dX12_figure_1 (by decide) rfl rfl rfl ib_12 (by decide) bw_1031 ?_
  refine a_iconst C 1 dX12_figure_4 (by decide) ?_
  refine a_icmp_eq C 10 dX12_figure_5 (by decide) (fun c7 => ?_) (fun c7 => ?_)
  · have h := h.1 c7
    refine a_aload_n C 0 dX12_figure_10 rfl rfl ?_
    refine a_geti C 10 dX12_figure_11 (by decide) rfl rfl rfl ib_12 (by decide) bw_1032 ?_
    refine a_iload_n C 2 dX12_figure_14 rfl rfl ?_
    refine a_iload_n C 3 dX12_figure_15 rfl rfl ?_
    refine a_callSi C dX12_figure_16 (m_X12_isIn l V h) bw_1147 bw_1148 bw_123 bw_1149 np_X12_isIn rfl rfl (by decide) (Nat.le_of_ble_eq_true rfl) ⟨Nat.zero_le _, Nat.zero_le _⟩ (fun r1 u2 h => ?_)
    refine a_if_ne C 24 dX12_figure_19 (by decide) (fun c6 => ?_) (fun c6 => ?_)
    · have h := h.1 c6
      refine a_aload_n C 0 dX12_figure_24 rfl rfl ?_
      refine a_getr C 2 (r := 51) dX12_figure_25 (by decide) rfl rfl rfl ib_12 (by decide) bw_1024 ?_
      refine a_iload_n C 1 dX12_figure_28 rfl rfl ?_
      refine a_aload_n C 0 dX12_figure_29 rfl rfl ?_
      refine a_geti C 10 dX12_figure_30 (by decide) rfl rfl rfl ib_12 (by decide) bw_1032 ?_
      refine b_iast C (Int32.toNatClampNeg a0) dX12_figure_33 (by decide) rfl h.1 rfl ?_
      have h := h.2
      refine a_topu (fun z3 ez3 => ?_)
      have h := h z3 ez3
      refine a_aload_n C 0 dX12_figure_34 rfl rfl ?_
      refine a_callVv C dX12_figure_35 (m_X12_nextToken l V h) bw_1194 bw_1196 bw_46 bw_123 bw_1197 (by decide) rfl rfl np_X12_nextToken rfl rfl (by decide) (Nat.le_of_ble_eq_true rfl) ⟨Nat.zero_le _, Nat.zero_le _⟩ (fun u5 h => ?_)
      refine a_iconst C 0 dX12_figure_38 (by decide) ?_
      exact a_iret C dX12_figure_39 h
    · have h := h.2 c6
      refine a_iconst C 2 dX12_figure_22 (by decide) ?_
      exact a_iret C dX12_figure_23 h
  · have h := h.2 c7
    refine a_iconst C 1 dX12_figure_8 (by decide) ?_
    exact a_iret C dX12_figure_9 h

/-! RainOnTheOneModel.lawClause(I)I -/
def wp_X12_lawClause (a0 : Int32) (u : PoS) (post : Int32 → PoS → Prop) : Prop := vp_in (a0 + 1) 2724 ∧ ∀ z1 : PoS, z1 = pI u 51 (Int32.toNatClampNeg (a0 + 1)) (gI u 48 13) → wp_X12_summed z1 (fun (r2 : Int32) (u3 : PoS) => vp_in (a0 + 2) 2724 ∧ ∀ z4 : PoS, z4 = pI u3 51 (Int32.toNatClampNeg (a0 + 2)) (gI u3 48 13) → post r2 z4)
theorem np_X12_lawClause : yX12_lawClause.cls ≠ "java/lang/invoke/MethodHandle" ∧ yX12_lawClause.cls ≠ "java/lang/invoke/VarHandle" ∧ (parseMethodDescriptor yX12_lawClause.desc).map (fun d => d.parameters.length) = some 1 := by decide +kernel
set_option maxHeartbeats 4000000 in
set_option maxRecDepth 100000 in
theorem m_X12_lawClause (l : Launch) (V : VEn) {a0 : Int32} {u : PoS} {post : Int32 → PoS → Prop} (h : wp_X12_lawClause a0 u post) : KI l V yX12_lawClause cX12_lawClause 3 .int 8 [.ref (eA V 48), .int a0] u post := by
  refine KI_of (by decide) (Nat.le_of_ble_eq_true rfl) (lv := [(0, .ref (eA V 48)), (1, .int a0)]) rfl ?_
  intro p e s m args below meth c C
  rw [wp_X12_lawClause] at h
  refine a_aload_n C 0 dX12_lawClause_0 rfl rfl ?_
  refine a_getr C 2 (r := 51) dX12_lawClause_1 (by decide) rfl rfl rfl ib_12 (by decide) bw_1024 ?_
  refine a_iload_n C 1 dX12_lawClause_4 rfl rfl ?_
  refine a_iconst C 1 dX12_lawClause_5 (by decide) ?_
  refine a_iadd C dX12_lawClause_6 ?_
  refine a_aload_n C 0 dX12_lawClause_7 rfl rfl ?_
  refine a_geti C 13 dX12_lawClause_8 (by decide) rfl rfl rfl ib_12 (by decide) bw_1035 ?_
  refine b_iast C (Int32.toNatClampNeg (a0 + 1)) dX12_lawClause_11 (by decide) rfl h.1 rfl ?_
  have h := h.2
  refine a_topu (fun z1 ez1 => ?_)
  have h := h z1 ez1
  refine a_aload_n C 0 dX12_lawClause_12 rfl rfl ?_
  refine a_callVi C dX12_lawClause_13 (m_X12_summed l V h) bw_1259 bw_1261 bw_55 bw_123 bw_1262 (by decide) rfl rfl np_X12_summed rfl rfl (by decide) (Nat.le_of_ble_eq_true rfl) ⟨Nat.zero_le _, Nat.zero_le _⟩ (fun r2 u3 h => ?_)
  refine a_istore_n C [(2, .int r2), (0, .ref (eA V 48)), (1, .int a0)] dX12_lawClause_16 rfl (by decide) rfl ?_
  refine a_aload_n C 1 dX12_lawClause_17 rfl rfl ?_
  refine a_getr C 2 (r := 51) dX12_lawClause_18 (by decide) rfl rfl rfl ib_12 (by decide) bw_1024 ?_
  refine a_iload_n C 2 dX12_lawClause_21 rfl rfl ?_
  refine a_iconst C 2 dX12_lawClause_22 (by decide) ?_
  refine a_iadd C dX12_lawClause_23 ?_
  refine a_aload_n C 1 dX12_lawClause_24 rfl rfl ?_
  refine a_geti C 13 dX12_lawClause_25 (by decide) rfl rfl rfl ib_12 (by decide) bw_1035 ?_
  refine b_iast C (Int32.toNatClampNeg (a0 + 2)) dX12_lawClause_28 (by decide) rfl h.1 rfl ?_
  have h := h.2
  refine a_topu (fun z4 ez4 => ?_)
  have h := h z4 ez4
  refine a_iload_n C 0 dX12_lawClause_29 rfl rfl ?_
  exact a_iret C dX12_lawClause_30 h

/-! RainOnTheOneModel.pair(IIJI)I -/
def wp_X12_pair (a0 : Int32) (a1 : Int32) (a2 : Int64) (a3 : Int32) (u : PoS) (post : Int32 → PoS → Prop) : Prop := wp_X12_figure (a0 + 1) 0 a1 u (fun (r1 : Int32) (u2 : PoS) => ((r1 = 0 → wp_X12_isWord a2 u2 (fun (r3 : Int32) (u4 : PoS) => ((¬ r3 = 0 → wp_X12_nextToken u4 (fun (u6 : PoS) => wp_X12_figure (a0 + 2) 0 a3 u6 (fun (r7 : Int32) (u8 : PoS) => post r7 u8))) ∧ (r3 = 0 → post 1 u4)))) ∧ (¬ r1 = 0 → post r1 u2)))
theorem np_X12_pair : yX12_pair.cls ≠ "java/lang/invoke/MethodHandle" ∧ yX12_pair.cls ≠ "java/lang/invoke/VarHandle" ∧ (parseMethodDescriptor yX12_pair.desc).map (fun d => d.parameters.length) = some 4 := by decide +kernel
set_option maxHeartbeats 4000000 in
set_option maxRecDepth 100000 in
theorem m_X12_pair (l : Launch) (V : VEn) {a0 : Int32} {a1 : Int32} {a2 : Int64} {a3 : Int32} {u : PoS} {post : Int32 → PoS → Prop} (h : wp_X12_pair a0 a1 a2 a3 u post) : KI l V yX12_pair cX12_pair 7 .int 3 [.ref (eA V 48), .int a0, .int a1, .long a2, .int a3] u post := by
  refine KI_of (by decide) (Nat.le_of_ble_eq_true rfl) (lv := [(0, .ref (eA V 48)), (1, .int a0), (2, .int a1), (3, .long a2), (5, .int a3)]) rfl ?_
  intro p e s m args below meth c C
  rw [wp_X12_pair] at h
  refine a_aload_n C 0 dX12_pair_0 rfl rfl ?_
  refine a_iload_n C 1 dX12_pair_1 rfl rfl ?_
  refine a_iconst C 1 dX12_pair_2 (by decide) ?_
  refine a_iadd C dX12_pair_3 ?_
  refine a_iconst C 0 dX12_pair_4 (by decide) ?_
  refine a_iload_n C 2 dX12_pair_5 rfl rfl ?_
  refine a_callVi C dX12_pair_6 (m_X12_figure l V h) bw_1247 bw_1249 bw_52 bw_123 bw_1250 (by decide) rfl rfl np_X12_figure rfl rfl (by decide) (Nat.le_of_ble_eq_true rfl) ⟨Nat.zero_le _, Nat.zero_le _⟩ (fun r1 u2 h => ?_)
  refine a_istore C [(6, .int r1), (0, .ref (eA V 48)), (1, .int a0), (2, .int a1), (3, .long a2), (5, .int a3)] dX12_pair_9 (by decide) rfl ?_
  refine a_iload C 0 dX12_pair_11 rfl ?_
  refine a_if_eq C 19 dX12_pair_13 (by decide) (fun c10 => ?_) (fun c10 => ?_)
  · have h := h.1 c10
    refine a_aload_n C 1 dX12_pair_19 rfl rfl ?_
    refine a_lload_n C 4 dX12_pair_20 rfl rfl ?_
    refine a_callVi C dX12_pair_21 (m_X12_isWord l V h) bw_1233 bw_1235 bw_50 bw_123 bw_1236 (by decide) rfl rfl np_X12_isWord rfl rfl (by decide) (Nat.le_of_ble_eq_true rfl) ⟨Nat.zero_le _, Nat.zero_le _⟩ (fun r3 u4 h => ?_)
    refine a_if_ne C 29 dX12_pair_24 (by decide) (fun c9 => ?_) (fun c9 => ?_)
    · have h := h.1 c9
      refine a_aload_n C 1 dX12_pair_29 rfl rfl ?_
      refine a_callVv C dX12_pair_30 (m_X12_nextToken l V h) bw_1194 bw_1196 bw_46 bw_123 bw_1197 (by decide) rfl rfl np_X12_nextToken rfl rfl (by decide) (Nat.le_of_ble_eq_true rfl) ⟨Nat.zero_le _, Nat.zero_le _⟩ (fun u6 h => ?_)
      refine a_aload_n C 1 dX12_pair_33 rfl rfl ?_
      refine a_iload_n C 2 dX12_pair_34 rfl rfl ?_
      refine a_iconst C 2 dX12_pair_35 (by decide) ?_
      refine a_iadd C dX12_pair_36 ?_
      refine a_iconst C 0 dX12_pair_37 (by decide) ?_
      refine a_iload C 5 dX12_pair_38 rfl ?_
      refine a_callVi C dX12_pair_40 (m_X12_figure l V h) bw_1247 bw_1249 bw_52 bw_123 bw_1250 (by decide) rfl rfl np_X12_figure rfl rfl (by decide) (Nat.le_of_ble_eq_true rfl) ⟨Nat.zero_le _, Nat.zero_le _⟩ (fun r7 u8 h => ?_)
      exact a_iret C dX12_pair_43 h
    · have h := h.2 c9
      refine a_iconst C 1 dX12_pair_27 (by decide) ?_
      exact a_iret C dX12_pair_28 h
  · have h := h.2 c10
    refine a_iload C 0 dX12_pair_16 rfl ?_
    exact a_iret C dX12_pair_18 h

/-! RainOnTheOneModel.body(II)I -/
def wp_X12_body (a0 : Int32) (a1 : Int32) (u : PoS) (post : Int32 → PoS → Prop) : Prop := ((a0 = 2 → wp_X12_figure (a1 + 1) 0 29 u (fun (r1 : Int32) (u2 : PoS) => post r1 u2)) ∧ (a0 = 3 → wp_X12_w2 111 102 u (fun (r3 : Int64) (u4 : PoS) => wp_X12_pair a1 99 r3 29 u4 (fun (r5 : Int32) (u6 : PoS) => post r5 u6))) ∧ (a0 = 4 → wp_X12_figure (a1 + 1) 0 29 u (fun (r7 : Int32) (u8 : PoS) => post r7 u8)) ∧ (a0 = 5 → wp_X12_w2 116 111 u (fun (r9 : Int64) (u10 : PoS) => wp_X12_pair a1 4 r9 29 u10 (fun (r11 : Int32) (u12 : PoS) => post r11 u12))) ∧ (a0 = 6 → wp_X12_figure (a1 + 1) 0 4 u (fun (r13 : Int32) (u14 : PoS) => post r13 u14)) ∧ (a0 = 7 → wp_X12_figure (a1 + 1) 0 4 u (fun (r15 : Int32) (u16 : PoS) => post r15 u16)) ∧ (a0 = 8 → post 0 u) ∧ (a0 = 9 → wp_X12_figure (a1 + 1) 1 60 u (fun (r17 : Int32) (u18 : PoS) => post r17 u18)) ∧ (¬ a0 = 2 → ¬ a0 = 3 → ¬ a0 = 4 → ¬ a0 = 5 → ¬ a0 = 6 → ¬ a0 = 7 → ¬ a0 = 8 → ¬ a0 = 9 → wp_X12_lawClause a1 u (fun (r19 : Int32) (u20 : PoS) => post r19 u20)))
theorem np_X12_body : yX12_body.cls ≠ "java/lang/invoke/MethodHandle" ∧ yX12_body.cls ≠ "java/lang/invoke/VarHandle" ∧ (parseMethodDescriptor yX12_body.desc).map (fun d => d.parameters.length) = some 2 := by decide +kernel
set_option maxHeartbeats 4000000 in
set_option maxRecDepth 100000 in
theorem m_X12_body (l : Launch) (V : VEn) {a0 : Int32} {a1 : Int32} {u : PoS} {post : Int32 → PoS → Prop} (h : wp_X12_body a0 a1 u post) : KI l V yX12_body cX12_body 3 .int 9 [.ref (eA V 48), .int a0, .int a1] u post := by
  refine KI_of (by decide) (Nat.le_of_ble_eq_true rfl) (lv := [(0, .ref (eA V 48)), (1, .int a0), (2, .int a1)]) rfl ?_
  intro p e s m args below meth c C
  rw [wp_X12_body] at h
  refine a_iload_n C 1 dX12_body_0 rfl rfl ?_
  obtain ⟨hs0, hs1, hs2, hs3, hs4, hs5, hs6, hs7, hd0⟩ := h
  by_cases hq0 : a0 = 2
  · have h := hs0 hq0
    refine a_tableIn C (off := 47) 48 dX12_body_1 (by rw [hq0]; decide) (by rw [hq0]; decide) (by rw [hq0]; decide +kernel) (by decide) ?_
    refine a_aload_n C 0 dX12_body_48 rfl rfl ?_
    refine a_iload_n C 2 dX12_body_49 rfl rfl ?_
    refine a_iconst C 1 dX12_body_50 (by decide) ?_
    refine a_iadd C dX12_body_51 ?_
    refine a_iconst C 0 dX12_body_52 (by decide) ?_
    refine a_bipush C 29 dX12_body_53 (by decide) ?_
    refine a_callVi C dX12_body_55 (m_X12_figure l V h) bw_1247 bw_1249 bw_52 bw_123 bw_1250 (by decide) rfl rfl np_X12_figure rfl rfl (by decide) (Nat.le_of_ble_eq_true rfl) ⟨Nat.zero_le _, Nat.zero_le _⟩ (fun r1 u2 h => ?_)
    exact a_iret C dX12_body_58 h
  by_cases hq1 : a0 = 3
  · have h := hs1 hq1
    refine a_tableIn C (off := 58) 59 dX12_body_1 (by rw [hq1]; decide) (by rw [hq1]; decide) (by rw [hq1]; decide +kernel) (by decide) ?_
    refine a_aload_n C 0 dX12_body_59 rfl rfl ?_
    refine a_iload_n C 2 dX12_body_60 rfl rfl ?_
    refine a_bipush C 99 dX12_body_61 (by decide) ?_
    refine a_bipush C 111 dX12_body_63 (by decide) ?_
    refine a_bipush C 102 dX12_body_65 (by decide) ?_
    refine a_callSl C dX12_body_67 (m_X12_w2 l V h) bw_1230 bw_1231 bw_123 bw_1232 np_X12_w2 rfl rfl (by decide) (Nat.le_of_ble_eq_true rfl) ⟨Nat.zero_le _, Nat.zero_le _⟩ (fun r3 u4 h => ?_)
    refine a_bipush C 29 dX12_body_70 (by decide) ?_
    refine a_callVi C dX12_body_72 (m_X12_pair l V h) bw_1251 bw_1253 bw_53 bw_123 bw_1254 (by decide) rfl rfl np_X12_pair rfl rfl (by decide) (Nat.le_of_ble_eq_true rfl) ⟨Nat.zero_le _, Nat.zero_le _⟩ (fun r5 u6 h => ?_)
    exact a_iret C dX12_body_75 h
  by_cases hq2 : a0 = 4
  · have h := hs2 hq2
    refine a_tableIn C (off := 75) 76 dX12_body_1 (by rw [hq2]; decide) (by rw [hq2]; decide) (by rw [hq2]; decide +kernel) (by decide) ?_
    refine a_aload_n C 0 dX12_body_76 rfl rfl ?_
    refine a_iload_n C 2 dX12_body_77 rfl rfl ?_
    refine a_iconst C 1 dX12_body_78 (by decide) ?_
    refine a_iadd C dX12_body_79 ?_
    refine a_iconst C 0 dX12_body_80 (by decide) ?_
    refine a_bipush C 29 dX12_body_81 (by decide) ?_
    refine a_callVi C dX12_body_83 (m_X12_figure l V h) bw_1247 bw_1249 bw_52 bw_123 bw_1250 (by decide) rfl rfl np_X12_figure rfl rfl (by decide) (Nat.le_of_ble_eq_true rfl) ⟨Nat.zero_le _, Nat.zero_le _⟩ (fun r7 u8 h => ?_)
    exact a_iret C dX12_body_86 h
  by_cases hq3 : a0 = 5
  · have h := hs3 hq3
    refine a_tableIn C (off := 86) 87 dX12_body_1 (by rw [hq3]; decide) (by rw [hq3]; decide) (by rw [hq3]; decide +kernel) (by decide) ?_
    refine a_aload_n C 0 dX12_body_87 rfl rfl ?_
    refine a_iload_n C 2 dX12_body_88 rfl rfl ?_
    refine a_iconst C 4 dX12_body_89 (by decide) ?_
    refine a_bipush C 116 dX12_body_90 (by decide) ?_
    refine a_bipush C 111 dX12_body_92 (by decide) ?_
    refine a_callSl C dX12_body_94 (m_X12_w2 l V h) bw_1230 bw_1231 bw_123 bw_1232 np_X12_w2 rfl rfl (by decide) (Nat.le_of_ble_eq_true rfl) ⟨Nat.zero_le _, Nat.zero_le _⟩ (fun r9 u10 h => ?_)
    refine a_bipush C 29 dX12_body_97 (by decide) ?_
    refine a_callVi C dX12_body_99 (m_X12_pair l V h) bw_1251 bw_1253 bw_53 bw_123 bw_1254 (by decide) rfl rfl np_X12_pair rfl rfl (by decide) (Nat.le_of_ble_eq_true rfl) ⟨Nat.zero_le _, Nat.zero_le _⟩ (fun r11 u12 h => ?_)
    exact a_iret C dX12_body_102 h
  by_cases hq4 : a0 = 6
  · have h := hs4 hq4
    refine a_tableIn C (off := 102) 103 dX12_body_1 (by rw [hq4]; decide) (by rw [hq4]; decide) (by rw [hq4]; decide +kernel) (by decide) ?_
    refine a_aload_n C 0 dX12_body_103 rfl rfl ?_
    refine a_iload_n C 2 dX12_body_104 rfl rfl ?_
    refine a_iconst C 1 dX12_body_105 (by decide) ?_
    refine a_iadd C dX12_body_106 ?_
    refine a_iconst C 0 dX12_body_107 (by decide) ?_
    refine a_iconst C 4 dX12_body_108 (by decide) ?_
    refine a_callVi C dX12_body_109 (m_X12_figure l V h) bw_1247 bw_1249 bw_52 bw_123 bw_1250 (by decide) rfl rfl np_X12_figure rfl rfl (by decide) (Nat.le_of_ble_eq_true rfl) ⟨Nat.zero_le _, Nat.zero_le _⟩ (fun r13 u14 h => ?_)
    exact a_iret C dX12_body_112 h
  by_cases hq5 : a0 = 7
  · have h := hs5 hq5
    refine a_tableIn C (off := 112) 113 dX12_body_1 (by rw [hq5]; decide) (by rw [hq5]; decide) (by rw [hq5]; decide +kernel) (by decide) ?_
    refine a_aload_n C 0 dX12_body_113 rfl rfl ?_
    refine a_iload_n C 2 dX12_body_114 rfl rfl ?_
    refine a_iconst C 1 dX12_body_115 (by decide) ?_
    refine a_iadd C dX12_body_116 ?_
    refine a_iconst C 0 dX12_body_117 (by decide) ?_
    refine a_iconst C 4 dX12_body_118 (by decide) ?_
    refine a_callVi C dX12_body_119 (m_X12_figure l V h) bw_1247 bw_1249 bw_52 bw_123 bw_1250 (by decide) rfl rfl np_X12_figure rfl rfl (by decide) (Nat.le_of_ble_eq_true rfl) ⟨Nat.zero_le _, Nat.zero_le _⟩ (fun r15 u16 h => ?_)
    exact a_iret C dX12_body_122 h
  by_cases hq6 : a0 = 8
  · have h := hs6 hq6
    refine a_tableIn C (off := 122) 123 dX12_body_1 (by rw [hq6]; decide) (by rw [hq6]; decide) (by rw [hq6]; decide +kernel) (by decide) ?_
    refine a_iconst C 0 dX12_body_123 (by decide) ?_
    exact a_iret C dX12_body_124 h
  by_cases hq7 : a0 = 9
  · have h := hs7 hq7
    refine a_tableIn C (off := 124) 125 dX12_body_1 (by rw [hq7]; decide) (by rw [hq7]; decide) (by rw [hq7]; decide +kernel) (by decide) ?_
    refine a_aload_n C 0 dX12_body_125 rfl rfl ?_
    refine a_iload_n C 2 dX12_body_126 rfl rfl ?_
    refine a_iconst C 1 dX12_body_127 (by decide) ?_
    refine a_iadd C dX12_body_128 ?_
    refine a_iconst C 1 dX12_body_129 (by decide) ?_
    refine a_bipush C 60 dX12_body_130 (by decide) ?_
    refine a_callVi C dX12_body_132 (m_X12_figure l V h) bw_1247 bw_1249 bw_52 bw_123 bw_1250 (by decide) rfl rfl np_X12_figure rfl rfl (by decide) (Nat.le_of_ble_eq_true rfl) ⟨Nat.zero_le _, Nat.zero_le _⟩ (fun r17 u18 h => ?_)
    exact a_iret C dX12_body_135 h
  have h := hd0 hq0 hq1 hq2 hq3 hq4 hq5 hq6 hq7
  refine a_tableOut C 136 dX12_body_1 (tsw_out 2 9 (fun q h1 h2 => by rcases (show q = 2 ∨ q = 3 ∨ q = 4 ∨ q = 5 ∨ q = 6 ∨ q = 7 ∨ q = 8 ∨ q = 9 by omega) with rfl | rfl | rfl | rfl | rfl | rfl | rfl | rfl <;> first | exact lv_neT hq0 (by decide) | exact lv_neT hq1 (by decide) | exact lv_neT hq2 (by decide) | exact lv_neT hq3 (by decide) | exact lv_neT hq4 (by decide) | exact lv_neT hq5 (by decide) | exact lv_neT hq6 (by decide) | exact lv_neT hq7 (by decide))) (by decide) ?_
  refine a_aload_n C 0 dX12_body_136 rfl rfl ?_
  refine a_iload_n C 2 dX12_body_137 rfl rfl ?_
  refine a_callVi C dX12_body_138 (m_X12_lawClause l V h) bw_1255 bw_1257 bw_54 bw_123 bw_1258 (by decide) rfl rfl np_X12_lawClause rfl rfl (by decide) (Nat.le_of_ble_eq_true rfl) ⟨Nat.zero_le _, Nat.zero_le _⟩ (fun r19 u20 h => ?_)
  exact a_iret C dX12_body_141 h

/-! RainOnTheOneModel.sortOf()I -/
def wp_X12_sortOf (u : PoS) (post : Int32 → PoS → Prop) : Prop := wp_X12_w5 119 97 110 116 115 u (fun (r1 : Int64) (u2 : PoS) => wp_X12_isWord r1 u2 (fun (r3 : Int32) (u4 : PoS) => ((r3 = 0 → wp_X12_w5 112 111 117 114 115 u4 (fun (r5 : Int64) (u6 : PoS) => wp_X12_isWord r5 u6 (fun (r7 : Int32) (u8 : PoS) => ((r7 = 0 → wp_X12_w6 112 101 114 115 111 110 u8 (fun (r9 : Int64) (u10 : PoS) => wp_X12_isWord r9 u10 (fun (r11 : Int32) (u12 : PoS) => ((r11 = 0 → wp_X12_w5 102 105 101 108 100 u12 (fun (r13 : Int64) (u14 : PoS) => wp_X12_isWord r13 u14 (fun (r15 : Int32) (u16 : PoS) => ((r15 = 0 → wp_X12_w4 115 104 101 100 u16 (fun (r17 : Int64) (u18 : PoS) => wp_X12_isWord r17 u18 (fun (r19 : Int32) (u20 : PoS) => ((r19 = 0 → wp_X12_w4 119 97 108 107 u20 (fun (r21 : Int64) (u22 : PoS) => wp_X12_isWord r21 u22 (fun (r23 : Int32) (u24 : PoS) => ((r23 = 0 → wp_X12_w3 104 97 116 u24 (fun (r25 : Int64) (u26 : PoS) => wp_X12_isWord r25 u26 (fun (r27 : Int32) (u28 : PoS) => ((r27 = 0 → wp_X12_w4 98 97 114 101 u28 (fun (r29 : Int64) (u30 : PoS) => wp_X12_isWord r29 u30 (fun (r31 : Int32) (u32 : PoS) => ((r31 = 0 → wp_X12_w4 100 114 97 119 u32 (fun (r33 : Int64) (u34 : PoS) => wp_X12_isWord r33 u34 (fun (r35 : Int32) (u36 : PoS) => ((r35 = 0 → wp_X12_w6 109 105 110 117 116 101 u36 (fun (r37 : Int64) (u38 : PoS) => wp_X12_isWord r37 u38 (fun (r39 : Int32) (u40 : PoS) => ((r39 = 0 → post (-1) u40) ∧ (¬ r39 = 0 → post 9 u40))))) ∧ (¬ r35 = 0 → post 8 u36))))) ∧ (¬ r31 = 0 → post 7 u32))))) ∧ (¬ r27 = 0 → post 6 u28))))) ∧ (¬ r23 = 0 → post 5 u24))))) ∧ (¬ r19 = 0 → post 4 u20))))) ∧ (¬ r15 = 0 → post 3 u16))))) ∧ (¬ r11 = 0 → post 2 u12))))) ∧ (¬ r7 = 0 → post 1 u8))))) ∧ (¬ r3 = 0 → post 0 u4))))
theorem np_X12_sortOf : yX12_sortOf.cls ≠ "java/lang/invoke/MethodHandle" ∧ yX12_sortOf.cls ≠ "java/lang/invoke/VarHandle" ∧ (parseMethodDescriptor yX12_sortOf.desc).map (fun d => d.parameters.length) = some 0 := by decide +kernel
set_option maxHeartbeats 4000000 in
set_option maxRecDepth 100000 in
theorem m_X12_sortOf (l : Launch) (V : VEn) {u : PoS} {post : Int32 → PoS → Prop} (h : wp_X12_sortOf  u post) : KI l V yX12_sortOf cX12_sortOf 1 .int 5 [.ref (eA V 48)] u post := by
  refine KI_of (by decide) (Nat.le_of_ble_eq_true rfl) (lv := [(0, .ref (eA V 48))]) rfl ?_
  intro p e s m args below meth c C
  rw [wp_X12_sortOf] at h
  refine a_aload_n C 0 dX12_sortOf_0 rfl rfl ?_
  refine a_bipush C 119 dX12_sortOf_1 (by decide) ?_
  refine a_bipush C 97 dX12_sortOf_3 (by decide) ?_
  refine a_bipush C 110 dX12_sortOf_5 (by decide) ?_
  refine a_bipush C 116 dX12_sortOf_7 (by decide) ?_
  refine a_bipush C 115 dX12_sortOf_9 (by decide) ?_
  refine a_callSl C dX12_sortOf_11 (m_X12_w5 l V h) bw_1221 bw_1222 bw_123 bw_1223 np_X12_w5 rfl rfl (by decide) (Nat.le_of_ble_eq_true rfl) ⟨Nat.zero_le _, Nat.zero_le _⟩ (fun r1 u2 h => ?_)
  refine a_callVi C dX12_sortOf_14 (m_X12_isWord l V h) bw_1233 bw_1235 bw_50 bw_123 bw_1236 (by decide) rfl rfl np_X12_isWord rfl rfl (by decide) (Nat.le_of_ble_eq_true rfl) ⟨Nat.zero_le _, Nat.zero_le _⟩ (fun r3 u4 h => ?_)
  refine a_if_eq C 22 dX12_sortOf_17 (by decide) (fun c50 => ?_) (fun c50 => ?_)
  · have h := h.1 c50
    refine a_aload_n C 0 dX12_sortOf_22 rfl rfl ?_
    refine a_bipush C 112 dX12_sortOf_23 (by decide) ?_
    refine a_bipush C 111 dX12_sortOf_25 (by decide) ?_
    refine a_bipush C 117 dX12_sortOf_27 (by decide) ?_
    refine a_bipush C 114 dX12_sortOf_29 (by decide) ?_
    refine a_bipush C 115 dX12_sortOf_31 (by decide) ?_
    refine a_callSl C dX12_sortOf_33 (m_X12_w5 l V h) bw_1221 bw_1222 bw_123 bw_1223 np_X12_w5 rfl rfl (by decide) (Nat.le_of_ble_eq_true rfl) ⟨Nat.zero_le _, Nat.zero_le _⟩ (fun r5 u6 h => ?_)
    refine a_callVi C dX12_sortOf_36 (m_X12_isWord l V h) bw_1233 bw_1235 bw_50 bw_123 bw_1236 (by decide) rfl rfl np_X12_isWord rfl rfl (by decide) (Nat.le_of_ble_eq_true rfl) ⟨Nat.zero_le _, Nat.zero_le _⟩ (fun r7 u8 h => ?_)
    refine a_if_eq C 44 dX12_sortOf_39 (by decide) (fun c49 => ?_) (fun c49 => ?_)
    · have h := h.1 c49
      refine a_aload_n C 0 dX12_sortOf_44 rfl rfl ?_
      refine a_bipush C 112 dX12_sortOf_45 (by decide) ?_
      refine a_bipush C 101 dX12_sortOf_47 (by decide) ?_
      refine a_bipush C 114 dX12_sortOf_49 (by decide) ?_
      refine a_bipush C 115 dX12_sortOf_51 (by decide) ?_
      refine a_bipush C 111 dX12_sortOf_53 (by decide) ?_
      refine a_bipush C 110 dX12_sortOf_55 (by decide) ?_
      refine a_callSl C dX12_sortOf_57 (m_X12_w6 l V h) bw_1237 bw_1238 bw_123 bw_1239 np_X12_w6 rfl rfl (by decide) (Nat.le_of_ble_eq_true rfl) ⟨Nat.zero_le _, Nat.zero_le _⟩ (fun r9 u10 h => ?_)
      refine a_callVi C dX12_sortOf_60 (m_X12_isWord l V h) bw_1233 bw_1235 bw_50 bw_123 bw_1236 (by decide) rfl rfl np_X12_isWord rfl rfl (by decide) (Nat.le_of_ble_eq_true rfl) ⟨Nat.zero_le _, Nat.zero_le _⟩ (fun r11 u12 h => ?_)
      refine a_if_eq C 68 dX12_sortOf_63 (by decide) (fun c48 => ?_) (fun c48 => ?_)
      · have h := h.1 c48
        refine a_aload_n C 0 dX12_sortOf_68 rfl rfl ?_
        refine a_bipush C 102 dX12_sortOf_69 (by decide) ?_
        refine a_bipush C 105 dX12_sortOf_71 (by decide) ?_
        refine a_bipush C 101 dX12_sortOf_73 (by decide) ?_
        refine a_bipush C 108 dX12_sortOf_75 (by decide) ?_
        refine a_bipush C 100 dX12_sortOf_77 (by decide) ?_
        refine a_callSl C dX12_sortOf_79 (m_X12_w5 l V h) bw_1221 bw_1222 bw_123 bw_1223 np_X12_w5 rfl rfl (by decide) (Nat.le_of_ble_eq_true rfl) ⟨Nat.zero_le _, Nat.zero_le _⟩ (fun r13 u14 h => ?_)
        refine a_callVi C dX12_sortOf_82 (m_X12_isWord l V h) bw_1233 bw_1235 bw_50 bw_123 bw_1236 (by decide) rfl rfl np_X12_isWord rfl rfl (by decide) (Nat.le_of_ble_eq_true rfl) ⟨Nat.zero_le _, Nat.zero_le _⟩ (fun r15 u16 h => ?_)
        refine a_if_eq C 90 dX12_sortOf_85 (by decide) (fun c47 => ?_) (fun c47 => ?_)
        · have h := h.1 c47
          refine a_aload_n C 0 dX12_sortOf_90 rfl rfl ?_
          refine a_bipush C 115 dX12_sortOf_91 (by decide) ?_
          refine a_bipush C 104 dX12_sortOf_93 (by decide) ?_
          refine a_bipush C 101 dX12_sortOf_95 (by decide) ?_
          refine a_bipush C 100 dX12_sortOf_97 (by decide) ?_
          refine a_callSl C dX12_sortOf_99 (m_X12_w4 l V h) bw_1224 bw_1225 bw_123 bw_1226 np_X12_w4 rfl rfl (by decide) (Nat.le_of_ble_eq_true rfl) ⟨Nat.zero_le _, Nat.zero_le _⟩ (fun r17 u18 h => ?_)
          refine a_callVi C dX12_sortOf_102 (m_X12_isWord l V h) bw_1233 bw_1235 bw_50 bw_123 bw_1236 (by decide) rfl rfl np_X12_isWord rfl rfl (by decide) (Nat.le_of_ble_eq_true rfl) ⟨Nat.zero_le _, Nat.zero_le _⟩ (fun r19 u20 h => ?_)
          refine a_if_eq C 110 dX12_sortOf_105 (by decide) (fun c46 => ?_) (fun c46 => ?_)
          · have h := h.1 c46
            refine a_aload_n C 0 dX12_sortOf_110 rfl rfl ?_
            refine a_bipush C 119 dX12_sortOf_111 (by decide) ?_
            refine a_bipush C 97 dX12_sortOf_113 (by decide) ?_
            refine a_bipush C 108 dX12_sortOf_115 (by decide) ?_
            refine a_bipush C 107 dX12_sortOf_117 (by decide) ?_
            refine a_callSl C dX12_sortOf_119 (m_X12_w4 l V h) bw_1224 bw_1225 bw_123 bw_1226 np_X12_w4 rfl rfl (by decide) (Nat.le_of_ble_eq_true rfl) ⟨Nat.zero_le _, Nat.zero_le _⟩ (fun r21 u22 h => ?_)
            refine a_callVi C dX12_sortOf_122 (m_X12_isWord l V h) bw_1233 bw_1235 bw_50 bw_123 bw_1236 (by decide) rfl rfl np_X12_isWord rfl rfl (by decide) (Nat.le_of_ble_eq_true rfl) ⟨Nat.zero_le _, Nat.zero_le _⟩ (fun r23 u24 h => ?_)
            refine a_if_eq C 130 dX12_sortOf_125 (by decide) (fun c45 => ?_) (fun c45 => ?_)
            · have h := h.1 c45
              refine a_aload_n C 0 dX12_sortOf_130 rfl rfl ?_
              refine a_bipush C 104 dX12_sortOf_131 (by decide) ?_
              refine a_bipush C 97 dX12_sortOf_133 (by decide) ?_
              refine a_bipush C 116 dX12_sortOf_135 (by decide) ?_
              refine a_callSl C dX12_sortOf_137 (m_X12_w3 l V h) bw_1227 bw_1228 bw_123 bw_1229 np_X12_w3 rfl rfl (by decide) (Nat.le_of_ble_eq_true rfl) ⟨Nat.zero_le _, Nat.zero_le _⟩ (fun r25 u26 h => ?_)
              refine a_callVi C dX12_sortOf_140 (m_X12_isWord l V h) bw_1233 bw_1235 bw_50 bw_123 bw_1236 (by decide) rfl rfl np_X12_isWord rfl rfl (by decide) (Nat.le_of_ble_eq_true rfl) ⟨Nat.zero_le _, Nat.zero_le _⟩ (fun r27 u28 h => ?_)
              refine a_if_eq C 149 dX12_sortOf_143 (by decide) (fun c44 => ?_) (fun c44 => ?_)
              · have h := h.1 c44
                refine a_aload_n C 0 dX12_sortOf_149 rfl rfl ?_
                refine a_bipush C 98 dX12_sortOf_150 (by decide) ?_
                refine a_bipush C 97 dX12_sortOf_152 (by decide) ?_
                refine a_bipush C 114 dX12_sortOf_154 (by decide) ?_
                refine a_bipush C 101 dX12_sortOf_156 (by decide) ?_
                refine a_callSl C dX12_sortOf_158 (m_X12_w4 l V h) bw_1224 bw_1225 bw_123 bw_1226 np_X12_w4 rfl rfl (by decide) (Nat.le_of_ble_eq_true rfl) ⟨Nat.zero_le _, Nat.zero_le _⟩ (fun r29 u30 h => ?_)
                refine a_callVi C dX12_sortOf_161 (m_X12_isWord l V h) bw_1233 bw_1235 bw_50 bw_123 bw_1236 (by decide) rfl rfl np_X12_isWord rfl rfl (by decide) (Nat.le_of_ble_eq_true rfl) ⟨Nat.zero_le _, Nat.zero_le _⟩ (fun r31 u32 h => ?_)
                refine a_if_eq C 170 dX12_sortOf_164 (by decide) (fun c43 => ?_) (fun c43 => ?_)
                · have h := h.1 c43
                  refine a_aload_n C 0 dX12_sortOf_170 rfl rfl ?_
                  refine a_bipush C 100 dX12_sortOf_171 (by decide) ?_
                  refine a_bipush C 114 dX12_sortOf_173 (by decide) ?_
                  refine a_bipush C 97 dX12_sortOf_175 (by decide) ?_
                  refine a_bipush C 119 dX12_sortOf_177 (by decide) ?_
                  refine a_callSl C dX12_sortOf_179 (m_X12_w4 l V h) bw_1224 bw_1225 bw_123 bw_1226 np_X12_w4 rfl rfl (by decide) (Nat.le_of_ble_eq_true rfl) ⟨Nat.zero_le _, Nat.zero_le _⟩ (fun r33 u34 h => ?_)
                  refine a_callVi C dX12_sortOf_182 (m_X12_isWord l V h) bw_1233 bw_1235 bw_50 bw_123 bw_1236 (by decide) rfl rfl np_X12_isWord rfl rfl (by decide) (Nat.le_of_ble_eq_true rfl) ⟨Nat.zero_le _, Nat.zero_le _⟩ (fun r35 u36 h => ?_)
                  refine a_if_eq C 193 dX12_sortOf_185 (by decide) (fun c42 => ?_) (fun c42 => ?_)
                  · have h := h.1 c42
                    refine a_aload_n C 0 dX12_sortOf_193 rfl rfl ?_
                    refine a_bipush C 109 dX12_sortOf_194 (by decide) ?_
                    refine a_bipush C 105 dX12_sortOf_196 (by decide) ?_
                    refine a_bipush C 110 dX12_sortOf_198 (by decide) ?_
                    refine a_bipush C 117 dX12_sortOf_200 (by decide) ?_
                    refine a_bipush C 116 dX12_sortOf_202 (by decide) ?_
                    refine a_bipush C 101 dX12_sortOf_204 (by decide) ?_
                    refine a_callSl C dX12_sortOf_206 (m_X12_w6 l V h) bw_1237 bw_1238 bw_123 bw_1239 np_X12_w6 rfl rfl (by decide) (Nat.le_of_ble_eq_true rfl) ⟨Nat.zero_le _, Nat.zero_le _⟩ (fun r37 u38 h => ?_)
                    refine a_callVi C dX12_sortOf_209 (m_X12_isWord l V h) bw_1233 bw_1235 bw_50 bw_123 bw_1236 (by decide) rfl rfl np_X12_isWord rfl rfl (by decide) (Nat.le_of_ble_eq_true rfl) ⟨Nat.zero_le _, Nat.zero_le _⟩ (fun r39 u40 h => ?_)
                    refine a_if_eq C 220 dX12_sortOf_212 (by decide) (fun c41 => ?_) (fun c41 => ?_)
                    · have h := h.1 c41
                      refine a_iconst C (-1) dX12_sortOf_220 (by decide) ?_
                      exact a_iret C dX12_sortOf_221 h
                    · have h := h.2 c41
                      refine a_bipush C 9 dX12_sortOf_215 (by decide) ?_
                      refine a_goto C 221 dX12_sortOf_217 (by decide) ?_
                      exact a_iret C dX12_sortOf_221 h
                  · have h := h.2 c42
                    refine a_bipush C 8 dX12_sortOf_188 (by decide) ?_
                    refine a_goto C 221 dX12_sortOf_190 (by decide) ?_
                    exact a_iret C dX12_sortOf_221 h
                · have h := h.2 c43
                  refine a_bipush C 7 dX12_sortOf_167 (by decide) ?_
                  exact a_iret C dX12_sortOf_169 h
              · have h := h.2 c44
                refine a_bipush C 6 dX12_sortOf_146 (by decide) ?_
                exact a_iret C dX12_sortOf_148 h
            · have h := h.2 c45
              refine a_iconst C 5 dX12_sortOf_128 (by decide) ?_
              exact a_iret C dX12_sortOf_129 h
          · have h := h.2 c46
            refine a_iconst C 4 dX12_sortOf_108 (by decide) ?_
            exact a_iret C dX12_sortOf_109 h
        · have h := h.2 c47
          refine a_iconst C 3 dX12_sortOf_88 (by decide) ?_
          exact a_iret C dX12_sortOf_89 h
      · have h := h.2 c48
        refine a_iconst C 2 dX12_sortOf_66 (by decide) ?_
        exact a_iret C dX12_sortOf_67 h
    · have h := h.2 c49
      refine a_iconst C 1 dX12_sortOf_42 (by decide) ?_
      exact a_iret C dX12_sortOf_43 h
  · have h := h.2 c50
    refine a_iconst C 0 dX12_sortOf_20 (by decide) ?_
    exact a_iret C dX12_sortOf_21 h

/-! RainOnTheOneModel.clause()I -/
def wj_X12_clause_65 (post : Int32 → PoS → Prop) (v1 : Int32) (v2 : Int32) (u : PoS) : Prop := ∀ z4 : PoS, z4 = pI u 48 14 v1 → wp_X12_nextToken z4 (fun (u6 : PoS) => ∀ x7 : Int32, x7 = (((gI u6 48 12) + 1) + (3 * v2)) → vp_in x7 2724 ∧ ∀ z8 : PoS, z8 = pI u6 51 (Int32.toNatClampNeg x7) v1 → wp_X12_body v1 x7 z8 (fun (r9 : Int32) (u10 : PoS) => ((r9 = 0 → vp_in (gI u10 48 12) 2724 ∧ vp_in (gI u10 48 12) 2724 ∧ ∀ z11 : PoS, z11 = pI u10 51 (Int32.toNatClampNeg (gI u10 48 12)) ((gI u10 51 (Int32.toNatClampNeg (gI u10 48 12))) + 1) → (((gI z11 48 9) = 59 → wp_X12_nextToken z11 (fun (u13 : PoS) => post 0 u13)) ∧ (¬ (gI z11 48 9) = 59 → post 1 z11))) ∧ (¬ r9 = 0 → post r9 u10))))
def wj_X12_clause_29 (post : Int32 → PoS → Prop) (v1 : Int32) (u : PoS) : Prop := vp_in (gI u 48 12) 2724 ∧ ∀ x3 : Int32, x3 = (gI u 51 (Int32.toNatClampNeg (gI u 48 12))) → ((¬ x3 = 24 → ((1 < v1 → wj_X12_clause_65 post v1 x3 u) ∧ (¬ 1 < v1 → ∀ z16 : PoS, z16 = pI u 48 19 ((gI u 48 19) ||| (1 <<< (v1 &&& 31))) → wj_X12_clause_65 post v1 x3 z16))) ∧ (x3 = 24 → post 6 u))
def wp_X12_clause (u : PoS) (post : Int32 → PoS → Prop) : Prop := wp_X12_sortOf u (fun (r1 : Int32) (u2 : PoS) => ((0 ≤ r1 → ((1 < r1 → wj_X12_clause_29 post r1 u2) ∧ (¬ 1 < r1 → wp_X12_has (gI u2 48 19) r1 u2 (fun (r19 : Int32) (u20 : PoS) => ((r19 = 0 → wj_X12_clause_29 post r1 u20) ∧ (¬ r19 = 0 → post 4 u20)))))) ∧ (¬ 0 ≤ r1 → post 1 u2)))
set_option maxHeartbeats 4000000 in
set_option maxRecDepth 100000 in
theorem tj_X12_clause_65 {p : Program} {l : Launch} {e : Env} {s : State} {m : MethodId} {args : Array Value} {below : List Frame} {meth : Method} {c : Code} {V : VEn} {post : Int32 → PoS → Prop} (C : CxS p s m args meth c V cX12_clause 5 RX12 (some .int)) (v1 : Int32) (v2 : Int32) (u : PoS) (h : wj_X12_clause_65 post v1 v2 u) : AtS p l e (Rm 10) s m args below meth c V 5 0 0 (QI V below args s post) 65 [(0, .ref (eA V 48)), (1, .int v1), (2, .int v2)] [] u := by
  rw [wj_X12_clause_65] at h
  refine a_aload_n C 0 dX12_clause_65 rfl rfl ?_
  refine a_iload_n C 1 dX12_clause_66 rfl rfl ?_
  refine a_puti C (ty := .int) 14 dX12_clause_67 (by decide) rfl rfl rfl ib_12 (by decide) bw_1036 tyX12 tyX12_ok nmX12 rfl (by decide +kernel) rfl rfl ?_
  refine a_topu (fun z4 ez4 => ?_)
  have h := h z4 ez4
  refine a_aload_n C 0 dX12_clause_70 rfl rfl ?_
  refine a_callVv C dX12_clause_71 (m_X12_nextToken l V h) bw_1194 bw_1196 bw_46 bw_123 bw_1197 (by decide) rfl rfl np_X12_nextToken rfl rfl (by decide) (Nat.le_of_ble_eq_true rfl) ⟨Nat.zero_le _, Nat.zero_le _⟩ (fun u6 h => ?_)
  refine a_aload_n C 0 dX12_clause_74 rfl rfl ?_
  refine a_geti C 12 dX12_clause_75 (by decide) rfl rfl rfl ib_12 (by decide) bw_1034 ?_
  refine a_iconst C 1 dX12_clause_78 (by decide) ?_
  refine a_iadd C dX12_clause_79 ?_
  refine a_iconst C 3 dX12_clause_80 (by decide) ?_
  refine a_iload_n C 2 dX12_clause_81 rfl rfl ?_
  refine a_imul C dX12_clause_82 ?_
  refine a_iadd C dX12_clause_83 ?_
  refine a_topi (fun x7 ex7 => ?_)
  have h := h x7 ex7
  refine a_istore_n C [(3, .int x7), (0, .ref (eA V 48)), (1, .int v1), (2, .int v2)] dX12_clause_84 rfl (by decide) rfl ?_
  refine a_aload_n C 1 dX12_clause_85 rfl rfl ?_
  refine a_getr C 2 (r := 51) dX12_clause_86 (by decide) rfl rfl rfl ib_12 (by decide) bw_1024 ?_
  refine a_iload_n C 0 dX12_clause_89 rfl rfl ?_
  refine a_iload_n C 2 dX12_clause_90 rfl rfl ?_
  refine b_iast C (Int32.toNatClampNeg x7) dX12_clause_91 (by decide) rfl h.1 rfl ?_
  have h := h.2
  refine a_topu (fun z8 ez8 => ?_)
  have h := h z8 ez8
  refine a_aload_n C 1 dX12_clause_92 rfl rfl ?_
  refine a_iload_n C 2 dX12_clause_93 rfl rfl ?_
  refine a_iload_n C 0 dX12_clause_94 rfl rfl ?_
  refine a_callVi C dX12_clause_95 (m_X12_body l V h) bw_1243 bw_1245 bw_51 bw_123 bw_1246 (by decide) rfl rfl np_X12_body rfl rfl (by decide) (Nat.le_of_ble_eq_true rfl) ⟨Nat.zero_le _, Nat.zero_le _⟩ (fun r9 u10 h => ?_)
  refine a_istore C [(4, .int r9), (3, .int x7), (0, .ref (eA V 48)), (1, .int v1), (2, .int v2)] dX12_clause_98 (by decide) rfl ?_
  refine a_iload C 0 dX12_clause_100 rfl ?_
  refine a_if_eq C 108 dX12_clause_102 (by decide) (fun c15 => ?_) (fun c15 => ?_)
  · have h := h.1 c15
    refine a_aload_n C 2 dX12_clause_108 rfl rfl ?_
    refine a_getr C 2 (r := 51) dX12_clause_109 (by decide) rfl rfl rfl ib_12 (by decide) bw_1024 ?_
    refine a_aload_n C 2 dX12_clause_112 rfl rfl ?_
    refine a_geti C 12 dX12_clause_113 (by decide) rfl rfl rfl ib_12 (by decide) bw_1034 ?_
    refine a_dup2 C dX12_clause_116 rfl rfl ?_
    refine b_iald C (Int32.toNatClampNeg (gI u10 48 12)) dX12_clause_117 (by decide) rfl h.1 rfl ?_
    have h := h.2
    refine a_iconst C 1 dX12_clause_118 (by decide) ?_
    refine a_iadd C dX12_clause_119 ?_
    refine b_iast C (Int32.toNatClampNeg (gI u10 48 12)) dX12_clause_120 (by decide) rfl h.1 rfl ?_
    have h := h.2
    refine a_topu (fun z11 ez11 => ?_)
    have h := h z11 ez11
    refine a_aload_n C 2 dX12_clause_121 rfl rfl ?_
    refine a_geti C 9 dX12_clause_122 (by decide) rfl rfl rfl ib_12 (by decide) bw_1031 ?_
    refine a_bipush C 59 dX12_clause_125 (by decide) ?_
    refine a_icmp_eq C 132 dX12_clause_127 (by decide) (fun c14 => ?_) (fun c14 => ?_)
    · have h := h.1 c14
      refine a_aload_n C 2 dX12_clause_132 rfl rfl ?_
      refine a_callVv C dX12_clause_133 (m_X12_nextToken l V h) bw_1194 bw_1196 bw_46 bw_123 bw_1197 (by decide) rfl rfl np_X12_nextToken rfl rfl (by decide) (Nat.le_of_ble_eq_true rfl) ⟨Nat.zero_le _, Nat.zero_le _⟩ (fun u13 h => ?_)
      refine a_iconst C 0 dX12_clause_136 (by decide) ?_
      exact a_iret C dX12_clause_137 h
    · have h := h.2 c14
      refine a_iconst C 1 dX12_clause_130 (by decide) ?_
      exact a_iret C dX12_clause_131 h
  · have h := h.2 c15
    refine a_iload C 0 dX12_clause_105 rfl ?_
    exact a_iret C dX12_clause_107 h
set_option maxHeartbeats 4000000 in
set_option maxRecDepth 100000 in
theorem tj_X12_clause_29 {p : Program} {l : Launch} {e : Env} {s : State} {m : MethodId} {args : Array Value} {below : List Frame} {meth : Method} {c : Code} {V : VEn} {post : Int32 → PoS → Prop} (C : CxS p s m args meth c V cX12_clause 5 RX12 (some .int)) (v1 : Int32) (u : PoS) (h : wj_X12_clause_29 post v1 u) : AtS p l e (Rm 10) s m args below meth c V 5 0 0 (QI V below args s post) 29 [(0, .ref (eA V 48)), (1, .int v1)] [] u := by
  rw [wj_X12_clause_29] at h
  refine a_aload_n C 0 dX12_clause_29 rfl rfl ?_
  refine a_getr C 2 (r := 51) dX12_clause_30 (by decide) rfl rfl rfl ib_12 (by decide) bw_1024 ?_
  refine a_aload_n C 0 dX12_clause_33 rfl rfl ?_
  refine a_geti C 12 dX12_clause_34 (by decide) rfl rfl rfl ib_12 (by decide) bw_1034 ?_
  refine b_iald C (Int32.toNatClampNeg (gI u 48 12)) dX12_clause_37 (by decide) rfl h.1 rfl ?_
  have h := h.2
  refine a_topi (fun x3 ex3 => ?_)
  have h := h x3 ex3
  refine a_istore_n C [(2, .int x3), (0, .ref (eA V 48)), (1, .int v1)] dX12_clause_38 rfl (by decide) rfl ?_
  refine a_iload_n C 0 dX12_clause_39 rfl rfl ?_
  refine a_bipush C 24 dX12_clause_40 (by decide) ?_
  refine a_icmp_ne C 48 dX12_clause_42 (by decide) (fun c18 => ?_) (fun c18 => ?_)
  · have h := h.1 c18
    refine a_iload_n C 2 dX12_clause_48 rfl rfl ?_
    refine a_iconst C 1 dX12_clause_49 (by decide) ?_
    refine a_icmp_gt C 65 dX12_clause_50 (by decide) (fun c17 => ?_) (fun c17 => ?_)
    · have h := h.1 c17
      refine a_sub [1, 2, 0] rfl ?_
      refine tj_X12_clause_65 C _ _ _ h
    · have h := h.2 c17
      refine a_aload_n C 1 dX12_clause_53 rfl rfl ?_
      refine a_dup C dX12_clause_54 rfl ?_
      refine a_geti C 19 dX12_clause_55 (by decide) rfl rfl rfl ib_12 (by decide) bw_1041 ?_
      refine a_iconst C 1 dX12_clause_58 (by decide) ?_
      refine a_iload_n C 2 dX12_clause_59 rfl rfl ?_
      refine a_ishl C dX12_clause_60 ?_
      refine a_ior C dX12_clause_61 ?_
      refine a_puti C (ty := .int) 19 dX12_clause_62 (by decide) rfl rfl rfl ib_12 (by decide) bw_1041 tyX12 tyX12_ok nmX12 rfl (by decide +kernel) rfl rfl ?_
      refine a_topu (fun z16 ez16 => ?_)
      have h := h z16 ez16
      refine a_sub [1, 2, 0] rfl ?_
      refine tj_X12_clause_65 C _ _ _ h
  · have h := h.2 c18
    refine a_bipush C 6 dX12_clause_45 (by decide) ?_
    exact a_iret C dX12_clause_47 h
theorem np_X12_clause : yX12_clause.cls ≠ "java/lang/invoke/MethodHandle" ∧ yX12_clause.cls ≠ "java/lang/invoke/VarHandle" ∧ (parseMethodDescriptor yX12_clause.desc).map (fun d => d.parameters.length) = some 0 := by decide +kernel
set_option maxHeartbeats 4000000 in
set_option maxRecDepth 100000 in
theorem m_X12_clause (l : Launch) (V : VEn) {u : PoS} {post : Int32 → PoS → Prop} (h : wp_X12_clause  u post) : KI l V yX12_clause cX12_clause 5 .int 10 [.ref (eA V 48)] u post := by
  refine KI_of (by decide) (Nat.le_of_ble_eq_true rfl) (lv := [(0, .ref (eA V 48))]) rfl ?_
  intro p e s m args below meth c C
  rw [wp_X12_clause] at h
  refine a_aload_n C 0 dX12_clause_0 rfl rfl ?_
  refine a_callVi C dX12_clause_1 (m_X12_sortOf l V h) bw_1217 bw_1219 bw_49 bw_123 bw_1220 (by decide) rfl rfl np_X12_sortOf rfl rfl (by decide) (Nat.le_of_ble_eq_true rfl) ⟨Nat.zero_le _, Nat.zero_le _⟩ (fun r1 u2 h => ?_)
  refine a_istore_n C [(1, .int r1), (0, .ref (eA V 48))] dX12_clause_4 rfl (by decide) rfl ?_
  refine a_iload_n C 0 dX12_clause_5 rfl rfl ?_
  refine a_if_ge C 11 dX12_clause_6 (by decide) (fun c23 => ?_) (fun c23 => ?_)
  · have h := h.1 c23
    refine a_iload_n C 0 dX12_clause_11 rfl rfl ?_
    refine a_iconst C 1 dX12_clause_12 (by decide) ?_
    refine a_icmp_gt C 29 dX12_clause_13 (by decide) (fun c22 => ?_) (fun c22 => ?_)
    · have h := h.1 c22
      refine a_sub [1, 0] rfl ?_
      refine tj_X12_clause_29 C _ _ h
    · have h := h.2 c22
      refine a_aload_n C 1 dX12_clause_16 rfl rfl ?_
      refine a_geti C 19 dX12_clause_17 (by decide) rfl rfl rfl ib_12 (by decide) bw_1041 ?_
      refine a_iload_n C 0 dX12_clause_20 rfl rfl ?_
      refine a_callSi C dX12_clause_21 (m_X12_has l V h) bw_1240 bw_1241 bw_123 bw_1242 np_X12_has rfl rfl (by decide) (Nat.le_of_ble_eq_true rfl) ⟨Nat.zero_le _, Nat.zero_le _⟩ (fun r19 u20 h => ?_)
      refine a_if_eq C 29 dX12_clause_24 (by decide) (fun c21 => ?_) (fun c21 => ?_)
      · have h := h.1 c21
        refine a_sub [1, 0] rfl ?_
        refine tj_X12_clause_29 C _ _ h
      · have h := h.2 c21
        refine a_iconst C 4 dX12_clause_27 (by decide) ?_
        exact a_iret C dX12_clause_28 h
  · have h := h.2 c23
    refine a_iconst C 1 dX12_clause_9 (by decide) ?_
    exact a_iret C dX12_clause_10 h

/-! RainOnTheOneModel.readText()I -/
def wl_X12_readText_43 (post : Int32 → PoS → Prop) : Nat → PoS → Prop
  | 0, _ => False
  | n + 1, u => (((gI u 48 9) = 0 → post 0 u) ∧ (¬ (gI u 48 9) = 0 → wp_X12_clause u (fun (r8 : Int32) (u9 : PoS) => ((r8 = 0 → wl_X12_readText_43 post n  u9) ∧ (¬ r8 = 0 → post r8 u9)))))
def wp_X12_readText (u : PoS) (post : Int32 → PoS → Prop) : Prop := ∀ z1 : PoS, z1 = pI u 48 12 (681 * (gI u 49 1)) → vp_in (gI z1 48 12) 2724 ∧ ∀ z2 : PoS, z2 = pI z1 51 (Int32.toNatClampNeg (gI z1 48 12)) 0 → ∀ z3 : PoS, z3 = pI z2 48 13 0 → ∀ z4 : PoS, z4 = pI z3 48 19 0 → ∀ z5 : PoS, z5 = pI z4 48 7 0 → wp_X12_nextToken z5 (fun (u7 : PoS) => (∃ n43, wl_X12_readText_43 post n43  u7))
set_option maxHeartbeats 4000000 in
set_option maxRecDepth 100000 in
theorem tl_X12_readText_43 {p : Program} {l : Launch} {e : Env} {s : State} {m : MethodId} {args : Array Value} {below : List Frame} {meth : Method} {c : Code} {V : VEn} {post : Int32 → PoS → Prop} (C : CxS p s m args meth c V cX12_readText 2 RX12 (some .int)) : ∀ (n : Nat) (u : PoS), wl_X12_readText_43 post n  u → AtS p l e (Rm 11) s m args below meth c V 2 0 0 (QI V below args s post) 43 [(0, .ref (eA V 48))] [] u := by
  intro n
  induction n with
  | zero => intro u h; exact h.elim
  | succ n ih =>
    intro u h
    rw [wl_X12_readText_43] at h
    refine a_aload_n C 0 dX12_readText_43 rfl rfl ?_
    refine a_geti C 9 dX12_readText_44 (by decide) rfl rfl rfl ib_12 (by decide) bw_1031 ?_
    refine a_if_eq C 64 dX12_readText_47 (by decide) (fun c11 => ?_) (fun c11 => ?_)
    · have h := h.1 c11
      refine a_iconst C 0 dX12_readText_64 (by decide) ?_
      exact a_iret C dX12_readText_65 h
    · have h := h.2 c11
      refine a_aload_n C 0 dX12_readText_50 rfl rfl ?_
      refine a_callVi C dX12_readText_51 (m_X12_clause l V h) bw_1213 bw_1215 bw_48 bw_123 bw_1216 (by decide) rfl rfl np_X12_clause rfl rfl (by decide) (Nat.le_of_ble_eq_true rfl) ⟨Nat.zero_le _, Nat.zero_le _⟩ (fun r8 u9 h => ?_)
      refine a_istore_n C [(1, .int r8), (0, .ref (eA V 48))] dX12_readText_54 rfl (by decide) rfl ?_
      refine a_iload_n C 0 dX12_readText_55 rfl rfl ?_
      refine a_if_eq C 61 dX12_readText_56 (by decide) (fun c10 => ?_) (fun c10 => ?_)
      · have h := h.1 c10
        refine a_goto C 43 dX12_readText_61 (by decide) ?_
        refine a_sub [1] rfl ?_
        exact ih _ h
      · have h := h.2 c10
        refine a_iload_n C 0 dX12_readText_59 rfl rfl ?_
        exact a_iret C dX12_readText_60 h
theorem np_X12_readText : yX12_readText.cls ≠ "java/lang/invoke/MethodHandle" ∧ yX12_readText.cls ≠ "java/lang/invoke/VarHandle" ∧ (parseMethodDescriptor yX12_readText.desc).map (fun d => d.parameters.length) = some 0 := by decide +kernel
set_option maxHeartbeats 4000000 in
set_option maxRecDepth 100000 in
theorem m_X12_readText (l : Launch) (V : VEn) {u : PoS} {post : Int32 → PoS → Prop} (h : wp_X12_readText  u post) : KI l V yX12_readText cX12_readText 2 .int 11 [.ref (eA V 48)] u post := by
  refine KI_of (by decide) (Nat.le_of_ble_eq_true rfl) (lv := [(0, .ref (eA V 48))]) rfl ?_
  intro p e s m args below meth c C
  rw [wp_X12_readText] at h
  refine a_aload_n C 0 dX12_readText_0 rfl rfl ?_
  refine a_sipush C 681 dX12_readText_1 (by decide) ?_
  refine a_aload_n C 0 dX12_readText_4 rfl rfl ?_
  refine a_getr C 0 (r := 49) dX12_readText_5 (by decide) rfl rfl rfl ib_12 (by decide) bw_1022 ?_
  refine a_iconst C 1 dX12_readText_8 (by decide) ?_
  refine b_iald C 1 dX12_readText_9 (by decide) rfl (vp_lit (by decide)) (by decide) ?_
  refine a_imul C dX12_readText_10 ?_
  refine a_puti C (ty := .int) 12 dX12_readText_11 (by decide) rfl rfl rfl ib_12 (by decide) bw_1034 tyX12 tyX12_ok nmX12 rfl (by decide +kernel) rfl rfl ?_
  refine a_topu (fun z1 ez1 => ?_)
  have h := h z1 ez1
  refine a_aload_n C 0 dX12_readText_14 rfl rfl ?_
  refine a_getr C 2 (r := 51) dX12_readText_15 (by decide) rfl rfl rfl ib_12 (by decide) bw_1024 ?_
  refine a_aload_n C 0 dX12_readText_18 rfl rfl ?_
  refine a_geti C 12 dX12_readText_19 (by decide) rfl rfl rfl ib_12 (by decide) bw_1034 ?_
  refine a_iconst C 0 dX12_readText_22 (by decide) ?_
  refine b_iast C (Int32.toNatClampNeg (gI z1 48 12)) dX12_readText_23 (by decide) rfl h.1 rfl ?_
  have h := h.2
  refine a_topu (fun z2 ez2 => ?_)
  have h := h z2 ez2
  refine a_aload_n C 0 dX12_readText_24 rfl rfl ?_
  refine a_iconst C 0 dX12_readText_25 (by decide) ?_
  refine a_puti C (ty := .int) 13 dX12_readText_26 (by decide) rfl rfl rfl ib_12 (by decide) bw_1035 tyX12 tyX12_ok nmX12 rfl (by decide +kernel) rfl rfl ?_
  refine a_topu (fun z3 ez3 => ?_)
  have h := h z3 ez3
  refine a_aload_n C 0 dX12_readText_29 rfl rfl ?_
  refine a_iconst C 0 dX12_readText_30 (by decide) ?_
  refine a_puti C (ty := .int) 19 dX12_readText_31 (by decide) rfl rfl rfl ib_12 (by decide) bw_1041 tyX12 tyX12_ok nmX12 rfl (by decide +kernel) rfl rfl ?_
  refine a_topu (fun z4 ez4 => ?_)
  have h := h z4 ez4
  refine a_aload_n C 0 dX12_readText_34 rfl rfl ?_
  refine a_iconst C 0 dX12_readText_35 (by decide) ?_
  refine a_puti C (ty := .int) 7 dX12_readText_36 (by decide) rfl rfl rfl ib_12 (by decide) bw_1029 tyX12 tyX12_ok nmX12 rfl (by decide +kernel) rfl rfl ?_
  refine a_topu (fun z5 ez5 => ?_)
  have h := h z5 ez5
  refine a_aload_n C 0 dX12_readText_39 rfl rfl ?_
  refine a_callVv C dX12_readText_40 (m_X12_nextToken l V h) bw_1194 bw_1196 bw_46 bw_123 bw_1197 (by decide) rfl rfl np_X12_nextToken rfl rfl (by decide) (Nat.le_of_ble_eq_true rfl) ⟨Nat.zero_le _, Nat.zero_le _⟩ (fun u7 h => ?_)
  obtain ⟨n43, h⟩ := h
  refine tl_X12_readText_43 C n43 _ h

/-! RainOnTheOneModel.text()I -/
def wj_X12_text_36 (post : Int32 → PoS → Prop) (s0 : Int32) (u : PoS) : Prop := ∀ z4 : PoS, z4 = pI u 48 6 s0 → ∀ z5 : PoS, z5 = pI z4 48 4 0 → (((gI z5 48 5) = 0 → ∀ z6 : PoS, z6 = pI z5 49 1 ((gI z5 49 1) + 1) → post ((gI z6 49 1) - 1) z6) ∧ (¬ (gI z5 48 5) = 0 → post (-1) z5))
def wp_X12_text (u : PoS) (post : Int32 → PoS → Prop) : Prop := ((¬ (gI u 49 1) = 4 → wp_X12_readText u (fun (r1 : Int32) (u2 : PoS) => ∀ z3 : PoS, z3 = pI u2 48 5 r1 → ((¬ (gI z3 48 5) = 0 → wj_X12_text_36 post (gI z3 48 8) z3) ∧ ((gI z3 48 5) = 0 → wj_X12_text_36 post (-1) z3)))) ∧ ((gI u 49 1) = 4 → post (-1) u))
set_option maxHeartbeats 4000000 in
set_option maxRecDepth 100000 in
theorem tj_X12_text_36 {p : Program} {l : Launch} {e : Env} {s : State} {m : MethodId} {args : Array Value} {below : List Frame} {meth : Method} {c : Code} {V : VEn} {post : Int32 → PoS → Prop} (C : CxS p s m args meth c V cX12_text 1 RX12 (some .int)) (s0 : Int32) (u : PoS) (h : wj_X12_text_36 post s0 u) : AtS p l e (Rm 12) s m args below meth c V 1 0 0 (QI V below args s post) 36 [(0, .ref (eA V 48))] [.int s0, .ref (eA V 48)] u := by
  rw [wj_X12_text_36] at h
  refine a_puti C (ty := .int) 6 dX12_text_36 (by decide) rfl rfl rfl ib_12 (by decide) bw_1028 tyX12 tyX12_ok nmX12 rfl (by decide +kernel) rfl rfl ?_
  refine a_topu (fun z4 ez4 => ?_)
  have h := h z4 ez4
  refine a_aload_n C 0 dX12_text_39 rfl rfl ?_
  refine a_iconst C 0 dX12_text_40 (by decide) ?_
  refine a_puti C (ty := .int) 4 dX12_text_41 (by decide) rfl rfl rfl ib_12 (by decide) bw_1026 tyX12 tyX12_ok nmX12 rfl (by decide +kernel) rfl rfl ?_
  refine a_topu (fun z5 ez5 => ?_)
  have h := h z5 ez5
  refine a_aload_n C 0 dX12_text_44 rfl rfl ?_
  refine a_geti C 5 dX12_text_45 (by decide) rfl rfl rfl ib_12 (by decide) bw_1027 ?_
  refine a_if_eq C 53 dX12_text_48 (by decide) (fun c7 => ?_) (fun c7 => ?_)
  · have h := h.1 c7
    refine a_aload_n C 0 dX12_text_53 rfl rfl ?_
    refine a_getr C 0 (r := 49) dX12_text_54 (by decide) rfl rfl rfl ib_12 (by decide) bw_1022 ?_
    refine a_iconst C 1 dX12_text_57 (by decide) ?_
    refine a_dup2 C dX12_text_58 rfl rfl ?_
    refine b_iald C 1 dX12_text_59 (by decide) rfl (vp_lit (by decide)) (by decide) ?_
    refine a_iconst C 1 dX12_text_60 (by decide) ?_
    refine a_iadd C dX12_text_61 ?_
    refine b_iast C 1 dX12_text_62 (by decide) rfl (vp_lit (by decide)) (by decide) ?_
    refine a_topu (fun z6 ez6 => ?_)
    have h := h z6 ez6
    refine a_aload_n C 0 dX12_text_63 rfl rfl ?_
    refine a_getr C 0 (r := 49) dX12_text_64 (by decide) rfl rfl rfl ib_12 (by decide) bw_1022 ?_
    refine a_iconst C 1 dX12_text_67 (by decide) ?_
    refine b_iald C 1 dX12_text_68 (by decide) rfl (vp_lit (by decide)) (by decide) ?_
    refine a_iconst C 1 dX12_text_69 (by decide) ?_
    refine a_isub C dX12_text_70 ?_
    exact a_iret C dX12_text_71 h
  · have h := h.2 c7
    refine a_iconst C (-1) dX12_text_51 (by decide) ?_
    exact a_iret C dX12_text_52 h
theorem np_X12_text : yX12_text.cls ≠ "java/lang/invoke/MethodHandle" ∧ yX12_text.cls ≠ "java/lang/invoke/VarHandle" ∧ (parseMethodDescriptor yX12_text.desc).map (fun d => d.parameters.length) = some 0 := by decide +kernel
set_option maxHeartbeats 4000000 in
set_option maxRecDepth 100000 in
theorem m_X12_text (l : Launch) (V : VEn) {u : PoS} {post : Int32 → PoS → Prop} (h : wp_X12_text  u post) : KI l V yX12_text cX12_text 1 .int 12 [.ref (eA V 48)] u post := by
  refine KI_of (by decide) (Nat.le_of_ble_eq_true rfl) (lv := [(0, .ref (eA V 48))]) rfl ?_
  intro p e s m args below meth c C
  rw [wp_X12_text] at h
  refine a_aload_n C 0 dX12_text_0 rfl rfl ?_
  refine a_getr C 0 (r := 49) dX12_text_1 (by decide) rfl rfl rfl ib_12 (by decide) bw_1022 ?_
  refine a_iconst C 1 dX12_text_4 (by decide) ?_
  refine b_iald C 1 dX12_text_5 (by decide) rfl (vp_lit (by decide)) (by decide) ?_
  refine a_iconst C 4 dX12_text_6 (by decide) ?_
  refine a_icmp_ne C 12 dX12_text_7 (by decide) (fun c9 => ?_) (fun c9 => ?_)
  · have h := h.1 c9
    refine a_aload_n C 0 dX12_text_12 rfl rfl ?_
    refine a_aload_n C 0 dX12_text_13 rfl rfl ?_
    refine a_callVi C dX12_text_14 (m_X12_readText l V h) bw_1190 bw_1192 bw_45 bw_123 bw_1193 (by decide) rfl rfl np_X12_readText rfl rfl (by decide) (Nat.le_of_ble_eq_true rfl) ⟨Nat.zero_le _, Nat.zero_le _⟩ (fun r1 u2 h => ?_)
    refine a_puti C (ty := .int) 5 dX12_text_17 (by decide) rfl rfl rfl ib_12 (by decide) bw_1027 tyX12 tyX12_ok nmX12 rfl (by decide +kernel) rfl rfl ?_
    refine a_topu (fun z3 ez3 => ?_)
    have h := h z3 ez3
    refine a_aload_n C 0 dX12_text_20 rfl rfl ?_
    refine a_aload_n C 0 dX12_text_21 rfl rfl ?_
    refine a_geti C 5 dX12_text_22 (by decide) rfl rfl rfl ib_12 (by decide) bw_1027 ?_
    refine a_if_ne C 32 dX12_text_25 (by decide) (fun c8 => ?_) (fun c8 => ?_)
    · have h := h.1 c8
      refine a_aload_n C 0 dX12_text_32 rfl rfl ?_
      refine a_geti C 8 dX12_text_33 (by decide) rfl rfl rfl ib_12 (by decide) bw_1030 ?_
      refine tj_X12_text_36 C _ _ h
    · have h := h.2 c8
      refine a_iconst C (-1) dX12_text_28 (by decide) ?_
      refine a_goto C 36 dX12_text_29 (by decide) ?_
      refine tj_X12_text_36 C _ _ h
  · have h := h.2 c9
    refine a_iconst C (-1) dX12_text_10 (by decide) ?_
    exact a_iret C dX12_text_11 h

/-! RainOnTheOneModel.fault(I)I -/
def wp_X12_fault (a0 : Int32) (u : PoS) (post : Int32 → PoS → Prop) : Prop := ((¬ a0 = 0 → ((¬ a0 = 1 → post (-1) u) ∧ (a0 = 1 → post (gI u 48 6) u))) ∧ (a0 = 0 → post (gI u 48 5) u))
theorem np_X12_fault : yX12_fault.cls ≠ "java/lang/invoke/MethodHandle" ∧ yX12_fault.cls ≠ "java/lang/invoke/VarHandle" ∧ (parseMethodDescriptor yX12_fault.desc).map (fun d => d.parameters.length) = some 1 := by decide +kernel
set_option maxHeartbeats 4000000 in
set_option maxRecDepth 100000 in
theorem m_X12_fault (l : Launch) (V : VEn) {a0 : Int32} {u : PoS} {post : Int32 → PoS → Prop} (h : wp_X12_fault a0 u post) : KI l V yX12_fault cX12_fault 2 .int 0 [.ref (eA V 48), .int a0] u post := by
  refine KI_of (by decide) (Nat.le_of_ble_eq_true rfl) (lv := [(0, .ref (eA V 48)), (1, .int a0)]) rfl ?_
  intro p e s m args below meth c C
  rw [wp_X12_fault] at h
  refine a_iload_n C 1 dX12_fault_0 rfl rfl ?_
  refine a_if_ne C 11 dX12_fault_1 (by decide) (fun c2 => ?_) (fun c2 => ?_)
  · have h := h.1 c2
    refine a_iload_n C 1 dX12_fault_11 rfl rfl ?_
    refine a_iconst C 1 dX12_fault_12 (by decide) ?_
    refine a_icmp_ne C 23 dX12_fault_13 (by decide) (fun c1 => ?_) (fun c1 => ?_)
    · have h := h.1 c1
      refine a_iconst C (-1) dX12_fault_23 (by decide) ?_
      exact a_iret C dX12_fault_24 h
    · have h := h.2 c1
      refine a_aload_n C 0 dX12_fault_16 rfl rfl ?_
      refine a_geti C 6 dX12_fault_17 (by decide) rfl rfl rfl ib_12 (by decide) bw_1028 ?_
      refine a_goto C 24 dX12_fault_20 (by decide) ?_
      exact a_iret C dX12_fault_24 h
  · have h := h.2 c2
    refine a_aload_n C 0 dX12_fault_4 rfl rfl ?_
    refine a_geti C 5 dX12_fault_5 (by decide) rfl rfl rfl ib_12 (by decide) bw_1027 ?_
    refine a_goto C 24 dX12_fault_8 (by decide) ?_
    exact a_iret C dX12_fault_24 h

/-! RainOnTheOneModel.by(I)Z -/
def wp_X12_by (a0 : Int32) (u : PoS) (post : Int32 → PoS → Prop) : Prop := wp_X12_isIn a0 (-1) ((gI u 49 1) - 1) u (fun (r1 : Int32) (u2 : PoS) => ((¬ r1 = 0 → ∀ z3 : PoS, z3 = pI u2 49 2 a0 → post 1 z3) ∧ (r1 = 0 → post 0 u2)))
theorem np_X12_by : yX12_by.cls ≠ "java/lang/invoke/MethodHandle" ∧ yX12_by.cls ≠ "java/lang/invoke/VarHandle" ∧ (parseMethodDescriptor yX12_by.desc).map (fun d => d.parameters.length) = some 1 := by decide +kernel
set_option maxHeartbeats 4000000 in
set_option maxRecDepth 100000 in
theorem m_X12_by (l : Launch) (V : VEn) {a0 : Int32} {u : PoS} {post : Int32 → PoS → Prop} (h : wp_X12_by a0 u post) : KI l V yX12_by cX12_by 2 .boolean 1 [.ref (eA V 48), .int a0] u post := by
  refine KI_of (by decide) (Nat.le_of_ble_eq_true rfl) (lv := [(0, .ref (eA V 48)), (1, .int a0)]) rfl ?_
  intro p e s m args below meth c C
  rw [wp_X12_by] at h
  refine a_iload_n C 1 dX12_by_0 rfl rfl ?_
  refine a_iconst C (-1) dX12_by_1 (by decide) ?_
  refine a_aload_n C 0 dX12_by_2 rfl rfl ?_
  refine a_getr C 0 (r := 49) dX12_by_3 (by decide) rfl rfl rfl ib_12 (by decide) bw_1022 ?_
  refine a_iconst C 1 dX12_by_6 (by decide) ?_
  refine b_iald C 1 dX12_by_7 (by decide) rfl (vp_lit (by decide)) (by decide) ?_
  refine a_iconst C 1 dX12_by_8 (by decide) ?_
  refine a_isub C dX12_by_9 ?_
  refine a_callSi C dX12_by_10 (m_X12_isIn l V h) bw_1147 bw_1148 bw_123 bw_1149 np_X12_isIn rfl rfl (by decide) (Nat.le_of_ble_eq_true rfl) ⟨Nat.zero_le _, Nat.zero_le _⟩ (fun r1 u2 h => ?_)
  refine a_if_ne C 18 dX12_by_13 (by decide) (fun c4 => ?_) (fun c4 => ?_)
  · have h := h.1 c4
    refine a_aload_n C 0 dX12_by_18 rfl rfl ?_
    refine a_getr C 0 (r := 49) dX12_by_19 (by decide) rfl rfl rfl ib_12 (by decide) bw_1022 ?_
    refine a_iconst C 2 dX12_by_22 (by decide) ?_
    refine a_iload_n C 1 dX12_by_23 rfl rfl ?_
    refine b_iast C 2 dX12_by_24 (by decide) rfl (vp_lit (by decide)) (by decide) ?_
    refine a_topu (fun z3 ez3 => ?_)
    have h := h z3 ez3
    refine a_iconst C 1 dX12_by_25 (by decide) ?_
    exact a_zret C rfl dX12_by_26 h
  · have h := h.2 c4
    refine a_iconst C 0 dX12_by_16 (by decide) ?_
    exact a_zret C rfl dX12_by_17 h
