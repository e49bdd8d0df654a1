/-! RainOnTheOneModel.says(IIIII)I -/
def wl_X12_says_3 (k64 : Int32 → Int32 → Int32 → PoS → Prop) (k43 : Int32 → Int32 → Int32 → Int32 → PoS → Prop) (post : Int32 → PoS → Prop) : Nat → Int32 → Int32 → Int32 → Int32 → Int32 → Int32 → PoS → Prop
  | 0, _, _, _, _, _, _, _ => False
  | n + 1, v1, v2, v3, v4, v5, v6, u => ((v1 < 0 → k64 v3 v4 v5 u) ∧ (¬ v1 < 0 → vp_in (681 * v1) 2724 ∧ (((gI u 51 (Int32.toNatClampNeg (681 * v1))) ≤ v6 → k64 v3 v4 v5 u) ∧ (¬ (gI u 51 (Int32.toNatClampNeg (681 * v1))) ≤ v6 → vp_in (((681 * v1) + 1) + (3 * v6)) 2724 ∧ ((¬ (gI u 51 (Int32.toNatClampNeg (((681 * v1) + 1) + (3 * v6)))) = v2 → wl_X12_says_3 k64 k43 post n v1 v2 v3 v4 v5 (v6 + 1) u) ∧ ((gI u 51 (Int32.toNatClampNeg (((681 * v1) + 1) + (3 * v6)))) = v2 → k43 v1 v4 v5 v6 u))))))
def wj_X12_says_64 (post : Int32 → PoS → Prop) (v3 : Int32) (v4 : Int32) (v5 : Int32) (u : PoS) : Prop := wp_X12_held (Int32.toInt64 v3) v4 v5 u (fun (r5 : Int32) (u6 : PoS) => post r5 u6)
def wp_X12_says (a0 : Int32) (a1 : Int32) (a2 : Int32) (a3 : Int32) (a4 : Int32) (u : PoS) (post : Int32 → PoS → Prop) : Prop := (∃ n3, wl_X12_says_3 (fun (v34 : Int32) (v44 : Int32) (v54 : Int32) (u4 : PoS) => wj_X12_says_64 post v34 v44 v54 u4) (fun (v17 : Int32) (v47 : Int32) (v57 : Int32) (v67 : Int32) (u7 : PoS) => wp_X12_summedUp v17 v67 u7 (fun (r8 : Int64) (u9 : PoS) => wp_X12_held r8 v47 v57 u9 (fun (r10 : Int32) (u11 : PoS) => post r10 u11))) post n3 a0 a1 a2 a3 a4 0 u)
set_option maxHeartbeats 4000000 in
set_option maxRecDepth 100000 in
theorem tl_X12_says_3 {p : Program} {l : Launch} {e : Env} {s : State} {m : MethodId} {args : Array Value} {below : List Frame} {meth : Method} {c : Code} {V : VEn} {k64 : Int32 → Int32 → Int32 → PoS → Prop} {k43 : Int32 → Int32 → Int32 → Int32 → PoS → Prop} {post : Int32 → PoS → Prop} (C : CxS p s m args meth c V cX12_says 7 RX12 (some .int)) (hk64 : ∀ (v3 : Int32) (v4 : Int32) (v5 : Int32) (u : PoS), k64 v3 v4 v5 u → AtS p l e (Rm 3) s m args below meth c V 7 0 0 (QI V below args s post) 64 [(3, .int v3), (4, .int v4), (5, .int v5)] [] u) (hk43 : ∀ (v1 : Int32) (v4 : Int32) (v5 : Int32) (v6 : Int32) (u : PoS), k43 v1 v4 v5 v6 u → AtS p l e (Rm 3) s m args below meth c V 7 0 0 (QI V below args s post) 43 [(0, .ref (eA V 48)), (1, .int v1), (4, .int v4), (5, .int v5), (6, .int v6)] [] u) : ∀ (n : Nat) (v1 : Int32) (v2 : Int32) (v3 : Int32) (v4 : Int32) (v5 : Int32) (v6 : Int32) (u : PoS), wl_X12_says_3 k64 k43 post n v1 v2 v3 v4 v5 v6 u → AtS p l e (Rm 3) s m args below meth c V 7 0 0 (QI V below args s post) 3 [(0, .ref (eA V 48)), (1, .int v1), (2, .int v2), (3, .int v3), (4, .int v4), (5, .int v5), (6, .int v6)] [] u := by
  intro n
  induction n with
  | zero => intro v1 v2 v3 v4 v5 v6 u h; exact h.elim
  | succ n ih =>
    intro v1 v2 v3 v4 v5 v6 u h
    rw [wl_X12_says_3] at h
    refine a_iload_n C 1 dX12_says_3 rfl rfl ?_
    refine a_if_lt C 64 dX12_says_4 (by decide) (fun c3 => ?_) (fun c3 => ?_)
    · have h := h.1 c3
      refine a_sub [3, 4, 5] rfl ?_
      exact hk64 _ _ _ _ h
    · have h := h.2 c3
      refine a_iload C 6 dX12_says_7 rfl ?_
      refine a_aload_n C 0 dX12_says_9 rfl rfl ?_
      refine a_getr C 2 (r := 51) dX12_says_10 (by decide) rfl rfl rfl ib_12 (by decide) bw_1024 ?_
      refine a_sipush C 681 dX12_says_13 (by decide) ?_
      refine a_iload_n C 1 dX12_says_16 rfl rfl ?_
      refine a_imul C dX12_says_17 ?_
      refine b_iald C (Int32.toNatClampNeg (681 * v1)) dX12_says_18 (by decide) rfl h.1 rfl ?_
      have h := h.2
      refine a_icmp_ge C 64 dX12_says_19 (by decide) (fun c2 => ?_) (fun c2 => ?_)
      · have h := h.1 c2
        refine a_sub [3, 4, 5] rfl ?_
        exact hk64 _ _ _ _ h
      · have h := h.2 c2
        refine a_aload_n C 0 dX12_says_22 rfl rfl ?_
        refine a_getr C 2 (r := 51) dX12_says_23 (by decide) rfl rfl rfl ib_12 (by decide) bw_1024 ?_
        refine a_sipush C 681 dX12_says_26 (by decide) ?_
        refine a_iload_n C 1 dX12_says_29 rfl rfl ?_
        refine a_imul C dX12_says_30 ?_
        refine a_iconst C 1 dX12_says_31 (by decide) ?_
        refine a_iadd C dX12_says_32 ?_
        refine a_iconst C 3 dX12_says_33 (by decide) ?_
        refine a_iload C 6 dX12_says_34 rfl ?_
        refine a_imul C dX12_says_36 ?_
        refine a_iadd C dX12_says_37 ?_
        refine b_iald C (Int32.toNatClampNeg (((681 * v1) + 1) + (3 * v6))) dX12_says_38 (by decide) rfl h.1 rfl ?_
        have h := h.2
        refine a_iload_n C 2 dX12_says_39 rfl rfl ?_
        refine a_icmp_ne C 58 dX12_says_40 (by decide) (fun c1 => ?_) (fun c1 => ?_)
        · have h := h.1 c1
          refine a_iinc C (v6 + 1) 6 [(6, .int (v6 + 1)), (0, .ref (eA V 48)), (1, .int v1), (2, .int v2), (3, .int v3), (4, .int v4), (5, .int v5)] dX12_says_58 rfl (congrArg (fun z => v6 + z) (show Int32.ofInt 1 = 1 by decide)) (by decide) rfl ?_
          refine a_goto C 3 dX12_says_61 (by decide) ?_
          refine a_sub [1, 2, 3, 4, 5, 6, 0] rfl ?_
          exact ih _ _ _ _ _ _ _ h
        · have h := h.2 c1
          refine a_sub [0, 1, 4, 5, 6] rfl ?_
          exact hk43 _ _ _ _ _ h
set_option maxHeartbeats 4000000 in
set_option maxRecDepth 100000 in
theorem tj_X12_says_64 {p : Program} {l : Launch} {e : Env} {s : State} {m : MethodId} {args : Array Value} {below : List Frame} {meth : Method} {c : Code} {V : VEn} {post : Int32 → PoS → Prop} (C : CxS p s m args meth c V cX12_says 7 RX12 (some .int)) (v3 : Int32) (v4 : Int32) (v5 : Int32) (u : PoS) (h : wj_X12_says_64 post v3 v4 v5 u) : AtS p l e (Rm 3) s m args below meth c V 7 0 0 (QI V below args s post) 64 [(3, .int v3), (4, .int v4), (5, .int v5)] [] u := by
  rw [wj_X12_says_64] at h
  refine a_iload_n C 0 dX12_says_64 rfl rfl ?_
  refine a_i2l C dX12_says_65 ?_
  refine a_iload C 1 dX12_says_66 rfl ?_
  refine a_iload C 2 dX12_says_68 rfl ?_
  refine a_callSi C dX12_says_70 (m_X12_held l V h) bw_1448 bw_1449 bw_123 bw_1450 np_X12_held rfl rfl (by decide) (Nat.le_of_ble_eq_true rfl) ⟨Nat.zero_le _, Nat.zero_le _⟩ (fun r5 u6 h => ?_)
  exact a_iret C dX12_says_73 h
theorem np_X12_says : yX12_says.cls ≠ "java/lang/invoke/MethodHandle" ∧ yX12_says.cls ≠ "java/lang/invoke/VarHandle" ∧ (parseMethodDescriptor yX12_says.desc).map (fun d => d.parameters.length) = some 5 := by decide +kernel
set_option maxHeartbeats 4000000 in
set_option maxRecDepth 100000 in
theorem m_X12_says (l : Launch) (V : VEn) {a0 : Int32} {a1 : Int32} {a2 : Int32} {a3 : Int32} {a4 : Int32} {u : PoS} {post : Int32 → PoS → Prop} (h : wp_X12_says a0 a1 a2 a3 a4 u post) : KI l V yX12_says cX12_says 7 .int 3 [.ref (eA V 48), .int a0, .int a1, .int a2, .int a3, .int a4] u post := by
  refine KI_of (by decide) (Nat.le_of_ble_eq_true rfl) (lv := [(0, .ref (eA V 48)), (1, .int a0), (2, .int a1), (3, .int a2), (4, .int a3), (5, .int a4)]) rfl ?_
  intro p e s m args below meth c C
  rw [wp_X12_says] at h
  refine a_iconst C 0 dX12_says_0 (by decide) ?_
  refine a_istore C [(6, .int 0), (0, .ref (eA V 48)), (1, .int a0), (2, .int a1), (3, .int a2), (4, .int a3), (5, .int a4)] dX12_says_1 (by decide) rfl ?_
  refine a_sub [1, 2, 3, 4, 5, 6, 0] rfl ?_
  obtain ⟨n3, h⟩ := h
  refine tl_X12_says_3 C (fun v34 v44 v54 u4 h => ?_) (fun v17 v47 v57 v67 u7 h => ?_) n3 _ _ _ _ _ _ _ h
  · refine tj_X12_says_64 C _ _ _ _ h
  · refine a_aload_n C 0 dX12_says_43 rfl rfl ?_
    refine a_iload_n C 1 dX12_says_44 rfl rfl ?_
    refine a_iload C 4 dX12_says_45 rfl ?_
    refine a_callVl C dX12_says_47 (m_X12_summedUp l V h) bw_1421 bw_1423 bw_84 bw_123 bw_1424 (by decide) rfl rfl np_X12_summedUp rfl rfl (by decide) (Nat.le_of_ble_eq_true rfl) ⟨Nat.zero_le _, Nat.zero_le _⟩ (fun r8 u9 h => ?_)
    refine a_iload C 2 dX12_says_50 rfl ?_
    refine a_iload C 3 dX12_says_52 rfl ?_
    refine a_callSi C dX12_says_54 (m_X12_held l V h) bw_1448 bw_1449 bw_123 bw_1450 np_X12_held rfl rfl (by decide) (Nat.le_of_ble_eq_true rfl) ⟨Nat.zero_le _, Nat.zero_le _⟩ (fun r10 u11 h => ?_)
    exact a_iret C dX12_says_57 h

/-! RainOnTheOneModel.layFar(II)V -/
def wl_X12_layFar_2 (k21 : Int32 → Int32 → PoS → Prop) (post : PoS → Prop) : Nat → Int32 → Int32 → Int32 → PoS → Prop
  | 0, _, _, _, _ => False
  | n + 1, v1, v2, v3, u => ((30 ≤ v3 → k21 v1 v2 u) ∧ (¬ 30 ≤ v3 → vp_in v3 30 ∧ wl_X12_layFar_2 k21 post n v1 v2 (v3 + 1) (pI u 57 (Int32.toNatClampNeg v3) (-1))))
def wj_X12_layFar_75 (k50 : Int32 → Int32 → Int32 → Int32 → Int32 → PoS → Prop) (post : PoS → Prop) (v2 : Int32) (v3 : Int32) (v4 : Int32) (v5 : Int32) (v6 : Int32) (u : PoS) : Prop := k50 v2 v3 v4 v5 (v6 + 1) u
def wl_X12_layFar_50 (k81 : Int32 → Int32 → Int32 → Int32 → PoS → Prop) (post : PoS → Prop) : Nat → Int32 → Int32 → Int32 → Int32 → Int32 → PoS → Prop
  | 0, _, _, _, _, _, _ => False
  | n + 1, v2, v3, v4, v5, v6, u => ((30 ≤ v6 → k81 v2 v3 v4 v5 u) ∧ (¬ 30 ≤ v6 → wp_X12_has v3 v6 u (fun (r5 : Int32) (u6 : PoS) => ((r5 = 0 → wj_X12_layFar_75 (wl_X12_layFar_50 k81 post n) post v2 v3 v4 v5 v6 u6) ∧ (¬ r5 = 0 → vp_in v6 30 ∧ wj_X12_layFar_75 (wl_X12_layFar_50 k81 post n) post v2 v3 v4 v5 v6 (pI u6 57 (Int32.toNatClampNeg v6) v5))))))
def wl_X12_layFar_43 (post : PoS → Prop) : Nat → Int32 → Int32 → Int32 → Int32 → PoS → Prop
  | 0, _, _, _, _, _ => False
  | n + 1, v2, v3, v4, v5, u => ((v3 = 0 → post u) ∧ (¬ v3 = 0 → (∃ n50, wl_X12_layFar_50 (fun (v29 : Int32) (v39 : Int32) (v49 : Int32) (v59 : Int32) (u9 : PoS) => wp_X12_aside v39 u9 (fun (r10 : Int32) (u11 : PoS) => ∀ x12 : Int32, x12 = ((r10 &&& v29) &&& (v49 ^^^ (-1))) → ∀ x13 : Int32, x13 = (v49 ||| x12) → wl_X12_layFar_43 post n v29 x12 x13 (v59 + 1) u11)) post n50 v2 v3 v4 v5 0 u)))
def wj_X12_layFar_36 (post : PoS → Prop) (v2 : Int32) (s0 : Int32) (u : PoS) : Prop := (∃ n43, wl_X12_layFar_43 post n43 v2 s0 s0 0 u)
def wp_X12_layFar (a0 : Int32) (a1 : Int32) (u : PoS) (post : PoS → Prop) : Prop := (∃ n2, wl_X12_layFar_2 (fun (v12 : Int32) (v22 : Int32) (u2 : PoS) => wp_X12_has v22 v12 u2 (fun (r3 : Int32) (u4 : PoS) => ((r3 = 0 → wj_X12_layFar_36 post v22 0 u4) ∧ (¬ r3 = 0 → wj_X12_layFar_36 post v22 (1 <<< (v12 &&& 31)) u4)))) post n2 a0 a1 0 u)
set_option maxHeartbeats 4000000 in
set_option maxRecDepth 100000 in
theorem tl_X12_layFar_2 {p : Program} {l : Launch} {e : Env} {s : State} {m : MethodId} {args : Array Value} {below : List Frame} {meth : Method} {c : Code} {V : VEn} {k21 : Int32 → Int32 → PoS → Prop} {post : PoS → Prop} (C : CxS p s m args meth c V cX12_layFar 7 RX12 none) (hk21 : ∀ (v1 : Int32) (v2 : Int32) (u : PoS), k21 v1 v2 u → AtS p l e (Rm 1) s m args below meth c V 7 0 0 (QV V below args s post) 21 [(0, .ref (eA V 48)), (1, .int v1), (2, .int v2)] [] u) : ∀ (n : Nat) (v1 : Int32) (v2 : Int32) (v3 : Int32) (u : PoS), wl_X12_layFar_2 k21 post n v1 v2 v3 u → AtS p l e (Rm 1) s m args below meth c V 7 0 0 (QV V below args s post) 2 [(0, .ref (eA V 48)), (1, .int v1), (2, .int v2), (3, .int v3)] [] u := by
  intro n
  induction n with
  | zero => intro v1 v2 v3 u h; exact h.elim
  | succ n ih =>
    intro v1 v2 v3 u h
    rw [wl_X12_layFar_2] at h
    refine a_iload_n C 3 dX12_layFar_2 rfl rfl ?_
    refine a_bipush C 30 dX12_layFar_3 (by decide) ?_
    refine a_icmp_ge C 21 dX12_layFar_5 (by decide) (fun c1 => ?_) (fun c1 => ?_)
    · have h := h.1 c1
      refine a_sub [0, 1, 2] rfl ?_
      exact hk21 _ _ _ h
    · have h := h.2 c1
      refine a_aload_n C 0 dX12_layFar_8 rfl rfl ?_
      refine a_getr C 23 (r := 57) dX12_layFar_9 (by decide) rfl rfl rfl ib_12 (by decide) bw_1045 ?_
      refine a_iload_n C 3 dX12_layFar_12 rfl rfl ?_
      refine a_iconst C (-1) dX12_layFar_13 (by decide) ?_
      refine b_iast C (Int32.toNatClampNeg v3) dX12_layFar_14 (by decide) rfl h.1 rfl ?_
      have h := h.2
      refine a_iinc C (v3 + 1) 3 [(3, .int (v3 + 1)), (0, .ref (eA V 48)), (1, .int v1), (2, .int v2)] dX12_layFar_15 rfl (congrArg (fun z => v3 + z) (show Int32.ofInt 1 = 1 by decide)) (by decide) rfl ?_
      refine a_goto C 2 dX12_layFar_18 (by decide) ?_
      refine a_sub [1, 2, 3, 0] rfl ?_
      exact ih _ _ _ _ h
set_option maxHeartbeats 4000000 in
set_option maxRecDepth 100000 in
theorem tj_X12_layFar_75 {p : Program} {l : Launch} {e : Env} {s : State} {m : MethodId} {args : Array Value} {below : List Frame} {meth : Method} {c : Code} {V : VEn} {k50 : Int32 → Int32 → Int32 → Int32 → Int32 → PoS → Prop} {post : PoS → Prop} (C : CxS p s m args meth c V cX12_layFar 7 RX12 none) (hk50 : ∀ (v2 : Int32) (v3 : Int32) (v4 : Int32) (v5 : Int32) (v6 : Int32) (u : PoS), k50 v2 v3 v4 v5 v6 u → AtS p l e (Rm 1) s m args below meth c V 7 0 0 (QV V below args s post) 50 [(0, .ref (eA V 48)), (2, .int v2), (3, .int v3), (4, .int v4), (5, .int v5), (6, .int v6)] [] u) (v2 : Int32) (v3 : Int32) (v4 : Int32) (v5 : Int32) (v6 : Int32) (u : PoS) (h : wj_X12_layFar_75 k50 post v2 v3 v4 v5 v6 u) : AtS p l e (Rm 1) s m args below meth c V 7 0 0 (QV V below args s post) 75 [(0, .ref (eA V 48)), (2, .int v2), (3, .int v3), (4, .int v4), (5, .int v5), (6, .int v6)] [] u := by
  rw [wj_X12_layFar_75] at h
  refine a_iinc C (v6 + 1) 5 [(6, .int (v6 + 1)), (0, .ref (eA V 48)), (2, .int v2), (3, .int v3), (4, .int v4), (5, .int v5)] dX12_layFar_75 rfl (congrArg (fun z => v6 + z) (show Int32.ofInt 1 = 1 by decide)) (by decide) rfl ?_
  refine a_goto C 50 dX12_layFar_78 (by decide) ?_
  refine a_sub [1, 2, 3, 4, 5, 0] rfl ?_
  exact hk50 _ _ _ _ _ _ h
set_option maxHeartbeats 4000000 in
set_option maxRecDepth 100000 in
theorem tl_X12_layFar_50 {p : Program} {l : Launch} {e : Env} {s : State} {m : MethodId} {args : Array Value} {below : List Frame} {meth : Method} {c : Code} {V : VEn} {k81 : Int32 → Int32 → Int32 → Int32 → PoS → Prop} {post : PoS → Prop} (C : CxS p s m args meth c V cX12_layFar 7 RX12 none) (hk81 : ∀ (v2 : Int32) (v3 : Int32) (v4 : Int32) (v5 : Int32) (u : PoS), k81 v2 v3 v4 v5 u → AtS p l e (Rm 1) s m args below meth c V 7 0 0 (QV V below args s post) 81 [(0, .ref (eA V 48)), (2, .int v2), (3, .int v3), (4, .int v4), (5, .int v5)] [] u) : ∀ (n : Nat) (v2 : Int32) (v3 : Int32) (v4 : Int32) (v5 : Int32) (v6 : Int32) (u : PoS), wl_X12_layFar_50 k81 post n v2 v3 v4 v5 v6 u → AtS p l e (Rm 1) s m args below meth c V 7 0 0 (QV V below args s post) 50 [(0, .ref (eA V 48)), (2, .int v2), (3, .int v3), (4, .int v4), (5, .int v5), (6, .int v6)] [] u := by
  intro n
  induction n with
  | zero => intro v2 v3 v4 v5 v6 u h; exact h.elim
  | succ n ih =>
    intro v2 v3 v4 v5 v6 u h
    rw [wl_X12_layFar_50] at h
    refine a_iload C 5 dX12_layFar_50 rfl ?_
    refine a_bipush C 30 dX12_layFar_52 (by decide) ?_
    refine a_icmp_ge C 81 dX12_layFar_54 (by decide) (fun c8 => ?_) (fun c8 => ?_)
    · have h := h.1 c8
      refine a_sub [0, 1, 2, 3, 4] rfl ?_
      exact hk81 _ _ _ _ _ h
    · have h := h.2 c8
      refine a_iload_n C 2 dX12_layFar_57 rfl rfl ?_
      refine a_iload C 5 dX12_layFar_58 rfl ?_
      refine a_callSi C dX12_layFar_60 (m_X12_has l V h) bw_1240 bw_1241 bw_123 bw_1242 np_X12_has rfl rfl (by decide) (Nat.le_of_ble_eq_true rfl) ⟨Nat.zero_le _, Nat.zero_le _⟩ (fun r5 u6 h => ?_)
      refine a_if_eq C 75 dX12_layFar_63 (by decide) (fun c7 => ?_) (fun c7 => ?_)
      · have h := h.1 c7
        refine tj_X12_layFar_75 C ih _ _ _ _ _ _ h
      · have h := h.2 c7
        refine a_aload_n C 0 dX12_layFar_66 rfl rfl ?_
        refine a_getr C 23 (r := 57) dX12_layFar_67 (by decide) rfl rfl rfl ib_12 (by decide) bw_1045 ?_
        refine a_iload C 5 dX12_layFar_70 rfl ?_
        refine a_iload C 4 dX12_layFar_72 rfl ?_
        refine b_iast C (Int32.toNatClampNeg v6) dX12_layFar_74 (by decide) rfl h.1 rfl ?_
        have h := h.2
        refine tj_X12_layFar_75 C ih _ _ _ _ _ _ h
set_option maxHeartbeats 4000000 in
set_option maxRecDepth 100000 in
theorem tl_X12_layFar_43 {p : Program} {l : Launch} {e : Env} {s : State} {m : MethodId} {args : Array Value} {below : List Frame} {meth : Method} {c : Code} {V : VEn} {post : PoS → Prop} (C : CxS p s m args meth c V cX12_layFar 7 RX12 none) : ∀ (n : Nat) (v2 : Int32) (v3 : Int32) (v4 : Int32) (v5 : Int32) (u : PoS), wl_X12_layFar_43 post n v2 v3 v4 v5 u → AtS p l e (Rm 1) s m args below meth c V 7 0 0 (QV V below args s post) 43 [(0, .ref (eA V 48)), (2, .int v2), (3, .int v3), (4, .int v4), (5, .int v5)] [] u := by
  intro n
  induction n with
  | zero => intro v2 v3 v4 v5 u h; exact h.elim
  | succ n ih =>
    intro v2 v3 v4 v5 u h
    rw [wl_X12_layFar_43] at h
    refine a_iload_n C 2 dX12_layFar_43 rfl rfl ?_
    refine a_if_eq C 105 dX12_layFar_44 (by decide) (fun c14 => ?_) (fun c14 => ?_)
    · have h := h.1 c14
      exact a_vret C dX12_layFar_105 h
    · have h := h.2 c14
      refine a_iconst C 0 dX12_layFar_47 (by decide) ?_
      refine a_istore C [(6, .int 0), (0, .ref (eA V 48)), (2, .int v2), (3, .int v3), (4, .int v4), (5, .int v5)] dX12_layFar_48 (by decide) rfl ?_
      refine a_sub [1, 2, 3, 4, 5, 0] rfl ?_
      obtain ⟨n50, h⟩ := h
      refine tl_X12_layFar_50 C (fun v29 v39 v49 v59 u9 h => ?_) n50 _ _ _ _ _ _ h
      refine a_iload_n C 2 dX12_layFar_81 rfl rfl ?_
      refine a_callSi C dX12_layFar_82 (m_X12_aside l V h) bw_1403 bw_1404 bw_123 bw_1405 np_X12_aside rfl rfl (by decide) (Nat.le_of_ble_eq_true rfl) ⟨Nat.zero_le _, Nat.zero_le _⟩ (fun r10 u11 h => ?_)
      refine a_iload_n C 1 dX12_layFar_85 rfl rfl ?_
      refine a_iand C dX12_layFar_86 ?_
      refine a_iload C 3 dX12_layFar_87 rfl ?_
      refine a_iconst C (-1) dX12_layFar_89 (by decide) ?_
      refine a_ixor C dX12_layFar_90 ?_
      refine a_iand C dX12_layFar_91 ?_
      refine a_topi (fun x12 ex12 => ?_)
      have h := h x12 ex12
      refine a_istore_n C [(3, .int x12), (0, .ref (eA V 48)), (2, .int v29), (4, .int v49), (5, .int v59)] dX12_layFar_92 rfl (by decide) rfl ?_
      refine a_iload C 3 dX12_layFar_93 rfl ?_
      refine a_iload_n C 0 dX12_layFar_95 rfl rfl ?_
      refine a_ior C dX12_layFar_96 ?_
      refine a_topi (fun x13 ex13 => ?_)
      have h := h x13 ex13
      refine a_istore C [(4, .int x13), (3, .int x12), (0, .ref (eA V 48)), (2, .int v29), (5, .int v59)] dX12_layFar_97 (by decide) rfl ?_
      refine a_iinc C (v59 + 1) 4 [(5, .int (v59 + 1)), (4, .int x13), (3, .int x12), (0, .ref (eA V 48)), (2, .int v29)] dX12_layFar_99 rfl (congrArg (fun z => v59 + z) (show Int32.ofInt 1 = 1 by decide)) (by decide) rfl ?_
      refine a_goto C 43 dX12_layFar_102 (by decide) ?_
      refine a_sub [3, 4, 2, 1, 0] rfl ?_
      exact ih _ _ _ _ _ h
set_option maxHeartbeats 4000000 in
set_option maxRecDepth 100000 in
theorem tj_X12_layFar_36 {p : Program} {l : Launch} {e : Env} {s : State} {m : MethodId} {args : Array Value} {below : List Frame} {meth : Method} {c : Code} {V : VEn} {post : PoS → Prop} (C : CxS p s m args meth c V cX12_layFar 7 RX12 none) (v2 : Int32) (s0 : Int32) (u : PoS) (h : wj_X12_layFar_36 post v2 s0 u) : AtS p l e (Rm 1) s m args below meth c V 7 0 0 (QV V below args s post) 36 [(0, .ref (eA V 48)), (2, .int v2)] [.int s0] u := by
  rw [wj_X12_layFar_36] at h
  refine a_istore_n C [(3, .int s0), (0, .ref (eA V 48)), (2, .int v2)] dX12_layFar_36 rfl (by decide) rfl ?_
  refine a_iload_n C 0 dX12_layFar_37 rfl rfl ?_
  refine a_istore C [(4, .int s0), (3, .int s0), (0, .ref (eA V 48)), (2, .int v2)] dX12_layFar_38 (by decide) rfl ?_
  refine a_iconst C 0 dX12_layFar_40 (by decide) ?_
  refine a_istore C [(5, .int 0), (4, .int s0), (3, .int s0), (0, .ref (eA V 48)), (2, .int v2)] dX12_layFar_41 (by decide) rfl ?_
  refine a_sub [3, 4, 2, 1, 0] rfl ?_
  obtain ⟨n43, h⟩ := h
  refine tl_X12_layFar_43 C n43 _ _ _ _ _ h
theorem np_X12_layFar : yX12_layFar.cls ≠ "java/lang/invoke/MethodHandle" ∧ yX12_layFar.cls ≠ "java/lang/invoke/VarHandle" ∧ (parseMethodDescriptor yX12_layFar.desc).map (fun d => d.parameters.length) = some 2 := by decide +kernel
set_option maxHeartbeats 4000000 in
set_option maxRecDepth 100000 in
theorem m_X12_layFar (l : Launch) (V : VEn) {a0 : Int32} {a1 : Int32} {u : PoS} {post : PoS → Prop} (h : wp_X12_layFar a0 a1 u post) : KV l V yX12_layFar cX12_layFar 7 1 [.ref (eA V 48), .int a0, .int a1] u post := by
  refine KV_of (by decide) (Nat.le_of_ble_eq_true rfl) (lv := [(0, .ref (eA V 48)), (1, .int a0), (2, .int a1)]) rfl ?_
  intro p e s m args below meth c C
  rw [wp_X12_layFar] at h
  refine a_iconst C 0 dX12_layFar_0 (by decide) ?_
  refine a_istore_n C [(3, .int 0), (0, .ref (eA V 48)), (1, .int a0), (2, .int a1)] dX12_layFar_1 rfl (by decide) rfl ?_
  refine a_sub [1, 2, 3, 0] rfl ?_
  obtain ⟨n2, h⟩ := h
  refine tl_X12_layFar_2 C (fun v12 v22 u2 h => ?_) n2 _ _ _ _ h
  refine a_iload_n C 2 dX12_layFar_21 rfl rfl ?_
  refine a_iload_n C 1 dX12_layFar_22 rfl rfl ?_
  refine a_callSi C dX12_layFar_23 (m_X12_has l V h) bw_1240 bw_1241 bw_123 bw_1242 np_X12_has rfl rfl (by decide) (Nat.le_of_ble_eq_true rfl) ⟨Nat.zero_le _, Nat.zero_le _⟩ (fun r3 u4 h => ?_)
  refine a_if_eq C 35 dX12_layFar_26 (by decide) (fun c15 => ?_) (fun c15 => ?_)
  · have h := h.1 c15
    refine a_iconst C 0 dX12_layFar_35 (by decide) ?_
    refine a_sub [0, 2] rfl ?_
    refine tj_X12_layFar_36 C _ _ _ h
  · have h := h.2 c15
    refine a_iconst C 1 dX12_layFar_29 (by decide) ?_
    refine a_iload_n C 1 dX12_layFar_30 rfl rfl ?_
    refine a_ishl C dX12_layFar_31 ?_
    refine a_goto C 36 dX12_layFar_32 (by decide) ?_
    refine a_sub [0, 2] rfl ?_
    refine tj_X12_layFar_36 C _ _ _ h

/-! RainOnTheOneModel.stepsOf(II)I -/
def wp_X12_stepsOf (a0 : Int32) (a1 : Int32) (u : PoS) (post : Int32 → PoS → Prop) : Prop := wp_X12_free u (fun (r1 : Int32) (u2 : PoS) => wp_X12_layFar a0 r1 u2 (fun (u4 : PoS) => vp_in a1 30 ∧ post (gI u4 57 (Int32.toNatClampNeg a1)) u4))
theorem np_X12_stepsOf : yX12_stepsOf.cls ≠ "java/lang/invoke/MethodHandle" ∧ yX12_stepsOf.cls ≠ "java/lang/invoke/VarHandle" ∧ (parseMethodDescriptor yX12_stepsOf.desc).map (fun d => d.parameters.length) = some 2 := by decide +kernel
set_option maxHeartbeats 4000000 in
set_option maxRecDepth 100000 in
theorem m_X12_stepsOf (l : Launch) (V : VEn) {a0 : Int32} {a1 : Int32} {u : PoS} {post : Int32 → PoS → Prop} (h : wp_X12_stepsOf a0 a1 u post) : KI l V yX12_stepsOf cX12_stepsOf 3 .int 4 [.ref (eA V 48), .int a0, .int a1] u post := by
  refine KI_of (by decide) (Nat.le_of_ble_eq_true rfl) (lv := [(0, .ref (eA V 48)), (1, .int a0), (2, .int a1)]) rfl ?_
  intro p e s m args below meth c C
  rw [wp_X12_stepsOf] at h
  refine a_aload_n C 0 dX12_stepsOf_0 rfl rfl ?_
  refine a_iload_n C 1 dX12_stepsOf_1 rfl rfl ?_
  refine a_aload_n C 0 dX12_stepsOf_2 rfl rfl ?_
  refine a_callVi C dX12_stepsOf_3 (m_X12_free l V h) bw_1395 bw_1397 bw_79 bw_123 bw_1398 (by decide) rfl rfl np_X12_free rfl rfl (by decide) (Nat.le_of_ble_eq_true rfl) ⟨Nat.zero_le _, Nat.zero_le _⟩ (fun r1 u2 h => ?_)
  refine a_callVv C dX12_stepsOf_6 (m_X12_layFar l V h) bw_1399 bw_1401 bw_80 bw_123 bw_1402 (by decide) rfl rfl np_X12_layFar rfl rfl (by decide) (Nat.le_of_ble_eq_true rfl) ⟨Nat.zero_le _, Nat.zero_le _⟩ (fun u4 h => ?_)
  refine a_aload_n C 0 dX12_stepsOf_9 rfl rfl ?_
  refine a_getr C 23 (r := 57) dX12_stepsOf_10 (by decide) rfl rfl rfl ib_12 (by decide) bw_1045 ?_
  refine a_iload_n C 2 dX12_stepsOf_13 rfl rfl ?_
  refine b_iald C (Int32.toNatClampNeg a1) dX12_stepsOf_14 (by decide) rfl h.1 rfl ?_
  have h := h.2
  exact a_iret C dX12_stepsOf_15 h

/-! RainOnTheOneModel.name(I)V -/
def wp_X12_name (a0 : Int32) (u : PoS) (post : PoS → Prop) : Prop := wp_X12_get a0 0 u (fun (r1 : Int32) (u2 : PoS) => wp_X12_get a0 2 (pI (pI u2 54 0 (gI u2 49 6)) 54 1 a0) (fun (r3 : Int32) (u4 : PoS) => wp_X12_get a0 3 (pI u4 54 2 r3) (fun (r5 : Int32) (u6 : PoS) => vp_in (70 + r1) 3703 ∧ vp_in (40 + r1) 3703 ∧ post (pI (pI (pI (pI u6 54 3 r5) 54 4 r1) 54 5 (gI (pI (pI u6 54 3 r5) 54 4 r1) 49 (Int32.toNatClampNeg (70 + r1)))) 54 6 (gI (pI (pI (pI u6 54 3 r5) 54 4 r1) 54 5 (gI (pI (pI u6 54 3 r5) 54 4 r1) 49 (Int32.toNatClampNeg (70 + r1)))) 49 (Int32.toNatClampNeg (40 + r1)))))))
theorem np_X12_name : yX12_name.cls ≠ "java/lang/invoke/MethodHandle" ∧ yX12_name.cls ≠ "java/lang/invoke/VarHandle" ∧ (parseMethodDescriptor yX12_name.desc).map (fun d => d.parameters.length) = some 1 := by decide +kernel
set_option maxHeartbeats 4000000 in
set_option maxRecDepth 100000 in
theorem m_X12_name (l : Launch) (V : VEn) {a0 : Int32} {u : PoS} {post : PoS → Prop} (h : wp_X12_name a0 u post) : KV l V yX12_name cX12_name 3 1 [.ref (eA V 48), .int a0] u post := by
  refine KV_of (by decide) (Nat.le_of_ble_eq_true rfl) (lv := [(0, .ref (eA V 48)), (1, .int a0)]) rfl ?_
  intro p e s m args below meth c C
  rw [wp_X12_name] at h
  refine a_aload_n C 0 dX12_name_0 rfl rfl ?_
  refine a_iload_n C 1 dX12_name_1 rfl rfl ?_
  refine a_iconst C 0 dX12_name_2 (by decide) ?_
  refine a_callVi C dX12_name_3 (m_X12_get l V h) bw_1158 bw_1160 bw_42 bw_123 bw_1161 (by decide) rfl rfl np_X12_get rfl rfl (by decide) (Nat.le_of_ble_eq_true rfl) ⟨Nat.zero_le _, Nat.zero_le _⟩ (fun r1 u2 h => ?_)
  refine a_istore_n C [(2, .int r1), (0, .ref (eA V 48)), (1, .int a0)] dX12_name_6 rfl (by decide) rfl ?_
  refine a_aload_n C 1 dX12_name_7 rfl rfl ?_
  refine a_getr C 20 (r := 54) dX12_name_8 (by decide) rfl rfl rfl ib_12 (by decide) bw_1042 ?_
  refine a_iconst C 0 dX12_name_11 (by decide) ?_
  refine a_aload_n C 1 dX12_name_12 rfl rfl ?_
  refine a_getr C 0 (r := 49) dX12_name_13 (by decide) rfl rfl rfl ib_12 (by decide) bw_1022 ?_
  refine a_bipush C 6 dX12_name_16 (by decide) ?_
  refine b_iald C 6 dX12_name_18 (by decide) rfl (vp_lit (by decide)) (by decide) ?_
  refine b_iast C 0 dX12_name_19 (by decide) rfl (vp_lit (by decide)) (by decide) ?_
  refine a_aload_n C 1 dX12_name_20 rfl rfl ?_
  refine a_getr C 20 (r := 54) dX12_name_21 (by decide) rfl rfl rfl ib_12 (by decide) bw_1042 ?_
  refine a_iconst C 1 dX12_name_24 (by decide) ?_
  refine a_iload_n C 2 dX12_name_25 rfl rfl ?_
  refine b_iast C 1 dX12_name_26 (by decide) rfl (vp_lit (by decide)) (by decide) ?_
  refine a_aload_n C 1 dX12_name_27 rfl rfl ?_
  refine a_getr C 20 (r := 54) dX12_name_28 (by decide) rfl rfl rfl ib_12 (by decide) bw_1042 ?_
  refine a_iconst C 2 dX12_name_31 (by decide) ?_
  refine a_aload_n C 1 dX12_name_32 rfl rfl ?_
  refine a_iload_n C 2 dX12_name_33 rfl rfl ?_
  refine a_iconst C 2 dX12_name_34 (by decide) ?_
  refine a_callVi C dX12_name_35 (m_X12_get l V h) bw_1158 bw_1160 bw_42 bw_123 bw_1161 (by decide) rfl rfl np_X12_get rfl rfl (by decide) (Nat.le_of_ble_eq_true rfl) ⟨Nat.zero_le _, Nat.zero_le _⟩ (fun r3 u4 h => ?_)
  refine b_iast C 2 dX12_name_38 (by decide) rfl (vp_lit (by decide)) (by decide) ?_
  refine a_aload_n C 1 dX12_name_39 rfl rfl ?_
  refine a_getr C 20 (r := 54) dX12_name_40 (by decide) rfl rfl rfl ib_12 (by decide) bw_1042 ?_
  refine a_iconst C 3 dX12_name_43 (by decide) ?_
  refine a_aload_n C 1 dX12_name_44 rfl rfl ?_
  refine a_iload_n C 2 dX12_name_45 rfl rfl ?_
  refine a_iconst C 3 dX12_name_46 (by decide) ?_
  refine a_callVi C dX12_name_47 (m_X12_get l V h) bw_1158 bw_1160 bw_42 bw_123 bw_1161 (by decide) rfl rfl np_X12_get rfl rfl (by decide) (Nat.le_of_ble_eq_true rfl) ⟨Nat.zero_le _, Nat.zero_le _⟩ (fun r5 u6 h => ?_)
  refine b_iast C 3 dX12_name_50 (by decide) rfl (vp_lit (by decide)) (by decide) ?_
  refine a_aload_n C 1 dX12_name_51 rfl rfl ?_
  refine a_getr C 20 (r := 54) dX12_name_52 (by decide) rfl rfl rfl ib_12 (by decide) bw_1042 ?_
  refine a_iconst C 4 dX12_name_55 (by decide) ?_
  refine a_iload_n C 0 dX12_name_56 rfl rfl ?_
  refine b_iast C 4 dX12_name_57 (by decide) rfl (vp_lit (by decide)) (by decide) ?_
  refine a_aload_n C 1 dX12_name_58 rfl rfl ?_
  refine a_getr C 20 (r := 54) dX12_name_59 (by decide) rfl rfl rfl ib_12 (by decide) bw_1042 ?_
  refine a_iconst C 5 dX12_name_62 (by decide) ?_
  refine a_aload_n C 1 dX12_name_63 rfl rfl ?_
  refine a_getr C 0 (r := 49) dX12_name_64 (by decide) rfl rfl rfl ib_12 (by decide) bw_1022 ?_
  refine a_bipush C 70 dX12_name_67 (by decide) ?_
  refine a_iload_n C 0 dX12_name_69 rfl rfl ?_
  refine a_iadd C dX12_name_70 ?_
  refine b_iald C (Int32.toNatClampNeg (70 + r1)) dX12_name_71 (by decide) rfl h.1 rfl ?_
  have h := h.2
  refine b_iast C 5 dX12_name_72 (by decide) rfl (vp_lit (by decide)) (by decide) ?_
  refine a_aload_n C 1 dX12_name_73 rfl rfl ?_
  refine a_getr C 20 (r := 54) dX12_name_74 (by decide) rfl rfl rfl ib_12 (by decide) bw_1042 ?_
  refine a_bipush C 6 dX12_name_77 (by decide) ?_
  refine a_aload_n C 1 dX12_name_79 rfl rfl ?_
  refine a_getr C 0 (r := 49) dX12_name_80 (by decide) rfl rfl rfl ib_12 (by decide) bw_1022 ?_
  refine a_bipush C 40 dX12_name_83 (by decide) ?_
  refine a_iload_n C 0 dX12_name_85 rfl rfl ?_
  refine a_iadd C dX12_name_86 ?_
  refine b_iald C (Int32.toNatClampNeg (40 + r1)) dX12_name_87 (by decide) rfl h.1 rfl ?_
  have h := h.2
  refine b_iast C 6 dX12_name_88 (by decide) rfl (vp_lit (by decide)) (by decide) ?_
  exact a_vret C dX12_name_89 h

/-! RainOnTheOneModel.wantsOf(II)I -/
def wj_X12_wantsOf_40 (post : Int32 → PoS → Prop) (v1 : Int32) (s0 : Int32) (s1 : Int32) (u : PoS) : Prop := vp_in s1 8 ∧ wp_X12_says v1 0 (99 - (gI (pI u 54 (Int32.toNatClampNeg s1) s0) 54 7)) (-999) 999 (pI u 54 (Int32.toNatClampNeg s1) s0) (fun (r7 : Int32) (u8 : PoS) => post r7 u8)
def wp_X12_wantsOf (a0 : Int32) (a1 : Int32) (u : PoS) (post : Int32 → PoS → Prop) : Prop := wp_X12_get a1 0 u (fun (r1 : Int32) (u2 : PoS) => wp_X12_stepsOf (gI u 49 7) r1 u2 (fun (r3 : Int32) (u4 : PoS) => wp_X12_name a1 u4 (fun (u6 : PoS) => ((¬ r3 = (-1) → wj_X12_wantsOf_40 post a0 r3 7 u6) ∧ (r3 = (-1) → wj_X12_wantsOf_40 post a0 99 7 u6)))))
set_option maxHeartbeats 4000000 in
set_option maxRecDepth 100000 in
theorem tj_X12_wantsOf_40 {p : Program} {l : Launch} {e : Env} {s : State} {m : MethodId} {args : Array Value} {below : List Frame} {meth : Method} {c : Code} {V : VEn} {post : Int32 → PoS → Prop} (C : CxS p s m args meth c V cX12_wantsOf 4 RX12 (some .int)) (v1 : Int32) (s0 : Int32) (s1 : Int32) (u : PoS) (h : wj_X12_wantsOf_40 post v1 s0 s1 u) : AtS p l e (Rm 5) s m args below meth c V 4 0 0 (QI V below args s post) 40 [(0, .ref (eA V 48)), (1, .int v1)] [.int s0, .int s1, .ref (eA V 54)] u := by
  rw [wj_X12_wantsOf_40] at h
  refine b_iast C (Int32.toNatClampNeg s1) dX12_wantsOf_40 (by decide) rfl h.1 rfl ?_
  have h := h.2
  refine a_aload_n C 0 dX12_wantsOf_41 rfl rfl ?_
  refine a_iload_n C 1 dX12_wantsOf_42 rfl rfl ?_
  refine a_iconst C 0 dX12_wantsOf_43 (by decide) ?_
  refine a_bipush C 99 dX12_wantsOf_44 (by decide) ?_
  refine a_aload_n C 0 dX12_wantsOf_46 rfl rfl ?_
  refine a_getr C 20 (r := 54) dX12_wantsOf_47 (by decide) rfl rfl rfl ib_12 (by decide) bw_1042 ?_
  refine a_bipush C 7 dX12_wantsOf_50 (by decide) ?_
  refine b_iald C 7 dX12_wantsOf_52 (by decide) rfl (vp_lit (by decide)) (by decide) ?_
  refine a_isub C dX12_wantsOf_53 ?_
  refine a_sipush C (-999) dX12_wantsOf_54 (by decide) ?_
  refine a_sipush C 999 dX12_wantsOf_57 (by decide) ?_
  refine a_callVi C dX12_wantsOf_60 (m_X12_says l V h) bw_1417 bw_1419 bw_83 bw_123 bw_1420 (by decide) rfl rfl np_X12_says rfl rfl (by decide) (Nat.le_of_ble_eq_true rfl) ⟨Nat.zero_le _, Nat.zero_le _⟩ (fun r7 u8 h => ?_)
  exact a_iret C dX12_wantsOf_63 h
theorem np_X12_wantsOf : yX12_wantsOf.cls ≠ "java/lang/invoke/MethodHandle" ∧ yX12_wantsOf.cls ≠ "java/lang/invoke/VarHandle" ∧ (parseMethodDescriptor yX12_wantsOf.desc).map (fun d => d.parameters.length) = some 2 := by decide +kernel
set_option maxHeartbeats 4000000 in
set_option maxRecDepth 100000 in
theorem m_X12_wantsOf (l : Launch) (V : VEn) {a0 : Int32} {a1 : Int32} {u : PoS} {post : Int32 → PoS → Prop} (h : wp_X12_wantsOf a0 a1 u post) : KI l V yX12_wantsOf cX12_wantsOf 4 .int 5 [.ref (eA V 48), .int a0, .int a1] u post := by
  refine KI_of (by decide) (Nat.le_of_ble_eq_true rfl) (lv := [(0, .ref (eA V 48)), (1, .int a0), (2, .int a1)]) rfl ?_
  intro p e s m args below meth c C
  rw [wp_X12_wantsOf] at h
  refine a_aload_n C 0 dX12_wantsOf_0 rfl rfl ?_
  refine a_aload_n C 0 dX12_wantsOf_1 rfl rfl ?_
  refine a_getr C 0 (r := 49) dX12_wantsOf_2 (by decide) rfl rfl rfl ib_12 (by decide) bw_1022 ?_
  refine a_bipush C 7 dX12_wantsOf_5 (by decide) ?_
  refine b_iald C 7 dX12_wantsOf_7 (by decide) rfl (vp_lit (by decide)) (by decide) ?_
  refine a_aload_n C 0 dX12_wantsOf_8 rfl rfl ?_
  refine a_iload_n C 2 dX12_wantsOf_9 rfl rfl ?_
  refine a_iconst C 0 dX12_wantsOf_10 (by decide) ?_
  refine a_callVi C dX12_wantsOf_11 (m_X12_get l V h) bw_1158 bw_1160 bw_42 bw_123 bw_1161 (by decide) rfl rfl np_X12_get rfl rfl (by decide) (Nat.le_of_ble_eq_true rfl) ⟨Nat.zero_le _, Nat.zero_le _⟩ (fun r1 u2 h => ?_)
  refine a_callVi C dX12_wantsOf_14 (m_X12_stepsOf l V h) bw_1391 bw_1393 bw_78 bw_123 bw_1394 (by decide) rfl rfl np_X12_stepsOf rfl rfl (by decide) (Nat.le_of_ble_eq_true rfl) ⟨Nat.zero_le _, Nat.zero_le _⟩ (fun r3 u4 h => ?_)
  refine a_istore_n C [(3, .int r3), (0, .ref (eA V 48)), (1, .int a0), (2, .int a1)] dX12_wantsOf_17 rfl (by decide) rfl ?_
  refine a_aload_n C 1 dX12_wantsOf_18 rfl rfl ?_
  refine a_iload_n C 3 dX12_wantsOf_19 rfl rfl ?_
  refine a_callVv C dX12_wantsOf_20 (m_X12_name l V h) bw_1413 bw_1415 bw_82 bw_123 bw_1416 (by decide) rfl rfl np_X12_name rfl rfl (by decide) (Nat.le_of_ble_eq_true rfl) ⟨Nat.zero_le _, Nat.zero_le _⟩ (fun u6 h => ?_)
  refine a_aload_n C 1 dX12_wantsOf_23 rfl rfl ?_
  refine a_getr C 20 (r := 54) dX12_wantsOf_24 (by decide) rfl rfl rfl ib_12 (by decide) bw_1042 ?_
  refine a_bipush C 7 dX12_wantsOf_27 (by decide) ?_
  refine a_iload_n C 0 dX12_wantsOf_29 rfl rfl ?_
  refine a_iconst C (-1) dX12_wantsOf_30 (by decide) ?_
  refine a_icmp_ne C 39 dX12_wantsOf_31 (by decide) (fun c9 => ?_) (fun c9 => ?_)
  · have h := h.1 c9
    refine a_iload_n C 0 dX12_wantsOf_39 rfl rfl ?_
    refine a_sub [1, 2] rfl ?_
    refine tj_X12_wantsOf_40 C _ _ _ _ h
  · have h := h.2 c9
    refine a_bipush C 99 dX12_wantsOf_34 (by decide) ?_
    refine a_goto C 40 dX12_wantsOf_36 (by decide) ?_
    refine a_sub [1, 2] rfl ?_
    refine tj_X12_wantsOf_40 C _ _ _ _ h

/-! RainOnTheOneModel.poursOf(I)I -/
def wp_X12_poursOf (a0 : Int32) (u : PoS) (post : Int32 → PoS → Prop) : Prop := wp_X12_name a0 u (fun (u2 : PoS) => wp_X12_says (gI u2 49 2) 1 3 0 9 u2 (fun (r3 : Int32) (u4 : PoS) => post r3 u4))
theorem np_X12_poursOf : yX12_poursOf.cls ≠ "java/lang/invoke/MethodHandle" ∧ yX12_poursOf.cls ≠ "java/lang/invoke/VarHandle" ∧ (parseMethodDescriptor yX12_poursOf.desc).map (fun d => d.parameters.length) = some 1 := by decide +kernel
set_option maxHeartbeats 4000000 in
set_option maxRecDepth 100000 in
theorem m_X12_poursOf (l : Launch) (V : VEn) {a0 : Int32} {u : PoS} {post : Int32 → PoS → Prop} (h : wp_X12_poursOf a0 u post) : KI l V yX12_poursOf cX12_poursOf 2 .int 4 [.ref (eA V 48), .int a0] u post := by
  refine KI_of (by decide) (Nat.le_of_ble_eq_true rfl) (lv := [(0, .ref (eA V 48)), (1, .int a0)]) rfl ?_
  intro p e s m args below meth c C
  rw [wp_X12_poursOf] at h
  refine a_aload_n C 0 dX12_poursOf_0 rfl rfl ?_
  refine a_iload_n C 1 dX12_poursOf_1 rfl rfl ?_
  refine a_callVv C dX12_poursOf_2 (m_X12_name l V h) bw_1413 bw_1415 bw_82 bw_123 bw_1416 (by decide) rfl rfl np_X12_name rfl rfl (by decide) (Nat.le_of_ble_eq_true rfl) ⟨Nat.zero_le _, Nat.zero_le _⟩ (fun u2 h => ?_)
  refine a_aload_n C 0 dX12_poursOf_5 rfl rfl ?_
  refine a_aload_n C 0 dX12_poursOf_6 rfl rfl ?_
  refine a_getr C 0 (r := 49) dX12_poursOf_7 (by decide) rfl rfl rfl ib_12 (by decide) bw_1022 ?_
  refine a_iconst C 2 dX12_poursOf_10 (by decide) ?_
  refine b_iald C 2 dX12_poursOf_11 (by decide) rfl (vp_lit (by decide)) (by decide) ?_
  refine a_iconst C 1 dX12_poursOf_12 (by decide) ?_
  refine a_iconst C 3 dX12_poursOf_13 (by decide) ?_
  refine a_iconst C 0 dX12_poursOf_14 (by decide) ?_
  refine a_bipush C 9 dX12_poursOf_15 (by decide) ?_
  refine a_callVi C dX12_poursOf_17 (m_X12_says l V h) bw_1417 bw_1419 bw_83 bw_123 bw_1420 (by decide) rfl rfl np_X12_says rfl rfl (by decide) (Nat.le_of_ble_eq_true rfl) ⟨Nat.zero_le _, Nat.zero_le _⟩ (fun r3 u4 h => ?_)
  exact a_iret C dX12_poursOf_20 h

/-! RainOnTheOneModel.goesFor()I -/
def wj_X12_goesFor_81 (k6 : Int32 → Int32 → Int32 → PoS → Prop) (post : Int32 → PoS → Prop) (v1 : Int32) (v2 : Int32) (v3 : Int32) (u : PoS) : Prop := k6 v1 v2 (v3 + 1) u
def wj_X12_goesFor_76 (k6 : Int32 → Int32 → Int32 → PoS → Prop) (post : Int32 → PoS → Prop) (v3 : Int32) (v4 : Int32) (u : PoS) : Prop := wj_X12_goesFor_81 k6 post v3 v4 v3 u
def wl_X12_goesFor_6 (post : Int32 → PoS → Prop) : Nat → Int32 → Int32 → Int32 → PoS → Prop
  | 0, _, _, _, _ => False
  | n + 1, v1, v2, v3, u => (((gI u 49 0) ≤ v3 → post v1 u) ∧ (¬ (gI u 49 0) ≤ v3 → wp_X12_get v3 1 u (fun (r1 : Int32) (u2 : PoS) => ((r1 = 0 → wj_X12_goesFor_81 (wl_X12_goesFor_6 post n) post v1 v2 v3 u2) ∧ (¬ r1 = 0 → wp_X12_get v3 0 u2 (fun (r3 : Int32) (u4 : PoS) => wp_X12_stepsOf (gI u2 49 7) r3 u4 (fun (r5 : Int32) (u6 : PoS) => ((¬ r5 = (-1) → wp_X12_wantsOf (gI u6 49 2) v3 u6 (fun (r7 : Int32) (u8 : PoS) => ((v1 = (-1) → wj_X12_goesFor_76 (wl_X12_goesFor_6 post n) post v3 r7 u8) ∧ (¬ v1 = (-1) → ((v2 < r7 → wj_X12_goesFor_76 (wl_X12_goesFor_6 post n) post v3 r7 u8) ∧ (¬ v2 < r7 → wj_X12_goesFor_81 (wl_X12_goesFor_6 post n) post v1 v2 v3 u8)))))) ∧ (r5 = (-1) → wj_X12_goesFor_81 (wl_X12_goesFor_6 post n) post v1 v2 v3 u6)))))))))
def wp_X12_goesFor (u : PoS) (post : Int32 → PoS → Prop) : Prop := (∃ n6, wl_X12_goesFor_6 post n6 (-1) 0 0 u)
set_option maxHeartbeats 4000000 in
set_option maxRecDepth 100000 in
theorem tj_X12_goesFor_81 {p : Program} {l : Launch} {e : Env} {s : State} {m : MethodId} {args : Array Value} {below : List Frame} {meth : Method} {c : Code} {V : VEn} {k6 : Int32 → Int32 → Int32 → PoS → Prop} {post : Int32 → PoS → Prop} (C : CxS p s m args meth c V cX12_goesFor 5 RX12 (some .int)) (hk6 : ∀ (v1 : Int32) (v2 : Int32) (v3 : Int32) (u : PoS), k6 v1 v2 v3 u → AtS p l e (Rm 6) s m args below meth c V 5 0 0 (QI V below args s post) 6 [(0, .ref (eA V 48)), (1, .int v1), (2, .int v2), (3, .int v3)] [] u) (v1 : Int32) (v2 : Int32) (v3 : Int32) (u : PoS) (h : wj_X12_goesFor_81 k6 post v1 v2 v3 u) : AtS p l e (Rm 6) s m args below meth c V 5 0 0 (QI V below args s post) 81 [(0, .ref (eA V 48)), (1, .int v1), (2, .int v2), (3, .int v3)] [] u := by
  rw [wj_X12_goesFor_81] at h
  refine a_iinc C (v3 + 1) 3 [(3, .int (v3 + 1)), (0, .ref (eA V 48)), (1, .int v1), (2, .int v2)] dX12_goesFor_81 rfl (congrArg (fun z => v3 + z) (show Int32.ofInt 1 = 1 by decide)) (by decide) rfl ?_
  refine a_goto C 6 dX12_goesFor_84 (by decide) ?_
  refine a_sub [1, 2, 3, 0] rfl ?_
  exact hk6 _ _ _ _ h
set_option maxHeartbeats 4000000 in
set_option maxRecDepth 100000 in
theorem tj_X12_goesFor_76 {p : Program} {l : Launch} {e : Env} {s : State} {m : MethodId} {args : Array Value} {below : List Frame} {meth : Method} {c : Code} {V : VEn} {k6 : Int32 → Int32 → Int32 → PoS → Prop} {post : Int32 → PoS → Prop} (C : CxS p s m args meth c V cX12_goesFor 5 RX12 (some .int)) (hk6 : ∀ (v1 : Int32) (v2 : Int32) (v3 : Int32) (u : PoS), k6 v1 v2 v3 u → AtS p l e (Rm 6) s m args below meth c V 5 0 0 (QI V below args s post) 6 [(0, .ref (eA V 48)), (1, .int v1), (2, .int v2), (3, .int v3)] [] u) (v3 : Int32) (v4 : Int32) (u : PoS) (h : wj_X12_goesFor_76 k6 post v3 v4 u) : AtS p l e (Rm 6) s m args below meth c V 5 0 0 (QI V below args s post) 76 [(0, .ref (eA V 48)), (3, .int v3), (4, .int v4)] [] u := by
  rw [wj_X12_goesFor_76] at h
  refine a_iload C 2 dX12_goesFor_76 rfl ?_
  refine a_istore_n C [(2, .int v4), (0, .ref (eA V 48)), (3, .int v3), (4, .int v4)] dX12_goesFor_78 rfl (by decide) rfl ?_
  refine a_iload_n C 2 dX12_goesFor_79 rfl rfl ?_
  refine a_istore_n C [(1, .int v3), (2, .int v4), (0, .ref (eA V 48)), (3, .int v3), (4, .int v4)] dX12_goesFor_80 rfl (by decide) rfl ?_
  refine a_sub [2, 0, 1, 3] rfl ?_
  refine tj_X12_goesFor_81 C hk6 _ _ _ _ h
set_option maxHeartbeats 4000000 in
set_option maxRecDepth 100000 in
theorem tl_X12_goesFor_6 {p : Program} {l : Launch} {e : Env} {s : State} {m : MethodId} {args : Array Value} {below : List Frame} {meth : Method} {c : Code} {V : VEn} {post : Int32 → PoS → Prop} (C : CxS p s m args meth c V cX12_goesFor 5 RX12 (some .int)) : ∀ (n : Nat) (v1 : Int32) (v2 : Int32) (v3 : Int32) (u : PoS), wl_X12_goesFor_6 post n v1 v2 v3 u → AtS p l e (Rm 6) s m args below meth c V 5 0 0 (QI V below args s post) 6 [(0, .ref (eA V 48)), (1, .int v1), (2, .int v2), (3, .int v3)] [] u := by
  intro n
  induction n with
  | zero => intro v1 v2 v3 u h; exact h.elim
  | succ n ih =>
    intro v1 v2 v3 u h
    rw [wl_X12_goesFor_6] at h
    refine a_iload_n C 3 dX12_goesFor_6 rfl rfl ?_
    refine a_aload_n C 0 dX12_goesFor_7 rfl rfl ?_
    refine a_getr C 0 (r := 49) dX12_goesFor_8 (by decide) rfl rfl rfl ib_12 (by decide) bw_1022 ?_
    refine a_iconst C 0 dX12_goesFor_11 (by decide) ?_
    refine b_iald C 0 dX12_goesFor_12 (by decide) rfl (vp_lit (by decide)) (by decide) ?_
    refine a_icmp_ge C 87 dX12_goesFor_13 (by decide) (fun c13 => ?_) (fun c13 => ?_)
    · have h := h.1 c13
      refine a_iload_n C 1 dX12_goesFor_87 rfl rfl ?_
      exact a_iret C dX12_goesFor_88 h
    · have h := h.2 c13
      refine a_aload_n C 0 dX12_goesFor_16 rfl rfl ?_
      refine a_iload_n C 3 dX12_goesFor_17 rfl rfl ?_
      refine a_iconst C 1 dX12_goesFor_18 (by decide) ?_
      refine a_callVi C dX12_goesFor_19 (m_X12_get l V h) bw_1158 bw_1160 bw_42 bw_123 bw_1161 (by decide) rfl rfl np_X12_get rfl rfl (by decide) (Nat.le_of_ble_eq_true rfl) ⟨Nat.zero_le _, Nat.zero_le _⟩ (fun r1 u2 h => ?_)
      refine a_if_eq C 81 dX12_goesFor_22 (by decide) (fun c12 => ?_) (fun c12 => ?_)
      · have h := h.1 c12
        refine tj_X12_goesFor_81 C ih _ _ _ _ h
      · have h := h.2 c12
        refine a_aload_n C 0 dX12_goesFor_25 rfl rfl ?_
        refine a_aload_n C 0 dX12_goesFor_26 rfl rfl ?_
        refine a_getr C 0 (r := 49) dX12_goesFor_27 (by decide) rfl rfl rfl ib_12 (by decide) bw_1022 ?_
        refine a_bipush C 7 dX12_goesFor_30 (by decide) ?_
        refine b_iald C 7 dX12_goesFor_32 (by decide) rfl (vp_lit (by decide)) (by decide) ?_
        refine a_aload_n C 0 dX12_goesFor_33 rfl rfl ?_
        refine a_iload_n C 3 dX12_goesFor_34 rfl rfl ?_
        refine a_iconst C 0 dX12_goesFor_35 (by decide) ?_
        refine a_callVi C dX12_goesFor_36 (m_X12_get l V h) bw_1158 bw_1160 bw_42 bw_123 bw_1161 (by decide) rfl rfl np_X12_get rfl rfl (by decide) (Nat.le_of_ble_eq_true rfl) ⟨Nat.zero_le _, Nat.zero_le _⟩ (fun r3 u4 h => ?_)
        refine a_callVi C dX12_goesFor_39 (m_X12_stepsOf l V h) bw_1391 bw_1393 bw_78 bw_123 bw_1394 (by decide) rfl rfl np_X12_stepsOf rfl rfl (by decide) (Nat.le_of_ble_eq_true rfl) ⟨Nat.zero_le _, Nat.zero_le _⟩ (fun r5 u6 h => ?_)
        refine a_iconst C (-1) dX12_goesFor_42 (by decide) ?_
        refine a_icmp_ne C 49 dX12_goesFor_43 (by decide) (fun c11 => ?_) (fun c11 => ?_)
        · have h := h.1 c11
          refine a_aload_n C 0 dX12_goesFor_49 rfl rfl ?_
          refine a_aload_n C 0 dX12_goesFor_50 rfl rfl ?_
          refine a_getr C 0 (r := 49) dX12_goesFor_51 (by decide) rfl rfl rfl ib_12 (by decide) bw_1022 ?_
          refine a_iconst C 2 dX12_goesFor_54 (by decide) ?_
          refine b_iald C 2 dX12_goesFor_55 (by decide) rfl (vp_lit (by decide)) (by decide) ?_
          refine a_iload_n C 3 dX12_goesFor_56 rfl rfl ?_
          refine a_callVi C dX12_goesFor_57 (m_X12_wantsOf l V h) bw_1409 bw_1411 bw_81 bw_123 bw_1412 (by decide) rfl rfl np_X12_wantsOf rfl rfl (by decide) (Nat.le_of_ble_eq_true rfl) ⟨Nat.zero_le _, Nat.zero_le _⟩ (fun r7 u8 h => ?_)
          refine a_istore C [(4, .int r7), (0, .ref (eA V 48)), (1, .int v1), (2, .int v2), (3, .int v3)] dX12_goesFor_60 (by decide) rfl ?_
          refine a_iload_n C 2 dX12_goesFor_62 rfl rfl ?_
          refine a_iconst C (-1) dX12_goesFor_63 (by decide) ?_
          refine a_icmp_eq C 76 dX12_goesFor_64 (by decide) (fun c10 => ?_) (fun c10 => ?_)
          · have h := h.1 c10
            refine a_sub [1, 4, 0] rfl ?_
            refine tj_X12_goesFor_76 C ih _ _ _ h
          · have h := h.2 c10
            refine a_iload C 0 dX12_goesFor_67 rfl ?_
            refine a_iload_n C 3 dX12_goesFor_69 rfl rfl ?_
            refine a_icmp_gt C 76 dX12_goesFor_70 (by decide) (fun c9 => ?_) (fun c9 => ?_)
            · have h := h.1 c9
              refine a_sub [1, 4, 0] rfl ?_
              refine tj_X12_goesFor_76 C ih _ _ _ h
            · have h := h.2 c9
              refine a_goto C 81 dX12_goesFor_73 (by decide) ?_
              refine a_sub [1, 2, 3, 4] rfl ?_
              refine tj_X12_goesFor_81 C ih _ _ _ _ h
        · have h := h.2 c11
          refine a_goto C 81 dX12_goesFor_46 (by decide) ?_
          refine tj_X12_goesFor_81 C ih _ _ _ _ h
theorem np_X12_goesFor : yX12_goesFor.cls ≠ "java/lang/invoke/MethodHandle" ∧ yX12_goesFor.cls ≠ "java/lang/invoke/VarHandle" ∧ (parseMethodDescriptor yX12_goesFor.desc).map (fun d => d.parameters.length) = some 0 := by decide +kernel
set_option maxHeartbeats 4000000 in
set_option maxRecDepth 100000 in
theorem m_X12_goesFor (l : Launch) (V : VEn) {u : PoS} {post : Int32 → PoS → Prop} (h : wp_X12_goesFor  u post) : KI l V yX12_goesFor cX12_goesFor 5 .int 6 [.ref (eA V 48)] u post := by
  refine KI_of (by decide) (Nat.le_of_ble_eq_true rfl) (lv := [(0, .ref (eA V 48))]) rfl ?_
  intro p e s m args below meth c C
  rw [wp_X12_goesFor] at h
  refine a_iconst C (-1) dX12_goesFor_0 (by decide) ?_
  refine a_istore_n C [(1, .int (-1)), (0, .ref (eA V 48))] dX12_goesFor_1 rfl (by decide) rfl ?_
  refine a_iconst C 0 dX12_goesFor_2 (by decide) ?_
  refine a_istore_n C [(2, .int 0), (1, .int (-1)), (0, .ref (eA V 48))] dX12_goesFor_3 rfl (by decide) rfl ?_
  refine a_iconst C 0 dX12_goesFor_4 (by decide) ?_
  refine a_istore_n C [(3, .int 0), (2, .int 0), (1, .int (-1)), (0, .ref (eA V 48))] dX12_goesFor_5 rfl (by decide) rfl ?_
  refine a_sub [3, 2, 1, 0] rfl ?_
  obtain ⟨n6, h⟩ := h
  refine tl_X12_goesFor_6 C n6 _ _ _ _ h

/-! RainOnTheOneModel.write(II)V -/
def wj_X12_write_67 (post : PoS → Prop) (v1 : Int32) (v2 : Int32) (u : PoS) : Prop := vp_in (3643 + (2 * (gI u 49 9))) 3703 ∧ wp_X12_get v1 0 (pI u 49 (Int32.toNatClampNeg (3643 + (2 * (gI u 49 9)))) (gI u 49 6)) (fun (r1 : Int32) (u2 : PoS) => vp_in ((3643 + (2 * (gI (pI u 49 (Int32.toNatClampNeg (3643 + (2 * (gI u 49 9)))) (gI u 49 6)) 49 9))) + 1) 3703 ∧ post (pI (pI u2 49 (Int32.toNatClampNeg ((3643 + (2 * (gI (pI u 49 (Int32.toNatClampNeg (3643 + (2 * (gI u 49 9)))) (gI u 49 6)) 49 9))) + 1)) ((((v1 * 30) + r1) * 100) + v2)) 49 9 ((gI (pI u2 49 (Int32.toNatClampNeg ((3643 + (2 * (gI (pI u 49 (Int32.toNatClampNeg (3643 + (2 * (gI u 49 9)))) (gI u 49 6)) 49 9))) + 1)) ((((v1 * 30) + r1) * 100) + v2)) 49 9) + 1)))
def wl_X12_write_22 (k56 : Int32 → Int32 → PoS → Prop) (post : PoS → Prop) : Nat → Int32 → Int32 → Int32 → PoS → Prop
  | 0, _, _, _, _ => False
  | n + 1, v1, v2, v3, u => ((60 ≤ v3 → k56 v1 v2 u) ∧ (¬ 60 ≤ v3 → vp_in (3643 + v3) 3703 ∧ vp_in ((3643 + v3) - 2) 3703 ∧ wl_X12_write_22 k56 post n v1 v2 (v3 + 1) (pI u 49 (Int32.toNatClampNeg ((3643 + v3) - 2)) (gI u 49 (Int32.toNatClampNeg (3643 + v3))))))
def wp_X12_write (a0 : Int32) (a1 : Int32) (u : PoS) (post : PoS → Prop) : Prop := ((¬ (gI u 48 24) = 0 → ((¬ (gI u 49 9) = 30 → wj_X12_write_67 post a0 a1 u) ∧ ((gI u 49 9) = 30 → (∃ n22, wl_X12_write_22 (fun (v14 : Int32) (v24 : Int32) (u4 : PoS) => wj_X12_write_67 post v14 v24 (pI u4 49 9 ((gI u4 49 9) - 1))) post n22 a0 a1 2 u)))) ∧ ((gI u 48 24) = 0 → post u))
set_option maxHeartbeats 4000000 in
set_option maxRecDepth 100000 in
theorem tj_X12_write_67 {p : Program} {l : Launch} {e : Env} {s : State} {m : MethodId} {args : Array Value} {below : List Frame} {meth : Method} {c : Code} {V : VEn} {post : PoS → Prop} (C : CxS p s m args meth c V cX12_write 4 RX12 none) (v1 : Int32) (v2 : Int32) (u : PoS) (h : wj_X12_write_67 post v1 v2 u) : AtS p l e (Rm 1) s m args below meth c V 4 0 0 (QV V below args s post) 67 [(0, .ref (eA V 48)), (1, .int v1), (2, .int v2)] [] u := by
  rw [wj_X12_write_67] at h
  refine a_aload_n C 0 dX12_write_67 rfl rfl ?_
  refine a_getr C 0 (r := 49) dX12_write_68 (by decide) rfl rfl rfl ib_12 (by decide) bw_1022 ?_
  refine a_sipush C 3643 dX12_write_71 (by decide) ?_
  refine a_iconst C 2 dX12_write_74 (by decide) ?_
  refine a_aload_n C 0 dX12_write_75 rfl rfl ?_
  refine a_getr C 0 (r := 49) dX12_write_76 (by decide) rfl rfl rfl ib_12 (by decide) bw_1022 ?_
  refine a_bipush C 9 dX12_write_79 (by decide) ?_
  refine b_iald C 9 dX12_write_81 (by decide) rfl (vp_lit (by decide)) (by decide) ?_
  refine a_imul C dX12_write_82 ?_
  refine a_iadd C dX12_write_83 ?_
  refine a_aload_n C 0 dX12_write_84 rfl rfl ?_
  refine a_getr C 0 (r := 49) dX12_write_85 (by decide) rfl rfl rfl ib_12 (by decide) bw_1022 ?_
  refine a_bipush C 6 dX12_write_88 (by decide) ?_
  refine b_iald C 6 dX12_write_90 (by decide) rfl (vp_lit (by decide)) (by decide) ?_
  refine b_iast C (Int32.toNatClampNeg (3643 + (2 * (gI u 49 9)))) dX12_write_91 (by decide) rfl h.1 rfl ?_
  have h := h.2
  refine a_aload_n C 0 dX12_write_92 rfl rfl ?_
  refine a_getr C 0 (r := 49) dX12_write_93 (by decide) rfl rfl rfl ib_12 (by decide) bw_1022 ?_
  refine a_sipush C 3643 dX12_write_96 (by decide) ?_
  refine a_iconst C 2 dX12_write_99 (by decide) ?_
  refine a_aload_n C 0 dX12_write_100 rfl rfl ?_
  refine a_getr C 0 (r := 49) dX12_write_101 (by decide) rfl rfl rfl ib_12 (by decide) bw_1022 ?_
  refine a_bipush C 9 dX12_write_104 (by decide) ?_
  refine b_iald C 9 dX12_write_106 (by decide) rfl (vp_lit (by decide)) (by decide) ?_
  refine a_imul C dX12_write_107 ?_
  refine a_iadd C dX12_write_108 ?_
  refine a_iconst C 1 dX12_write_109 (by decide) ?_
  refine a_iadd C dX12_write_110 ?_
  refine a_iload_n C 1 dX12_write_111 rfl rfl ?_
  refine a_bipush C 30 dX12_write_112 (by decide) ?_
  refine a_imul C dX12_write_114 ?_
  refine a_aload_n C 0 dX12_write_115 rfl rfl ?_
  refine a_iload_n C 1 dX12_write_116 rfl rfl ?_
  refine a_iconst C 0 dX12_write_117 (by decide) ?_
  refine a_callVi C dX12_write_118 (m_X12_get l V h) bw_1158 bw_1160 bw_42 bw_123 bw_1161 (by decide) rfl rfl np_X12_get rfl rfl (by decide) (Nat.le_of_ble_eq_true rfl) ⟨Nat.zero_le _, Nat.zero_le _⟩ (fun r1 u2 h => ?_)
  refine a_iadd C dX12_write_121 ?_
  refine a_bipush C 100 dX12_write_122 (by decide) ?_
  refine a_imul C dX12_write_124 ?_
  refine a_iload_n C 2 dX12_write_125 rfl rfl ?_
  refine a_iadd C dX12_write_126 ?_
  refine b_iast C (Int32.toNatClampNeg ((3643 + (2 * (gI (pI u 49 (Int32.toNatClampNeg (3643 + (2 * (gI u 49 9)))) (gI u 49 6)) 49 9))) + 1)) dX12_write_127 (by decide) rfl h.1 rfl ?_
  have h := h.2
  refine a_aload_n C 0 dX12_write_128 rfl rfl ?_
  refine a_getr C 0 (r := 49) dX12_write_129 (by decide) rfl rfl rfl ib_12 (by decide) bw_1022 ?_
  refine a_bipush C 9 dX12_write_132 (by decide) ?_
  refine a_dup2 C dX12_write_134 rfl rfl ?_
  refine b_iald C 9 dX12_write_135 (by decide) rfl (vp_lit (by decide)) (by decide) ?_
  refine a_iconst C 1 dX12_write_136 (by decide) ?_
  refine a_iadd C dX12_write_137 ?_
  refine b_iast C 9 dX12_write_138 (by decide) rfl (vp_lit (by decide)) (by decide) ?_
  exact a_vret C dX12_write_139 h
set_option maxHeartbeats 4000000 in
set_option maxRecDepth 100000 in
theorem tl_X12_write_22 {p : Program} {l : Launch} {e : Env} {s : State} {m : MethodId} {args : Array Value} {below : List Frame} {meth : Method} {c : Code} {V : VEn} {k56 : Int32 → Int32 → PoS → Prop} {post : PoS → Prop} (C : CxS p s m args meth c V cX12_write 4 RX12 none) (hk56 : ∀ (v1 : Int32) (v2 : Int32) (u : PoS), k56 v1 v2 u → AtS p l e (Rm 1) s m args below meth c V 4 0 0 (QV V below args s post) 56 [(0, .ref (eA V 48)), (1, .int v1), (2, .int v2)] [] u) : ∀ (n : Nat) (v1 : Int32) (v2 : Int32) (v3 : Int32) (u : PoS), wl_X12_write_22 k56 post n v1 v2 v3 u → AtS p l e (Rm 1) s m args below meth c V 4 0 0 (QV V below args s post) 22 [(0, .ref (eA V 48)), (1, .int v1), (2, .int v2), (3, .int v3)] [] u := by
  intro n
  induction n with
  | zero => intro v1 v2 v3 u h; exact h.elim
  | succ n ih =>
    intro v1 v2 v3 u h
    rw [wl_X12_write_22] at h
    refine a_iload_n C 3 dX12_write_22 rfl rfl ?_
    refine a_bipush C 60 dX12_write_23 (by decide) ?_
    refine a_icmp_ge C 56 dX12_write_25 (by decide) (fun c3 => ?_) (fun c3 => ?_)
    · have h := h.1 c3
      refine a_sub [0, 1, 2] rfl ?_
      exact hk56 _ _ _ h
    · have h := h.2 c3
      refine a_aload_n C 0 dX12_write_28 rfl rfl ?_
      refine a_getr C 0 (r := 49) dX12_write_29 (by decide) rfl rfl rfl ib_12 (by decide) bw_1022 ?_
      refine a_sipush C 3643 dX12_write_32 (by decide) ?_
      refine a_iload_n C 3 dX12_write_35 rfl rfl ?_
      refine a_iadd C dX12_write_36 ?_
      refine a_iconst C 2 dX12_write_37 (by decide) ?_
      refine a_isub C dX12_write_38 ?_
      refine a_aload_n C 0 dX12_write_39 rfl rfl ?_
      refine a_getr C 0 (r := 49) dX12_write_40 (by decide) rfl rfl rfl ib_12 (by decide) bw_1022 ?_
      refine a_sipush C 3643 dX12_write_43 (by decide) ?_
      refine a_iload_n C 3 dX12_write_46 rfl rfl ?_
      refine a_iadd C dX12_write_47 ?_
      refine b_iald C (Int32.toNatClampNeg (3643 + v3)) dX12_write_48 (by decide) rfl h.1 rfl ?_
      have h := h.2
      refine b_iast C (Int32.toNatClampNeg ((3643 + v3) - 2)) dX12_write_49 (by decide) rfl h.1 rfl ?_
      have h := h.2
      refine a_iinc C (v3 + 1) 3 [(3, .int (v3 + 1)), (0, .ref (eA V 48)), (1, .int v1), (2, .int v2)] dX12_write_50 rfl (congrArg (fun z => v3 + z) (show Int32.ofInt 1 = 1 by decide)) (by decide) rfl ?_
      refine a_goto C 22 dX12_write_53 (by decide) ?_
      refine a_sub [1, 2, 3, 0] rfl ?_
      exact ih _ _ _ _ h
theorem np_X12_write : yX12_write.cls ≠ "java/lang/invoke/MethodHandle" ∧ yX12_write.cls ≠ "java/lang/invoke/VarHandle" ∧ (parseMethodDescriptor yX12_write.desc).map (fun d => d.parameters.length) = some 2 := by decide +kernel
set_option maxHeartbeats 4000000 in
set_option maxRecDepth 100000 in
theorem m_X12_write (l : Launch) (V : VEn) {a0 : Int32} {a1 : Int32} {u : PoS} {post : PoS → Prop} (h : wp_X12_write a0 a1 u post) : KV l V yX12_write cX12_write 4 1 [.ref (eA V 48), .int a0, .int a1] u post := by
  refine KV_of (by decide) (Nat.le_of_ble_eq_true rfl) (lv := [(0, .ref (eA V 48)), (1, .int a0), (2, .int a1)]) rfl ?_
  intro p e s m args below meth c C
  rw [wp_X12_write] at h
  refine a_aload_n C 0 dX12_write_0 rfl rfl ?_
  refine a_geti C 24 dX12_write_1 (by decide) rfl rfl rfl ib_12 (by decide) bw_1046 ?_
  refine a_if_ne C 8 dX12_write_4 (by decide) (fun c6 => ?_) (fun c6 => ?_)
  · have h := h.1 c6
    refine a_aload_n C 0 dX12_write_8 rfl rfl ?_
    refine a_getr C 0 (r := 49) dX12_write_9 (by decide) rfl rfl rfl ib_12 (by decide) bw_1022 ?_
    refine a_bipush C 9 dX12_write_12 (by decide) ?_
    refine b_iald C 9 dX12_write_14 (by decide) rfl (vp_lit (by decide)) (by decide) ?_
    refine a_bipush C 30 dX12_write_15 (by decide) ?_
    refine a_icmp_ne C 67 dX12_write_17 (by decide) (fun c5 => ?_) (fun c5 => ?_)
    · have h := h.1 c5
      refine tj_X12_write_67 C _ _ _ h
    · have h := h.2 c5
      refine a_iconst C 2 dX12_write_20 (by decide) ?_
      refine a_istore_n C [(3, .int 2), (0, .ref (eA V 48)), (1, .int a0), (2, .int a1)] dX12_write_21 rfl (by decide) rfl ?_
      refine a_sub [1, 2, 3, 0] rfl ?_
      obtain ⟨n22, h⟩ := h
      refine tl_X12_write_22 C (fun v14 v24 u4 h => ?_) n22 _ _ _ _ h
      refine a_aload_n C 0 dX12_write_56 rfl rfl ?_
      refine a_getr C 0 (r := 49) dX12_write_57 (by decide) rfl rfl rfl ib_12 (by decide) bw_1022 ?_
      refine a_bipush C 9 dX12_write_60 (by decide) ?_
      refine a_dup2 C dX12_write_62 rfl rfl ?_
      refine b_iald C 9 dX12_write_63 (by decide) rfl (vp_lit (by decide)) (by decide) ?_
      refine a_iconst C 1 dX12_write_64 (by decide) ?_
      refine a_isub C dX12_write_65 ?_
      refine b_iast C 9 dX12_write_66 (by decide) rfl (vp_lit (by decide)) (by decide) ?_
      refine tj_X12_write_67 C _ _ _ h
  · have h := h.2 c6
    exact a_vret C dX12_write_7 h

/-! RainOnTheOneModel.anew()V -/
def wp_X12_anew (u : PoS) (post : PoS → Prop) : Prop := post (pI u 49 8 (Int64.toInt32 (lrem (((Int32.toInt64 (gI u 49 8)) * 487) + 373) 30671)))
theorem np_X12_anew : yX12_anew.cls ≠ "java/lang/invoke/MethodHandle" ∧ yX12_anew.cls ≠ "java/lang/invoke/VarHandle" ∧ (parseMethodDescriptor yX12_anew.desc).map (fun d => d.parameters.length) = some 0 := by decide +kernel
set_option maxHeartbeats 4000000 in
set_option maxRecDepth 100000 in
theorem m_X12_anew (l : Launch) (V : VEn) {u : PoS} {post : PoS → Prop} (h : wp_X12_anew  u post) : KV l V yX12_anew cX12_anew 1 0 [.ref (eA V 48)] u post := by
  refine KV_of (by decide) (Nat.le_of_ble_eq_true rfl) (lv := [(0, .ref (eA V 48))]) rfl ?_
  intro p e s m args below meth c C
  rw [wp_X12_anew] at h
  refine a_aload_n C 0 dX12_anew_0 rfl rfl ?_
  refine a_getr C 0 (r := 49) dX12_anew_1 (by decide) rfl rfl rfl ib_12 (by decide) bw_1022 ?_
  refine a_bipush C 8 dX12_anew_4 (by decide) ?_
  refine a_aload_n C 0 dX12_anew_6 rfl rfl ?_
  refine a_getr C 0 (r := 49) dX12_anew_7 (by decide) rfl rfl rfl ib_12 (by decide) bw_1022 ?_
  refine a_bipush C 8 dX12_anew_10 (by decide) ?_
  refine b_iald C 8 dX12_anew_12 (by decide) rfl (vp_lit (by decide)) (by decide) ?_
  refine a_i2l C dX12_anew_13 ?_
  refine a_ldc2 C dX12_anew_14 bw_1372 ?_
  refine a_lmul C dX12_anew_17 ?_
  refine a_ldc2 C dX12_anew_18 bw_1373 ?_
  refine a_ladd C dX12_anew_21 ?_
  refine a_ldc2 C dX12_anew_22 bw_1374 ?_
  refine b_lrem C dX12_anew_25 (by decide) ?_
  refine a_l2i C dX12_anew_26 ?_
  refine b_iast C 8 dX12_anew_27 (by decide) rfl (vp_lit (by decide)) (by decide) ?_
  exact a_vret C dX12_anew_28 h

/-! RainOnTheOneModel.drawnBy(I)I -/
def wp_X12_drawnBy (a0 : Int32) (u : PoS) (post : Int32 → PoS → Prop) : Prop := ¬ a0 = 0 ∧ ∀ x1 : Int32, x1 = (irem (gI u 49 8) a0) → wp_X12_anew u (fun (u3 : PoS) => post x1 u3)
theorem np_X12_drawnBy : yX12_drawnBy.cls ≠ "java/lang/invoke/MethodHandle" ∧ yX12_drawnBy.cls ≠ "java/lang/invoke/VarHandle" ∧ (parseMethodDescriptor yX12_drawnBy.desc).map (fun d => d.parameters.length) = some 1 := by decide +kernel
set_option maxHeartbeats 4000000 in
set_option maxRecDepth 100000 in
theorem m_X12_drawnBy (l : Launch) (V : VEn) {a0 : Int32} {u : PoS} {post : Int32 → PoS → Prop} (h : wp_X12_drawnBy a0 u post) : KI l V yX12_drawnBy cX12_drawnBy 3 .int 1 [.ref (eA V 48), .int a0] u post := by
  refine KI_of (by decide) (Nat.le_of_ble_eq_true rfl) (lv := [(0, .ref (eA V 48)), (1, .int a0)]) rfl ?_
  intro p e s m args below meth c C
  rw [wp_X12_drawnBy] at h
  refine a_aload_n C 0 dX12_drawnBy_0 rfl rfl ?_
  refine a_getr C 0 (r := 49) dX12_drawnBy_1 (by decide) rfl rfl rfl ib_12 (by decide) bw_1022 ?_
  refine a_bipush C 8 dX12_drawnBy_4 (by decide) ?_
  refine b_iald C 8 dX12_drawnBy_6 (by decide) rfl (vp_lit (by decide)) (by decide) ?_
  refine a_iload_n C 1 dX12_drawnBy_7 rfl rfl ?_
  refine b_irem C dX12_drawnBy_8 h.1 ?_
  have h := h.2
  refine a_topi (fun x1 ex1 => ?_)
  have h := h x1 ex1
  refine a_istore_n C [(2, .int x1), (0, .ref (eA V 48)), (1, .int a0)] dX12_drawnBy_9 rfl (by decide) rfl ?_
  refine a_aload_n C 1 dX12_drawnBy_10 rfl rfl ?_
  refine a_callVv C dX12_drawnBy_11 (m_X12_anew l V h) bw_1368 bw_1370 bw_74 bw_123 bw_1371 (by decide) rfl rfl np_X12_anew rfl rfl (by decide) (Nat.le_of_ble_eq_true rfl) ⟨Nat.zero_le _, Nat.zero_le _⟩ (fun u3 h => ?_)
  refine a_iload_n C 0 dX12_drawnBy_14 rfl rfl ?_
  exact a_iret C dX12_drawnBy_15 h

/-! RainOnTheOneModel.rain(I)V -/
def wp_X12_rain (a0 : Int32) (u : PoS) (post : PoS → Prop) : Prop := wp_X12_get a0 0 u (fun (r1 : Int32) (u2 : PoS) => wp_X12_poursOf a0 u2 (fun (r3 : Int32) (u4 : PoS) => vp_in (40 + r1) 3703 ∧ wp_X12_held (Int32.toInt64 r3) 0 (99 - (gI u4 49 (Int32.toNatClampNeg (40 + r1)))) u4 (fun (r5 : Int32) (u6 : PoS) => vp_in (40 + r1) 3703 ∧ vp_in (40 + r1) 3703 ∧ wp_X12_get a0 2 (pI u6 49 (Int32.toNatClampNeg (40 + r1)) ((gI u6 49 (Int32.toNatClampNeg (40 + r1))) + r5)) (fun (r7 : Int32) (u8 : PoS) => wp_X12_held (Int32.toInt64 (r7 + 3)) 0 99 u8 (fun (r9 : Int32) (u10 : PoS) => wp_X12_put a0 2 r9 u10 (fun (u12 : PoS) => wp_X12_get a0 3 u12 (fun (r13 : Int32) (u14 : PoS) => wp_X12_held (Int32.toInt64 (r13 + 1)) 0 999 u14 (fun (r15 : Int32) (u16 : PoS) => wp_X12_put a0 3 r15 u16 (fun (u18 : PoS) => wp_X12_write a0 r5 (pI u18 48 25 ((gI u18 48 25) + 1)) (fun (u20 : PoS) => post u20))))))))))
theorem np_X12_rain : yX12_rain.cls ≠ "java/lang/invoke/MethodHandle" ∧ yX12_rain.cls ≠ "java/lang/invoke/VarHandle" ∧ (parseMethodDescriptor yX12_rain.desc).map (fun d => d.parameters.length) = some 1 := by decide +kernel
set_option maxHeartbeats 4000000 in
set_option maxRecDepth 100000 in
theorem m_X12_rain (l : Launch) (V : VEn) {a0 : Int32} {u : PoS} {post : PoS → Prop} (h : wp_X12_rain a0 u post) : KV l V yX12_rain cX12_rain 4 5 [.ref (eA V 48), .int a0] u post := by
  refine KV_of (by decide) (Nat.le_of_ble_eq_true rfl) (lv := [(0, .ref (eA V 48)), (1, .int a0)]) rfl ?_
  intro p e s m args below meth c C
  rw [wp_X12_rain] at h
  refine a_aload_n C 0 dX12_rain_0 rfl rfl ?_
  refine a_iload_n C 1 dX12_rain_1 rfl rfl ?_
  refine a_iconst C 0 dX12_rain_2 (by decide) ?_
  refine a_callVi C dX12_rain_3 (m_X12_get l V h) bw_1158 bw_1160 bw_42 bw_123 bw_1161 (by decide) rfl rfl np_X12_get rfl rfl (by decide) (Nat.le_of_ble_eq_true rfl) ⟨Nat.zero_le _, Nat.zero_le _⟩ (fun r1 u2 h => ?_)
  refine a_istore_n C [(2, .int r1), (0, .ref (eA V 48)), (1, .int a0)] dX12_rain_6 rfl (by decide) rfl ?_
  refine a_aload_n C 1 dX12_rain_7 rfl rfl ?_
  refine a_iload_n C 2 dX12_rain_8 rfl rfl ?_
  refine a_callVi C dX12_rain_9 (m_X12_poursOf l V h) bw_1455 bw_1457 bw_87 bw_123 bw_1458 (by decide) rfl rfl np_X12_poursOf rfl rfl (by decide) (Nat.le_of_ble_eq_true rfl) ⟨Nat.zero_le _, Nat.zero_le _⟩ (fun r3 u4 h => ?_)
  refine a_i2l C dX12_rain_12 ?_
  refine a_iconst C 0 dX12_rain_13 (by decide) ?_
  refine a_bipush C 99 dX12_rain_14 (by decide) ?_
  refine a_aload_n C 1 dX12_rain_16 rfl rfl ?_
  refine a_getr C 0 (r := 49) dX12_rain_17 (by decide) rfl rfl rfl ib_12 (by decide) bw_1022 ?_
  refine a_bipush C 40 dX12_rain_20 (by decide) ?_
  refine a_iload_n C 0 dX12_rain_22 rfl rfl ?_
  refine a_iadd C dX12_rain_23 ?_
  refine b_iald C (Int32.toNatClampNeg (40 + r1)) dX12_rain_24 (by decide) rfl h.1 rfl ?_
  have h := h.2
  refine a_isub C dX12_rain_25 ?_
  refine a_callSi C dX12_rain_26 (m_X12_held l V h) bw_1448 bw_1449 bw_123 bw_1450 np_X12_held rfl rfl (by decide) (Nat.le_of_ble_eq_true rfl) ⟨Nat.zero_le _, Nat.zero_le _⟩ (fun r5 u6 h => ?_)
  refine a_istore_n C [(3, .int r5), (2, .int r1), (0, .ref (eA V 48)), (1, .int a0)] dX12_rain_29 rfl (by decide) rfl ?_
  refine a_aload_n C 2 dX12_rain_30 rfl rfl ?_
  refine a_getr C 0 (r := 49) dX12_rain_31 (by decide) rfl rfl rfl ib_12 (by decide) bw_1022 ?_
  refine a_bipush C 40 dX12_rain_34 (by decide) ?_
  refine a_iload_n C 1 dX12_rain_36 rfl rfl ?_
  refine a_iadd C dX12_rain_37 ?_
  refine a_dup2 C dX12_rain_38 rfl rfl ?_
  refine b_iald C (Int32.toNatClampNeg (40 + r1)) dX12_rain_39 (by decide) rfl h.1 rfl ?_
  have h := h.2
  refine a_iload_n C 0 dX12_rain_40 rfl rfl ?_
  refine a_iadd C dX12_rain_41 ?_
  refine b_iast C (Int32.toNatClampNeg (40 + r1)) dX12_rain_42 (by decide) rfl h.1 rfl ?_
  have h := h.2
  refine a_aload_n C 2 dX12_rain_43 rfl rfl ?_
  refine a_iload_n C 3 dX12_rain_44 rfl rfl ?_
  refine a_iconst C 2 dX12_rain_45 (by decide) ?_
  refine a_aload_n C 2 dX12_rain_46 rfl rfl ?_
  refine a_iload_n C 3 dX12_rain_47 rfl rfl ?_
  refine a_iconst C 2 dX12_rain_48 (by decide) ?_
  refine a_callVi C dX12_rain_49 (m_X12_get l V h) bw_1158 bw_1160 bw_42 bw_123 bw_1161 (by decide) rfl rfl np_X12_get rfl rfl (by decide) (Nat.le_of_ble_eq_true rfl) ⟨Nat.zero_le _, Nat.zero_le _⟩ (fun r7 u8 h => ?_)
  refine a_iconst C 3 dX12_rain_52 (by decide) ?_
  refine a_iadd C dX12_rain_53 ?_
  refine a_i2l C dX12_rain_54 ?_
  refine a_iconst C 0 dX12_rain_55 (by decide) ?_
  refine a_bipush C 99 dX12_rain_56 (by decide) ?_
  refine a_callSi C dX12_rain_58 (m_X12_held l V h) bw_1448 bw_1449 bw_123 bw_1450 np_X12_held rfl rfl (by decide) (Nat.le_of_ble_eq_true rfl) ⟨Nat.zero_le _, Nat.zero_le _⟩ (fun r9 u10 h => ?_)
  refine a_callVv C dX12_rain_61 (m_X12_put l V h) bw_1150 bw_1152 bw_40 bw_123 bw_1153 (by decide) rfl rfl np_X12_put rfl rfl (by decide) (Nat.le_of_ble_eq_true rfl) ⟨Nat.zero_le _, Nat.zero_le _⟩ (fun u12 h => ?_)
  refine a_aload_n C 2 dX12_rain_64 rfl rfl ?_
  refine a_iload_n C 3 dX12_rain_65 rfl rfl ?_
  refine a_iconst C 3 dX12_rain_66 (by decide) ?_
  refine a_aload_n C 2 dX12_rain_67 rfl rfl ?_
  refine a_iload_n C 3 dX12_rain_68 rfl rfl ?_
  refine a_iconst C 3 dX12_rain_69 (by decide) ?_
  refine a_callVi C dX12_rain_70 (m_X12_get l V h) bw_1158 bw_1160 bw_42 bw_123 bw_1161 (by decide) rfl rfl np_X12_get rfl rfl (by decide) (Nat.le_of_ble_eq_true rfl) ⟨Nat.zero_le _, Nat.zero_le _⟩ (fun r13 u14 h => ?_)
  refine a_iconst C 1 dX12_rain_73 (by decide) ?_
  refine a_iadd C dX12_rain_74 ?_
  refine a_i2l C dX12_rain_75 ?_
  refine a_iconst C 0 dX12_rain_76 (by decide) ?_
  refine a_sipush C 999 dX12_rain_77 (by decide) ?_
  refine a_callSi C dX12_rain_80 (m_X12_held l V h) bw_1448 bw_1449 bw_123 bw_1450 np_X12_held rfl rfl (by decide) (Nat.le_of_ble_eq_true rfl) ⟨Nat.zero_le _, Nat.zero_le _⟩ (fun r15 u16 h => ?_)
  refine a_callVv C dX12_rain_83 (m_X12_put l V h) bw_1150 bw_1152 bw_40 bw_123 bw_1153 (by decide) rfl rfl np_X12_put rfl rfl (by decide) (Nat.le_of_ble_eq_true rfl) ⟨Nat.zero_le _, Nat.zero_le _⟩ (fun u18 h => ?_)
  refine a_aload_n C 2 dX12_rain_86 rfl rfl ?_
  refine a_dup C dX12_rain_87 rfl ?_
  refine a_geti C 25 dX12_rain_88 (by decide) rfl rfl rfl ib_12 (by decide) bw_1047 ?_
  refine a_iconst C 1 dX12_rain_91 (by decide) ?_
  refine a_iadd C dX12_rain_92 ?_
  refine a_puti C (ty := .int) 25 dX12_rain_93 (by decide) rfl rfl rfl ib_12 (by decide) bw_1047 tyX12 tyX12_ok nmX12 rfl (by decide +kernel) rfl rfl ?_
  refine a_aload_n C 2 dX12_rain_96 rfl rfl ?_
  refine a_iload_n C 3 dX12_rain_97 rfl rfl ?_
  refine a_iload_n C 0 dX12_rain_98 rfl rfl ?_
  refine a_callVv C dX12_rain_99 (m_X12_write l V h) bw_1459 bw_1461 bw_88 bw_123 bw_1462 (by decide) rfl rfl np_X12_write rfl rfl (by decide) (Nat.le_of_ble_eq_true rfl) ⟨Nat.zero_le _, Nat.zero_le _⟩ (fun u20 h => ?_)
  exact a_vret C dX12_rain_102 h

/-! RainOnTheOneModel.nextTo(II)I -/
def wj_X12_nextTo_39 (k11 : Int32 → Int32 → PoS → Prop) (post : Int32 → PoS → Prop) (v1 : Int32) (v3 : Int32) (u : PoS) : Prop := k11 v1 (v3 + 1) u
def wl_X12_nextTo_11 (post : Int32 → PoS → Prop) : Nat → Int32 → Int32 → PoS → Prop
  | 0, _, _, _ => False
  | n + 1, v1, v3, u => wp_X12_beside v1 u (fun (r5 : Int32) (u6 : PoS) => wp_X12_has r5 v3 u6 (fun (r7 : Int32) (u8 : PoS) => ((r7 = 0 → wj_X12_nextTo_39 (wl_X12_nextTo_11 post n) post v1 v3 u8) ∧ (¬ r7 = 0 → vp_in v3 30 ∧ vp_in v1 30 ∧ (((gI u8 57 (Int32.toNatClampNeg v3)) = ((gI u8 57 (Int32.toNatClampNeg v1)) - 1) → post v3 u8) ∧ (¬ (gI u8 57 (Int32.toNatClampNeg v3)) = ((gI u8 57 (Int32.toNatClampNeg v1)) - 1) → wj_X12_nextTo_39 (wl_X12_nextTo_11 post n) post v1 v3 u8))))))
def wp_X12_nextTo (a0 : Int32) (a1 : Int32) (u : PoS) (post : Int32 → PoS → Prop) : Prop := wp_X12_free u (fun (r1 : Int32) (u2 : PoS) => wp_X12_layFar a1 r1 u2 (fun (u4 : PoS) => (∃ n11, wl_X12_nextTo_11 post n11 a0 0 u4)))
set_option maxHeartbeats 4000000 in
set_option maxRecDepth 100000 in
theorem tj_X12_nextTo_39 {p : Program} {l : Launch} {e : Env} {s : State} {m : MethodId} {args : Array Value} {below : List Frame} {meth : Method} {c : Code} {V : VEn} {k11 : Int32 → Int32 → PoS → Prop} {post : Int32 → PoS → Prop} (C : CxS p s m args meth c V cX12_nextTo 4 RX12 (some .int)) (hk11 : ∀ (v1 : Int32) (v3 : Int32) (u : PoS), k11 v1 v3 u → AtS p l e (Rm 4) s m args below meth c V 4 0 0 (QI V below args s post) 11 [(0, .ref (eA V 48)), (1, .int v1), (3, .int v3)] [] u) (v1 : Int32) (v3 : Int32) (u : PoS) (h : wj_X12_nextTo_39 k11 post v1 v3 u) : AtS p l e (Rm 4) s m args below meth c V 4 0 0 (QI V below args s post) 39 [(0, .ref (eA V 48)), (1, .int v1), (3, .int v3)] [] u := by
  rw [wj_X12_nextTo_39] at h
  refine a_iinc C (v3 + 1) 2 [(3, .int (v3 + 1)), (0, .ref (eA V 48)), (1, .int v1)] dX12_nextTo_39 rfl (congrArg (fun z => v3 + z) (show Int32.ofInt 1 = 1 by decide)) (by decide) rfl ?_
  refine a_goto C 11 dX12_nextTo_42 (by decide) ?_
  refine a_sub [1, 2, 0] rfl ?_
  exact hk11 _ _ _ h
set_option maxHeartbeats 4000000 in
set_option maxRecDepth 100000 in
theorem tl_X12_nextTo_11 {p : Program} {l : Launch} {e : Env} {s : State} {m : MethodId} {args : Array Value} {below : List Frame} {meth : Method} {c : Code} {V : VEn} {post : Int32 → PoS → Prop} (C : CxS p s m args meth c V cX12_nextTo 4 RX12 (some .int)) : ∀ (n : Nat) (v1 : Int32) (v3 : Int32) (u : PoS), wl_X12_nextTo_11 post n v1 v3 u → AtS p l e (Rm 4) s m args below meth c V 4 0 0 (QI V below args s post) 11 [(0, .ref (eA V 48)), (1, .int v1), (3, .int v3)] [] u := by
  intro n
  induction n with
  | zero => intro v1 v3 u h; exact h.elim
  | succ n ih =>
    intro v1 v3 u h
    rw [wl_X12_nextTo_11] at h
    refine a_iload_n C 1 dX12_nextTo_11 rfl rfl ?_
    refine a_callSi C dX12_nextTo_12 (m_X12_beside l V h) bw_1346 bw_1347 bw_123 bw_1348 np_X12_beside rfl rfl (by decide) (Nat.le_of_ble_eq_true rfl) ⟨Nat.zero_le _, Nat.zero_le _⟩ (fun r5 u6 h => ?_)
    refine a_iload_n C 2 dX12_nextTo_15 rfl rfl ?_
    refine a_callSi C dX12_nextTo_16 (m_X12_has l V h) bw_1240 bw_1241 bw_123 bw_1242 np_X12_has rfl rfl (by decide) (Nat.le_of_ble_eq_true rfl) ⟨Nat.zero_le _, Nat.zero_le _⟩ (fun r7 u8 h => ?_)
    refine a_if_eq C 39 dX12_nextTo_19 (by decide) (fun c10 => ?_) (fun c10 => ?_)
    · have h := h.1 c10
      refine tj_X12_nextTo_39 C ih _ _ _ h
    · have h := h.2 c10
      refine a_aload_n C 0 dX12_nextTo_22 rfl rfl ?_
      refine a_getr C 23 (r := 57) dX12_nextTo_23 (by decide) rfl rfl rfl ib_12 (by decide) bw_1045 ?_
      refine a_iload_n C 2 dX12_nextTo_26 rfl rfl ?_
      refine b_iald C (Int32.toNatClampNeg v3) dX12_nextTo_27 (by decide) rfl h.1 rfl ?_
      have h := h.2
      refine a_aload_n C 0 dX12_nextTo_28 rfl rfl ?_
      refine a_getr C 23 (r := 57) dX12_nextTo_29 (by decide) rfl rfl rfl ib_12 (by decide) bw_1045 ?_
      refine a_iload_n C 1 dX12_nextTo_32 rfl rfl ?_
      refine b_iald C (Int32.toNatClampNeg v1) dX12_nextTo_33 (by decide) rfl h.1 rfl ?_
      have h := h.2
      refine a_iconst C 1 dX12_nextTo_34 (by decide) ?_
      refine a_isub C dX12_nextTo_35 ?_
      refine a_icmp_eq C 45 dX12_nextTo_36 (by decide) (fun c9 => ?_) (fun c9 => ?_)
      · have h := h.1 c9
        refine a_iload_n C 2 dX12_nextTo_45 rfl rfl ?_
        exact a_iret C dX12_nextTo_46 h
      · have h := h.2 c9
        refine tj_X12_nextTo_39 C ih _ _ _ h
theorem np_X12_nextTo : yX12_nextTo.cls ≠ "java/lang/invoke/MethodHandle" ∧ yX12_nextTo.cls ≠ "java/lang/invoke/VarHandle" ∧ (parseMethodDescriptor yX12_nextTo.desc).map (fun d => d.parameters.length) = some 2 := by decide +kernel
set_option maxHeartbeats 4000000 in
set_option maxRecDepth 100000 in
theorem m_X12_nextTo (l : Launch) (V : VEn) {a0 : Int32} {a1 : Int32} {u : PoS} {post : Int32 → PoS → Prop} (h : wp_X12_nextTo a0 a1 u post) : KI l V yX12_nextTo cX12_nextTo 4 .int 4 [.ref (eA V 48), .int a0, .int a1] u post := by
  refine KI_of (by decide) (Nat.le_of_ble_eq_true rfl) (lv := [(0, .ref (eA V 48)), (1, .int a0), (2, .int a1)]) rfl ?_
  intro p e s m args below meth c C
  rw [wp_X12_nextTo] at h
  refine a_aload_n C 0 dX12_nextTo_0 rfl rfl ?_
  refine a_iload_n C 2 dX12_nextTo_1 rfl rfl ?_
  refine a_aload_n C 0 dX12_nextTo_2 rfl rfl ?_
  refine a_callVi C dX12_nextTo_3 (m_X12_free l V h) bw_1395 bw_1397 bw_79 bw_123 bw_1398 (by decide) rfl rfl np_X12_free rfl rfl (by decide) (Nat.le_of_ble_eq_true rfl) ⟨Nat.zero_le _, Nat.zero_le _⟩ (fun r1 u2 h => ?_)
  refine a_callVv C dX12_nextTo_6 (m_X12_layFar l V h) bw_1399 bw_1401 bw_80 bw_123 bw_1402 (by decide) rfl rfl np_X12_layFar rfl rfl (by decide) (Nat.le_of_ble_eq_true rfl) ⟨Nat.zero_le _, Nat.zero_le _⟩ (fun u4 h => ?_)
  refine a_iconst C 0 dX12_nextTo_9 (by decide) ?_
  refine a_istore_n C [(3, .int 0), (0, .ref (eA V 48)), (1, .int a0), (2, .int a1)] dX12_nextTo_10 rfl (by decide) rfl ?_
  refine a_sub [1, 2, 0] rfl ?_
  obtain ⟨n11, h⟩ := h
  refine tl_X12_nextTo_11 C n11 _ _ _ h

/-! RainOnTheOneModel.goOn(I)V -/
def wp_X12_goOn (a0 : Int32) (u : PoS) (post : PoS → Prop) : Prop := ((a0 = (-1) → wp_X12_drawnBy 4 u (fun (r1 : Int32) (u2 : PoS) => wp_X12_sideOf (gI u 49 7) r1 u2 (fun (r3 : Int32) (u4 : PoS) => wp_X12_isFree r3 u4 (fun (r5 : Int32) (u6 : PoS) => ((r5 = 0 → post u6) ∧ (¬ r5 = 0 → post (pI u6 49 7 r3))))))) ∧ (¬ a0 = (-1) → wp_X12_get a0 0 u (fun (r8 : Int32) (u9 : PoS) => wp_X12_nextTo (gI u 49 7) r8 u9 (fun (r10 : Int32) (u11 : PoS) => post (pI u11 49 7 r10)))))
theorem np_X12_goOn : yX12_goOn.cls ≠ "java/lang/invoke/MethodHandle" ∧ yX12_goOn.cls ≠ "java/lang/invoke/VarHandle" ∧ (parseMethodDescriptor yX12_goOn.desc).map (fun d => d.parameters.length) = some 1 := by decide +kernel
set_option maxHeartbeats 4000000 in
set_option maxRecDepth 100000 in
theorem m_X12_goOn (l : Launch) (V : VEn) {a0 : Int32} {u : PoS} {post : PoS → Prop} (h : wp_X12_goOn a0 u post) : KV l V yX12_goOn cX12_goOn 3 5 [.ref (eA V 48), .int a0] u post := by
  refine KV_of (by decide) (Nat.le_of_ble_eq_true rfl) (lv := [(0, .ref (eA V 48)), (1, .int a0)]) rfl ?_
  intro p e s m args below meth c C
  rw [wp_X12_goOn] at h
  refine a_iload_n C 1 dX12_goOn_0 rfl rfl ?_
  refine a_iconst C (-1) dX12_goOn_1 (by decide) ?_
  refine a_icmp_eq C 30 dX12_goOn_2 (by decide) (fun c12 => ?_) (fun c12 => ?_)
  · have h := h.1 c12
    refine a_aload_n C 0 dX12_goOn_30 rfl rfl ?_
    refine a_getr C 0 (r := 49) dX12_goOn_31 (by decide) rfl rfl rfl ib_12 (by decide) bw_1022 ?_
    refine a_bipush C 7 dX12_goOn_34 (by decide) ?_
    refine b_iald C 7 dX12_goOn_36 (by decide) rfl (vp_lit (by decide)) (by decide) ?_
    refine a_aload_n C 0 dX12_goOn_37 rfl rfl ?_
    refine a_iconst C 4 dX12_goOn_38 (by decide) ?_
    refine a_callVi C dX12_goOn_39 (m_X12_drawnBy l V h) bw_1364 bw_1366 bw_73 bw_123 bw_1367 (by decide) rfl rfl np_X12_drawnBy rfl rfl (by decide) (Nat.le_of_ble_eq_true rfl) ⟨Nat.zero_le _, Nat.zero_le _⟩ (fun r1 u2 h => ?_)
    refine a_callSi C dX12_goOn_42 (m_X12_sideOf l V h) bw_1349 bw_1350 bw_123 bw_1351 np_X12_sideOf rfl rfl (by decide) (Nat.le_of_ble_eq_true rfl) ⟨Nat.zero_le _, Nat.zero_le _⟩ (fun r3 u4 h => ?_)
    refine a_istore_n C [(2, .int r3), (0, .ref (eA V 48)), (1, .int a0)] dX12_goOn_45 rfl (by decide) rfl ?_
    refine a_aload_n C 1 dX12_goOn_46 rfl rfl ?_
    refine a_iload_n C 0 dX12_goOn_47 rfl rfl ?_
    refine a_callVi C dX12_goOn_48 (m_X12_isFree l V h) bw_1140 bw_1142 bw_39 bw_123 bw_1143 (by decide) rfl rfl np_X12_isFree rfl rfl (by decide) (Nat.le_of_ble_eq_true rfl) ⟨Nat.zero_le _, Nat.zero_le _⟩ (fun r5 u6 h => ?_)
    refine a_if_eq C 62 dX12_goOn_51 (by decide) (fun c7 => ?_) (fun c7 => ?_)
    · have h := h.1 c7
      exact a_vret C dX12_goOn_62 h
    · have h := h.2 c7
      refine a_aload_n C 1 dX12_goOn_54 rfl rfl ?_
      refine a_getr C 0 (r := 49) dX12_goOn_55 (by decide) rfl rfl rfl ib_12 (by decide) bw_1022 ?_
      refine a_bipush C 7 dX12_goOn_58 (by decide) ?_
      refine a_iload_n C 0 dX12_goOn_60 rfl rfl ?_
      refine b_iast C 7 dX12_goOn_61 (by decide) rfl (vp_lit (by decide)) (by decide) ?_
      exact a_vret C dX12_goOn_62 h
  · have h := h.2 c12
    refine a_aload_n C 0 dX12_goOn_5 rfl rfl ?_
    refine a_getr C 0 (r := 49) dX12_goOn_6 (by decide) rfl rfl rfl ib_12 (by decide) bw_1022 ?_
    refine a_bipush C 7 dX12_goOn_9 (by decide) ?_
    refine a_aload_n C 0 dX12_goOn_11 rfl rfl ?_
    refine a_aload_n C 0 dX12_goOn_12 rfl rfl ?_
    refine a_getr C 0 (r := 49) dX12_goOn_13 (by decide) rfl rfl rfl ib_12 (by decide) bw_1022 ?_
    refine a_bipush C 7 dX12_goOn_16 (by decide) ?_
    refine b_iald C 7 dX12_goOn_18 (by decide) rfl (vp_lit (by decide)) (by decide) ?_
    refine a_aload_n C 0 dX12_goOn_19 rfl rfl ?_
    refine a_iload_n C 1 dX12_goOn_20 rfl rfl ?_
    refine a_iconst C 0 dX12_goOn_21 (by decide) ?_
    refine a_callVi C dX12_goOn_22 (m_X12_get l V h) bw_1158 bw_1160 bw_42 bw_123 bw_1161 (by decide) rfl rfl np_X12_get rfl rfl (by decide) (Nat.le_of_ble_eq_true rfl) ⟨Nat.zero_le _, Nat.zero_le _⟩ (fun r8 u9 h => ?_)
    refine a_callVi C dX12_goOn_25 (m_X12_nextTo l V h) bw_1467 bw_1469 bw_90 bw_123 bw_1470 (by decide) rfl rfl np_X12_nextTo rfl rfl (by decide) (Nat.le_of_ble_eq_true rfl) ⟨Nat.zero_le _, Nat.zero_le _⟩ (fun r10 u11 h => ?_)
    refine b_iast C 7 dX12_goOn_28 (by decide) rfl (vp_lit (by decide)) (by decide) ?_
    exact a_vret C dX12_goOn_29 h

/-! RainOnTheOneModel.pass()V -/
def wj_X12_pass_91 (k51 : Int32 → Int32 → Int32 → PoS → Prop) (post : PoS → Prop) (v1 : Int32) (v2 : Int32) (v3 : Int32) (u : PoS) : Prop := k51 v1 v2 (v3 + 1) u
def wj_X12_pass_70 (k51 : Int32 → Int32 → Int32 → PoS → Prop) (post : PoS → Prop) (v1 : Int32) (v2 : Int32) (v3 : Int32) (u : PoS) : Prop := wp_X12_get v3 2 u (fun (r5 : Int32) (u6 : PoS) => wp_X12_held (Int32.toInt64 (r5 - 1)) 0 99 u6 (fun (r7 : Int32) (u8 : PoS) => wp_X12_put v3 2 r7 u8 (fun (u10 : PoS) => wj_X12_pass_91 k51 post v1 v2 v3 u10)))
def wl_X12_pass_51 (k97 : PoS → Prop) (post : PoS → Prop) : Nat → Int32 → Int32 → Int32 → PoS → Prop
  | 0, _, _, _, _ => False
  | n + 1, v1, v2, v3, u => (((gI u 49 0) ≤ v3 → k97  u) ∧ (¬ (gI u 49 0) ≤ v3 → ((v2 = 0 → wj_X12_pass_70 (wl_X12_pass_51 k97 post n) post v1 v2 v3 u) ∧ (¬ v2 = 0 → ((v3 = v1 → wj_X12_pass_91 (wl_X12_pass_51 k97 post n) post v1 v2 v3 u) ∧ (¬ v3 = v1 → wj_X12_pass_70 (wl_X12_pass_51 k97 post n) post v1 v2 v3 u))))))
def wj_X12_pass_49 (post : PoS → Prop) (v1 : Int32) (v2 : Int32) (u : PoS) : Prop := (∃ n51, wl_X12_pass_51 (fun (u14 : PoS) => post (pI u14 49 6 ((gI u14 49 6) + 1))) post n51 v1 v2 0 u)
def wj_X12_pass_31 (post : PoS → Prop) (v1 : Int32) (s0 : Int32) (u : PoS) : Prop := ((s0 = 0 → wp_X12_goOn v1 u (fun (u4 : PoS) => wj_X12_pass_49 post v1 s0 u4)) ∧ (¬ s0 = 0 → wp_X12_rain v1 u (fun (u16 : PoS) => wj_X12_pass_49 post v1 s0 u16)))
def wj_X12_pass_30 (post : PoS → Prop) (v1 : Int32) (u : PoS) : Prop := wj_X12_pass_31 post v1 0 u
def wp_X12_pass (u : PoS) (post : PoS → Prop) : Prop := wp_X12_goesFor u (fun (r1 : Int32) (u2 : PoS) => ((r1 = (-1) → wj_X12_pass_30 post r1 u2) ∧ (¬ r1 = (-1) → wp_X12_get r1 0 u2 (fun (r18 : Int32) (u19 : PoS) => ((¬ r18 = (gI u19 49 7) → wj_X12_pass_30 post r1 u19) ∧ (r18 = (gI u19 49 7) → wj_X12_pass_31 post r1 1 u19))))))
set_option maxHeartbeats 4000000 in
set_option maxRecDepth 100000 in
theorem tj_X12_pass_91 {p : Program} {l : Launch} {e : Env} {s : State} {m : MethodId} {args : Array Value} {below : List Frame} {meth : Method} {c : Code} {V : VEn} {k51 : Int32 → Int32 → Int32 → PoS → Prop} {post : PoS → Prop} (C : CxS p s m args meth c V cX12_pass 4 RX12 none) (hk51 : ∀ (v1 : Int32) (v2 : Int32) (v3 : Int32) (u : PoS), k51 v1 v2 v3 u → AtS p l e (Rm 7) s m args below meth c V 4 0 0 (QV V below args s post) 51 [(0, .ref (eA V 48)), (1, .int v1), (2, .int v2), (3, .int v3)] [] u) (v1 : Int32) (v2 : Int32) (v3 : Int32) (u : PoS) (h : wj_X12_pass_91 k51 post v1 v2 v3 u) : AtS p l e (Rm 7) s m args below meth c V 4 0 0 (QV V below args s post) 91 [(0, .ref (eA V 48)), (1, .int v1), (2, .int v2), (3, .int v3)] [] u := by
  rw [wj_X12_pass_91] at h
  refine a_iinc C (v3 + 1) 3 [(3, .int (v3 + 1)), (0, .ref (eA V 48)), (1, .int v1), (2, .int v2)] dX12_pass_91 rfl (congrArg (fun z => v3 + z) (show Int32.ofInt 1 = 1 by decide)) (by decide) rfl ?_
  refine a_goto C 51 dX12_pass_94 (by decide) ?_
  refine a_sub [1, 2, 3, 0] rfl ?_
  exact hk51 _ _ _ _ h
set_option maxHeartbeats 4000000 in
set_option maxRecDepth 100000 in
theorem tj_X12_pass_70 {p : Program} {l : Launch} {e : Env} {s : State} {m : MethodId} {args : Array Value} {below : List Frame} {meth : Method} {c : Code} {V : VEn} {k51 : Int32 → Int32 → Int32 → PoS → Prop} {post : PoS → Prop} (C : CxS p s m args meth c V cX12_pass 4 RX12 none) (hk51 : ∀ (v1 : Int32) (v2 : Int32) (v3 : Int32) (u : PoS), k51 v1 v2 v3 u → AtS p l e (Rm 7) s m args below meth c V 4 0 0 (QV V below args s post) 51 [(0, .ref (eA V 48)), (1, .int v1), (2, .int v2), (3, .int v3)] [] u) (v1 : Int32) (v2 : Int32) (v3 : Int32) (u : PoS) (h : wj_X12_pass_70 k51 post v1 v2 v3 u) : AtS p l e (Rm 7) s m args below meth c V 4 0 0 (QV V below args s post) 70 [(0, .ref (eA V 48)), (1, .int v1), (2, .int v2), (3, .int v3)] [] u := by
  rw [wj_X12_pass_70] at h
  refine a_aload_n C 0 dX12_pass_70 rfl rfl ?_
  refine a_iload_n C 3 dX12_pass_71 rfl rfl ?_
  refine a_iconst C 2 dX12_pass_72 (by decide) ?_
  refine a_aload_n C 0 dX12_pass_73 rfl rfl ?_
  refine a_iload_n C 3 dX12_pass_74 rfl rfl ?_
  refine a_iconst C 2 dX12_pass_75 (by decide) ?_
  refine a_callVi C dX12_pass_76 (m_X12_get l V h) bw_1158 bw_1160 bw_42 bw_123 bw_1161 (by decide) rfl rfl np_X12_get rfl rfl (by decide) (Nat.le_of_ble_eq_true rfl) ⟨Nat.zero_le _, Nat.zero_le _⟩ (fun r5 u6 h => ?_)
  refine a_iconst C 1 dX12_pass_79 (by decide) ?_
  refine a_isub C dX12_pass_80 ?_
  refine a_i2l C dX12_pass_81 ?_
  refine a_iconst C 0 dX12_pass_82 (by decide) ?_
  refine a_bipush C 99 dX12_pass_83 (by decide) ?_
  refine a_callSi C dX12_pass_85 (m_X12_held l V h) bw_1448 bw_1449 bw_123 bw_1450 np_X12_held rfl rfl (by decide) (Nat.le_of_ble_eq_true rfl) ⟨Nat.zero_le _, Nat.zero_le _⟩ (fun r7 u8 h => ?_)
  refine a_callVv C dX12_pass_88 (m_X12_put l V h) bw_1150 bw_1152 bw_40 bw_123 bw_1153 (by decide) rfl rfl np_X12_put rfl rfl (by decide) (Nat.le_of_ble_eq_true rfl) ⟨Nat.zero_le _, Nat.zero_le _⟩ (fun u10 h => ?_)
  refine tj_X12_pass_91 C hk51 _ _ _ _ h
set_option maxHeartbeats 4000000 in
set_option maxRecDepth 100000 in
theorem tl_X12_pass_51 {p : Program} {l : Launch} {e : Env} {s : State} {m : MethodId} {args : Array Value} {below : List Frame} {meth : Method} {c : Code} {V : VEn} {k97 : PoS → Prop} {post : PoS → Prop} (C : CxS p s m args meth c V cX12_pass 4 RX12 none) (hk97 : ∀ (u : PoS), k97  u → AtS p l e (Rm 7) s m args below meth c V 4 0 0 (QV V below args s post) 97 [(0, .ref (eA V 48))] [] u) : ∀ (n : Nat) (v1 : Int32) (v2 : Int32) (v3 : Int32) (u : PoS), wl_X12_pass_51 k97 post n v1 v2 v3 u → AtS p l e (Rm 7) s m args below meth c V 4 0 0 (QV V below args s post) 51 [(0, .ref (eA V 48)), (1, .int v1), (2, .int v2), (3, .int v3)] [] u := by
  intro n
  induction n with
  | zero => intro v1 v2 v3 u h; exact h.elim
  | succ n ih =>
    intro v1 v2 v3 u h
    rw [wl_X12_pass_51] at h
    refine a_iload_n C 3 dX12_pass_51 rfl rfl ?_
    refine a_aload_n C 0 dX12_pass_52 rfl rfl ?_
    refine a_getr C 0 (r := 49) dX12_pass_53 (by decide) rfl rfl rfl ib_12 (by decide) bw_1022 ?_
    refine a_iconst C 0 dX12_pass_56 (by decide) ?_
    refine b_iald C 0 dX12_pass_57 (by decide) rfl (vp_lit (by decide)) (by decide) ?_
    refine a_icmp_ge C 97 dX12_pass_58 (by decide) (fun c13 => ?_) (fun c13 => ?_)
    · have h := h.1 c13
      refine a_sub [0] rfl ?_
      exact hk97 _ h
    · have h := h.2 c13
      refine a_iload_n C 2 dX12_pass_61 rfl rfl ?_
      refine a_if_eq C 70 dX12_pass_62 (by decide) (fun c12 => ?_) (fun c12 => ?_)
      · have h := h.1 c12
        refine tj_X12_pass_70 C ih _ _ _ _ h
      · have h := h.2 c12
        refine a_iload_n C 3 dX12_pass_65 rfl rfl ?_
        refine a_iload_n C 1 dX12_pass_66 rfl rfl ?_
        refine a_icmp_eq C 91 dX12_pass_67 (by decide) (fun c11 => ?_) (fun c11 => ?_)
        · have h := h.1 c11
          refine tj_X12_pass_91 C ih _ _ _ _ h
        · have h := h.2 c11
          refine tj_X12_pass_70 C ih _ _ _ _ h
set_option maxHeartbeats 4000000 in
set_option maxRecDepth 100000 in
theorem tj_X12_pass_49 {p : Program} {l : Launch} {e : Env} {s : State} {m : MethodId} {args : Array Value} {below : List Frame} {meth : Method} {c : Code} {V : VEn} {post : PoS → Prop} (C : CxS p s m args meth c V cX12_pass 4 RX12 none) (v1 : Int32) (v2 : Int32) (u : PoS) (h : wj_X12_pass_49 post v1 v2 u) : AtS p l e (Rm 7) s m args below meth c V 4 0 0 (QV V below args s post) 49 [(0, .ref (eA V 48)), (1, .int v1), (2, .int v2)] [] u := by
  rw [wj_X12_pass_49] at h
  refine a_iconst C 0 dX12_pass_49 (by decide) ?_
  refine a_istore_n C [(3, .int 0), (0, .ref (eA V 48)), (1, .int v1), (2, .int v2)] dX12_pass_50 rfl (by decide) rfl ?_
  refine a_sub [1, 2, 3, 0] rfl ?_
  obtain ⟨n51, h⟩ := h
  refine tl_X12_pass_51 C (fun u14 h => ?_) n51 _ _ _ _ h
  refine a_aload_n C 0 dX12_pass_97 rfl rfl ?_
  refine a_getr C 0 (r := 49) dX12_pass_98 (by decide) rfl rfl rfl ib_12 (by decide) bw_1022 ?_
  refine a_bipush C 6 dX12_pass_101 (by decide) ?_
  refine a_dup2 C dX12_pass_103 rfl rfl ?_
  refine b_iald C 6 dX12_pass_104 (by decide) rfl (vp_lit (by decide)) (by decide) ?_
  refine a_iconst C 1 dX12_pass_105 (by decide) ?_
  refine a_iadd C dX12_pass_106 ?_
  refine b_iast C 6 dX12_pass_107 (by decide) rfl (vp_lit (by decide)) (by decide) ?_
  exact a_vret C dX12_pass_108 h
set_option maxHeartbeats 4000000 in
set_option maxRecDepth 100000 in
theorem tj_X12_pass_31 {p : Program} {l : Launch} {e : Env} {s : State} {m : MethodId} {args : Array Value} {below : List Frame} {meth : Method} {c : Code} {V : VEn} {post : PoS → Prop} (C : CxS p s m args meth c V cX12_pass 4 RX12 none) (v1 : Int32) (s0 : Int32) (u : PoS) (h : wj_X12_pass_31 post v1 s0 u) : AtS p l e (Rm 7) s m args below meth c V 4 0 0 (QV V below args s post) 31 [(0, .ref (eA V 48)), (1, .int v1)] [.int s0] u := by
  rw [wj_X12_pass_31] at h
  refine a_istore_n C [(2, .int s0), (0, .ref (eA V 48)), (1, .int v1)] dX12_pass_31 rfl (by decide) rfl ?_
  refine a_iload_n C 0 dX12_pass_32 rfl rfl ?_
  refine a_if_eq C 44 dX12_pass_33 (by decide) (fun c17 => ?_) (fun c17 => ?_)
  · have h := h.1 c17
    refine a_aload_n C 1 dX12_pass_44 rfl rfl ?_
    refine a_iload_n C 2 dX12_pass_45 rfl rfl ?_
    refine a_callVv C dX12_pass_46 (m_X12_goOn l V h) bw_1463 bw_1465 bw_89 bw_123 bw_1466 (by decide) rfl rfl np_X12_goOn rfl rfl (by decide) (Nat.le_of_ble_eq_true rfl) ⟨Nat.zero_le _, Nat.zero_le _⟩ (fun u4 h => ?_)
    refine a_sub [1, 2, 0] rfl ?_
    refine tj_X12_pass_49 C _ _ _ h
  · have h := h.2 c17
    refine a_aload_n C 1 dX12_pass_36 rfl rfl ?_
    refine a_iload_n C 2 dX12_pass_37 rfl rfl ?_
    refine a_callVv C dX12_pass_38 (m_X12_rain l V h) bw_1451 bw_1453 bw_86 bw_123 bw_1454 (by decide) rfl rfl np_X12_rain rfl rfl (by decide) (Nat.le_of_ble_eq_true rfl) ⟨Nat.zero_le _, Nat.zero_le _⟩ (fun u16 h => ?_)
    refine a_goto C 49 dX12_pass_41 (by decide) ?_
    refine a_sub [1, 2, 0] rfl ?_
    refine tj_X12_pass_49 C _ _ _ h
set_option maxHeartbeats 4000000 in
set_option maxRecDepth 100000 in
theorem tj_X12_pass_30 {p : Program} {l : Launch} {e : Env} {s : State} {m : MethodId} {args : Array Value} {below : List Frame} {meth : Method} {c : Code} {V : VEn} {post : PoS → Prop} (C : CxS p s m args meth c V cX12_pass 4 RX12 none) (v1 : Int32) (u : PoS) (h : wj_X12_pass_30 post v1 u) : AtS p l e (Rm 7) s m args below meth c V 4 0 0 (QV V below args s post) 30 [(0, .ref (eA V 48)), (1, .int v1)] [] u := by
  rw [wj_X12_pass_30] at h
  refine a_iconst C 0 dX12_pass_30 (by decide) ?_
  refine tj_X12_pass_31 C _ _ _ h
theorem np_X12_pass : yX12_pass.cls ≠ "java/lang/invoke/MethodHandle" ∧ yX12_pass.cls ≠ "java/lang/invoke/VarHandle" ∧ (parseMethodDescriptor yX12_pass.desc).map (fun d => d.parameters.length) = some 0 := by decide +kernel
set_option maxHeartbeats 4000000 in
set_option maxRecDepth 100000 in
theorem m_X12_pass (l : Launch) (V : VEn) {u : PoS} {post : PoS → Prop} (h : wp_X12_pass  u post) : KV l V yX12_pass cX12_pass 4 7 [.ref (eA V 48)] u post := by
  refine KV_of (by decide) (Nat.le_of_ble_eq_true rfl) (lv := [(0, .ref (eA V 48))]) rfl ?_
  intro p e s m args below meth c C
  rw [wp_X12_pass] at h
  refine a_aload_n C 0 dX12_pass_0 rfl rfl ?_
  refine a_callVi C dX12_pass_1 (m_X12_goesFor l V h) bw_1387 bw_1389 bw_77 bw_123 bw_1390 (by decide) rfl rfl np_X12_goesFor rfl rfl (by decide) (Nat.le_of_ble_eq_true rfl) ⟨Nat.zero_le _, Nat.zero_le _⟩ (fun r1 u2 h => ?_)
  refine a_istore_n C [(1, .int r1), (0, .ref (eA V 48))] dX12_pass_4 rfl (by decide) rfl ?_
  refine a_iload_n C 0 dX12_pass_5 rfl rfl ?_
  refine a_iconst C (-1) dX12_pass_6 (by decide) ?_
  refine a_icmp_eq C 30 dX12_pass_7 (by decide) (fun c21 => ?_) (fun c21 => ?_)
  · have h := h.1 c21
    refine a_sub [1, 0] rfl ?_
    refine tj_X12_pass_30 C _ _ h
  · have h := h.2 c21
    refine a_aload_n C 1 dX12_pass_10 rfl rfl ?_
    refine a_iload_n C 0 dX12_pass_11 rfl rfl ?_
    refine a_iconst C 0 dX12_pass_12 (by decide) ?_
    refine a_callVi C dX12_pass_13 (m_X12_get l V h) bw_1158 bw_1160 bw_42 bw_123 bw_1161 (by decide) rfl rfl np_X12_get rfl rfl (by decide) (Nat.le_of_ble_eq_true rfl) ⟨Nat.zero_le _, Nat.zero_le _⟩ (fun r18 u19 h => ?_)
    refine a_aload_n C 1 dX12_pass_16 rfl rfl ?_
    refine a_getr C 0 (r := 49) dX12_pass_17 (by decide) rfl rfl rfl ib_12 (by decide) bw_1022 ?_
    refine a_bipush C 7 dX12_pass_20 (by decide) ?_
    refine b_iald C 7 dX12_pass_22 (by decide) rfl (vp_lit (by decide)) (by decide) ?_
    refine a_icmp_ne C 30 dX12_pass_23 (by decide) (fun c20 => ?_) (fun c20 => ?_)
    · have h := h.1 c20
      refine a_sub [1, 0] rfl ?_
      refine tj_X12_pass_30 C _ _ h
    · have h := h.2 c20
      refine a_iconst C 1 dX12_pass_26 (by decide) ?_
      refine a_goto C 31 dX12_pass_27 (by decide) ?_
      refine a_sub [1, 0] rfl ?_
      refine tj_X12_pass_31 C _ _ _ h

/-! RainOnTheOneModel.keep()V -/
def wl_X12_keep_84 (k114 : Int32 → PoS → Prop) (post : PoS → Prop) : Nat → Int32 → Int32 → PoS → Prop
  | 0, _, _, _ => False
  | n + 1, v1, v2, u => ((4 ≤ v2 → k114 v1 u) ∧ (¬ 4 ≤ v2 → vp_in (6 + v2) 3703 ∧ vp_in ((v1 + 1) + v2) 3703 ∧ wl_X12_keep_84 k114 post n v1 (v2 + 1) (pI u 49 (Int32.toNatClampNeg ((v1 + 1) + v2)) (gI u 49 (Int32.toNatClampNeg (6 + v2))))))
def wl_X12_keep_123 (k154 : Int32 → Int32 → PoS → Prop) (post : PoS → Prop) : Nat → Int32 → Int32 → Int32 → PoS → Prop
  | 0, _, _, _, _ => False
  | n + 1, v1, v2, v3, u => ((4 ≤ v3 → k154 v1 v2 u) ∧ (¬ 4 ≤ v3 → wp_X12_get v2 v3 u (fun (r4 : Int32) (u5 : PoS) => vp_in (((v1 + 5) + (4 * v2)) + v3) 3703 ∧ wl_X12_keep_123 k154 post n v1 v2 (v3 + 1) (pI u5 49 (Int32.toNatClampNeg (((v1 + 5) + (4 * v2)) + v3)) r4))))
def wl_X12_keep_116 (k160 : Int32 → PoS → Prop) (post : PoS → Prop) : Nat → Int32 → Int32 → PoS → Prop
  | 0, _, _, _ => False
  | n + 1, v1, v2, u => ((5 ≤ v2 → k160 v1 u) ∧ (¬ 5 ≤ v2 → (∃ n123, wl_X12_keep_123 (fun (v17 : Int32) (v27 : Int32) (u7 : PoS) => wl_X12_keep_116 k160 post n v17 (v27 + 1) u7) post n123 v1 v2 0 u)))
def wl_X12_keep_162 (k194 : Int32 → PoS → Prop) (post : PoS → Prop) : Nat → Int32 → Int32 → PoS → Prop
  | 0, _, _, _ => False
  | n + 1, v1, v2, u => ((30 ≤ v2 → k194 v1 u) ∧ (¬ 30 ≤ v2 → vp_in (40 + v2) 3703 ∧ vp_in ((v1 + 25) + v2) 3703 ∧ wl_X12_keep_162 k194 post n v1 (v2 + 1) (pI u 49 (Int32.toNatClampNeg ((v1 + 25) + v2)) (gI u 49 (Int32.toNatClampNeg (40 + v2))))))
def wl_X12_keep_196 (k229 : PoS → Prop) (post : PoS → Prop) : Nat → Int32 → Int32 → PoS → Prop
  | 0, _, _, _ => False
  | n + 1, v1, v2, u => ((60 ≤ v2 → k229  u) ∧ (¬ 60 ≤ v2 → vp_in (3643 + v2) 3703 ∧ vp_in ((v1 + 55) + v2) 3703 ∧ wl_X12_keep_196 k229 post n v1 (v2 + 1) (pI u 49 (Int32.toNatClampNeg ((v1 + 55) + v2)) (gI u 49 (Int32.toNatClampNeg (3643 + v2))))))
def wj_X12_keep_56 (post : PoS → Prop) (u : PoS) : Prop := ∀ x1 : Int32, x1 = (193 + (115 * (gI u 49 3))) → vp_in x1 3703 ∧ (∃ n84, wl_X12_keep_84 (fun (v13 : Int32) (u3 : PoS) => (∃ n116, wl_X12_keep_116 (fun (v19 : Int32) (u9 : PoS) => (∃ n162, wl_X12_keep_162 (fun (v111 : Int32) (u11 : PoS) => (∃ n196, wl_X12_keep_196 (fun (u13 : PoS) => post (pI u13 49 3 ((gI u13 49 3) + 1))) post n196 v111 0 u11)) post n162 v19 0 u9)) post n116 v13 0 u3)) post n84 x1 0 (pI u 49 (Int32.toNatClampNeg x1) (gI u 49 0)))
def wl_X12_keep_13 (k46 : PoS → Prop) (post : PoS → Prop) : Nat → Int32 → PoS → Prop
  | 0, _, _ => False
  | n + 1, v1, u => ((3335 ≤ v1 → k46  u) ∧ (¬ 3335 ≤ v1 → vp_in (308 + v1) 3703 ∧ vp_in (193 + v1) 3703 ∧ wl_X12_keep_13 k46 post n (v1 + 1) (pI u 49 (Int32.toNatClampNeg (193 + v1)) (gI u 49 (Int32.toNatClampNeg (308 + v1))))))
def wp_X12_keep (u : PoS) (post : PoS → Prop) : Prop := ((¬ (gI u 49 3) = 30 → wj_X12_keep_56 post  u) ∧ ((gI u 49 3) = 30 → (∃ n13, wl_X12_keep_13 (fun (u15 : PoS) => wj_X12_keep_56 post  (pI u15 49 3 ((gI u15 49 3) - 1))) post n13 0 u)))
set_option maxHeartbeats 4000000 in
set_option maxRecDepth 100000 in
theorem tl_X12_keep_84 {p : Program} {l : Launch} {e : Env} {s : State} {m : MethodId} {args : Array Value} {below : List Frame} {meth : Method} {c : Code} {V : VEn} {k114 : Int32 → PoS → Prop} {post : PoS → Prop} (C : CxS p s m args meth c V cX12_keep 4 RX12 none) (hk114 : ∀ (v1 : Int32) (u : PoS), k114 v1 u → AtS p l e (Rm 1) s m args below meth c V 4 0 0 (QV V below args s post) 114 [(0, .ref (eA V 48)), (1, .int v1)] [] u) : ∀ (n : Nat) (v1 : Int32) (v2 : Int32) (u : PoS), wl_X12_keep_84 k114 post n v1 v2 u → AtS p l e (Rm 1) s m args below meth c V 4 0 0 (QV V below args s post) 84 [(0, .ref (eA V 48)), (1, .int v1), (2, .int v2)] [] u := by
  intro n
  induction n with
  | zero => intro v1 v2 u h; exact h.elim
  | succ n ih =>
    intro v1 v2 u h
    rw [wl_X12_keep_84] at h
    refine a_iload_n C 2 dX12_keep_84 rfl rfl ?_
    refine a_iconst C 4 dX12_keep_85 (by decide) ?_
    refine a_icmp_ge C 114 dX12_keep_86 (by decide) (fun c2 => ?_) (fun c2 => ?_)
    · have h := h.1 c2
      refine a_sub [0, 1] rfl ?_
      exact hk114 _ _ h
    · have h := h.2 c2
      refine a_aload_n C 0 dX12_keep_89 rfl rfl ?_
      refine a_getr C 0 (r := 49) dX12_keep_90 (by decide) rfl rfl rfl ib_12 (by decide) bw_1022 ?_
      refine a_iload_n C 1 dX12_keep_93 rfl rfl ?_
      refine a_iconst C 1 dX12_keep_94 (by decide) ?_
      refine a_iadd C dX12_keep_95 ?_
      refine a_iload_n C 2 dX12_keep_96 rfl rfl ?_
      refine a_iadd C dX12_keep_97 ?_
      refine a_aload_n C 0 dX12_keep_98 rfl rfl ?_
      refine a_getr C 0 (r := 49) dX12_keep_99 (by decide) rfl rfl rfl ib_12 (by decide) bw_1022 ?_
      refine a_bipush C 6 dX12_keep_102 (by decide) ?_
      refine a_iload_n C 2 dX12_keep_104 rfl rfl ?_
      refine a_iadd C dX12_keep_105 ?_
      refine b_iald C (Int32.toNatClampNeg (6 + v2)) dX12_keep_106 (by decide) rfl h.1 rfl ?_
      have h := h.2
      refine b_iast C (Int32.toNatClampNeg ((v1 + 1) + v2)) dX12_keep_107 (by decide) rfl h.1 rfl ?_
      have h := h.2
      refine a_iinc C (v2 + 1) 2 [(2, .int (v2 + 1)), (0, .ref (eA V 48)), (1, .int v1)] dX12_keep_108 rfl (congrArg (fun z => v2 + z) (show Int32.ofInt 1 = 1 by decide)) (by decide) rfl ?_
      refine a_goto C 84 dX12_keep_111 (by decide) ?_
      refine a_sub [1, 2, 0] rfl ?_
      exact ih _ _ _ h
set_option maxHeartbeats 4000000 in
set_option maxRecDepth 100000 in
theorem tl_X12_keep_123 {p : Program} {l : Launch} {e : Env} {s : State} {m : MethodId} {args : Array Value} {below : List Frame} {meth : Method} {c : Code} {V : VEn} {k154 : Int32 → Int32 → PoS → Prop} {post : PoS → Prop} (C : CxS p s m args meth c V cX12_keep 4 RX12 none) (hk154 : ∀ (v1 : Int32) (v2 : Int32) (u : PoS), k154 v1 v2 u → AtS p l e (Rm 1) s m args below meth c V 4 0 0 (QV V below args s post) 154 [(0, .ref (eA V 48)), (1, .int v1), (2, .int v2)] [] u) : ∀ (n : Nat) (v1 : Int32) (v2 : Int32) (v3 : Int32) (u : PoS), wl_X12_keep_123 k154 post n v1 v2 v3 u → AtS p l e (Rm 1) s m args below meth c V 4 0 0 (QV V below args s post) 123 [(0, .ref (eA V 48)), (1, .int v1), (2, .int v2), (3, .int v3)] [] u := by
  intro n
  induction n with
  | zero => intro v1 v2 v3 u h; exact h.elim
  | succ n ih =>
    intro v1 v2 v3 u h
    rw [wl_X12_keep_123] at h
    refine a_iload_n C 3 dX12_keep_123 rfl rfl ?_
    refine a_iconst C 4 dX12_keep_124 (by decide) ?_
    refine a_icmp_ge C 154 dX12_keep_125 (by decide) (fun c6 => ?_) (fun c6 => ?_)
    · have h := h.1 c6
      refine a_sub [0, 1, 2] rfl ?_
      exact hk154 _ _ _ h
    · have h := h.2 c6
      refine a_aload_n C 0 dX12_keep_128 rfl rfl ?_
      refine a_getr C 0 (r := 49) dX12_keep_129 (by decide) rfl rfl rfl ib_12 (by decide) bw_1022 ?_
      refine a_iload_n C 1 dX12_keep_132 rfl rfl ?_
      refine a_iconst C 5 dX12_keep_133 (by decide) ?_
      refine a_iadd C dX12_keep_134 ?_
      refine a_iconst C 4 dX12_keep_135 (by decide) ?_
      refine a_iload_n C 2 dX12_keep_136 rfl rfl ?_
      refine a_imul C dX12_keep_137 ?_
      refine a_iadd C dX12_keep_138 ?_
      refine a_iload_n C 3 dX12_keep_139 rfl rfl ?_
      refine a_iadd C dX12_keep_140 ?_
      refine a_aload_n C 0 dX12_keep_141 rfl rfl ?_
      refine a_iload_n C 2 dX12_keep_142 rfl rfl ?_
      refine a_iload_n C 3 dX12_keep_143 rfl rfl ?_
      refine a_callVi C dX12_keep_144 (m_X12_get l V h) bw_1158 bw_1160 bw_42 bw_123 bw_1161 (by decide) rfl rfl np_X12_get rfl rfl (by decide) (Nat.le_of_ble_eq_true rfl) ⟨Nat.zero_le _, Nat.zero_le _⟩ (fun r4 u5 h => ?_)
      refine b_iast C (Int32.toNatClampNeg (((v1 + 5) + (4 * v2)) + v3)) dX12_keep_147 (by decide) rfl h.1 rfl ?_
      have h := h.2
      refine a_iinc C (v3 + 1) 3 [(3, .int (v3 + 1)), (0, .ref (eA V 48)), (1, .int v1), (2, .int v2)] dX12_keep_148 rfl (congrArg (fun z => v3 + z) (show Int32.ofInt 1 = 1 by decide)) (by decide) rfl ?_
      refine a_goto C 123 dX12_keep_151 (by decide) ?_
      refine a_sub [1, 2, 3, 0] rfl ?_
      exact ih _ _ _ _ h
set_option maxHeartbeats 4000000 in
set_option maxRecDepth 100000 in
theorem tl_X12_keep_116 {p : Program} {l : Launch} {e : Env} {s : State} {m : MethodId} {args : Array Value} {below : List Frame} {meth : Method} {c : Code} {V : VEn} {k160 : Int32 → PoS → Prop} {post : PoS → Prop} (C : CxS p s m args meth c V cX12_keep 4 RX12 none) (hk160 : ∀ (v1 : Int32) (u : PoS), k160 v1 u → AtS p l e (Rm 1) s m args below meth c V 4 0 0 (QV V below args s post) 160 [(0, .ref (eA V 48)), (1, .int v1)] [] u) : ∀ (n : Nat) (v1 : Int32) (v2 : Int32) (u : PoS), wl_X12_keep_116 k160 post n v1 v2 u → AtS p l e (Rm 1) s m args below meth c V 4 0 0 (QV V below args s post) 116 [(0, .ref (eA V 48)), (1, .int v1), (2, .int v2)] [] u := by
  intro n
  induction n with
  | zero => intro v1 v2 u h; exact h.elim
  | succ n ih =>
    intro v1 v2 u h
    rw [wl_X12_keep_116] at h
    refine a_iload_n C 2 dX12_keep_116 rfl rfl ?_
    refine a_iconst C 5 dX12_keep_117 (by decide) ?_
    refine a_icmp_ge C 160 dX12_keep_118 (by decide) (fun c8 => ?_) (fun c8 => ?_)
    · have h := h.1 c8
      refine a_sub [0, 1] rfl ?_
      exact hk160 _ _ h
    · have h := h.2 c8
      refine a_iconst C 0 dX12_keep_121 (by decide) ?_
      refine a_istore_n C [(3, .int 0), (0, .ref (eA V 48)), (1, .int v1), (2, .int v2)] dX12_keep_122 rfl (by decide) rfl ?_
      refine a_sub [1, 2, 3, 0] rfl ?_
      obtain ⟨n123, h⟩ := h
      refine tl_X12_keep_123 C (fun v17 v27 u7 h => ?_) n123 _ _ _ _ h
      refine a_iinc C (v27 + 1) 2 [(2, .int (v27 + 1)), (0, .ref (eA V 48)), (1, .int v17)] dX12_keep_154 rfl (congrArg (fun z => v27 + z) (show Int32.ofInt 1 = 1 by decide)) (by decide) rfl ?_
      refine a_goto C 116 dX12_keep_157 (by decide) ?_
      refine a_sub [1, 2, 0] rfl ?_
      exact ih _ _ _ h
set_option maxHeartbeats 4000000 in
set_option maxRecDepth 100000 in
theorem tl_X12_keep_162 {p : Program} {l : Launch} {e : Env} {s : State} {m : MethodId} {args : Array Value} {below : List Frame} {meth : Method} {c : Code} {V : VEn} {k194 : Int32 → PoS → Prop} {post : PoS → Prop} (C : CxS p s m args meth c V cX12_keep 4 RX12 none) (hk194 : ∀ (v1 : Int32) (u : PoS), k194 v1 u → AtS p l e (Rm 1) s m args below meth c V 4 0 0 (QV V below args s post) 194 [(0, .ref (eA V 48)), (1, .int v1)] [] u) : ∀ (n : Nat) (v1 : Int32) (v2 : Int32) (u : PoS), wl_X12_keep_162 k194 post n v1 v2 u → AtS p l e (Rm 1) s m args below meth c V 4 0 0 (QV V below args s post) 162 [(0, .ref (eA V 48)), (1, .int v1), (2, .int v2)] [] u := by
  intro n
  induction n with
  | zero => intro v1 v2 u h; exact h.elim
  | succ n ih =>
    intro v1 v2 u h
    rw [wl_X12_keep_162] at h
    refine a_iload_n C 2 dX12_keep_162 rfl rfl ?_
    refine a_bipush C 30 dX12_keep_163 (by decide) ?_
    refine a_icmp_ge C 194 dX12_keep_165 (by decide) (fun c10 => ?_) (fun c10 => ?_)
    · have h := h.1 c10
      refine a_sub [0, 1] rfl ?_
      exact hk194 _ _ h
    · have h := h.2 c10
      refine a_aload_n C 0 dX12_keep_168 rfl rfl ?_
      refine a_getr C 0 (r := 49) dX12_keep_169 (by decide) rfl rfl rfl ib_12 (by decide) bw_1022 ?_
      refine a_iload_n C 1 dX12_keep_172 rfl rfl ?_
      refine a_bipush C 25 dX12_keep_173 (by decide) ?_
      refine a_iadd C dX12_keep_175 ?_
      refine a_iload_n C 2 dX12_keep_176 rfl rfl ?_
      refine a_iadd C dX12_keep_177 ?_
      refine a_aload_n C 0 dX12_keep_178 rfl rfl ?_
      refine a_getr C 0 (r := 49) dX12_keep_179 (by decide) rfl rfl rfl ib_12 (by decide) bw_1022 ?_
      refine a_bipush C 40 dX12_keep_182 (by decide) ?_
      refine a_iload_n C 2 dX12_keep_184 rfl rfl ?_
      refine a_iadd C dX12_keep_185 ?_
      refine b_iald C (Int32.toNatClampNeg (40 + v2)) dX12_keep_186 (by decide) rfl h.1 rfl ?_
      have h := h.2
      refine b_iast C (Int32.toNatClampNeg ((v1 + 25) + v2)) dX12_keep_187 (by decide) rfl h.1 rfl ?_
      have h := h.2
      refine a_iinc C (v2 + 1) 2 [(2, .int (v2 + 1)), (0, .ref (eA V 48)), (1, .int v1)] dX12_keep_188 rfl (congrArg (fun z => v2 + z) (show Int32.ofInt 1 = 1 by decide)) (by decide) rfl ?_
      refine a_goto C 162 dX12_keep_191 (by decide) ?_
      refine a_sub [1, 2, 0] rfl ?_
      exact ih _ _ _ h
set_option maxHeartbeats 4000000 in
set_option maxRecDepth 100000 in
theorem tl_X12_keep_196 {p : Program} {l : Launch} {e : Env} {s : State} {m : MethodId} {args : Array Value} {below : List Frame} {meth : Method} {c : Code} {V : VEn} {k229 : PoS → Prop} {post : PoS → Prop} (C : CxS p s m args meth c V cX12_keep 4 RX12 none) (hk229 : ∀ (u : PoS), k229  u → AtS p l e (Rm 1) s m args below meth c V 4 0 0 (QV V below args s post) 229 [(0, .ref (eA V 48))] [] u) : ∀ (n : Nat) (v1 : Int32) (v2 : Int32) (u : PoS), wl_X12_keep_196 k229 post n v1 v2 u → AtS p l e (Rm 1) s m args below meth c V 4 0 0 (QV V below args s post) 196 [(0, .ref (eA V 48)), (1, .int v1), (2, .int v2)] [] u := by
  intro n
  induction n with
  | zero => intro v1 v2 u h; exact h.elim
  | succ n ih =>
    intro v1 v2 u h
    rw [wl_X12_keep_196] at h
    refine a_iload_n C 2 dX12_keep_196 rfl rfl ?_
    refine a_bipush C 60 dX12_keep_197 (by decide) ?_
    refine a_icmp_ge C 229 dX12_keep_199 (by decide) (fun c12 => ?_) (fun c12 => ?_)
    · have h := h.1 c12
      refine a_sub [0] rfl ?_
      exact hk229 _ h
    · have h := h.2 c12
      refine a_aload_n C 0 dX12_keep_202 rfl rfl ?_
      refine a_getr C 0 (r := 49) dX12_keep_203 (by decide) rfl rfl rfl ib_12 (by decide) bw_1022 ?_
      refine a_iload_n C 1 dX12_keep_206 rfl rfl ?_
      refine a_bipush C 55 dX12_keep_207 (by decide) ?_
      refine a_iadd C dX12_keep_209 ?_
      refine a_iload_n C 2 dX12_keep_210 rfl rfl ?_
      refine a_iadd C dX12_keep_211 ?_
      refine a_aload_n C 0 dX12_keep_212 rfl rfl ?_
      refine a_getr C 0 (r := 49) dX12_keep_213 (by decide) rfl rfl rfl ib_12 (by decide) bw_1022 ?_
      refine a_sipush C 3643 dX12_keep_216 (by decide) ?_
      refine a_iload_n C 2 dX12_keep_219 rfl rfl ?_
      refine a_iadd C dX12_keep_220 ?_
      refine b_iald C (Int32.toNatClampNeg (3643 + v2)) dX12_keep_221 (by decide) rfl h.1 rfl ?_
      have h := h.2
      refine b_iast C (Int32.toNatClampNeg ((v1 + 55) + v2)) dX12_keep_222 (by decide) rfl h.1 rfl ?_
      have h := h.2
      refine a_iinc C (v2 + 1) 2 [(2, .int (v2 + 1)), (0, .ref (eA V 48)), (1, .int v1)] dX12_keep_223 rfl (congrArg (fun z => v2 + z) (show Int32.ofInt 1 = 1 by decide)) (by decide) rfl ?_
      refine a_goto C 196 dX12_keep_226 (by decide) ?_
      refine a_sub [1, 2, 0] rfl ?_
      exact ih _ _ _ h
set_option maxHeartbeats 4000000 in
set_option maxRecDepth 100000 in
theorem tj_X12_keep_56 {p : Program} {l : Launch} {e : Env} {s : State} {m : MethodId} {args : Array Value} {below : List Frame} {meth : Method} {c : Code} {V : VEn} {post : PoS → Prop} (C : CxS p s m args meth c V cX12_keep 4 RX12 none) (u : PoS) (h : wj_X12_keep_56 post  u) : AtS p l e (Rm 1) s m args below meth c V 4 0 0 (QV V below args s post) 56 [(0, .ref (eA V 48))] [] u := by
  rw [wj_X12_keep_56] at h
  refine a_sipush C 193 dX12_keep_56 (by decide) ?_
  refine a_bipush C 115 dX12_keep_59 (by decide) ?_
  refine a_aload_n C 0 dX12_keep_61 rfl rfl ?_
  refine a_getr C 0 (r := 49) dX12_keep_62 (by decide) rfl rfl rfl ib_12 (by decide) bw_1022 ?_
  refine a_iconst C 3 dX12_keep_65 (by decide) ?_
  refine b_iald C 3 dX12_keep_66 (by decide) rfl (vp_lit (by decide)) (by decide) ?_
  refine a_imul C dX12_keep_67 ?_
  refine a_iadd C dX12_keep_68 ?_
  refine a_topi (fun x1 ex1 => ?_)
  have h := h x1 ex1
  refine a_istore_n C [(1, .int x1), (0, .ref (eA V 48))] dX12_keep_69 rfl (by decide) rfl ?_
  refine a_aload_n C 1 dX12_keep_70 rfl rfl ?_
  refine a_getr C 0 (r := 49) dX12_keep_71 (by decide) rfl rfl rfl ib_12 (by decide) bw_1022 ?_
  refine a_iload_n C 0 dX12_keep_74 rfl rfl ?_
  refine a_aload_n C 1 dX12_keep_75 rfl rfl ?_
  refine a_getr C 0 (r := 49) dX12_keep_76 (by decide) rfl rfl rfl ib_12 (by decide) bw_1022 ?_
  refine a_iconst C 0 dX12_keep_79 (by decide) ?_
  refine b_iald C 0 dX12_keep_80 (by decide) rfl (vp_lit (by decide)) (by decide) ?_
  refine b_iast C (Int32.toNatClampNeg x1) dX12_keep_81 (by decide) rfl h.1 rfl ?_
  have h := h.2
  refine a_iconst C 0 dX12_keep_82 (by decide) ?_
  refine a_istore_n C [(2, .int 0), (1, .int x1), (0, .ref (eA V 48))] dX12_keep_83 rfl (by decide) rfl ?_
  refine a_sub [2, 1, 0] rfl ?_
  obtain ⟨n84, h⟩ := h
  refine tl_X12_keep_84 C (fun v13 u3 h => ?_) n84 _ _ _ h
  refine a_iconst C 0 dX12_keep_114 (by decide) ?_
  refine a_istore_n C [(2, .int 0), (0, .ref (eA V 48)), (1, .int v13)] dX12_keep_115 rfl (by decide) rfl ?_
  refine a_sub [1, 2, 0] rfl ?_
  obtain ⟨n116, h⟩ := h
  refine tl_X12_keep_116 C (fun v19 u9 h => ?_) n116 _ _ _ h
  refine a_iconst C 0 dX12_keep_160 (by decide) ?_
  refine a_istore_n C [(2, .int 0), (0, .ref (eA V 48)), (1, .int v19)] dX12_keep_161 rfl (by decide) rfl ?_
  refine a_sub [1, 2, 0] rfl ?_
  obtain ⟨n162, h⟩ := h
  refine tl_X12_keep_162 C (fun v111 u11 h => ?_) n162 _ _ _ h
  refine a_iconst C 0 dX12_keep_194 (by decide) ?_
  refine a_istore_n C [(2, .int 0), (0, .ref (eA V 48)), (1, .int v111)] dX12_keep_195 rfl (by decide) rfl ?_
  refine a_sub [1, 2, 0] rfl ?_
  obtain ⟨n196, h⟩ := h
  refine tl_X12_keep_196 C (fun u13 h => ?_) n196 _ _ _ h
  refine a_aload_n C 0 dX12_keep_229 rfl rfl ?_
  refine a_getr C 0 (r := 49) dX12_keep_230 (by decide) rfl rfl rfl ib_12 (by decide) bw_1022 ?_
  refine a_iconst C 3 dX12_keep_233 (by decide) ?_
  refine a_dup2 C dX12_keep_234 rfl rfl ?_
  refine b_iald C 3 dX12_keep_235 (by decide) rfl (vp_lit (by decide)) (by decide) ?_
  refine a_iconst C 1 dX12_keep_236 (by decide) ?_
  refine a_iadd C dX12_keep_237 ?_
  refine b_iast C 3 dX12_keep_238 (by decide) rfl (vp_lit (by decide)) (by decide) ?_
  exact a_vret C dX12_keep_239 h
set_option maxHeartbeats 4000000 in
set_option maxRecDepth 100000 in
theorem tl_X12_keep_13 {p : Program} {l : Launch} {e : Env} {s : State} {m : MethodId} {args : Array Value} {below : List Frame} {meth : Method} {c : Code} {V : VEn} {k46 : PoS → Prop} {post : PoS → Prop} (C : CxS p s m args meth c V cX12_keep 4 RX12 none) (hk46 : ∀ (u : PoS), k46  u → AtS p l e (Rm 1) s m args below meth c V 4 0 0 (QV V below args s post) 46 [(0, .ref (eA V 48))] [] u) : ∀ (n : Nat) (v1 : Int32) (u : PoS), wl_X12_keep_13 k46 post n v1 u → AtS p l e (Rm 1) s m args below meth c V 4 0 0 (QV V below args s post) 13 [(0, .ref (eA V 48)), (1, .int v1)] [] u := by
  intro n
  induction n with
  | zero => intro v1 u h; exact h.elim
  | succ n ih =>
    intro v1 u h
    rw [wl_X12_keep_13] at h
    refine a_iload_n C 1 dX12_keep_13 rfl rfl ?_
    refine a_sipush C 3335 dX12_keep_14 (by decide) ?_
    refine a_icmp_ge C 46 dX12_keep_17 (by decide) (fun c14 => ?_) (fun c14 => ?_)
    · have h := h.1 c14
      refine a_sub [0] rfl ?_
      exact hk46 _ h
    · have h := h.2 c14
      refine a_aload_n C 0 dX12_keep_20 rfl rfl ?_
      refine a_getr C 0 (r := 49) dX12_keep_21 (by decide) rfl rfl rfl ib_12 (by decide) bw_1022 ?_
      refine a_sipush C 193 dX12_keep_24 (by decide) ?_
      refine a_iload_n C 1 dX12_keep_27 rfl rfl ?_
      refine a_iadd C dX12_keep_28 ?_
      refine a_aload_n C 0 dX12_keep_29 rfl rfl ?_
      refine a_getr C 0 (r := 49) dX12_keep_30 (by decide) rfl rfl rfl ib_12 (by decide) bw_1022 ?_
      refine a_sipush C 308 dX12_keep_33 (by decide) ?_
      refine a_iload_n C 1 dX12_keep_36 rfl rfl ?_
      refine a_iadd C dX12_keep_37 ?_
      refine b_iald C (Int32.toNatClampNeg (308 + v1)) dX12_keep_38 (by decide) rfl h.1 rfl ?_
      have h := h.2
      refine b_iast C (Int32.toNatClampNeg (193 + v1)) dX12_keep_39 (by decide) rfl h.1 rfl ?_
      have h := h.2
      refine a_iinc C (v1 + 1) 1 [(1, .int (v1 + 1)), (0, .ref (eA V 48))] dX12_keep_40 rfl (congrArg (fun z => v1 + z) (show Int32.ofInt 1 = 1 by decide)) (by decide) rfl ?_
      refine a_goto C 13 dX12_keep_43 (by decide) ?_
      refine a_sub [1, 0] rfl ?_
      exact ih _ _ h
theorem np_X12_keep : yX12_keep.cls ≠ "java/lang/invoke/MethodHandle" ∧ yX12_keep.cls ≠ "java/lang/invoke/VarHandle" ∧ (parseMethodDescriptor yX12_keep.desc).map (fun d => d.parameters.length) = some 0 := by decide +kernel
set_option maxHeartbeats 4000000 in
set_option maxRecDepth 100000 in
theorem m_X12_keep (l : Launch) (V : VEn) {u : PoS} {post : PoS → Prop} (h : wp_X12_keep  u post) : KV l V yX12_keep cX12_keep 4 1 [.ref (eA V 48)] u post := by
  refine KV_of (by decide) (Nat.le_of_ble_eq_true rfl) (lv := [(0, .ref (eA V 48))]) rfl ?_
  intro p e s m args below meth c C
  rw [wp_X12_keep] at h
  refine a_aload_n C 0 dX12_keep_0 rfl rfl ?_
  refine a_getr C 0 (r := 49) dX12_keep_1 (by decide) rfl rfl rfl ib_12 (by decide) bw_1022 ?_
  refine a_iconst C 3 dX12_keep_4 (by decide) ?_
  refine b_iald C 3 dX12_keep_5 (by decide) rfl (vp_lit (by decide)) (by decide) ?_
  refine a_bipush C 30 dX12_keep_6 (by decide) ?_
  refine a_icmp_ne C 56 dX12_keep_8 (by decide) (fun c16 => ?_) (fun c16 => ?_)
  · have h := h.1 c16
    refine tj_X12_keep_56 C _ h
  · have h := h.2 c16
    refine a_iconst C 0 dX12_keep_11 (by decide) ?_
    refine a_istore_n C [(1, .int 0), (0, .ref (eA V 48))] dX12_keep_12 rfl (by decide) rfl ?_
    refine a_sub [1, 0] rfl ?_
    obtain ⟨n13, h⟩ := h
    refine tl_X12_keep_13 C (fun u15 h => ?_) n13 _ _ h
    refine a_aload_n C 0 dX12_keep_46 rfl rfl ?_
    refine a_getr C 0 (r := 49) dX12_keep_47 (by decide) rfl rfl rfl ib_12 (by decide) bw_1022 ?_
    refine a_iconst C 3 dX12_keep_50 (by decide) ?_
    refine a_dup2 C dX12_keep_51 rfl rfl ?_
    refine b_iald C 3 dX12_keep_52 (by decide) rfl (vp_lit (by decide)) (by decide) ?_
    refine a_iconst C 1 dX12_keep_53 (by decide) ?_
    refine a_isub C dX12_keep_54 ?_
    refine b_iast C 3 dX12_keep_55 (by decide) rfl (vp_lit (by decide)) (by decide) ?_
    refine tj_X12_keep_56 C _ h

/-! RainOnTheOneModel.undo()I -/
def wl_X12_undo_37 (k67 : Int32 → PoS → Prop) (post : Int32 → PoS → Prop) : Nat → Int32 → Int32 → PoS → Prop
  | 0, _, _, _ => False
  | n + 1, v1, v2, u => ((4 ≤ v2 → k67 v1 u) ∧ (¬ 4 ≤ v2 → vp_in ((v1 + 1) + v2) 3703 ∧ vp_in (6 + v2) 3703 ∧ wl_X12_undo_37 k67 post n v1 (v2 + 1) (pI u 49 (Int32.toNatClampNeg (6 + v2)) (gI u 49 (Int32.toNatClampNeg ((v1 + 1) + v2))))))
def wl_X12_undo_96 (k137 : Int32 → Int32 → PoS → Prop) (post : Int32 → PoS → Prop) : Nat → Int32 → Int32 → Int32 → PoS → Prop
  | 0, _, _, _, _ => False
  | n + 1, v1, v2, v3, u => ((4 ≤ v3 → k137 v1 v2 u) ∧ (¬ 4 ≤ v3 → vp_in v1 3703 ∧ (((gI u 49 (Int32.toNatClampNeg v1)) ≤ v2 → k137 v1 v2 u) ∧ (¬ (gI u 49 (Int32.toNatClampNeg v1)) ≤ v2 → vp_in (((v1 + 5) + (4 * v2)) + v3) 3703 ∧ wp_X12_put v2 v3 (gI u 49 (Int32.toNatClampNeg (((v1 + 5) + (4 * v2)) + v3))) u (fun (u5 : PoS) => wl_X12_undo_96 k137 post n v1 v2 (v3 + 1) u5)))))
def wj_X12_undo_137 (k69 : Int32 → Int32 → PoS → Prop) (post : Int32 → PoS → Prop) (v1 : Int32) (v2 : Int32) (u : PoS) : Prop := k69 v1 (v2 + 1) u
def wj_X12_undo_94 (k69 : Int32 → Int32 → PoS → Prop) (post : Int32 → PoS → Prop) (v1 : Int32) (v2 : Int32) (u : PoS) : Prop := (∃ n96, wl_X12_undo_96 (fun (v18 : Int32) (v28 : Int32) (u8 : PoS) => wj_X12_undo_137 k69 post v18 v28 u8) post n96 v1 v2 0 u)
def wl_X12_undo_69 (k143 : Int32 → PoS → Prop) (post : Int32 → PoS → Prop) : Nat → Int32 → Int32 → PoS → Prop
  | 0, _, _, _ => False
  | n + 1, v1, v2, u => (((gI u 49 0) ≤ v2 → k143 v1 u) ∧ (¬ (gI u 49 0) ≤ v2 → vp_in v1 3703 ∧ ((v2 < (gI u 49 (Int32.toNatClampNeg v1)) → wj_X12_undo_94 (wl_X12_undo_69 k143 post n) post v1 v2 u) ∧ (¬ v2 < (gI u 49 (Int32.toNatClampNeg v1)) → wp_X12_begin v2 u (fun (u10 : PoS) => wj_X12_undo_94 (wl_X12_undo_69 k143 post n) post v1 v2 u10)))))
def wl_X12_undo_145 (k177 : Int32 → PoS → Prop) (post : Int32 → PoS → Prop) : Nat → Int32 → Int32 → PoS → Prop
  | 0, _, _, _ => False
  | n + 1, v1, v2, u => ((30 ≤ v2 → k177 v1 u) ∧ (¬ 30 ≤ v2 → vp_in ((v1 + 25) + v2) 3703 ∧ vp_in (40 + v2) 3703 ∧ wl_X12_undo_145 k177 post n v1 (v2 + 1) (pI u 49 (Int32.toNatClampNeg (40 + v2)) (gI u 49 (Int32.toNatClampNeg ((v1 + 25) + v2))))))
def wl_X12_undo_179 (post : Int32 → PoS → Prop) : Nat → Int32 → Int32 → PoS → Prop
  | 0, _, _, _ => False
  | n + 1, v1, v2, u => ((60 ≤ v2 → post (gI u 49 3) u) ∧ (¬ 60 ≤ v2 → vp_in ((v1 + 55) + v2) 3703 ∧ vp_in (3643 + v2) 3703 ∧ wl_X12_undo_179 post n v1 (v2 + 1) (pI u 49 (Int32.toNatClampNeg (3643 + v2)) (gI u 49 (Int32.toNatClampNeg ((v1 + 55) + v2))))))
def wp_X12_undo (u : PoS) (post : Int32 → PoS → Prop) : Prop := ((¬ (gI u 49 3) = 0 → ∀ x1 : Int32, x1 = (193 + (115 * (gI (pI u 49 3 ((gI u 49 3) - 1)) 49 3))) → (∃ n37, wl_X12_undo_37 (fun (v13 : Int32) (u3 : PoS) => (∃ n69, wl_X12_undo_69 (fun (v113 : Int32) (u13 : PoS) => (∃ n145, wl_X12_undo_145 (fun (v115 : Int32) (u15 : PoS) => (∃ n179, wl_X12_undo_179 post n179 v115 0 u15)) post n145 v113 0 u13)) post n69 v13 0 u3)) post n37 x1 0 (pI u 49 3 ((gI u 49 3) - 1)))) ∧ ((gI u 49 3) = 0 → post (-1) u))
set_option maxHeartbeats 4000000 in
set_option maxRecDepth 100000 in
theorem tl_X12_undo_37 {p : Program} {l : Launch} {e : Env} {s : State} {m : MethodId} {args : Array Value} {below : List Frame} {meth : Method} {c : Code} {V : VEn} {k67 : Int32 → PoS → Prop} {post : Int32 → PoS → Prop} (C : CxS p s m args meth c V cX12_undo 4 RX12 (some .int)) (hk67 : ∀ (v1 : Int32) (u : PoS), k67 v1 u → AtS p l e (Rm 2) s m args below meth c V 4 0 0 (QI V below args s post) 67 [(0, .ref (eA V 48)), (1, .int v1)] [] u) : ∀ (n : Nat) (v1 : Int32) (v2 : Int32) (u : PoS), wl_X12_undo_37 k67 post n v1 v2 u → AtS p l e (Rm 2) s m args below meth c V 4 0 0 (QI V below args s post) 37 [(0, .ref (eA V 48)), (1, .int v1), (2, .int v2)] [] u := by
  intro n
  induction n with
  | zero => intro v1 v2 u h; exact h.elim
  | succ n ih =>
    intro v1 v2 u h
    rw [wl_X12_undo_37] at h
    refine a_iload_n C 2 dX12_undo_37 rfl rfl ?_
    refine a_iconst C 4 dX12_undo_38 (by decide) ?_
    refine a_icmp_ge C 67 dX12_undo_39 (by decide) (fun c2 => ?_) (fun c2 => ?_)
    · have h := h.1 c2
      refine a_sub [0, 1] rfl ?_
      exact hk67 _ _ h
    · have h := h.2 c2
      refine a_aload_n C 0 dX12_undo_42 rfl rfl ?_
      refine a_getr C 0 (r := 49) dX12_undo_43 (by decide) rfl rfl rfl ib_12 (by decide) bw_1022 ?_
      refine a_bipush C 6 dX12_undo_46 (by decide) ?_
      refine a_iload_n C 2 dX12_undo_48 rfl rfl ?_
      refine a_iadd C dX12_undo_49 ?_
      refine a_aload_n C 0 dX12_undo_50 rfl rfl ?_
      refine a_getr C 0 (r := 49) dX12_undo_51 (by decide) rfl rfl rfl ib_12 (by decide) bw_1022 ?_
      refine a_iload_n C 1 dX12_undo_54 rfl rfl ?_
      refine a_iconst C 1 dX12_undo_55 (by decide) ?_
      refine a_iadd C dX12_undo_56 ?_
      refine a_iload_n C 2 dX12_undo_57 rfl rfl ?_
      refine a_iadd C dX12_undo_58 ?_
      refine b_iald C (Int32.toNatClampNeg ((v1 + 1) + v2)) dX12_undo_59 (by decide) rfl h.1 rfl ?_
      have h := h.2
      refine b_iast C (Int32.toNatClampNeg (6 + v2)) dX12_undo_60 (by decide) rfl h.1 rfl ?_
      have h := h.2
      refine a_iinc C (v2 + 1) 2 [(2, .int (v2 + 1)), (0, .ref (eA V 48)), (1, .int v1)] dX12_undo_61 rfl (congrArg (fun z => v2 + z) (show Int32.ofInt 1 = 1 by decide)) (by decide) rfl ?_
      refine a_goto C 37 dX12_undo_64 (by decide) ?_
      refine a_sub [1, 2, 0] rfl ?_
      exact ih _ _ _ h
set_option maxHeartbeats 4000000 in
set_option maxRecDepth 100000 in
theorem tl_X12_undo_96 {p : Program} {l : Launch} {e : Env} {s : State} {m : MethodId} {args : Array Value} {below : List Frame} {meth : Method} {c : Code} {V : VEn} {k137 : Int32 → Int32 → PoS → Prop} {post : Int32 → PoS → Prop} (C : CxS p s m args meth c V cX12_undo 4 RX12 (some .int)) (hk137 : ∀ (v1 : Int32) (v2 : Int32) (u : PoS), k137 v1 v2 u → AtS p l e (Rm 2) s m args below meth c V 4 0 0 (QI V below args s post) 137 [(0, .ref (eA V 48)), (1, .int v1), (2, .int v2)] [] u) : ∀ (n : Nat) (v1 : Int32) (v2 : Int32) (v3 : Int32) (u : PoS), wl_X12_undo_96 k137 post n v1 v2 v3 u → AtS p l e (Rm 2) s m args below meth c V 4 0 0 (QI V below args s post) 96 [(0, .ref (eA V 48)), (1, .int v1), (2, .int v2), (3, .int v3)] [] u := by
  intro n
  induction n with
  | zero => intro v1 v2 v3 u h; exact h.elim
  | succ n ih =>
    intro v1 v2 v3 u h
    rw [wl_X12_undo_96] at h
    refine a_iload_n C 3 dX12_undo_96 rfl rfl ?_
    refine a_iconst C 4 dX12_undo_97 (by decide) ?_
    refine a_icmp_ge C 137 dX12_undo_98 (by decide) (fun c7 => ?_) (fun c7 => ?_)
    · have h := h.1 c7
      refine a_sub [0, 1, 2] rfl ?_
      exact hk137 _ _ _ h
    · have h := h.2 c7
      refine a_iload_n C 2 dX12_undo_101 rfl rfl ?_
      refine a_aload_n C 0 dX12_undo_102 rfl rfl ?_
      refine a_getr C 0 (r := 49) dX12_undo_103 (by decide) rfl rfl rfl ib_12 (by decide) bw_1022 ?_
      refine a_iload_n C 1 dX12_undo_106 rfl rfl ?_
      refine b_iald C (Int32.toNatClampNeg v1) dX12_undo_107 (by decide) rfl h.1 rfl ?_
      have h := h.2
      refine a_icmp_ge C 137 dX12_undo_108 (by decide) (fun c6 => ?_) (fun c6 => ?_)
      · have h := h.1 c6
        refine a_sub [0, 1, 2] rfl ?_
        exact hk137 _ _ _ h
      · have h := h.2 c6
        refine a_aload_n C 0 dX12_undo_111 rfl rfl ?_
        refine a_iload_n C 2 dX12_undo_112 rfl rfl ?_
        refine a_iload_n C 3 dX12_undo_113 rfl rfl ?_
        refine a_aload_n C 0 dX12_undo_114 rfl rfl ?_
        refine a_getr C 0 (r := 49) dX12_undo_115 (by decide) rfl rfl rfl ib_12 (by decide) bw_1022 ?_
        refine a_iload_n C 1 dX12_undo_118 rfl rfl ?_
        refine a_iconst C 5 dX12_undo_119 (by decide) ?_
        refine a_iadd C dX12_undo_120 ?_
        refine a_iconst C 4 dX12_undo_121 (by decide) ?_
        refine a_iload_n C 2 dX12_undo_122 rfl rfl ?_
        refine a_imul C dX12_undo_123 ?_
        refine a_iadd C dX12_undo_124 ?_
        refine a_iload_n C 3 dX12_undo_125 rfl rfl ?_
        refine a_iadd C dX12_undo_126 ?_
        refine b_iald C (Int32.toNatClampNeg (((v1 + 5) + (4 * v2)) + v3)) dX12_undo_127 (by decide) rfl h.1 rfl ?_
        have h := h.2
        refine a_callVv C dX12_undo_128 (m_X12_put l V h) bw_1150 bw_1152 bw_40 bw_123 bw_1153 (by decide) rfl rfl np_X12_put rfl rfl (by decide) (Nat.le_of_ble_eq_true rfl) ⟨Nat.zero_le _, Nat.zero_le _⟩ (fun u5 h => ?_)
        refine a_iinc C (v3 + 1) 3 [(3, .int (v3 + 1)), (0, .ref (eA V 48)), (1, .int v1), (2, .int v2)] dX12_undo_131 rfl (congrArg (fun z => v3 + z) (show Int32.ofInt 1 = 1 by decide)) (by decide) rfl ?_
        refine a_goto C 96 dX12_undo_134 (by decide) ?_
        refine a_sub [1, 2, 3, 0] rfl ?_
        exact ih _ _ _ _ h
set_option maxHeartbeats 4000000 in
set_option maxRecDepth 100000 in
theorem tj_X12_undo_137 {p : Program} {l : Launch} {e : Env} {s : State} {m : MethodId} {args : Array Value} {below : List Frame} {meth : Method} {c : Code} {V : VEn} {k69 : Int32 → Int32 → PoS → Prop} {post : Int32 → PoS → Prop} (C : CxS p s m args meth c V cX12_undo 4 RX12 (some .int)) (hk69 : ∀ (v1 : Int32) (v2 : Int32) (u : PoS), k69 v1 v2 u → AtS p l e (Rm 2) s m args below meth c V 4 0 0 (QI V below args s post) 69 [(0, .ref (eA V 48)), (1, .int v1), (2, .int v2)] [] u) (v1 : Int32) (v2 : Int32) (u : PoS) (h : wj_X12_undo_137 k69 post v1 v2 u) : AtS p l e (Rm 2) s m args below meth c V 4 0 0 (QI V below args s post) 137 [(0, .ref (eA V 48)), (1, .int v1), (2, .int v2)] [] u := by
  rw [wj_X12_undo_137] at h
  refine a_iinc C (v2 + 1) 2 [(2, .int (v2 + 1)), (0, .ref (eA V 48)), (1, .int v1)] dX12_undo_137 rfl (congrArg (fun z => v2 + z) (show Int32.ofInt 1 = 1 by decide)) (by decide) rfl ?_
  refine a_goto C 69 dX12_undo_140 (by decide) ?_
  refine a_sub [1, 2, 0] rfl ?_
  exact hk69 _ _ _ h
set_option maxHeartbeats 4000000 in
set_option maxRecDepth 100000 in
theorem tj_X12_undo_94 {p : Program} {l : Launch} {e : Env} {s : State} {m : MethodId} {args : Array Value} {below : List Frame} {meth : Method} {c : Code} {V : VEn} {k69 : Int32 → Int32 → PoS → Prop} {post : Int32 → PoS → Prop} (C : CxS p s m args meth c V cX12_undo 4 RX12 (some .int)) (hk69 : ∀ (v1 : Int32) (v2 : Int32) (u : PoS), k69 v1 v2 u → AtS p l e (Rm 2) s m args below meth c V 4 0 0 (QI V below args s post) 69 [(0, .ref (eA V 48)), (1, .int v1), (2, .int v2)] [] u) (v1 : Int32) (v2 : Int32) (u : PoS) (h : wj_X12_undo_94 k69 post v1 v2 u) : AtS p l e (Rm 2) s m args below meth c V 4 0 0 (QI V below args s post) 94 [(0, .ref (eA V 48)), (1, .int v1), (2, .int v2)] [] u := by
  rw [wj_X12_undo_94] at h
  refine a_iconst C 0 dX12_undo_94 (by decide) ?_
  refine a_istore_n C [(3, .int 0), (0, .ref (eA V 48)), (1, .int v1), (2, .int v2)] dX12_undo_95 rfl (by decide) rfl ?_
  refine a_sub [1, 2, 3, 0] rfl ?_
  obtain ⟨n96, h⟩ := h
  refine tl_X12_undo_96 C (fun v18 v28 u8 h => ?_) n96 _ _ _ _ h
  refine tj_X12_undo_137 C hk69 _ _ _ h
set_option maxHeartbeats 4000000 in
set_option maxRecDepth 100000 in
theorem tl_X12_undo_69 {p : Program} {l : Launch} {e : Env} {s : State} {m : MethodId} {args : Array Value} {below : List Frame} {meth : Method} {c : Code} {V : VEn} {k143 : Int32 → PoS → Prop} {post : Int32 → PoS → Prop} (C : CxS p s m args meth c V cX12_undo 4 RX12 (some .int)) (hk143 : ∀ (v1 : Int32) (u : PoS), k143 v1 u → AtS p l e (Rm 2) s m args below meth c V 4 0 0 (QI V below args s post) 143 [(0, .ref (eA V 48)), (1, .int v1)] [] u) : ∀ (n : Nat) (v1 : Int32) (v2 : Int32) (u : PoS), wl_X12_undo_69 k143 post n v1 v2 u → AtS p l e (Rm 2) s m args below meth c V 4 0 0 (QI V below args s post) 69 [(0, .ref (eA V 48)), (1, .int v1), (2, .int v2)] [] u := by
  intro n
  induction n with
  | zero => intro v1 v2 u h; exact h.elim
  | succ n ih =>
    intro v1 v2 u h
    rw [wl_X12_undo_69] at h
    refine a_iload_n C 2 dX12_undo_69 rfl rfl ?_
    refine a_aload_n C 0 dX12_undo_70 rfl rfl ?_
    refine a_getr C 0 (r := 49) dX12_undo_71 (by decide) rfl rfl rfl ib_12 (by decide) bw_1022 ?_
    refine a_iconst C 0 dX12_undo_74 (by decide) ?_
    refine b_iald C 0 dX12_undo_75 (by decide) rfl (vp_lit (by decide)) (by decide) ?_
    refine a_icmp_ge C 143 dX12_undo_76 (by decide) (fun c12 => ?_) (fun c12 => ?_)
    · have h := h.1 c12
      refine a_sub [0, 1] rfl ?_
      exact hk143 _ _ h
    · have h := h.2 c12
      refine a_iload_n C 2 dX12_undo_79 rfl rfl ?_
      refine a_aload_n C 0 dX12_undo_80 rfl rfl ?_
      refine a_getr C 0 (r := 49) dX12_undo_81 (by decide) rfl rfl rfl ib_12 (by decide) bw_1022 ?_
      refine a_iload_n C 1 dX12_undo_84 rfl rfl ?_
      refine b_iald C (Int32.toNatClampNeg v1) dX12_undo_85 (by decide) rfl h.1 rfl ?_
      have h := h.2
      refine a_icmp_lt C 94 dX12_undo_86 (by decide) (fun c11 => ?_) (fun c11 => ?_)
      · have h := h.1 c11
        refine tj_X12_undo_94 C ih _ _ _ h
      · have h := h.2 c11
        refine a_aload_n C 0 dX12_undo_89 rfl rfl ?_
        refine a_iload_n C 2 dX12_undo_90 rfl rfl ?_
        refine a_callVv C dX12_undo_91 (m_X12_begin l V h) bw_1154 bw_1156 bw_41 bw_123 bw_1157 (by decide) rfl rfl np_X12_begin rfl rfl (by decide) (Nat.le_of_ble_eq_true rfl) ⟨Nat.zero_le _, Nat.zero_le _⟩ (fun u10 h => ?_)
        refine tj_X12_undo_94 C ih _ _ _ h
set_option maxHeartbeats 4000000 in
set_option maxRecDepth 100000 in
theorem tl_X12_undo_145 {p : Program} {l : Launch} {e : Env} {s : State} {m : MethodId} {args : Array Value} {below : List Frame} {meth : Method} {c : Code} {V : VEn} {k177 : Int32 → PoS → Prop} {post : Int32 → PoS → Prop} (C : CxS p s m args meth c V cX12_undo 4 RX12 (some .int)) (hk177 : ∀ (v1 : Int32) (u : PoS), k177 v1 u → AtS p l e (Rm 2) s m args below meth c V 4 0 0 (QI V below args s post) 177 [(0, .ref (eA V 48)), (1, .int v1)] [] u) : ∀ (n : Nat) (v1 : Int32) (v2 : Int32) (u : PoS), wl_X12_undo_145 k177 post n v1 v2 u → AtS p l e (Rm 2) s m args below meth c V 4 0 0 (QI V below args s post) 145 [(0, .ref (eA V 48)), (1, .int v1), (2, .int v2)] [] u := by
  intro n
  induction n with
  | zero => intro v1 v2 u h; exact h.elim
  | succ n ih =>
    intro v1 v2 u h
    rw [wl_X12_undo_145] at h
    refine a_iload_n C 2 dX12_undo_145 rfl rfl ?_
    refine a_bipush C 30 dX12_undo_146 (by decide) ?_
    refine a_icmp_ge C 177 dX12_undo_148 (by decide) (fun c14 => ?_) (fun c14 => ?_)
    · have h := h.1 c14
      refine a_sub [0, 1] rfl ?_
      exact hk177 _ _ h
    · have h := h.2 c14
      refine a_aload_n C 0 dX12_undo_151 rfl rfl ?_
      refine a_getr C 0 (r := 49) dX12_undo_152 (by decide) rfl rfl rfl ib_12 (by decide) bw_1022 ?_
      refine a_bipush C 40 dX12_undo_155 (by decide) ?_
      refine a_iload_n C 2 dX12_undo_157 rfl rfl ?_
      refine a_iadd C dX12_undo_158 ?_
      refine a_aload_n C 0 dX12_undo_159 rfl rfl ?_
      refine a_getr C 0 (r := 49) dX12_undo_160 (by decide) rfl rfl rfl ib_12 (by decide) bw_1022 ?_
      refine a_iload_n C 1 dX12_undo_163 rfl rfl ?_
      refine a_bipush C 25 dX12_undo_164 (by decide) ?_
      refine a_iadd C dX12_undo_166 ?_
      refine a_iload_n C 2 dX12_undo_167 rfl rfl ?_
      refine a_iadd C dX12_undo_168 ?_
      refine b_iald C (Int32.toNatClampNeg ((v1 + 25) + v2)) dX12_undo_169 (by decide) rfl h.1 rfl ?_
      have h := h.2
      refine b_iast C (Int32.toNatClampNeg (40 + v2)) dX12_undo_170 (by decide) rfl h.1 rfl ?_
      have h := h.2
      refine a_iinc C (v2 + 1) 2 [(2, .int (v2 + 1)), (0, .ref (eA V 48)), (1, .int v1)] dX12_undo_171 rfl (congrArg (fun z => v2 + z) (show Int32.ofInt 1 = 1 by decide)) (by decide) rfl ?_
      refine a_goto C 145 dX12_undo_174 (by decide) ?_
      refine a_sub [1, 2, 0] rfl ?_
      exact ih _ _ _ h
set_option maxHeartbeats 4000000 in
set_option maxRecDepth 100000 in
theorem tl_X12_undo_179 {p : Program} {l : Launch} {e : Env} {s : State} {m : MethodId} {args : Array Value} {below : List Frame} {meth : Method} {c : Code} {V : VEn} {post : Int32 → PoS → Prop} (C : CxS p s m args meth c V cX12_undo 4 RX12 (some .int)) : ∀ (n : Nat) (v1 : Int32) (v2 : Int32) (u : PoS), wl_X12_undo_179 post n v1 v2 u → AtS p l e (Rm 2) s m args below meth c V 4 0 0 (QI V below args s post) 179 [(0, .ref (eA V 48)), (1, .int v1), (2, .int v2)] [] u := by
  intro n
  induction n with
  | zero => intro v1 v2 u h; exact h.elim
  | succ n ih =>
    intro v1 v2 u h
    rw [wl_X12_undo_179] at h
    refine a_iload_n C 2 dX12_undo_179 rfl rfl ?_
    refine a_bipush C 60 dX12_undo_180 (by decide) ?_
    refine a_icmp_ge C 212 dX12_undo_182 (by decide) (fun c16 => ?_) (fun c16 => ?_)
    · have h := h.1 c16
      refine a_aload_n C 0 dX12_undo_212 rfl rfl ?_
      refine a_getr C 0 (r := 49) dX12_undo_213 (by decide) rfl rfl rfl ib_12 (by decide) bw_1022 ?_
      refine a_iconst C 3 dX12_undo_216 (by decide) ?_
      refine b_iald C 3 dX12_undo_217 (by decide) rfl (vp_lit (by decide)) (by decide) ?_
      exact a_iret C dX12_undo_218 h
    · have h := h.2 c16
      refine a_aload_n C 0 dX12_undo_185 rfl rfl ?_
      refine a_getr C 0 (r := 49) dX12_undo_186 (by decide) rfl rfl rfl ib_12 (by decide) bw_1022 ?_
      refine a_sipush C 3643 dX12_undo_189 (by decide) ?_
      refine a_iload_n C 2 dX12_undo_192 rfl rfl ?_
      refine a_iadd C dX12_undo_193 ?_
      refine a_aload_n C 0 dX12_undo_194 rfl rfl ?_
      refine a_getr C 0 (r := 49) dX12_undo_195 (by decide) rfl rfl rfl ib_12 (by decide) bw_1022 ?_
      refine a_iload_n C 1 dX12_undo_198 rfl rfl ?_
      refine a_bipush C 55 dX12_undo_199 (by decide) ?_
      refine a_iadd C dX12_undo_201 ?_
      refine a_iload_n C 2 dX12_undo_202 rfl rfl ?_
      refine a_iadd C dX12_undo_203 ?_
      refine b_iald C (Int32.toNatClampNeg ((v1 + 55) + v2)) dX12_undo_204 (by decide) rfl h.1 rfl ?_
      have h := h.2
      refine b_iast C (Int32.toNatClampNeg (3643 + v2)) dX12_undo_205 (by decide) rfl h.1 rfl ?_
      have h := h.2
      refine a_iinc C (v2 + 1) 2 [(2, .int (v2 + 1)), (0, .ref (eA V 48)), (1, .int v1)] dX12_undo_206 rfl (congrArg (fun z => v2 + z) (show Int32.ofInt 1 = 1 by decide)) (by decide) rfl ?_
      refine a_goto C 179 dX12_undo_209 (by decide) ?_
      refine a_sub [1, 2, 0] rfl ?_
      exact ih _ _ _ h
theorem np_X12_undo : yX12_undo.cls ≠ "java/lang/invoke/MethodHandle" ∧ yX12_undo.cls ≠ "java/lang/invoke/VarHandle" ∧ (parseMethodDescriptor yX12_undo.desc).map (fun d => d.parameters.length) = some 0 := by decide +kernel
set_option maxHeartbeats 4000000 in
set_option maxRecDepth 100000 in
theorem m_X12_undo (l : Launch) (V : VEn) {u : PoS} {post : Int32 → PoS → Prop} (h : wp_X12_undo  u post) : KI l V yX12_undo cX12_undo 4 .int 2 [.ref (eA V 48)] u post := by
  refine KI_of (by decide) (Nat.le_of_ble_eq_true rfl) (lv := [(0, .ref (eA V 48))]) rfl ?_
  intro p e s m args below meth c C
  rw [wp_X12_undo] at h
  refine a_aload_n C 0 dX12_undo_0 rfl rfl ?_
  refine a_getr C 0 (r := 49) dX12_undo_1 (by decide) rfl rfl rfl ib_12 (by decide) bw_1022 ?_
  refine a_iconst C 3 dX12_undo_4 (by decide) ?_
  refine b_iald C 3 dX12_undo_5 (by decide) rfl (vp_lit (by decide)) (by decide) ?_
  refine a_if_ne C 11 dX12_undo_6 (by decide) (fun c17 => ?_) (fun c17 => ?_)
  · have h := h.1 c17
    refine a_aload_n C 0 dX12_undo_11 rfl rfl ?_
    refine a_getr C 0 (r := 49) dX12_undo_12 (by decide) rfl rfl rfl ib_12 (by decide) bw_1022 ?_
    refine a_iconst C 3 dX12_undo_15 (by decide) ?_
    refine a_dup2 C dX12_undo_16 rfl rfl ?_
    refine b_iald C 3 dX12_undo_17 (by decide) rfl (vp_lit (by decide)) (by decide) ?_
    refine a_iconst C 1 dX12_undo_18 (by decide) ?_
    refine a_isub C dX12_undo_19 ?_
    refine b_iast C 3 dX12_undo_20 (by decide) rfl (vp_lit (by decide)) (by decide) ?_
    refine a_sipush C 193 dX12_undo_21 (by decide) ?_
    refine a_bipush C 115 dX12_undo_24 (by decide) ?_
    refine a_aload_n C 0 dX12_undo_26 rfl rfl ?_
    refine a_getr C 0 (r := 49) dX12_undo_27 (by decide) rfl rfl rfl ib_12 (by decide) bw_1022 ?_
    refine a_iconst C 3 dX12_undo_30 (by decide) ?_
    refine b_iald C 3 dX12_undo_31 (by decide) rfl (vp_lit (by decide)) (by decide) ?_
    refine a_imul C dX12_undo_32 ?_
    refine a_iadd C dX12_undo_33 ?_
    refine a_topi (fun x1 ex1 => ?_)
    have h := h x1 ex1
    refine a_istore_n C [(1, .int x1), (0, .ref (eA V 48))] dX12_undo_34 rfl (by decide) rfl ?_
    refine a_iconst C 0 dX12_undo_35 (by decide) ?_
    refine a_istore_n C [(2, .int 0), (1, .int x1), (0, .ref (eA V 48))] dX12_undo_36 rfl (by decide) rfl ?_
    refine a_sub [2, 1, 0] rfl ?_
    obtain ⟨n37, h⟩ := h
    refine tl_X12_undo_37 C (fun v13 u3 h => ?_) n37 _ _ _ h
    refine a_iconst C 0 dX12_undo_67 (by decide) ?_
    refine a_istore_n C [(2, .int 0), (0, .ref (eA V 48)), (1, .int v13)] dX12_undo_68 rfl (by decide) rfl ?_
    refine a_sub [1, 2, 0] rfl ?_
    obtain ⟨n69, h⟩ := h
    refine tl_X12_undo_69 C (fun v113 u13 h => ?_) n69 _ _ _ h
    refine a_iconst C 0 dX12_undo_143 (by decide) ?_
    refine a_istore_n C [(2, .int 0), (0, .ref (eA V 48)), (1, .int v113)] dX12_undo_144 rfl (by decide) rfl ?_
    refine a_sub [1, 2, 0] rfl ?_
    obtain ⟨n145, h⟩ := h
    refine tl_X12_undo_145 C (fun v115 u15 h => ?_) n145 _ _ _ h
    refine a_iconst C 0 dX12_undo_177 (by decide) ?_
    refine a_istore_n C [(2, .int 0), (0, .ref (eA V 48)), (1, .int v115)] dX12_undo_178 rfl (by decide) rfl ?_
    refine a_sub [1, 2, 0] rfl ?_
    obtain ⟨n179, h⟩ := h
    refine tl_X12_undo_179 C n179 _ _ _ h
  · have h := h.2 c17
    refine a_iconst C (-1) dX12_undo_9 (by decide) ?_
    exact a_iret C dX12_undo_10 h

/-! RainOnTheOneModel.canWalk(II)Z -/
def wp_X12_canWalk (a0 : Int32) (a1 : Int32) (u : PoS) (post : Int32 → PoS → Prop) : Prop := wp_X12_isPerson a0 u (fun (r1 : Int32) (u2 : PoS) => ((r1 = 0 → post 0 u2) ∧ (¬ r1 = 0 → wp_X12_isFree a1 u2 (fun (r3 : Int32) (u4 : PoS) => ((r3 = 0 → post 0 u4) ∧ (¬ r3 = 0 → wp_X12_get a0 0 u4 (fun (r5 : Int32) (u6 : PoS) => wp_X12_beside r5 u6 (fun (r7 : Int32) (u8 : PoS) => wp_X12_has r7 a1 u8 (fun (r9 : Int32) (u10 : PoS) => ((r9 = 0 → post 0 u10) ∧ (¬ r9 = 0 → post 1 u10)))))))))))
theorem np_X12_canWalk : yX12_canWalk.cls ≠ "java/lang/invoke/MethodHandle" ∧ yX12_canWalk.cls ≠ "java/lang/invoke/VarHandle" ∧ (parseMethodDescriptor yX12_canWalk.desc).map (fun d => d.parameters.length) = some 2 := by decide +kernel
set_option maxHeartbeats 4000000 in
set_option maxRecDepth 100000 in
theorem m_X12_canWalk (l : Launch) (V : VEn) {a0 : Int32} {a1 : Int32} {u : PoS} {post : Int32 → PoS → Prop} (h : wp_X12_canWalk a0 a1 u post) : KI l V yX12_canWalk cX12_canWalk 3 .boolean 3 [.ref (eA V 48), .int a0, .int a1] u post := by
  refine KI_of (by decide) (Nat.le_of_ble_eq_true rfl) (lv := [(0, .ref (eA V 48)), (1, .int a0), (2, .int a1)]) rfl ?_
  intro p e s m args below meth c C
  rw [wp_X12_canWalk] at h
  refine a_aload_n C 0 dX12_canWalk_0 rfl rfl ?_
  refine a_iload_n C 1 dX12_canWalk_1 rfl rfl ?_
  refine a_callVi C dX12_canWalk_2 (m_X12_isPerson l V h) bw_1342 bw_1344 bw_71 bw_123 bw_1345 (by decide) rfl rfl np_X12_isPerson rfl rfl (by decide) (Nat.le_of_ble_eq_true rfl) ⟨Nat.zero_le _, Nat.zero_le _⟩ (fun r1 u2 h => ?_)
  refine a_if_eq C 36 dX12_canWalk_5 (by decide) (fun c13 => ?_) (fun c13 => ?_)
  · have h := h.1 c13
    refine a_iconst C 0 dX12_canWalk_36 (by decide) ?_
    exact a_zret C rfl dX12_canWalk_37 h
  · have h := h.2 c13
    refine a_aload_n C 0 dX12_canWalk_8 rfl rfl ?_
    refine a_iload_n C 2 dX12_canWalk_9 rfl rfl ?_
    refine a_callVi C dX12_canWalk_10 (m_X12_isFree l V h) bw_1140 bw_1142 bw_39 bw_123 bw_1143 (by decide) rfl rfl np_X12_isFree rfl rfl (by decide) (Nat.le_of_ble_eq_true rfl) ⟨Nat.zero_le _, Nat.zero_le _⟩ (fun r3 u4 h => ?_)
    refine a_if_eq C 36 dX12_canWalk_13 (by decide) (fun c12 => ?_) (fun c12 => ?_)
    · have h := h.1 c12
      refine a_iconst C 0 dX12_canWalk_36 (by decide) ?_
      exact a_zret C rfl dX12_canWalk_37 h
    · have h := h.2 c12
      refine a_aload_n C 0 dX12_canWalk_16 rfl rfl ?_
      refine a_iload_n C 1 dX12_canWalk_17 rfl rfl ?_
      refine a_iconst C 0 dX12_canWalk_18 (by decide) ?_
      refine a_callVi C dX12_canWalk_19 (m_X12_get l V h) bw_1158 bw_1160 bw_42 bw_123 bw_1161 (by decide) rfl rfl np_X12_get rfl rfl (by decide) (Nat.le_of_ble_eq_true rfl) ⟨Nat.zero_le _, Nat.zero_le _⟩ (fun r5 u6 h => ?_)
      refine a_callSi C dX12_canWalk_22 (m_X12_beside l V h) bw_1346 bw_1347 bw_123 bw_1348 np_X12_beside rfl rfl (by decide) (Nat.le_of_ble_eq_true rfl) ⟨Nat.zero_le _, Nat.zero_le _⟩ (fun r7 u8 h => ?_)
      refine a_iload_n C 2 dX12_canWalk_25 rfl rfl ?_
      refine a_callSi C dX12_canWalk_26 (m_X12_has l V h) bw_1240 bw_1241 bw_123 bw_1242 np_X12_has rfl rfl (by decide) (Nat.le_of_ble_eq_true rfl) ⟨Nat.zero_le _, Nat.zero_le _⟩ (fun r9 u10 h => ?_)
      refine a_if_eq C 36 dX12_canWalk_29 (by decide) (fun c11 => ?_) (fun c11 => ?_)
      · have h := h.1 c11
        refine a_iconst C 0 dX12_canWalk_36 (by decide) ?_
        exact a_zret C rfl dX12_canWalk_37 h
      · have h := h.2 c11
        refine a_iconst C 1 dX12_canWalk_32 (by decide) ?_
        refine a_goto C 37 dX12_canWalk_33 (by decide) ?_
        exact a_zret C rfl dX12_canWalk_37 h

/-! RainOnTheOneModel.walk(II)Z -/
def wp_X12_walk (a0 : Int32) (a1 : Int32) (u : PoS) (post : Int32 → PoS → Prop) : Prop := wp_X12_canWalk a0 a1 u (fun (r1 : Int32) (u2 : PoS) => ((¬ r1 = 0 → wp_X12_keep u2 (fun (u4 : PoS) => wp_X12_put a0 0 a1 u4 (fun (u6 : PoS) => post 1 u6))) ∧ (r1 = 0 → post 0 u2)))
theorem np_X12_walk : yX12_walk.cls ≠ "java/lang/invoke/MethodHandle" ∧ yX12_walk.cls ≠ "java/lang/invoke/VarHandle" ∧ (parseMethodDescriptor yX12_walk.desc).map (fun d => d.parameters.length) = some 2 := by decide +kernel
set_option maxHeartbeats 4000000 in
set_option maxRecDepth 100000 in
theorem m_X12_walk (l : Launch) (V : VEn) {a0 : Int32} {a1 : Int32} {u : PoS} {post : Int32 → PoS → Prop} (h : wp_X12_walk a0 a1 u post) : KI l V yX12_walk cX12_walk 3 .boolean 4 [.ref (eA V 48), .int a0, .int a1] u post := by
  refine KI_of (by decide) (Nat.le_of_ble_eq_true rfl) (lv := [(0, .ref (eA V 48)), (1, .int a0), (2, .int a1)]) rfl ?_
  intro p e s m args below meth c C
  rw [wp_X12_walk] at h
  refine a_aload_n C 0 dX12_walk_0 rfl rfl ?_
  refine a_iload_n C 1 dX12_walk_1 rfl rfl ?_
  refine a_iload_n C 2 dX12_walk_2 rfl rfl ?_
  refine a_callVi C dX12_walk_3 (m_X12_canWalk l V h) bw_1338 bw_1340 bw_70 bw_123 bw_1341 (by decide) rfl rfl np_X12_canWalk rfl rfl (by decide) (Nat.le_of_ble_eq_true rfl) ⟨Nat.zero_le _, Nat.zero_le _⟩ (fun r1 u2 h => ?_)
  refine a_if_ne C 11 dX12_walk_6 (by decide) (fun c7 => ?_) (fun c7 => ?_)
  · have h := h.1 c7
    refine a_aload_n C 0 dX12_walk_11 rfl rfl ?_
    refine a_callVv C dX12_walk_12 (m_X12_keep l V h) bw_1352 bw_1354 bw_72 bw_123 bw_1355 (by decide) rfl rfl np_X12_keep rfl rfl (by decide) (Nat.le_of_ble_eq_true rfl) ⟨Nat.zero_le _, Nat.zero_le _⟩ (fun u4 h => ?_)
    refine a_aload_n C 0 dX12_walk_15 rfl rfl ?_
    refine a_iload_n C 1 dX12_walk_16 rfl rfl ?_
    refine a_iconst C 0 dX12_walk_17 (by decide) ?_
    refine a_iload_n C 2 dX12_walk_18 rfl rfl ?_
    refine a_callVv C dX12_walk_19 (m_X12_put l V h) bw_1150 bw_1152 bw_40 bw_123 bw_1153 (by decide) rfl rfl np_X12_put rfl rfl (by decide) (Nat.le_of_ble_eq_true rfl) ⟨Nat.zero_le _, Nat.zero_le _⟩ (fun u6 h => ?_)
    refine a_iconst C 1 dX12_walk_22 (by decide) ?_
    exact a_zret C rfl dX12_walk_23 h
  · have h := h.2 c7
    refine a_iconst C 0 dX12_walk_9 (by decide) ?_
    exact a_zret C rfl dX12_walk_10 h

/-! RainOnTheOneModel.hat(IZ)Z -/
def wj_X12_hat_45 (post : Int32 → PoS → Prop) (s0 : Int32) (s1 : Int32) (s2 : Int32) (u : PoS) : Prop := wp_X12_put s2 s1 s0 u (fun (u8 : PoS) => post 1 u8)
def wj_X12_hat_23 (post : Int32 → PoS → Prop) (v1 : Int32) (v2 : Int32) (s0 : Int32) (u : PoS) : Prop := ((¬ s0 = v2 → wp_X12_keep u (fun (u6 : PoS) => ((v2 = 0 → wj_X12_hat_45 post 0 1 v1 u6) ∧ (¬ v2 = 0 → wj_X12_hat_45 post 1 1 v1 u6)))) ∧ (s0 = v2 → post 0 u))
def wp_X12_hat (a0 : Int32) (a1 : Int32) (u : PoS) (post : Int32 → PoS → Prop) : Prop := wp_X12_isPerson a0 u (fun (r1 : Int32) (u2 : PoS) => ((r1 = 0 → post 0 u2) ∧ (¬ r1 = 0 → wp_X12_get a0 1 u2 (fun (r3 : Int32) (u4 : PoS) => ((¬ r3 = 1 → wj_X12_hat_23 post a0 a1 0 u4) ∧ (r3 = 1 → wj_X12_hat_23 post a0 a1 1 u4))))))
set_option maxHeartbeats 4000000 in
set_option maxRecDepth 100000 in
theorem tj_X12_hat_45 {p : Program} {l : Launch} {e : Env} {s : State} {m : MethodId} {args : Array Value} {below : List Frame} {meth : Method} {c : Code} {V : VEn} {post : Int32 → PoS → Prop} (C : CxS p s m args meth c V cX12_hat 3 RX12 (some .boolean)) (s0 : Int32) (s1 : Int32) (s2 : Int32) (u : PoS) (h : wj_X12_hat_45 post s0 s1 s2 u) : AtS p l e (Rm 2) s m args below meth c V 3 0 0 (QI V below args s post) 45 [] [.int s0, .int s1, .int s2, .ref (eA V 48)] u := by
  rw [wj_X12_hat_45] at h
  refine a_callVv C dX12_hat_45 (m_X12_put l V h) bw_1150 bw_1152 bw_40 bw_123 bw_1153 (by decide) rfl rfl np_X12_put rfl rfl (by decide) (Nat.le_of_ble_eq_true rfl) ⟨Nat.zero_le _, Nat.zero_le _⟩ (fun u8 h => ?_)
  refine a_iconst C 1 dX12_hat_48 (by decide) ?_
  exact a_zret C rfl dX12_hat_49 h
set_option maxHeartbeats 4000000 in
set_option maxRecDepth 100000 in
theorem tj_X12_hat_23 {p : Program} {l : Launch} {e : Env} {s : State} {m : MethodId} {args : Array Value} {below : List Frame} {meth : Method} {c : Code} {V : VEn} {post : Int32 → PoS → Prop} (C : CxS p s m args meth c V cX12_hat 3 RX12 (some .boolean)) (v1 : Int32) (v2 : Int32) (s0 : Int32) (u : PoS) (h : wj_X12_hat_23 post v1 v2 s0 u) : AtS p l e (Rm 2) s m args below meth c V 3 0 0 (QI V below args s post) 23 [(0, .ref (eA V 48)), (1, .int v1), (2, .int v2)] [.int s0] u := by
  rw [wj_X12_hat_23] at h
  refine a_iload_n C 2 dX12_hat_23 rfl rfl ?_
  refine a_icmp_ne C 29 dX12_hat_24 (by decide) (fun c10 => ?_) (fun c10 => ?_)
  · have h := h.1 c10
    refine a_aload_n C 0 dX12_hat_29 rfl rfl ?_
    refine a_callVv C dX12_hat_30 (m_X12_keep l V h) bw_1352 bw_1354 bw_72 bw_123 bw_1355 (by decide) rfl rfl np_X12_keep rfl rfl (by decide) (Nat.le_of_ble_eq_true rfl) ⟨Nat.zero_le _, Nat.zero_le _⟩ (fun u6 h => ?_)
    refine a_aload_n C 0 dX12_hat_33 rfl rfl ?_
    refine a_iload_n C 1 dX12_hat_34 rfl rfl ?_
    refine a_iconst C 1 dX12_hat_35 (by decide) ?_
    refine a_iload_n C 2 dX12_hat_36 rfl rfl ?_
    refine a_if_eq C 44 dX12_hat_37 (by decide) (fun c9 => ?_) (fun c9 => ?_)
    · have h := h.1 c9
      refine a_iconst C 0 dX12_hat_44 (by decide) ?_
      refine a_sub [] rfl ?_
      refine tj_X12_hat_45 C _ _ _ _ h
    · have h := h.2 c9
      refine a_iconst C 1 dX12_hat_40 (by decide) ?_
      refine a_goto C 45 dX12_hat_41 (by decide) ?_
      refine a_sub [] rfl ?_
      refine tj_X12_hat_45 C _ _ _ _ h
  · have h := h.2 c10
    refine a_iconst C 0 dX12_hat_27 (by decide) ?_
    exact a_zret C rfl dX12_hat_28 h
theorem np_X12_hat : yX12_hat.cls ≠ "java/lang/invoke/MethodHandle" ∧ yX12_hat.cls ≠ "java/lang/invoke/VarHandle" ∧ (parseMethodDescriptor yX12_hat.desc).map (fun d => d.parameters.length) = some 2 := by decide +kernel
set_option maxHeartbeats 4000000 in
set_option maxRecDepth 100000 in
theorem m_X12_hat (l : Launch) (V : VEn) {a0 : Int32} {a1 : Int32} {u : PoS} {post : Int32 → PoS → Prop} (h : wp_X12_hat a0 a1 u post) : KI l V yX12_hat cX12_hat 3 .boolean 2 [.ref (eA V 48), .int a0, .int a1] u post := by
  refine KI_of (by decide) (Nat.le_of_ble_eq_true rfl) (lv := [(0, .ref (eA V 48)), (1, .int a0), (2, .int a1)]) rfl ?_
  intro p e s m args below meth c C
  rw [wp_X12_hat] at h
  refine a_aload_n C 0 dX12_hat_0 rfl rfl ?_
  refine a_iload_n C 1 dX12_hat_1 rfl rfl ?_
  refine a_callVi C dX12_hat_2 (m_X12_isPerson l V h) bw_1342 bw_1344 bw_71 bw_123 bw_1345 (by decide) rfl rfl np_X12_isPerson rfl rfl (by decide) (Nat.le_of_ble_eq_true rfl) ⟨Nat.zero_le _, Nat.zero_le _⟩ (fun r1 u2 h => ?_)
  refine a_if_eq C 27 dX12_hat_5 (by decide) (fun c12 => ?_) (fun c12 => ?_)
  · have h := h.1 c12
    refine a_iconst C 0 dX12_hat_27 (by decide) ?_
    exact a_zret C rfl dX12_hat_28 h
  · have h := h.2 c12
    refine a_aload_n C 0 dX12_hat_8 rfl rfl ?_
    refine a_iload_n C 1 dX12_hat_9 rfl rfl ?_
    refine a_iconst C 1 dX12_hat_10 (by decide) ?_
    refine a_callVi C dX12_hat_11 (m_X12_get l V h) bw_1158 bw_1160 bw_42 bw_123 bw_1161 (by decide) rfl rfl np_X12_get rfl rfl (by decide) (Nat.le_of_ble_eq_true rfl) ⟨Nat.zero_le _, Nat.zero_le _⟩ (fun r3 u4 h => ?_)
    refine a_iconst C 1 dX12_hat_14 (by decide) ?_
    refine a_icmp_ne C 22 dX12_hat_15 (by decide) (fun c11 => ?_) (fun c11 => ?_)
    · have h := h.1 c11
      refine a_iconst C 0 dX12_hat_22 (by decide) ?_
      refine tj_X12_hat_23 C _ _ _ _ h
    · have h := h.2 c11
      refine a_iconst C 1 dX12_hat_18 (by decide) ?_
      refine a_goto C 23 dX12_hat_19 (by decide) ?_
      refine tj_X12_hat_23 C _ _ _ _ h

/-! RainOnTheOneModel.draw()I -/
def wj_X12_draw_51 (k28 : Int32 → Int32 → PoS → Prop) (post : Int32 → PoS → Prop) (v1 : Int32) (v2 : Int32) (s0 : Int32) (s1 : Int32) (s2 : Int32) (u : PoS) : Prop := wp_X12_put s2 s1 s0 u (fun (u6 : PoS) => k28 v1 (v2 + 1) u6)
def wl_X12_draw_28 (post : Int32 → PoS → Prop) : Nat → Int32 → Int32 → PoS → Prop
  | 0, _, _, _ => False
  | n + 1, v1, v2, u => (((gI u 49 0) ≤ v2 → post v1 u) ∧ (¬ (gI u 49 0) ≤ v2 → ((¬ v2 = v1 → wj_X12_draw_51 (wl_X12_draw_28 post n) post v1 v2 0 1 v2 u) ∧ (v2 = v1 → wj_X12_draw_51 (wl_X12_draw_28 post n) post v1 v2 1 1 v2 u))))
def wp_X12_draw (u : PoS) (post : Int32 → PoS → Prop) : Prop := ((¬ (gI u 49 0) = 0 → wp_X12_keep u (fun (u2 : PoS) => wp_X12_drawnBy (gI u2 49 0) u2 (fun (r3 : Int32) (u4 : PoS) => (∃ n28, wl_X12_draw_28 post n28 r3 0 u4)))) ∧ ((gI u 49 0) = 0 → post (-1) u))
set_option maxHeartbeats 4000000 in
set_option maxRecDepth 100000 in
theorem tj_X12_draw_51 {p : Program} {l : Launch} {e : Env} {s : State} {m : MethodId} {args : Array Value} {below : List Frame} {meth : Method} {c : Code} {V : VEn} {k28 : Int32 → Int32 → PoS → Prop} {post : Int32 → PoS → Prop} (C : CxS p s m args meth c V cX12_draw 3 RX12 (some .int)) (hk28 : ∀ (v1 : Int32) (v2 : Int32) (u : PoS), k28 v1 v2 u → AtS p l e (Rm 2) s m args below meth c V 3 0 0 (QI V below args s post) 28 [(0, .ref (eA V 48)), (1, .int v1), (2, .int v2)] [] u) (v1 : Int32) (v2 : Int32) (s0 : Int32) (s1 : Int32) (s2 : Int32) (u : PoS) (h : wj_X12_draw_51 k28 post v1 v2 s0 s1 s2 u) : AtS p l e (Rm 2) s m args below meth c V 3 0 0 (QI V below args s post) 51 [(0, .ref (eA V 48)), (1, .int v1), (2, .int v2)] [.int s0, .int s1, .int s2, .ref (eA V 48)] u := by
  rw [wj_X12_draw_51] at h
  refine a_callVv C dX12_draw_51 (m_X12_put l V h) bw_1150 bw_1152 bw_40 bw_123 bw_1153 (by decide) rfl rfl np_X12_put rfl rfl (by decide) (Nat.le_of_ble_eq_true rfl) ⟨Nat.zero_le _, Nat.zero_le _⟩ (fun u6 h => ?_)
  refine a_iinc C (v2 + 1) 2 [(2, .int (v2 + 1)), (0, .ref (eA V 48)), (1, .int v1)] dX12_draw_54 rfl (congrArg (fun z => v2 + z) (show Int32.ofInt 1 = 1 by decide)) (by decide) rfl ?_
  refine a_goto C 28 dX12_draw_57 (by decide) ?_
  refine a_sub [1, 2, 0] rfl ?_
  exact hk28 _ _ _ h
set_option maxHeartbeats 4000000 in
set_option maxRecDepth 100000 in
theorem tl_X12_draw_28 {p : Program} {l : Launch} {e : Env} {s : State} {m : MethodId} {args : Array Value} {below : List Frame} {meth : Method} {c : Code} {V : VEn} {post : Int32 → PoS → Prop} (C : CxS p s m args meth c V cX12_draw 3 RX12 (some .int)) : ∀ (n : Nat) (v1 : Int32) (v2 : Int32) (u : PoS), wl_X12_draw_28 post n v1 v2 u → AtS p l e (Rm 2) s m args below meth c V 3 0 0 (QI V below args s post) 28 [(0, .ref (eA V 48)), (1, .int v1), (2, .int v2)] [] u := by
  intro n
  induction n with
  | zero => intro v1 v2 u h; exact h.elim
  | succ n ih =>
    intro v1 v2 u h
    rw [wl_X12_draw_28] at h
    refine a_iload_n C 2 dX12_draw_28 rfl rfl ?_
    refine a_aload_n C 0 dX12_draw_29 rfl rfl ?_
    refine a_getr C 0 (r := 49) dX12_draw_30 (by decide) rfl rfl rfl ib_12 (by decide) bw_1022 ?_
    refine a_iconst C 0 dX12_draw_33 (by decide) ?_
    refine b_iald C 0 dX12_draw_34 (by decide) rfl (vp_lit (by decide)) (by decide) ?_
    refine a_icmp_ge C 60 dX12_draw_35 (by decide) (fun c8 => ?_) (fun c8 => ?_)
    · have h := h.1 c8
      refine a_iload_n C 1 dX12_draw_60 rfl rfl ?_
      exact a_iret C dX12_draw_61 h
    · have h := h.2 c8
      refine a_aload_n C 0 dX12_draw_38 rfl rfl ?_
      refine a_iload_n C 2 dX12_draw_39 rfl rfl ?_
      refine a_iconst C 1 dX12_draw_40 (by decide) ?_
      refine a_iload_n C 2 dX12_draw_41 rfl rfl ?_
      refine a_iload_n C 1 dX12_draw_42 rfl rfl ?_
      refine a_icmp_ne C 50 dX12_draw_43 (by decide) (fun c7 => ?_) (fun c7 => ?_)
      · have h := h.1 c7
        refine a_iconst C 0 dX12_draw_50 (by decide) ?_
        refine tj_X12_draw_51 C ih _ _ _ _ _ _ h
      · have h := h.2 c7
        refine a_iconst C 1 dX12_draw_46 (by decide) ?_
        refine a_goto C 51 dX12_draw_47 (by decide) ?_
        refine tj_X12_draw_51 C ih _ _ _ _ _ _ h
theorem np_X12_draw : yX12_draw.cls ≠ "java/lang/invoke/MethodHandle" ∧ yX12_draw.cls ≠ "java/lang/invoke/VarHandle" ∧ (parseMethodDescriptor yX12_draw.desc).map (fun d => d.parameters.length) = some 0 := by decide +kernel
set_option maxHeartbeats 4000000 in
set_option maxRecDepth 100000 in
theorem m_X12_draw (l : Launch) (V : VEn) {u : PoS} {post : Int32 → PoS → Prop} (h : wp_X12_draw  u post) : KI l V yX12_draw cX12_draw 3 .int 2 [.ref (eA V 48)] u post := by
  refine KI_of (by decide) (Nat.le_of_ble_eq_true rfl) (lv := [(0, .ref (eA V 48))]) rfl ?_
  intro p e s m args below meth c C
  rw [wp_X12_draw] at h
  refine a_aload_n C 0 dX12_draw_0 rfl rfl ?_
  refine a_getr C 0 (r := 49) dX12_draw_1 (by decide) rfl rfl rfl ib_12 (by decide) bw_1022 ?_
  refine a_iconst C 0 dX12_draw_4 (by decide) ?_
  refine b_iald C 0 dX12_draw_5 (by decide) rfl (vp_lit (by decide)) (by decide) ?_
  refine a_if_ne C 11 dX12_draw_6 (by decide) (fun c9 => ?_) (fun c9 => ?_)
  · have h := h.1 c9
    refine a_aload_n C 0 dX12_draw_11 rfl rfl ?_
    refine a_callVv C dX12_draw_12 (m_X12_keep l V h) bw_1352 bw_1354 bw_72 bw_123 bw_1355 (by decide) rfl rfl np_X12_keep rfl rfl (by decide) (Nat.le_of_ble_eq_true rfl) ⟨Nat.zero_le _, Nat.zero_le _⟩ (fun u2 h => ?_)
    refine a_aload_n C 0 dX12_draw_15 rfl rfl ?_
    refine a_aload_n C 0 dX12_draw_16 rfl rfl ?_
    refine a_getr C 0 (r := 49) dX12_draw_17 (by decide) rfl rfl rfl ib_12 (by decide) bw_1022 ?_
    refine a_iconst C 0 dX12_draw_20 (by decide) ?_
    refine b_iald C 0 dX12_draw_21 (by decide) rfl (vp_lit (by decide)) (by decide) ?_
    refine a_callVi C dX12_draw_22 (m_X12_drawnBy l V h) bw_1364 bw_1366 bw_73 bw_123 bw_1367 (by decide) rfl rfl np_X12_drawnBy rfl rfl (by decide) (Nat.le_of_ble_eq_true rfl) ⟨Nat.zero_le _, Nat.zero_le _⟩ (fun r3 u4 h => ?_)
    refine a_istore_n C [(1, .int r3), (0, .ref (eA V 48))] dX12_draw_25 rfl (by decide) rfl ?_
    refine a_iconst C 0 dX12_draw_26 (by decide) ?_
    refine a_istore_n C [(2, .int 0), (1, .int r3), (0, .ref (eA V 48))] dX12_draw_27 rfl (by decide) rfl ?_
    refine a_sub [2, 1, 0] rfl ?_
    obtain ⟨n28, h⟩ := h
    refine tl_X12_draw_28 C n28 _ _ _ h
  · have h := h.2 c9
    refine a_iconst C (-1) dX12_draw_9 (by decide) ?_
    exact a_iret C dX12_draw_10 h

/-! RainOnTheOneModel.arePassed(I)Z -/
def wl_X12_arePassed_7 (post : Int32 → PoS → Prop) : Nat → Int32 → Int32 → PoS → Prop
  | 0, _, _, _ => False
  | n + 1, v1, v2, u => ((v1 ≤ v2 → post 1 u) ∧ (¬ v1 ≤ v2 → ((¬ (gI u 49 6) = 9999 → wp_X12_keep u (fun (u2 : PoS) => wp_X12_pass u2 (fun (u4 : PoS) => wl_X12_arePassed_7 post n v1 (v2 + 1) u4))) ∧ ((gI u 49 6) = 9999 → post 0 u))))
def wp_X12_arePassed (a0 : Int32) (u : PoS) (post : Int32 → PoS → Prop) : Prop := (∃ n7, wl_X12_arePassed_7 post n7 a0 0 (pI u 48 25 0))
set_option maxHeartbeats 4000000 in
set_option maxRecDepth 100000 in
theorem tl_X12_arePassed_7 {p : Program} {l : Launch} {e : Env} {s : State} {m : MethodId} {args : Array Value} {below : List Frame} {meth : Method} {c : Code} {V : VEn} {post : Int32 → PoS → Prop} (C : CxS p s m args meth c V cX12_arePassed 3 RX12 (some .boolean)) : ∀ (n : Nat) (v1 : Int32) (v2 : Int32) (u : PoS), wl_X12_arePassed_7 post n v1 v2 u → AtS p l e (Rm 8) s m args below meth c V 3 0 0 (QI V below args s post) 7 [(0, .ref (eA V 48)), (1, .int v1), (2, .int v2)] [] u := by
  intro n
  induction n with
  | zero => intro v1 v2 u h; exact h.elim
  | succ n ih =>
    intro v1 v2 u h
    rw [wl_X12_arePassed_7] at h
    refine a_iload_n C 2 dX12_arePassed_7 rfl rfl ?_
    refine a_iload_n C 1 dX12_arePassed_8 rfl rfl ?_
    refine a_icmp_ge C 41 dX12_arePassed_9 (by decide) (fun c6 => ?_) (fun c6 => ?_)
    · have h := h.1 c6
      refine a_iconst C 1 dX12_arePassed_41 (by decide) ?_
      exact a_zret C rfl dX12_arePassed_42 h
    · have h := h.2 c6
      refine a_aload_n C 0 dX12_arePassed_12 rfl rfl ?_
      refine a_getr C 0 (r := 49) dX12_arePassed_13 (by decide) rfl rfl rfl ib_12 (by decide) bw_1022 ?_
      refine a_bipush C 6 dX12_arePassed_16 (by decide) ?_
      refine b_iald C 6 dX12_arePassed_18 (by decide) rfl (vp_lit (by decide)) (by decide) ?_
      refine a_sipush C 9999 dX12_arePassed_19 (by decide) ?_
      refine a_icmp_ne C 27 dX12_arePassed_22 (by decide) (fun c5 => ?_) (fun c5 => ?_)
      · have h := h.1 c5
        refine a_aload_n C 0 dX12_arePassed_27 rfl rfl ?_
        refine a_callVv C dX12_arePassed_28 (m_X12_keep l V h) bw_1352 bw_1354 bw_72 bw_123 bw_1355 (by decide) rfl rfl np_X12_keep rfl rfl (by decide) (Nat.le_of_ble_eq_true rfl) ⟨Nat.zero_le _, Nat.zero_le _⟩ (fun u2 h => ?_)
        refine a_aload_n C 0 dX12_arePassed_31 rfl rfl ?_
        refine a_callVv C dX12_arePassed_32 (m_X12_pass l V h) bw_1383 bw_1385 bw_76 bw_123 bw_1386 (by decide) rfl rfl np_X12_pass rfl rfl (by decide) (Nat.le_of_ble_eq_true rfl) ⟨Nat.zero_le _, Nat.zero_le _⟩ (fun u4 h => ?_)
        refine a_iinc C (v2 + 1) 2 [(2, .int (v2 + 1)), (0, .ref (eA V 48)), (1, .int v1)] dX12_arePassed_35 rfl (congrArg (fun z => v2 + z) (show Int32.ofInt 1 = 1 by decide)) (by decide) rfl ?_
        refine a_goto C 7 dX12_arePassed_38 (by decide) ?_
        refine a_sub [1, 2, 0] rfl ?_
        exact ih _ _ _ h
      · have h := h.2 c5
        refine a_iconst C 0 dX12_arePassed_25 (by decide) ?_
        exact a_zret C rfl dX12_arePassed_26 h
theorem np_X12_arePassed : yX12_arePassed.cls ≠ "java/lang/invoke/MethodHandle" ∧ yX12_arePassed.cls ≠ "java/lang/invoke/VarHandle" ∧ (parseMethodDescriptor yX12_arePassed.desc).map (fun d => d.parameters.length) = some 1 := by decide +kernel
set_option maxHeartbeats 4000000 in
set_option maxRecDepth 100000 in
theorem m_X12_arePassed (l : Launch) (V : VEn) {a0 : Int32} {u : PoS} {post : Int32 → PoS → Prop} (h : wp_X12_arePassed a0 u post) : KI l V yX12_arePassed cX12_arePassed 3 .boolean 8 [.ref (eA V 48), .int a0] u post := by
  refine KI_of (by decide) (Nat.le_of_ble_eq_true rfl) (lv := [(0, .ref (eA V 48)), (1, .int a0)]) rfl ?_
  intro p e s m args below meth c C
  rw [wp_X12_arePassed] at h
  refine a_aload_n C 0 dX12_arePassed_0 rfl rfl ?_
  refine a_iconst C 0 dX12_arePassed_1 (by decide) ?_
  refine a_puti C (ty := .int) 25 dX12_arePassed_2 (by decide) rfl rfl rfl ib_12 (by decide) bw_1047 tyX12 tyX12_ok nmX12 rfl (by decide +kernel) rfl rfl ?_
  refine a_iconst C 0 dX12_arePassed_5 (by decide) ?_
  refine a_istore_n C [(2, .int 0), (0, .ref (eA V 48)), (1, .int a0)] dX12_arePassed_6 rfl (by decide) rfl ?_
  refine a_sub [1, 2, 0] rfl ?_
  obtain ⟨n7, h⟩ := h
  refine tl_X12_arePassed_7 C n7 _ _ _ h

/-! RainOnTheOneModel.minute(I)I -/
def wp_X12_minute (a0 : Int32) (u : PoS) (post : Int32 → PoS → Prop) : Prop := wp_X12_isIn a0 1 60 u (fun (r1 : Int32) (u2 : PoS) => ((r1 = 0 → post (-1) u2) ∧ (¬ r1 = 0 → ((9999 < ((gI u2 49 6) + a0) → post (-1) u2) ∧ (¬ 9999 < ((gI u2 49 6) + a0) → wp_X12_arePassed a0 u2 (fun (r3 : Int32) (u4 : PoS) => ((r3 = 0 → post (-1) u4) ∧ (¬ r3 = 0 → post (gI u4 48 25) u4))))))))
theorem np_X12_minute : yX12_minute.cls ≠ "java/lang/invoke/MethodHandle" ∧ yX12_minute.cls ≠ "java/lang/invoke/VarHandle" ∧ (parseMethodDescriptor yX12_minute.desc).map (fun d => d.parameters.length) = some 1 := by decide +kernel
set_option maxHeartbeats 4000000 in
set_option maxRecDepth 100000 in
theorem m_X12_minute (l : Launch) (V : VEn) {a0 : Int32} {u : PoS} {post : Int32 → PoS → Prop} (h : wp_X12_minute a0 u post) : KI l V yX12_minute cX12_minute 2 .int 9 [.ref (eA V 48), .int a0] u post := by
  refine KI_of (by decide) (Nat.le_of_ble_eq_true rfl) (lv := [(0, .ref (eA V 48)), (1, .int a0)]) rfl ?_
  intro p e s m args below meth c C
  rw [wp_X12_minute] at h
  refine a_iload_n C 1 dX12_minute_0 rfl rfl ?_
  refine a_iconst C 1 dX12_minute_1 (by decide) ?_
  refine a_bipush C 60 dX12_minute_2 (by decide) ?_
  refine a_callSi C dX12_minute_4 (m_X12_isIn l V h) bw_1147 bw_1148 bw_123 bw_1149 np_X12_isIn rfl rfl (by decide) (Nat.le_of_ble_eq_true rfl) ⟨Nat.zero_le _, Nat.zero_le _⟩ (fun r1 u2 h => ?_)
  refine a_if_eq C 40 dX12_minute_7 (by decide) (fun c7 => ?_) (fun c7 => ?_)
  · have h := h.1 c7
    refine a_iconst C (-1) dX12_minute_40 (by decide) ?_
    exact a_iret C dX12_minute_41 h
  · have h := h.2 c7
    refine a_aload_n C 0 dX12_minute_10 rfl rfl ?_
    refine a_getr C 0 (r := 49) dX12_minute_11 (by decide) rfl rfl rfl ib_12 (by decide) bw_1022 ?_
    refine a_bipush C 6 dX12_minute_14 (by decide) ?_
    refine b_iald C 6 dX12_minute_16 (by decide) rfl (vp_lit (by decide)) (by decide) ?_
    refine a_iload_n C 1 dX12_minute_17 rfl rfl ?_
    refine a_iadd C dX12_minute_18 ?_
    refine a_sipush C 9999 dX12_minute_19 (by decide) ?_
    refine a_icmp_gt C 40 dX12_minute_22 (by decide) (fun c6 => ?_) (fun c6 => ?_)
    · have h := h.1 c6
      refine a_iconst C (-1) dX12_minute_40 (by decide) ?_
      exact a_iret C dX12_minute_41 h
    · have h := h.2 c6
      refine a_aload_n C 0 dX12_minute_25 rfl rfl ?_
      refine a_iload_n C 1 dX12_minute_26 rfl rfl ?_
      refine a_callVi C dX12_minute_27 (m_X12_arePassed l V h) bw_1379 bw_1381 bw_75 bw_123 bw_1382 (by decide) rfl rfl np_X12_arePassed rfl rfl (by decide) (Nat.le_of_ble_eq_true rfl) ⟨Nat.zero_le _, Nat.zero_le _⟩ (fun r3 u4 h => ?_)
      refine a_if_eq C 40 dX12_minute_30 (by decide) (fun c5 => ?_) (fun c5 => ?_)
      · have h := h.1 c5
        refine a_iconst C (-1) dX12_minute_40 (by decide) ?_
        exact a_iret C dX12_minute_41 h
      · have h := h.2 c5
        refine a_aload_n C 0 dX12_minute_33 rfl rfl ?_
        refine a_geti C 25 dX12_minute_34 (by decide) rfl rfl rfl ib_12 (by decide) bw_1047 ?_
        refine a_goto C 41 dX12_minute_37 (by decide) ?_
        exact a_iret C dX12_minute_41 h

/-! RainOnTheOneModel.isPlayed(I)Z -/
def wp_X12_isPlayed (a0 : Int32) (u : PoS) (post : Int32 → PoS → Prop) : Prop := vp_in (a0 + 1) 2724 ∧ ∀ x1 : Int32, x1 = (gI u 51 (Int32.toNatClampNeg (a0 + 1))) → vp_in (a0 + 2) 2724 ∧ ∀ x2 : Int32, x2 = (gI u 51 (Int32.toNatClampNeg (a0 + 2))) → vp_in a0 2724 ∧ (((gI u 51 (Int32.toNatClampNeg a0)) = 2 → wp_X12_person x1 1 u (fun (r3 : Int32) (u4 : PoS) => ((r3 < 0 → post 0 u4) ∧ (¬ r3 < 0 → post 1 u4)))) ∧ ((gI u 51 (Int32.toNatClampNeg a0)) = 3 → wp_X12_field x2 x1 u (fun (r6 : Int32) (u7 : PoS) => IsB r6 ∧ post r6 u7)) ∧ ((gI u 51 (Int32.toNatClampNeg a0)) = 4 → wp_X12_shed x1 1 u (fun (r8 : Int32) (u9 : PoS) => IsB r8 ∧ post r8 u9)) ∧ ((gI u 51 (Int32.toNatClampNeg a0)) = 5 → wp_X12_walk x1 x2 u (fun (r10 : Int32) (u11 : PoS) => IsB r10 ∧ post r10 u11)) ∧ ((gI u 51 (Int32.toNatClampNeg a0)) = 6 → wp_X12_hat x1 0 u (fun (r12 : Int32) (u13 : PoS) => IsB r12 ∧ post r12 u13)) ∧ ((gI u 51 (Int32.toNatClampNeg a0)) = 7 → wp_X12_hat x1 1 u (fun (r14 : Int32) (u15 : PoS) => IsB r14 ∧ post r14 u15)) ∧ ((gI u 51 (Int32.toNatClampNeg a0)) = 8 → wp_X12_draw u (fun (r16 : Int32) (u17 : PoS) => ((r16 < 0 → post 0 u17) ∧ (¬ r16 < 0 → post 1 u17)))) ∧ ((gI u 51 (Int32.toNatClampNeg a0)) = 9 → wp_X12_arePassed x1 u (fun (r19 : Int32) (u20 : PoS) => IsB r19 ∧ post r19 u20)) ∧ (¬ (gI u 51 (Int32.toNatClampNeg a0)) = 2 → ¬ (gI u 51 (Int32.toNatClampNeg a0)) = 3 → ¬ (gI u 51 (Int32.toNatClampNeg a0)) = 4 → ¬ (gI u 51 (Int32.toNatClampNeg a0)) = 5 → ¬ (gI u 51 (Int32.toNatClampNeg a0)) = 6 → ¬ (gI u 51 (Int32.toNatClampNeg a0)) = 7 → ¬ (gI u 51 (Int32.toNatClampNeg a0)) = 8 → ¬ (gI u 51 (Int32.toNatClampNeg a0)) = 9 → post 1 u))
theorem np_X12_isPlayed : yX12_isPlayed.cls ≠ "java/lang/invoke/MethodHandle" ∧ yX12_isPlayed.cls ≠ "java/lang/invoke/VarHandle" ∧ (parseMethodDescriptor yX12_isPlayed.desc).map (fun d => d.parameters.length) = some 1 := by decide +kernel
set_option maxHeartbeats 4000000 in
set_option maxRecDepth 100000 in
theorem m_X12_isPlayed (l : Launch) (V : VEn) {a0 : Int32} {u : PoS} {post : Int32 → PoS → Prop} (h : wp_X12_isPlayed a0 u post) : KI l V yX12_isPlayed cX12_isPlayed 4 .boolean 9 [.ref (eA V 48), .int a0] u post := by
  refine KI_of (by decide) (Nat.le_of_ble_eq_true rfl) (lv := [(0, .ref (eA V 48)), (1, .int a0)]) rfl ?_
  intro p e s m args below meth c C
  rw [wp_X12_isPlayed] at h
  refine a_aload_n C 0 dX12_isPlayed_0 rfl rfl ?_
  refine a_getr C 2 (r := 51) dX12_isPlayed_1 (by decide) rfl rfl rfl ib_12 (by decide) bw_1024 ?_
  refine a_iload_n C 1 dX12_isPlayed_4 rfl rfl ?_
  refine a_iconst C 1 dX12_isPlayed_5 (by decide) ?_
  refine a_iadd C dX12_isPlayed_6 ?_
  refine b_iald C (Int32.toNatClampNeg (a0 + 1)) dX12_isPlayed_7 (by decide) rfl h.1 rfl ?_
  have h := h.2
  refine a_topi (fun x1 ex1 => ?_)
  have h := h x1 ex1
  refine a_istore_n C [(2, .int x1), (0, .ref (eA V 48)), (1, .int a0)] dX12_isPlayed_8 rfl (by decide) rfl ?_
  refine a_aload_n C 1 dX12_isPlayed_9 rfl rfl ?_
  refine a_getr C 2 (r := 51) dX12_isPlayed_10 (by decide) rfl rfl rfl ib_12 (by decide) bw_1024 ?_
  refine a_iload_n C 2 dX12_isPlayed_13 rfl rfl ?_
  refine a_iconst C 2 dX12_isPlayed_14 (by decide) ?_
  refine a_iadd C dX12_isPlayed_15 ?_
  refine b_iald C (Int32.toNatClampNeg (a0 + 2)) dX12_isPlayed_16 (by decide) rfl h.1 rfl ?_
  have h := h.2
  refine a_topi (fun x2 ex2 => ?_)
  have h := h x2 ex2
  refine a_istore_n C [(3, .int x2), (2, .int x1), (0, .ref (eA V 48)), (1, .int a0)] dX12_isPlayed_17 rfl (by decide) rfl ?_
  refine a_aload_n C 2 dX12_isPlayed_18 rfl rfl ?_
  refine a_getr C 2 (r := 51) dX12_isPlayed_19 (by decide) rfl rfl rfl ib_12 (by decide) bw_1024 ?_
  refine a_iload_n C 3 dX12_isPlayed_22 rfl rfl ?_
  refine b_iald C (Int32.toNatClampNeg a0) dX12_isPlayed_23 (by decide) rfl h.1 rfl ?_
  have h := h.2
  obtain ⟨hs0, hs1, hs2, hs3, hs4, hs5, hs6, hs7, hd0⟩ := h
  by_cases hq0 : (gI u 51 (Int32.toNatClampNeg a0)) = 2
  · have h := hs0 hq0
    refine a_tableIn C (off := 48) 72 dX12_isPlayed_24 (by rw [hq0]; decide) (by rw [hq0]; decide) (by rw [hq0]; decide +kernel) (by decide) ?_
    refine a_aload_n C 2 dX12_isPlayed_72 rfl rfl ?_
    refine a_iload_n C 1 dX12_isPlayed_73 rfl rfl ?_
    refine a_iconst C 1 dX12_isPlayed_74 (by decide) ?_
    refine a_callVi C dX12_isPlayed_75 (m_X12_person l V h) bw_1479 bw_1137 bw_1138 bw_123 bw_1139 (by decide) rfl rfl np_X12_person rfl rfl (by decide) (Nat.le_of_ble_eq_true rfl) ⟨Nat.zero_le _, Nat.zero_le _⟩ (fun r3 u4 h => ?_)
    refine a_if_lt C 85 dX12_isPlayed_78 (by decide) (fun c5 => ?_) (fun c5 => ?_)
    · have h := h.1 c5
      refine a_iconst C 0 dX12_isPlayed_85 (by decide) ?_
      exact a_zret C rfl dX12_isPlayed_86 h
    · have h := h.2 c5
      refine a_iconst C 1 dX12_isPlayed_81 (by decide) ?_
      refine a_goto C 86 dX12_isPlayed_82 (by decide) ?_
      exact a_zret C rfl dX12_isPlayed_86 h
  by_cases hq1 : (gI u 51 (Int32.toNatClampNeg a0)) = 3
  · have h := hs1 hq1
    refine a_tableIn C (off := 63) 87 dX12_isPlayed_24 (by rw [hq1]; decide) (by rw [hq1]; decide) (by rw [hq1]; decide +kernel) (by decide) ?_
    refine a_aload_n C 2 dX12_isPlayed_87 rfl rfl ?_
    refine a_iload_n C 0 dX12_isPlayed_88 rfl rfl ?_
    refine a_iload_n C 1 dX12_isPlayed_89 rfl rfl ?_
    refine a_callVi C dX12_isPlayed_90 (m_X12_field l V h) bw_1480 bw_1163 bw_1164 bw_123 bw_1165 (by decide) rfl rfl np_X12_field rfl rfl (by decide) (Nat.le_of_ble_eq_true rfl) ⟨Nat.zero_le _, Nat.zero_le _⟩ (fun r6 u7 h => ?_)
    exact a_zret C (isB_n h.1) dX12_isPlayed_93 h.2
  by_cases hq2 : (gI u 51 (Int32.toNatClampNeg a0)) = 4
  · have h := hs2 hq2
    refine a_tableIn C (off := 70) 94 dX12_isPlayed_24 (by rw [hq2]; decide) (by rw [hq2]; decide) (by rw [hq2]; decide +kernel) (by decide) ?_
    refine a_aload_n C 2 dX12_isPlayed_94 rfl rfl ?_
    refine a_iload_n C 1 dX12_isPlayed_95 rfl rfl ?_
    refine a_iconst C 1 dX12_isPlayed_96 (by decide) ?_
    refine a_callVi C dX12_isPlayed_97 (m_X12_shed l V h) bw_1481 bw_1167 bw_1168 bw_123 bw_1169 (by decide) rfl rfl np_X12_shed rfl rfl (by decide) (Nat.le_of_ble_eq_true rfl) ⟨Nat.zero_le _, Nat.zero_le _⟩ (fun r8 u9 h => ?_)
    exact a_zret C (isB_n h.1) dX12_isPlayed_100 h.2
  by_cases hq3 : (gI u 51 (Int32.toNatClampNeg a0)) = 5
  · have h := hs3 hq3
    refine a_tableIn C (off := 77) 101 dX12_isPlayed_24 (by rw [hq3]; decide) (by rw [hq3]; decide) (by rw [hq3]; decide +kernel) (by decide) ?_
    refine a_aload_n C 2 dX12_isPlayed_101 rfl rfl ?_
    refine a_iload_n C 1 dX12_isPlayed_102 rfl rfl ?_
    refine a_iload_n C 0 dX12_isPlayed_103 rfl rfl ?_
    refine a_callVi C dX12_isPlayed_104 (m_X12_walk l V h) bw_1482 bw_1335 bw_1336 bw_123 bw_1337 (by decide) rfl rfl np_X12_walk rfl rfl (by decide) (Nat.le_of_ble_eq_true rfl) ⟨Nat.zero_le _, Nat.zero_le _⟩ (fun r10 u11 h => ?_)
    exact a_zret C (isB_n h.1) dX12_isPlayed_107 h.2
  by_cases hq4 : (gI u 51 (Int32.toNatClampNeg a0)) = 6
  · have h := hs4 hq4
    refine a_tableIn C (off := 84) 108 dX12_isPlayed_24 (by rw [hq4]; decide) (by rw [hq4]; decide) (by rw [hq4]; decide +kernel) (by decide) ?_
    refine a_aload_n C 2 dX12_isPlayed_108 rfl rfl ?_
    refine a_iload_n C 1 dX12_isPlayed_109 rfl rfl ?_
    refine a_iconst C 0 dX12_isPlayed_110 (by decide) ?_
    refine a_callVi C dX12_isPlayed_111 (m_X12_hat l V h) bw_1483 bw_1357 bw_1358 bw_123 bw_1359 (by decide) rfl rfl np_X12_hat rfl rfl (by decide) (Nat.le_of_ble_eq_true rfl) ⟨Nat.zero_le _, Nat.zero_le _⟩ (fun r12 u13 h => ?_)
    exact a_zret C (isB_n h.1) dX12_isPlayed_114 h.2
  by_cases hq5 : (gI u 51 (Int32.toNatClampNeg a0)) = 7
  · have h := hs5 hq5
    refine a_tableIn C (off := 91) 115 dX12_isPlayed_24 (by rw [hq5]; decide) (by rw [hq5]; decide) (by rw [hq5]; decide +kernel) (by decide) ?_
    refine a_aload_n C 2 dX12_isPlayed_115 rfl rfl ?_
    refine a_iload_n C 1 dX12_isPlayed_116 rfl rfl ?_
    refine a_iconst C 1 dX12_isPlayed_117 (by decide) ?_
    refine a_callVi C dX12_isPlayed_118 (m_X12_hat l V h) bw_1483 bw_1357 bw_1358 bw_123 bw_1359 (by decide) rfl rfl np_X12_hat rfl rfl (by decide) (Nat.le_of_ble_eq_true rfl) ⟨Nat.zero_le _, Nat.zero_le _⟩ (fun r14 u15 h => ?_)
    exact a_zret C (isB_n h.1) dX12_isPlayed_121 h.2
  by_cases hq6 : (gI u 51 (Int32.toNatClampNeg a0)) = 8
  · have h := hs6 hq6
    refine a_tableIn C (off := 98) 122 dX12_isPlayed_24 (by rw [hq6]; decide) (by rw [hq6]; decide) (by rw [hq6]; decide +kernel) (by decide) ?_
    refine a_aload_n C 2 dX12_isPlayed_122 rfl rfl ?_
    refine a_callVi C dX12_isPlayed_123 (m_X12_draw l V h) bw_1484 bw_1361 bw_1362 bw_123 bw_1363 (by decide) rfl rfl np_X12_draw rfl rfl (by decide) (Nat.le_of_ble_eq_true rfl) ⟨Nat.zero_le _, Nat.zero_le _⟩ (fun r16 u17 h => ?_)
    refine a_if_lt C 133 dX12_isPlayed_126 (by decide) (fun c18 => ?_) (fun c18 => ?_)
    · have h := h.1 c18
      refine a_iconst C 0 dX12_isPlayed_133 (by decide) ?_
      exact a_zret C rfl dX12_isPlayed_134 h
    · have h := h.2 c18
      refine a_iconst C 1 dX12_isPlayed_129 (by decide) ?_
      refine a_goto C 134 dX12_isPlayed_130 (by decide) ?_
      exact a_zret C rfl dX12_isPlayed_134 h
  by_cases hq7 : (gI u 51 (Int32.toNatClampNeg a0)) = 9
  · have h := hs7 hq7
    refine a_tableIn C (off := 111) 135 dX12_isPlayed_24 (by rw [hq7]; decide) (by rw [hq7]; decide) (by rw [hq7]; decide +kernel) (by decide) ?_
    refine a_aload_n C 2 dX12_isPlayed_135 rfl rfl ?_
    refine a_iload_n C 1 dX12_isPlayed_136 rfl rfl ?_
    refine a_callVi C dX12_isPlayed_137 (m_X12_arePassed l V h) bw_1379 bw_1381 bw_75 bw_123 bw_1382 (by decide) rfl rfl np_X12_arePassed rfl rfl (by decide) (Nat.le_of_ble_eq_true rfl) ⟨Nat.zero_le _, Nat.zero_le _⟩ (fun r19 u20 h => ?_)
    exact a_zret C (isB_n h.1) dX12_isPlayed_140 h.2
  have h := hd0 hq0 hq1 hq2 hq3 hq4 hq5 hq6 hq7
  refine a_tableOut C 141 dX12_isPlayed_24 (tsw_out 2 9 (fun q h1 h2 => by rcases (show q = 2 ∨ q = 3 ∨ q = 4 ∨ q = 5 ∨ q = 6 ∨ q = 7 ∨ q = 8 ∨ q = 9 by omega) with rfl | rfl | rfl | rfl | rfl | rfl | rfl | rfl <;> first | exact lv_neT hq0 (by decide) | exact lv_neT hq1 (by decide) | exact lv_neT hq2 (by decide) | exact lv_neT hq3 (by decide) | exact lv_neT hq4 (by decide) | exact lv_neT hq5 (by decide) | exact lv_neT hq6 (by decide) | exact lv_neT hq7 (by decide))) (by decide) ?_
  refine a_iconst C 1 dX12_isPlayed_141 (by decide) ?_
  exact a_zret C rfl dX12_isPlayed_142 h

/-! RainOnTheOneModel.played(I)I -/
def wl_X12_played_21 (post : Int32 → PoS → Prop) : Nat → Int32 → Int32 → PoS → Prop
  | 0, _, _, _ => False
  | n + 1, v1, v2, u => vp_in (681 * v1) 2724 ∧ (((gI u 51 (Int32.toNatClampNeg (681 * v1))) ≤ v2 → post (-1) u) ∧ (¬ (gI u 51 (Int32.toNatClampNeg (681 * v1))) ≤ v2 → wp_X12_isPlayed (((681 * v1) + 1) + (3 * v2)) u (fun (r3 : Int32) (u4 : PoS) => ((¬ r3 = 0 → wl_X12_played_21 post n v1 (v2 + 1) u4) ∧ (r3 = 0 → post v2 u4)))))
def wp_X12_played (a0 : Int32) (u : PoS) (post : Int32 → PoS → Prop) : Prop := wp_X12_isIn a0 0 ((gI u 49 1) - 1) u (fun (r1 : Int32) (u2 : PoS) => ((¬ r1 = 0 → (∃ n21, wl_X12_played_21 post n21 a0 0 u2)) ∧ (r1 = 0 → post (-2) u2)))
set_option maxHeartbeats 4000000 in
set_option maxRecDepth 100000 in
theorem tl_X12_played_21 {p : Program} {l : Launch} {e : Env} {s : State} {m : MethodId} {args : Array Value} {below : List Frame} {meth : Method} {c : Code} {V : VEn} {post : Int32 → PoS → Prop} (C : CxS p s m args meth c V cX12_played 3 RX12 (some .int)) : ∀ (n : Nat) (v1 : Int32) (v2 : Int32) (u : PoS), wl_X12_played_21 post n v1 v2 u → AtS p l e (Rm 10) s m args below meth c V 3 0 0 (QI V below args s post) 21 [(0, .ref (eA V 48)), (1, .int v1), (2, .int v2)] [] u := by
  intro n
  induction n with
  | zero => intro v1 v2 u h; exact h.elim
  | succ n ih =>
    intro v1 v2 u h
    rw [wl_X12_played_21] at h
    refine a_iload_n C 2 dX12_played_21 rfl rfl ?_
    refine a_aload_n C 0 dX12_played_22 rfl rfl ?_
    refine a_getr C 2 (r := 51) dX12_played_23 (by decide) rfl rfl rfl ib_12 (by decide) bw_1024 ?_
    refine a_sipush C 681 dX12_played_26 (by decide) ?_
    refine a_iload_n C 1 dX12_played_29 rfl rfl ?_
    refine a_imul C dX12_played_30 ?_
    refine b_iald C (Int32.toNatClampNeg (681 * v1)) dX12_played_31 (by decide) rfl h.1 rfl ?_
    have h := h.2
    refine a_icmp_ge C 61 dX12_played_32 (by decide) (fun c6 => ?_) (fun c6 => ?_)
    · have h := h.1 c6
      refine a_iconst C (-1) dX12_played_61 (by decide) ?_
      exact a_iret C dX12_played_62 h
    · have h := h.2 c6
      refine a_aload_n C 0 dX12_played_35 rfl rfl ?_
      refine a_sipush C 681 dX12_played_36 (by decide) ?_
      refine a_iload_n C 1 dX12_played_39 rfl rfl ?_
      refine a_imul C dX12_played_40 ?_
      refine a_iconst C 1 dX12_played_41 (by decide) ?_
      refine a_iadd C dX12_played_42 ?_
      refine a_iconst C 3 dX12_played_43 (by decide) ?_
      refine a_iload_n C 2 dX12_played_44 rfl rfl ?_
      refine a_imul C dX12_played_45 ?_
      refine a_iadd C dX12_played_46 ?_
      refine a_callVi C dX12_played_47 (m_X12_isPlayed l V h) bw_1475 bw_1477 bw_91 bw_123 bw_1478 (by decide) rfl rfl np_X12_isPlayed rfl rfl (by decide) (Nat.le_of_ble_eq_true rfl) ⟨Nat.zero_le _, Nat.zero_le _⟩ (fun r3 u4 h => ?_)
      refine a_if_ne C 55 dX12_played_50 (by decide) (fun c5 => ?_) (fun c5 => ?_)
      · have h := h.1 c5
        refine a_iinc C (v2 + 1) 2 [(2, .int (v2 + 1)), (0, .ref (eA V 48)), (1, .int v1)] dX12_played_55 rfl (congrArg (fun z => v2 + z) (show Int32.ofInt 1 = 1 by decide)) (by decide) rfl ?_
        refine a_goto C 21 dX12_played_58 (by decide) ?_
        refine a_sub [1, 2, 0] rfl ?_
        exact ih _ _ _ h
      · have h := h.2 c5
        refine a_iload_n C 2 dX12_played_53 rfl rfl ?_
        exact a_iret C dX12_played_54 h
theorem np_X12_played : yX12_played.cls ≠ "java/lang/invoke/MethodHandle" ∧ yX12_played.cls ≠ "java/lang/invoke/VarHandle" ∧ (parseMethodDescriptor yX12_played.desc).map (fun d => d.parameters.length) = some 1 := by decide +kernel
set_option maxHeartbeats 4000000 in
set_option maxRecDepth 100000 in
theorem m_X12_played (l : Launch) (V : VEn) {a0 : Int32} {u : PoS} {post : Int32 → PoS → Prop} (h : wp_X12_played a0 u post) : KI l V yX12_played cX12_played 3 .int 10 [.ref (eA V 48), .int a0] u post := by
  refine KI_of (by decide) (Nat.le_of_ble_eq_true rfl) (lv := [(0, .ref (eA V 48)), (1, .int a0)]) rfl ?_
  intro p e s m args below meth c C
  rw [wp_X12_played] at h
  refine a_iload_n C 1 dX12_played_0 rfl rfl ?_
  refine a_iconst C 0 dX12_played_1 (by decide) ?_
  refine a_aload_n C 0 dX12_played_2 rfl rfl ?_
  refine a_getr C 0 (r := 49) dX12_played_3 (by decide) rfl rfl rfl ib_12 (by decide) bw_1022 ?_
  refine a_iconst C 1 dX12_played_6 (by decide) ?_
  refine b_iald C 1 dX12_played_7 (by decide) rfl (vp_lit (by decide)) (by decide) ?_
  refine a_iconst C 1 dX12_played_8 (by decide) ?_
  refine a_isub C dX12_played_9 ?_
  refine a_callSi C dX12_played_10 (m_X12_isIn l V h) bw_1147 bw_1148 bw_123 bw_1149 np_X12_isIn rfl rfl (by decide) (Nat.le_of_ble_eq_true rfl) ⟨Nat.zero_le _, Nat.zero_le _⟩ (fun r1 u2 h => ?_)
  refine a_if_ne C 19 dX12_played_13 (by decide) (fun c7 => ?_) (fun c7 => ?_)
  · have h := h.1 c7
    refine a_iconst C 0 dX12_played_19 (by decide) ?_
    refine a_istore_n C [(2, .int 0), (0, .ref (eA V 48)), (1, .int a0)] dX12_played_20 rfl (by decide) rfl ?_
    refine a_sub [1, 2, 0] rfl ?_
    obtain ⟨n21, h⟩ := h
    refine tl_X12_played_21 C n21 _ _ _ h
  · have h := h.2 c7
    refine a_bipush C (-2) dX12_played_16 (by decide) ?_
    exact a_iret C dX12_played_18 h

/-! RainOnTheOneModel.happens(I)V -/
def wj_X12_happens_67 (post : PoS → Prop) (s0 : Int32) (s1 : Int32) (s2 : Int32) (u : PoS) : Prop := wp_X12_put s2 s1 s0 u (fun (u12 : PoS) => post u12)
def wp_X12_happens (a0 : Int32) (u : PoS) (post : PoS → Prop) : Prop := (((irem a0 6) ≤ 2 → ((¬ (gI u 49 0) = 0 → ¬ (gI u 49 0) = 0 ∧ ∀ x1 : Int32, x1 = (irem a0 (gI u 49 0)) → ((¬ (irem a0 6) = 2 → wp_X12_get x1 0 u (fun (r2 : Int32) (u3 : PoS) => wp_X12_sideOf r2 (irem (a0 / 6) 4) u3 (fun (r4 : Int32) (u5 : PoS) => wp_X12_isFree r4 u5 (fun (r6 : Int32) (u7 : PoS) => ((r6 = 0 → post u7) ∧ (¬ r6 = 0 → wp_X12_put x1 0 r4 u7 (fun (u9 : PoS) => post u9))))))) ∧ ((irem a0 6) = 2 → (((irem a0 4) ≤ 0 → wj_X12_happens_67 post 0 1 x1 u) ∧ (¬ (irem a0 4) ≤ 0 → wj_X12_happens_67 post 1 1 x1 u))))) ∧ ((gI u 49 0) = 0 → post u))) ∧ (¬ (irem a0 6) ≤ 2 → ((9999 ≤ (gI u 49 6) → post u) ∧ (¬ 9999 ≤ (gI u 49 6) → wp_X12_pass u (fun (u17 : PoS) => post u17)))))
set_option maxHeartbeats 4000000 in
set_option maxRecDepth 100000 in
theorem tj_X12_happens_67 {p : Program} {l : Launch} {e : Env} {s : State} {m : MethodId} {args : Array Value} {below : List Frame} {meth : Method} {c : Code} {V : VEn} {post : PoS → Prop} (C : CxS p s m args meth c V cX12_happens 4 RX12 none) (s0 : Int32) (s1 : Int32) (s2 : Int32) (u : PoS) (h : wj_X12_happens_67 post s0 s1 s2 u) : AtS p l e (Rm 8) s m args below meth c V 4 0 0 (QV V below args s post) 67 [] [.int s0, .int s1, .int s2, .ref (eA V 48)] u := by
  rw [wj_X12_happens_67] at h
  refine a_callVv C dX12_happens_67 (m_X12_put l V h) bw_1150 bw_1152 bw_40 bw_123 bw_1153 (by decide) rfl rfl np_X12_put rfl rfl (by decide) (Nat.le_of_ble_eq_true rfl) ⟨Nat.zero_le _, Nat.zero_le _⟩ (fun u12 h => ?_)
  exact a_vret C dX12_happens_70 h
theorem np_X12_happens : yX12_happens.cls ≠ "java/lang/invoke/MethodHandle" ∧ yX12_happens.cls ≠ "java/lang/invoke/VarHandle" ∧ (parseMethodDescriptor yX12_happens.desc).map (fun d => d.parameters.length) = some 1 := by decide +kernel
set_option maxHeartbeats 4000000 in
set_option maxRecDepth 100000 in
theorem m_X12_happens (l : Launch) (V : VEn) {a0 : Int32} {u : PoS} {post : PoS → Prop} (h : wp_X12_happens a0 u post) : KV l V yX12_happens cX12_happens 4 8 [.ref (eA V 48), .int a0] u post := by
  refine KV_of (by decide) (Nat.le_of_ble_eq_true rfl) (lv := [(0, .ref (eA V 48)), (1, .int a0)]) rfl ?_
  intro p e s m args below meth c C
  rw [wp_X12_happens] at h
  refine a_iload_n C 1 dX12_happens_0 rfl rfl ?_
  refine a_bipush C 6 dX12_happens_1 (by decide) ?_
  refine b_irem C dX12_happens_3 (by decide) ?_
  refine a_iconst C 2 dX12_happens_4 (by decide) ?_
  refine a_icmp_le C 26 dX12_happens_5 (by decide) (fun c19 => ?_) (fun c19 => ?_)
  · have h := h.1 c19
    refine a_aload_n C 0 dX12_happens_26 rfl rfl ?_
    refine a_getr C 0 (r := 49) dX12_happens_27 (by decide) rfl rfl rfl ib_12 (by decide) bw_1022 ?_
    refine a_iconst C 0 dX12_happens_30 (by decide) ?_
    refine b_iald C 0 dX12_happens_31 (by decide) rfl (vp_lit (by decide)) (by decide) ?_
    refine a_if_ne C 36 dX12_happens_32 (by decide) (fun c15 => ?_) (fun c15 => ?_)
    · have h := h.1 c15
      refine a_iload_n C 1 dX12_happens_36 rfl rfl ?_
      refine a_aload_n C 0 dX12_happens_37 rfl rfl ?_
      refine a_getr C 0 (r := 49) dX12_happens_38 (by decide) rfl rfl rfl ib_12 (by decide) bw_1022 ?_
      refine a_iconst C 0 dX12_happens_41 (by decide) ?_
      refine b_iald C 0 dX12_happens_42 (by decide) rfl (vp_lit (by decide)) (by decide) ?_
      refine b_irem C dX12_happens_43 h.1 ?_
      have h := h.2
      refine a_topi (fun x1 ex1 => ?_)
      have h := h x1 ex1
      refine a_istore_n C [(2, .int x1), (0, .ref (eA V 48)), (1, .int a0)] dX12_happens_44 rfl (by decide) rfl ?_
      refine a_iload_n C 2 dX12_happens_45 rfl rfl ?_
      refine a_bipush C 6 dX12_happens_46 (by decide) ?_
      refine b_irem C dX12_happens_48 (by decide) ?_
      refine a_iconst C 2 dX12_happens_49 (by decide) ?_
      refine a_icmp_ne C 71 dX12_happens_50 (by decide) (fun c14 => ?_) (fun c14 => ?_)
      · have h := h.1 c14
        refine a_aload_n C 1 dX12_happens_71 rfl rfl ?_
        refine a_iload_n C 0 dX12_happens_72 rfl rfl ?_
        refine a_iconst C 0 dX12_happens_73 (by decide) ?_
        refine a_callVi C dX12_happens_74 (m_X12_get l V h) bw_1158 bw_1160 bw_42 bw_123 bw_1161 (by decide) rfl rfl np_X12_get rfl rfl (by decide) (Nat.le_of_ble_eq_true rfl) ⟨Nat.zero_le _, Nat.zero_le _⟩ (fun r2 u3 h => ?_)
        refine a_iload_n C 2 dX12_happens_77 rfl rfl ?_
        refine a_bipush C 6 dX12_happens_78 (by decide) ?_
        refine a_idiv C dX12_happens_80 (by decide) ?_
        refine a_iconst C 4 dX12_happens_81 (by decide) ?_
        refine b_irem C dX12_happens_82 (by decide) ?_
        refine a_callSi C dX12_happens_83 (m_X12_sideOf l V h) bw_1349 bw_1350 bw_123 bw_1351 np_X12_sideOf rfl rfl (by decide) (Nat.le_of_ble_eq_true rfl) ⟨Nat.zero_le _, Nat.zero_le _⟩ (fun r4 u5 h => ?_)
        refine a_istore_n C [(3, .int r4), (2, .int x1), (0, .ref (eA V 48)), (1, .int a0)] dX12_happens_86 rfl (by decide) rfl ?_
        refine a_aload_n C 2 dX12_happens_87 rfl rfl ?_
        refine a_iload_n C 0 dX12_happens_88 rfl rfl ?_
        refine a_callVi C dX12_happens_89 (m_X12_isFree l V h) bw_1140 bw_1142 bw_39 bw_123 bw_1143 (by decide) rfl rfl np_X12_isFree rfl rfl (by decide) (Nat.le_of_ble_eq_true rfl) ⟨Nat.zero_le _, Nat.zero_le _⟩ (fun r6 u7 h => ?_)
        refine a_if_eq C 102 dX12_happens_92 (by decide) (fun c10 => ?_) (fun c10 => ?_)
        · have h := h.1 c10
          exact a_vret C dX12_happens_102 h
        · have h := h.2 c10
          refine a_aload_n C 2 dX12_happens_95 rfl rfl ?_
          refine a_iload_n C 1 dX12_happens_96 rfl rfl ?_
          refine a_iconst C 0 dX12_happens_97 (by decide) ?_
          refine a_iload_n C 0 dX12_happens_98 rfl rfl ?_
          refine a_callVv C dX12_happens_99 (m_X12_put l V h) bw_1150 bw_1152 bw_40 bw_123 bw_1153 (by decide) rfl rfl np_X12_put rfl rfl (by decide) (Nat.le_of_ble_eq_true rfl) ⟨Nat.zero_le _, Nat.zero_le _⟩ (fun u9 h => ?_)
          exact a_vret C dX12_happens_102 h
      · have h := h.2 c14
        refine a_aload_n C 1 dX12_happens_53 rfl rfl ?_
        refine a_iload_n C 0 dX12_happens_54 rfl rfl ?_
        refine a_iconst C 1 dX12_happens_55 (by decide) ?_
        refine a_iload_n C 2 dX12_happens_56 rfl rfl ?_
        refine a_iconst C 4 dX12_happens_57 (by decide) ?_
        refine b_irem C dX12_happens_58 (by decide) ?_
        refine a_if_le C 66 dX12_happens_59 (by decide) (fun c13 => ?_) (fun c13 => ?_)
        · have h := h.1 c13
          refine a_iconst C 0 dX12_happens_66 (by decide) ?_
          refine a_sub [] rfl ?_
          refine tj_X12_happens_67 C _ _ _ _ h
        · have h := h.2 c13
          refine a_iconst C 1 dX12_happens_62 (by decide) ?_
          refine a_goto C 67 dX12_happens_63 (by decide) ?_
          refine a_sub [] rfl ?_
          refine tj_X12_happens_67 C _ _ _ _ h
    · have h := h.2 c15
      exact a_vret C dX12_happens_35 h
  · have h := h.2 c19
    refine a_aload_n C 0 dX12_happens_8 rfl rfl ?_
    refine a_getr C 0 (r := 49) dX12_happens_9 (by decide) rfl rfl rfl ib_12 (by decide) bw_1022 ?_
    refine a_bipush C 6 dX12_happens_12 (by decide) ?_
    refine b_iald C 6 dX12_happens_14 (by decide) rfl (vp_lit (by decide)) (by decide) ?_
    refine a_sipush C 9999 dX12_happens_15 (by decide) ?_
    refine a_icmp_ge C 25 dX12_happens_18 (by decide) (fun c18 => ?_) (fun c18 => ?_)
    · have h := h.1 c18
      exact a_vret C dX12_happens_25 h
    · have h := h.2 c18
      refine a_aload_n C 0 dX12_happens_21 rfl rfl ?_
      refine a_callVv C dX12_happens_22 (m_X12_pass l V h) bw_1383 bw_1385 bw_76 bw_123 bw_1386 (by decide) rfl rfl np_X12_pass rfl rfl (by decide) (Nat.le_of_ble_eq_true rfl) ⟨Nat.zero_le _, Nat.zero_le _⟩ (fun u17 h => ?_)
      exact a_vret C dX12_happens_25 h

/-! RainOnTheOneModel.years(II)I -/
def wl_X12_years_43 (post : Int32 → PoS → Prop) : Nat → Int32 → Int32 → PoS → Prop
  | 0, _, _, _ => False
  | n + 1, v2, v3, u => ((v2 ≤ v3 → post (gI u 49 6) u) ∧ (¬ v2 ≤ v3 → ∀ x7 : Int32, x7 = (gI u 49 8) → wp_X12_anew u (fun (u9 : PoS) => wp_X12_happens x7 u9 (fun (u11 : PoS) => wl_X12_years_43 post n v2 (v3 + 1) u11))))
def wp_X12_years (a0 : Int32) (a1 : Int32) (u : PoS) (post : Int32 → PoS → Prop) : Prop := wp_X12_isIn a0 0 9999 u (fun (r1 : Int32) (u2 : PoS) => ((r1 = 0 → post (-1) u2) ∧ (¬ r1 = 0 → wp_X12_isIn a1 1 40 u2 (fun (r3 : Int32) (u4 : PoS) => ((¬ r3 = 0 → wp_X12_keep u4 (fun (u6 : PoS) => (∃ n43, wl_X12_years_43 post n43 a1 0 (pI u6 49 8 ((a0 * 2) + 241))))) ∧ (r3 = 0 → post (-1) u4))))))
set_option maxHeartbeats 4000000 in
set_option maxRecDepth 100000 in
theorem tl_X12_years_43 {p : Program} {l : Launch} {e : Env} {s : State} {m : MethodId} {args : Array Value} {below : List Frame} {meth : Method} {c : Code} {V : VEn} {post : Int32 → PoS → Prop} (C : CxS p s m args meth c V cX12_years 5 RX12 (some .int)) : ∀ (n : Nat) (v2 : Int32) (v3 : Int32) (u : PoS), wl_X12_years_43 post n v2 v3 u → AtS p l e (Rm 9) s m args below meth c V 5 0 0 (QI V below args s post) 43 [(0, .ref (eA V 48)), (2, .int v2), (3, .int v3)] [] u := by
  intro n
  induction n with
  | zero => intro v2 v3 u h; exact h.elim
  | succ n ih =>
    intro v2 v3 u h
    rw [wl_X12_years_43] at h
    refine a_iload_n C 2 dX12_years_43 rfl rfl ?_
    refine a_iload_n C 1 dX12_years_44 rfl rfl ?_
    refine a_icmp_ge C 73 dX12_years_45 (by decide) (fun c12 => ?_) (fun c12 => ?_)
    · have h := h.1 c12
      refine a_aload_n C 0 dX12_years_73 rfl rfl ?_
      refine a_getr C 0 (r := 49) dX12_years_74 (by decide) rfl rfl rfl ib_12 (by decide) bw_1022 ?_
      refine a_bipush C 6 dX12_years_77 (by decide) ?_
      refine b_iald C 6 dX12_years_79 (by decide) rfl (vp_lit (by decide)) (by decide) ?_
      exact a_iret C dX12_years_80 h
    · have h := h.2 c12
      refine a_aload_n C 0 dX12_years_48 rfl rfl ?_
      refine a_getr C 0 (r := 49) dX12_years_49 (by decide) rfl rfl rfl ib_12 (by decide) bw_1022 ?_
      refine a_bipush C 8 dX12_years_52 (by decide) ?_
      refine b_iald C 8 dX12_years_54 (by decide) rfl (vp_lit (by decide)) (by decide) ?_
      refine a_topi (fun x7 ex7 => ?_)
      have h := h x7 ex7
      refine a_istore C [(4, .int x7), (0, .ref (eA V 48)), (2, .int v2), (3, .int v3)] dX12_years_55 (by decide) rfl ?_
      refine a_aload_n C 1 dX12_years_57 rfl rfl ?_
      refine a_callVv C dX12_years_58 (m_X12_anew l V h) bw_1368 bw_1370 bw_74 bw_123 bw_1371 (by decide) rfl rfl np_X12_anew rfl rfl (by decide) (Nat.le_of_ble_eq_true rfl) ⟨Nat.zero_le _, Nat.zero_le _⟩ (fun u9 h => ?_)
      refine a_aload_n C 1 dX12_years_61 rfl rfl ?_
      refine a_iload C 0 dX12_years_62 rfl ?_
      refine a_callVv C dX12_years_64 (m_X12_happens l V h) bw_1489 bw_1491 bw_92 bw_123 bw_1492 (by decide) rfl rfl np_X12_happens rfl rfl (by decide) (Nat.le_of_ble_eq_true rfl) ⟨Nat.zero_le _, Nat.zero_le _⟩ (fun u11 h => ?_)
      refine a_iinc C (v3 + 1) 3 [(3, .int (v3 + 1)), (4, .int x7), (0, .ref (eA V 48)), (2, .int v2)] dX12_years_67 rfl (congrArg (fun z => v3 + z) (show Int32.ofInt 1 = 1 by decide)) (by decide) rfl ?_
      refine a_goto C 43 dX12_years_70 (by decide) ?_
      refine a_sub [2, 3, 0] rfl ?_
      exact ih _ _ _ h
theorem np_X12_years : yX12_years.cls ≠ "java/lang/invoke/MethodHandle" ∧ yX12_years.cls ≠ "java/lang/invoke/VarHandle" ∧ (parseMethodDescriptor yX12_years.desc).map (fun d => d.parameters.length) = some 2 := by decide +kernel
set_option maxHeartbeats 4000000 in
set_option maxRecDepth 100000 in
theorem m_X12_years (l : Launch) (V : VEn) {a0 : Int32} {a1 : Int32} {u : PoS} {post : Int32 → PoS → Prop} (h : wp_X12_years a0 a1 u post) : KI l V yX12_years cX12_years 5 .int 9 [.ref (eA V 48), .int a0, .int a1] u post := by
  refine KI_of (by decide) (Nat.le_of_ble_eq_true rfl) (lv := [(0, .ref (eA V 48)), (1, .int a0), (2, .int a1)]) rfl ?_
  intro p e s m args below meth c C
  rw [wp_X12_years] at h
  refine a_iload_n C 1 dX12_years_0 rfl rfl ?_
  refine a_iconst C 0 dX12_years_1 (by decide) ?_
  refine a_sipush C 9999 dX12_years_2 (by decide) ?_
  refine a_callSi C dX12_years_5 (m_X12_isIn l V h) bw_1147 bw_1148 bw_123 bw_1149 np_X12_isIn rfl rfl (by decide) (Nat.le_of_ble_eq_true rfl) ⟨Nat.zero_le _, Nat.zero_le _⟩ (fun r1 u2 h => ?_)
  refine a_if_eq C 21 dX12_years_8 (by decide) (fun c14 => ?_) (fun c14 => ?_)
  · have h := h.1 c14
    refine a_iconst C (-1) dX12_years_21 (by decide) ?_
    exact a_iret C dX12_years_22 h
  · have h := h.2 c14
    refine a_iload_n C 2 dX12_years_11 rfl rfl ?_
    refine a_iconst C 1 dX12_years_12 (by decide) ?_
    refine a_bipush C 40 dX12_years_13 (by decide) ?_
    refine a_callSi C dX12_years_15 (m_X12_isIn l V h) bw_1147 bw_1148 bw_123 bw_1149 np_X12_isIn rfl rfl (by decide) (Nat.le_of_ble_eq_true rfl) ⟨Nat.zero_le _, Nat.zero_le _⟩ (fun r3 u4 h => ?_)
    refine a_if_ne C 23 dX12_years_18 (by decide) (fun c13 => ?_) (fun c13 => ?_)
    · have h := h.1 c13
      refine a_aload_n C 0 dX12_years_23 rfl rfl ?_
      refine a_callVv C dX12_years_24 (m_X12_keep l V h) bw_1352 bw_1354 bw_72 bw_123 bw_1355 (by decide) rfl rfl np_X12_keep rfl rfl (by decide) (Nat.le_of_ble_eq_true rfl) ⟨Nat.zero_le _, Nat.zero_le _⟩ (fun u6 h => ?_)
      refine a_aload_n C 0 dX12_years_27 rfl rfl ?_
      refine a_getr C 0 (r := 49) dX12_years_28 (by decide) rfl rfl rfl ib_12 (by decide) bw_1022 ?_
      refine a_bipush C 8 dX12_years_31 (by decide) ?_
      refine a_iload_n C 1 dX12_years_33 rfl rfl ?_
      refine a_iconst C 2 dX12_years_34 (by decide) ?_
      refine a_imul C dX12_years_35 ?_
      refine a_sipush C 241 dX12_years_36 (by decide) ?_
      refine a_iadd C dX12_years_39 ?_
      refine b_iast C 8 dX12_years_40 (by decide) rfl (vp_lit (by decide)) (by decide) ?_
      refine a_iconst C 0 dX12_years_41 (by decide) ?_
      refine a_istore_n C [(3, .int 0), (0, .ref (eA V 48)), (1, .int a0), (2, .int a1)] dX12_years_42 rfl (by decide) rfl ?_
      refine a_sub [1, 3, 0] rfl ?_
      obtain ⟨n43, h⟩ := h
      refine tl_X12_years_43 C n43 _ _ _ h
    · have h := h.2 c13
      refine a_iconst C (-1) dX12_years_21 (by decide) ?_
      exact a_iret C dX12_years_22 h

/-! RainOnTheOneModel.of(II)I -/
def wp_X12_of (a0 : Int32) (a1 : Int32) (u : PoS) (post : Int32 → PoS → Prop) : Prop := wp_X12_isPerson a0 u (fun (r1 : Int32) (u2 : PoS) => ((¬ r1 = 0 → wp_X12_isIn a1 0 3 u2 (fun (r3 : Int32) (u4 : PoS) => ((r3 = 0 → ((¬ a1 = 4 → ((¬ a1 = 5 → post (-1) u4) ∧ (a1 = 5 → wp_X12_poursOf a0 u4 (fun (r5 : Int32) (u6 : PoS) => post r5 u6)))) ∧ (a1 = 4 → wp_X12_wantsOf (gI u4 49 2) a0 u4 (fun (r8 : Int32) (u9 : PoS) => post r8 u9)))) ∧ (¬ r3 = 0 → wp_X12_get a0 a1 u4 (fun (r11 : Int32) (u12 : PoS) => post r11 u12))))) ∧ (r1 = 0 → post (-1) u2)))
theorem np_X12_of : yX12_of.cls ≠ "java/lang/invoke/MethodHandle" ∧ yX12_of.cls ≠ "java/lang/invoke/VarHandle" ∧ (parseMethodDescriptor yX12_of.desc).map (fun d => d.parameters.length) = some 2 := by decide +kernel
set_option maxHeartbeats 4000000 in
set_option maxRecDepth 100000 in
theorem m_X12_of (l : Launch) (V : VEn) {a0 : Int32} {a1 : Int32} {u : PoS} {post : Int32 → PoS → Prop} (h : wp_X12_of a0 a1 u post) : KI l V yX12_of cX12_of 3 .int 6 [.ref (eA V 48), .int a0, .int a1] u post := by
  refine KI_of (by decide) (Nat.le_of_ble_eq_true rfl) (lv := [(0, .ref (eA V 48)), (1, .int a0), (2, .int a1)]) rfl ?_
  intro p e s m args below meth c C
  rw [wp_X12_of] at h
  refine a_aload_n C 0 dX12_of_0 rfl rfl ?_
  refine a_iload_n C 1 dX12_of_1 rfl rfl ?_
  refine a_callVi C dX12_of_2 (m_X12_isPerson l V h) bw_1342 bw_1344 bw_71 bw_123 bw_1345 (by decide) rfl rfl np_X12_isPerson rfl rfl (by decide) (Nat.le_of_ble_eq_true rfl) ⟨Nat.zero_le _, Nat.zero_le _⟩ (fun r1 u2 h => ?_)
  refine a_if_ne C 10 dX12_of_5 (by decide) (fun c14 => ?_) (fun c14 => ?_)
  · have h := h.1 c14
    refine a_iload_n C 2 dX12_of_10 rfl rfl ?_
    refine a_iconst C 0 dX12_of_11 (by decide) ?_
    refine a_iconst C 3 dX12_of_12 (by decide) ?_
    refine a_callSi C dX12_of_13 (m_X12_isIn l V h) bw_1147 bw_1148 bw_123 bw_1149 np_X12_isIn rfl rfl (by decide) (Nat.le_of_ble_eq_true rfl) ⟨Nat.zero_le _, Nat.zero_le _⟩ (fun r3 u4 h => ?_)
    refine a_if_eq C 28 dX12_of_16 (by decide) (fun c13 => ?_) (fun c13 => ?_)
    · have h := h.1 c13
      refine a_iload_n C 2 dX12_of_28 rfl rfl ?_
      refine a_iconst C 4 dX12_of_29 (by decide) ?_
      refine a_icmp_ne C 47 dX12_of_30 (by decide) (fun c10 => ?_) (fun c10 => ?_)
      · have h := h.1 c10
        refine a_iload_n C 2 dX12_of_47 rfl rfl ?_
        refine a_iconst C 5 dX12_of_48 (by decide) ?_
        refine a_icmp_ne C 60 dX12_of_49 (by decide) (fun c7 => ?_) (fun c7 => ?_)
        · have h := h.1 c7
          refine a_iconst C (-1) dX12_of_60 (by decide) ?_
          exact a_iret C dX12_of_61 h
        · have h := h.2 c7
          refine a_aload_n C 0 dX12_of_52 rfl rfl ?_
          refine a_iload_n C 1 dX12_of_53 rfl rfl ?_
          refine a_callVi C dX12_of_54 (m_X12_poursOf l V h) bw_1455 bw_1457 bw_87 bw_123 bw_1458 (by decide) rfl rfl np_X12_poursOf rfl rfl (by decide) (Nat.le_of_ble_eq_true rfl) ⟨Nat.zero_le _, Nat.zero_le _⟩ (fun r5 u6 h => ?_)
          refine a_goto C 61 dX12_of_57 (by decide) ?_
          exact a_iret C dX12_of_61 h
      · have h := h.2 c10
        refine a_aload_n C 0 dX12_of_33 rfl rfl ?_
        refine a_aload_n C 0 dX12_of_34 rfl rfl ?_
        refine a_getr C 0 (r := 49) dX12_of_35 (by decide) rfl rfl rfl ib_12 (by decide) bw_1022 ?_
        refine a_iconst C 2 dX12_of_38 (by decide) ?_
        refine b_iald C 2 dX12_of_39 (by decide) rfl (vp_lit (by decide)) (by decide) ?_
        refine a_iload_n C 1 dX12_of_40 rfl rfl ?_
        refine a_callVi C dX12_of_41 (m_X12_wantsOf l V h) bw_1409 bw_1411 bw_81 bw_123 bw_1412 (by decide) rfl rfl np_X12_wantsOf rfl rfl (by decide) (Nat.le_of_ble_eq_true rfl) ⟨Nat.zero_le _, Nat.zero_le _⟩ (fun r8 u9 h => ?_)
        refine a_goto C 61 dX12_of_44 (by decide) ?_
        exact a_iret C dX12_of_61 h
    · have h := h.2 c13
      refine a_aload_n C 0 dX12_of_19 rfl rfl ?_
      refine a_iload_n C 1 dX12_of_20 rfl rfl ?_
      refine a_iload_n C 2 dX12_of_21 rfl rfl ?_
      refine a_callVi C dX12_of_22 (m_X12_get l V h) bw_1158 bw_1160 bw_42 bw_123 bw_1161 (by decide) rfl rfl np_X12_get rfl rfl (by decide) (Nat.le_of_ble_eq_true rfl) ⟨Nat.zero_le _, Nat.zero_le _⟩ (fun r11 u12 h => ?_)
      refine a_goto C 61 dX12_of_25 (by decide) ?_
      exact a_iret C dX12_of_61 h
  · have h := h.2 c14
    refine a_iconst C (-1) dX12_of_8 (by decide) ?_
    exact a_iret C dX12_of_9 h

/-! RainOnTheOneModel.ofCell(II)I -/
def wp_X12_ofCell (a0 : Int32) (a1 : Int32) (u : PoS) (post : Int32 → PoS → Prop) : Prop := wp_X12_isCell a0 u (fun (r1 : Int32) (u2 : PoS) => ((¬ r1 = 0 → ((¬ a1 = 0 → ((¬ a1 = 1 → ((¬ a1 = 2 → ((¬ a1 = 3 → post (-1) u2) ∧ (a1 = 3 → wp_X12_peopleAt a0 u2 (fun (r3 : Int32) (u4 : PoS) => post r3 u4)))) ∧ (a1 = 2 → vp_in (100 + a0) 3703 ∧ post (gI u2 49 (Int32.toNatClampNeg (100 + a0))) u2))) ∧ (a1 = 1 → vp_in (40 + a0) 3703 ∧ post (gI u2 49 (Int32.toNatClampNeg (40 + a0))) u2))) ∧ (a1 = 0 → vp_in (70 + a0) 3703 ∧ post (gI u2 49 (Int32.toNatClampNeg (70 + a0))) u2))) ∧ (r1 = 0 → post (-1) u2)))
theorem np_X12_ofCell : yX12_ofCell.cls ≠ "java/lang/invoke/MethodHandle" ∧ yX12_ofCell.cls ≠ "java/lang/invoke/VarHandle" ∧ (parseMethodDescriptor yX12_ofCell.desc).map (fun d => d.parameters.length) = some 2 := by decide +kernel
set_option maxHeartbeats 4000000 in
set_option maxRecDepth 100000 in
theorem m_X12_ofCell (l : Launch) (V : VEn) {a0 : Int32} {a1 : Int32} {u : PoS} {post : Int32 → PoS → Prop} (h : wp_X12_ofCell a0 a1 u post) : KI l V yX12_ofCell cX12_ofCell 3 .int 2 [.ref (eA V 48), .int a0, .int a1] u post := by
  refine KI_of (by decide) (Nat.le_of_ble_eq_true rfl) (lv := [(0, .ref (eA V 48)), (1, .int a0), (2, .int a1)]) rfl ?_
  intro p e s m args below meth c C
  rw [wp_X12_ofCell] at h
  refine a_iload_n C 1 dX12_ofCell_0 rfl rfl ?_
  refine a_callSi C dX12_ofCell_1 (m_X12_isCell l V h) bw_1144 bw_1145 bw_123 bw_1146 np_X12_isCell rfl rfl (by decide) (Nat.le_of_ble_eq_true rfl) ⟨Nat.zero_le _, Nat.zero_le _⟩ (fun r1 u2 h => ?_)
  refine a_if_ne C 9 dX12_ofCell_4 (by decide) (fun c9 => ?_) (fun c9 => ?_)
  · have h := h.1 c9
    refine a_iload_n C 2 dX12_ofCell_9 rfl rfl ?_
    refine a_if_ne C 25 dX12_ofCell_10 (by decide) (fun c8 => ?_) (fun c8 => ?_)
    · have h := h.1 c8
      refine a_iload_n C 2 dX12_ofCell_25 rfl rfl ?_
      refine a_iconst C 1 dX12_ofCell_26 (by decide) ?_
      refine a_icmp_ne C 42 dX12_ofCell_27 (by decide) (fun c7 => ?_) (fun c7 => ?_)
      · have h := h.1 c7
        refine a_iload_n C 2 dX12_ofCell_42 rfl rfl ?_
        refine a_iconst C 2 dX12_ofCell_43 (by decide) ?_
        refine a_icmp_ne C 59 dX12_ofCell_44 (by decide) (fun c6 => ?_) (fun c6 => ?_)
        · have h := h.1 c6
          refine a_iload_n C 2 dX12_ofCell_59 rfl rfl ?_
          refine a_iconst C 3 dX12_ofCell_60 (by decide) ?_
          refine a_icmp_ne C 72 dX12_ofCell_61 (by decide) (fun c5 => ?_) (fun c5 => ?_)
          · have h := h.1 c5
            refine a_iconst C (-1) dX12_ofCell_72 (by decide) ?_
            exact a_iret C dX12_ofCell_73 h
          · have h := h.2 c5
            refine a_aload_n C 0 dX12_ofCell_64 rfl rfl ?_
            refine a_iload_n C 1 dX12_ofCell_65 rfl rfl ?_
            refine a_callVi C dX12_ofCell_66 (m_X12_peopleAt l V h) bw_1170 bw_1172 bw_43 bw_123 bw_1173 (by decide) rfl rfl np_X12_peopleAt rfl rfl (by decide) (Nat.le_of_ble_eq_true rfl) ⟨Nat.zero_le _, Nat.zero_le _⟩ (fun r3 u4 h => ?_)
            refine a_goto C 73 dX12_ofCell_69 (by decide) ?_
            exact a_iret C dX12_ofCell_73 h
        · have h := h.2 c6
          refine a_aload_n C 0 dX12_ofCell_47 rfl rfl ?_
          refine a_getr C 0 (r := 49) dX12_ofCell_48 (by decide) rfl rfl rfl ib_12 (by decide) bw_1022 ?_
          refine a_bipush C 100 dX12_ofCell_51 (by decide) ?_
          refine a_iload_n C 1 dX12_ofCell_53 rfl rfl ?_
          refine a_iadd C dX12_ofCell_54 ?_
          refine b_iald C (Int32.toNatClampNeg (100 + a0)) dX12_ofCell_55 (by decide) rfl h.1 rfl ?_
          have h := h.2
          refine a_goto C 73 dX12_ofCell_56 (by decide) ?_
          exact a_iret C dX12_ofCell_73 h
      · have h := h.2 c7
        refine a_aload_n C 0 dX12_ofCell_30 rfl rfl ?_
        refine a_getr C 0 (r := 49) dX12_ofCell_31 (by decide) rfl rfl rfl ib_12 (by decide) bw_1022 ?_
        refine a_bipush C 40 dX12_ofCell_34 (by decide) ?_
        refine a_iload_n C 1 dX12_ofCell_36 rfl rfl ?_
        refine a_iadd C dX12_ofCell_37 ?_
        refine b_iald C (Int32.toNatClampNeg (40 + a0)) dX12_ofCell_38 (by decide) rfl h.1 rfl ?_
        have h := h.2
        refine a_goto C 73 dX12_ofCell_39 (by decide) ?_
        exact a_iret C dX12_ofCell_73 h
    · have h := h.2 c8
      refine a_aload_n C 0 dX12_ofCell_13 rfl rfl ?_
      refine a_getr C 0 (r := 49) dX12_ofCell_14 (by decide) rfl rfl rfl ib_12 (by decide) bw_1022 ?_
      refine a_bipush C 70 dX12_ofCell_17 (by decide) ?_
      refine a_iload_n C 1 dX12_ofCell_19 rfl rfl ?_
      refine a_iadd C dX12_ofCell_20 ?_
      refine b_iald C (Int32.toNatClampNeg (70 + a0)) dX12_ofCell_21 (by decide) rfl h.1 rfl ?_
      have h := h.2
      refine a_goto C 73 dX12_ofCell_22 (by decide) ?_
      exact a_iret C dX12_ofCell_73 h
  · have h := h.2 c9
    refine a_iconst C (-1) dX12_ofCell_7 (by decide) ?_
    exact a_iret C dX12_ofCell_8 h

/-! RainOnTheOneModel.is(I)I -/
def wp_X12_is (a0 : Int32) (u : PoS) (post : Int32 → PoS → Prop) : Prop := wp_X12_isIn a0 0 2 u (fun (r1 : Int32) (u2 : PoS) => ((r1 = 0 → ((¬ a0 = 3 → post (-2) u2) ∧ (a0 = 3 → wp_X12_goesFor u2 (fun (r3 : Int32) (u4 : PoS) => post r3 u4)))) ∧ (¬ r1 = 0 → vp_in (6 + a0) 3703 ∧ post (gI u2 49 (Int32.toNatClampNeg (6 + a0))) u2)))
theorem np_X12_is : yX12_is.cls ≠ "java/lang/invoke/MethodHandle" ∧ yX12_is.cls ≠ "java/lang/invoke/VarHandle" ∧ (parseMethodDescriptor yX12_is.desc).map (fun d => d.parameters.length) = some 1 := by decide +kernel
set_option maxHeartbeats 4000000 in
set_option maxRecDepth 100000 in
theorem m_X12_is (l : Launch) (V : VEn) {a0 : Int32} {u : PoS} {post : Int32 → PoS → Prop} (h : wp_X12_is a0 u post) : KI l V yX12_is cX12_is 2 .int 7 [.ref (eA V 48), .int a0] u post := by
  refine KI_of (by decide) (Nat.le_of_ble_eq_true rfl) (lv := [(0, .ref (eA V 48)), (1, .int a0)]) rfl ?_
  intro p e s m args below meth c C
  rw [wp_X12_is] at h
  refine a_iload_n C 1 dX12_is_0 rfl rfl ?_
  refine a_iconst C 0 dX12_is_1 (by decide) ?_
  refine a_iconst C 2 dX12_is_2 (by decide) ?_
  refine a_callSi C dX12_is_3 (m_X12_isIn l V h) bw_1147 bw_1148 bw_123 bw_1149 np_X12_isIn rfl rfl (by decide) (Nat.le_of_ble_eq_true rfl) ⟨Nat.zero_le _, Nat.zero_le _⟩ (fun r1 u2 h => ?_)
  refine a_if_eq C 21 dX12_is_6 (by decide) (fun c6 => ?_) (fun c6 => ?_)
  · have h := h.1 c6
    refine a_iload_n C 1 dX12_is_21 rfl rfl ?_
    refine a_iconst C 3 dX12_is_22 (by decide) ?_
    refine a_icmp_ne C 33 dX12_is_23 (by decide) (fun c5 => ?_) (fun c5 => ?_)
    · have h := h.1 c5
      refine a_bipush C (-2) dX12_is_33 (by decide) ?_
      exact a_iret C dX12_is_35 h
    · have h := h.2 c5
      refine a_aload_n C 0 dX12_is_26 rfl rfl ?_
      refine a_callVi C dX12_is_27 (m_X12_goesFor l V h) bw_1387 bw_1389 bw_77 bw_123 bw_1390 (by decide) rfl rfl np_X12_goesFor rfl rfl (by decide) (Nat.le_of_ble_eq_true rfl) ⟨Nat.zero_le _, Nat.zero_le _⟩ (fun r3 u4 h => ?_)
      refine a_goto C 35 dX12_is_30 (by decide) ?_
      exact a_iret C dX12_is_35 h
  · have h := h.2 c6
    refine a_aload_n C 0 dX12_is_9 rfl rfl ?_
    refine a_getr C 0 (r := 49) dX12_is_10 (by decide) rfl rfl rfl ib_12 (by decide) bw_1022 ?_
    refine a_bipush C 6 dX12_is_13 (by decide) ?_
    refine a_iload_n C 1 dX12_is_15 rfl rfl ?_
    refine a_iadd C dX12_is_16 ?_
    refine b_iald C (Int32.toNatClampNeg (6 + a0)) dX12_is_17 (by decide) rfl h.1 rfl ?_
    have h := h.2
    refine a_goto C 35 dX12_is_18 (by decide) ?_
    exact a_iret C dX12_is_35 h

/-! RainOnTheOneModel.book(II)I -/
def wp_X12_book (a0 : Int32) (a1 : Int32) (u : PoS) (post : Int32 → PoS → Prop) : Prop := ((¬ a0 = (-1) → wp_X12_isIn a0 0 ((gI u 49 9) - 1) u (fun (r1 : Int32) (u2 : PoS) => ((¬ r1 = 0 → vp_in ((3643 + (2 * a0)) + 1) 3703 ∧ ∀ x3 : Int32, x3 = (gI u2 49 (Int32.toNatClampNeg ((3643 + (2 * a0)) + 1))) → ((¬ a1 = 0 → ((¬ a1 = 1 → ((¬ a1 = 2 → ((¬ a1 = 3 → post (-2) u2) ∧ (a1 = 3 → post (irem x3 100) u2))) ∧ (a1 = 2 → post (irem (x3 / 100) 30) u2))) ∧ (a1 = 1 → post (x3 / 3000) u2))) ∧ (a1 = 0 → vp_in (3643 + (2 * a0)) 3703 ∧ post (gI u2 49 (Int32.toNatClampNeg (3643 + (2 * a0)))) u2))) ∧ (r1 = 0 → post (-2) u2)))) ∧ (a0 = (-1) → post (gI u 49 9) u))
theorem np_X12_book : yX12_book.cls ≠ "java/lang/invoke/MethodHandle" ∧ yX12_book.cls ≠ "java/lang/invoke/VarHandle" ∧ (parseMethodDescriptor yX12_book.desc).map (fun d => d.parameters.length) = some 2 := by decide +kernel
set_option maxHeartbeats 4000000 in
set_option maxRecDepth 100000 in
theorem m_X12_book (l : Launch) (V : VEn) {a0 : Int32} {a1 : Int32} {u : PoS} {post : Int32 → PoS → Prop} (h : wp_X12_book a0 a1 u post) : KI l V yX12_book cX12_book 4 .int 1 [.ref (eA V 48), .int a0, .int a1] u post := by
  refine KI_of (by decide) (Nat.le_of_ble_eq_true rfl) (lv := [(0, .ref (eA V 48)), (1, .int a0), (2, .int a1)]) rfl ?_
  intro p e s m args below meth c C
  rw [wp_X12_book] at h
  refine a_iload_n C 1 dX12_book_0 rfl rfl ?_
  refine a_iconst C (-1) dX12_book_1 (by decide) ?_
  refine a_icmp_ne C 13 dX12_book_2 (by decide) (fun c9 => ?_) (fun c9 => ?_)
  · have h := h.1 c9
    refine a_iload_n C 1 dX12_book_13 rfl rfl ?_
    refine a_iconst C 0 dX12_book_14 (by decide) ?_
    refine a_aload_n C 0 dX12_book_15 rfl rfl ?_
    refine a_getr C 0 (r := 49) dX12_book_16 (by decide) rfl rfl rfl ib_12 (by decide) bw_1022 ?_
    refine a_bipush C 9 dX12_book_19 (by decide) ?_
    refine b_iald C 9 dX12_book_21 (by decide) rfl (vp_lit (by decide)) (by decide) ?_
    refine a_iconst C 1 dX12_book_22 (by decide) ?_
    refine a_isub C dX12_book_23 ?_
    refine a_callSi C dX12_book_24 (m_X12_isIn l V h) bw_1147 bw_1148 bw_123 bw_1149 np_X12_isIn rfl rfl (by decide) (Nat.le_of_ble_eq_true rfl) ⟨Nat.zero_le _, Nat.zero_le _⟩ (fun r1 u2 h => ?_)
    refine a_if_ne C 33 dX12_book_27 (by decide) (fun c8 => ?_) (fun c8 => ?_)
    · have h := h.1 c8
      refine a_aload_n C 0 dX12_book_33 rfl rfl ?_
      refine a_getr C 0 (r := 49) dX12_book_34 (by decide) rfl rfl rfl ib_12 (by decide) bw_1022 ?_
      refine a_sipush C 3643 dX12_book_37 (by decide) ?_
      refine a_iconst C 2 dX12_book_40 (by decide) ?_
      refine a_iload_n C 1 dX12_book_41 rfl rfl ?_
      refine a_imul C dX12_book_42 ?_
      refine a_iadd C dX12_book_43 ?_
      refine a_iconst C 1 dX12_book_44 (by decide) ?_
      refine a_iadd C dX12_book_45 ?_
      refine b_iald C (Int32.toNatClampNeg ((3643 + (2 * a0)) + 1)) dX12_book_46 (by decide) rfl h.1 rfl ?_
      have h := h.2
      refine a_topi (fun x3 ex3 => ?_)
      have h := h x3 ex3
      refine a_istore_n C [(3, .int x3), (0, .ref (eA V 48)), (1, .int a0), (2, .int a1)] dX12_book_47 rfl (by decide) rfl ?_
      refine a_iload_n C 3 dX12_book_48 rfl rfl ?_
      refine a_if_ne C 67 dX12_book_49 (by decide) (fun c7 => ?_) (fun c7 => ?_)
      · have h := h.1 c7
        refine a_iload_n C 3 dX12_book_67 rfl rfl ?_
        refine a_iconst C 1 dX12_book_68 (by decide) ?_
        refine a_icmp_ne C 80 dX12_book_69 (by decide) (fun c6 => ?_) (fun c6 => ?_)
        · have h := h.1 c6
          refine a_iload_n C 3 dX12_book_80 rfl rfl ?_
          refine a_iconst C 2 dX12_book_81 (by decide) ?_
          refine a_icmp_ne C 95 dX12_book_82 (by decide) (fun c5 => ?_) (fun c5 => ?_)
          · have h := h.1 c5
            refine a_iload_n C 3 dX12_book_95 rfl rfl ?_
            refine a_iconst C 3 dX12_book_96 (by decide) ?_
            refine a_icmp_ne C 107 dX12_book_97 (by decide) (fun c4 => ?_) (fun c4 => ?_)
            · have h := h.1 c4
              refine a_bipush C (-2) dX12_book_107 (by decide) ?_
              exact a_iret C dX12_book_109 h
            · have h := h.2 c4
              refine a_iload_n C 0 dX12_book_100 rfl rfl ?_
              refine a_bipush C 100 dX12_book_101 (by decide) ?_
              refine b_irem C dX12_book_103 (by decide) ?_
              refine a_goto C 109 dX12_book_104 (by decide) ?_
              exact a_iret C dX12_book_109 h
          · have h := h.2 c5
            refine a_iload_n C 0 dX12_book_85 rfl rfl ?_
            refine a_bipush C 100 dX12_book_86 (by decide) ?_
            refine a_idiv C dX12_book_88 (by decide) ?_
            refine a_bipush C 30 dX12_book_89 (by decide) ?_
            refine b_irem C dX12_book_91 (by decide) ?_
            refine a_goto C 109 dX12_book_92 (by decide) ?_
            exact a_iret C dX12_book_109 h
        · have h := h.2 c6
          refine a_iload_n C 0 dX12_book_72 rfl rfl ?_
          refine a_sipush C 3000 dX12_book_73 (by decide) ?_
          refine a_idiv C dX12_book_76 (by decide) ?_
          refine a_goto C 109 dX12_book_77 (by decide) ?_
          exact a_iret C dX12_book_109 h
      · have h := h.2 c7
        refine a_aload_n C 1 dX12_book_52 rfl rfl ?_
        refine a_getr C 0 (r := 49) dX12_book_53 (by decide) rfl rfl rfl ib_12 (by decide) bw_1022 ?_
        refine a_sipush C 3643 dX12_book_56 (by decide) ?_
        refine a_iconst C 2 dX12_book_59 (by decide) ?_
        refine a_iload_n C 2 dX12_book_60 rfl rfl ?_
        refine a_imul C dX12_book_61 ?_
        refine a_iadd C dX12_book_62 ?_
        refine b_iald C (Int32.toNatClampNeg (3643 + (2 * a0))) dX12_book_63 (by decide) rfl h.1 rfl ?_
        have h := h.2
        refine a_goto C 109 dX12_book_64 (by decide) ?_
        exact a_iret C dX12_book_109 h
    · have h := h.2 c8
      refine a_bipush C (-2) dX12_book_30 (by decide) ?_
      exact a_iret C dX12_book_32 h
  · have h := h.2 c9
    refine a_aload_n C 0 dX12_book_5 rfl rfl ?_
    refine a_getr C 0 (r := 49) dX12_book_6 (by decide) rfl rfl rfl ib_12 (by decide) bw_1022 ?_
    refine a_bipush C 9 dX12_book_9 (by decide) ?_
    refine b_iald C 9 dX12_book_11 (by decide) rfl (vp_lit (by decide)) (by decide) ?_
    exact a_iret C dX12_book_12 h
