/-! RainOnTheOne$Reader.readClause()V -/
def wj_X6_readClause_112 (post : PoS → Prop) (u : PoS) : Prop := wp_X6_expect 38 u (fun (u8 : PoS) => post u8)
def wj_X6_readClause_99 (post : PoS → Prop) (v1 : Int32) (u : PoS) : Prop := wp_X6_readLaw v1 u (fun (u6 : PoS) => wj_X6_readClause_112 post  u6)
def wj_X6_readClause_41 (post : PoS → Prop) (v1 : Int32) (s0 : Int32) (u : PoS) : Prop := wp_X9_isHead v1 u (fun (r2 : Int32) (u3 : PoS) => ((¬ r2 = 0 → ((s0 = 0 → ∃ i4, i4 < 4 ∧ gR u3 27 8 = 7 + i4 ∧ (((gI u3 (7 + i4) 4) < 24 → ((v1 = 0 → wj_X6_readClause_99 post v1 u3) ∧ (¬ v1 = 0 → ((¬ v1 = 1 → wp_X6_readDeed v1 u3 (fun (u10 : PoS) => wj_X6_readClause_112 post  u10)) ∧ (v1 = 1 → wj_X6_readClause_99 post v1 u3))))) ∧ (¬ (gI u3 (7 + i4) 4) < 24 → wp_X6_blame 6 u3 (fun (u14 : PoS) => wj_X6_readClause_112 post  u14)))) ∧ (¬ s0 = 0 → wp_X6_blame 4 u3 (fun (u17 : PoS) => wj_X6_readClause_112 post  u17)))) ∧ (r2 = 0 → wp_X6_blame 1 u3 (fun (u20 : PoS) => wj_X6_readClause_112 post  u20))))
def wj_X6_readClause_40 (post : PoS → Prop) (v1 : Int32) (u : PoS) : Prop := wj_X6_readClause_41 post v1 0 u
def wj_X6_readClause_36 (post : PoS → Prop) (v1 : Int32) (u : PoS) : Prop := wj_X6_readClause_41 post v1 1 u
def wj_X6_readClause_20 (post : PoS → Prop) (v1 : Int32) (u : PoS) : Prop := ((¬ v1 = 1 → wj_X6_readClause_40 post v1 u) ∧ (v1 = 1 → ∃ i22, i22 < 4 ∧ gR u 27 8 = 7 + i22 ∧ (((gI u (7 + i22) 7) = (-1) → wj_X6_readClause_40 post v1 u) ∧ (¬ (gI u (7 + i22) 7) = (-1) → wj_X6_readClause_36 post v1 u))))
def wp_X6_readClause (u : PoS) (post : PoS → Prop) : Prop := ∀ x1 : Int32, x1 = (gI u 27 7) → ((¬ x1 = 0 → wj_X6_readClause_20 post x1 u) ∧ (x1 = 0 → ∃ i25, i25 < 4 ∧ gR u 27 8 = 7 + i25 ∧ ((¬ (gI u (7 + i25) 6) = (-1) → wj_X6_readClause_36 post x1 u) ∧ ((gI u (7 + i25) 6) = (-1) → wj_X6_readClause_20 post x1 u))))
set_option maxHeartbeats 4000000 in
set_option maxRecDepth 100000 in
theorem tj_X6_readClause_112 {p : Program} {l : Launch} {e : Env} {s : State} {m : MethodId} {args : Array Value} {below : List Frame} {meth : Method} {c : Code} {V : VEn} {post : PoS → Prop} (C : CxS p s m args meth c V cX6_readClause 3 RX6 none) (u : PoS) (h : wj_X6_readClause_112 post  u) : AtS p l e (Rm 75) s m args below meth c V 3 (QV V below args s post) 112 [(0, .ref (eA V 27))] [] u := by
  rw [wj_X6_readClause_112] at h
  refine a_aload_n C 0 dX6_readClause_112 rfl rfl ?_
  refine a_bipush C 38 dX6_readClause_113 (by decide) ?_
  refine a_callVv C dX6_readClause_115 (m_X6_expect l V h) bw_578 bw_580 bw_14 bw_119 bw_581 (by decide) rfl rfl np_X6_expect rfl rfl (by decide) (Nat.le_of_ble_eq_true rfl) (fun u8 h => ?_)
  exact a_vret C dX6_readClause_118 h
set_option maxHeartbeats 4000000 in
set_option maxRecDepth 100000 in
theorem tj_X6_readClause_99 {p : Program} {l : Launch} {e : Env} {s : State} {m : MethodId} {args : Array Value} {below : List Frame} {meth : Method} {c : Code} {V : VEn} {post : PoS → Prop} (C : CxS p s m args meth c V cX6_readClause 3 RX6 none) (v1 : Int32) (u : PoS) (h : wj_X6_readClause_99 post v1 u) : AtS p l e (Rm 75) s m args below meth c V 3 (QV V below args s post) 99 [(0, .ref (eA V 27)), (1, .int v1)] [] u := by
  rw [wj_X6_readClause_99] at h
  refine a_aload_n C 0 dX6_readClause_99 rfl rfl ?_
  refine a_iload_n C 1 dX6_readClause_100 rfl rfl ?_
  refine a_callVv C dX6_readClause_101 (m_X6_readLaw l V h) bw_530 bw_532 bw_5 bw_119 bw_533 (by decide) rfl rfl np_X6_readLaw rfl rfl (by decide) (Nat.le_of_ble_eq_true rfl) (fun u6 h => ?_)
  refine a_goto C 112 dX6_readClause_104 (by decide) ?_
  refine a_sub [0] rfl ?_
  refine tj_X6_readClause_112 C _ h
set_option maxHeartbeats 4000000 in
set_option maxRecDepth 100000 in
theorem tj_X6_readClause_41 {p : Program} {l : Launch} {e : Env} {s : State} {m : MethodId} {args : Array Value} {below : List Frame} {meth : Method} {c : Code} {V : VEn} {post : PoS → Prop} (C : CxS p s m args meth c V cX6_readClause 3 RX6 none) (v1 : Int32) (s0 : Int32) (u : PoS) (h : wj_X6_readClause_41 post v1 s0 u) : AtS p l e (Rm 75) s m args below meth c V 3 (QV V below args s post) 41 [(0, .ref (eA V 27)), (1, .int v1)] [.int s0] u := by
  rw [wj_X6_readClause_41] at h
  refine a_istore_n C [(2, .int s0), (0, .ref (eA V 27)), (1, .int v1)] dX6_readClause_41 rfl (by decide) rfl ?_
  refine a_iload_n C 2 dX6_readClause_42 rfl rfl ?_
  refine a_callSi C dX6_readClause_43 (m_X9_isHead l V h) bw_523 bw_524 bw_128 bw_525 np_X9_isHead rfl rfl (by decide) (Nat.le_of_ble_eq_true rfl) (fun r2 u3 h => ?_)
  refine a_if_ne C 57 dX6_readClause_46 (by decide) (fun c21 => ?_) (fun c21 => ?_)
  · have h := h.1 c21
    refine a_iload_n C 0 dX6_readClause_57 rfl rfl ?_
    refine a_if_eq C 69 dX6_readClause_58 (by decide) (fun c18 => ?_) (fun c18 => ?_)
    · have h := h.1 c18
      refine a_aload_n C 1 dX6_readClause_69 rfl rfl ?_
      refine a_getd C 8 dX6_readClause_70 (by decide) rfl rfl rfl ib_6 (by decide) bw_300 ?_
      obtain ⟨i4, hi4, hri4, h⟩ := h
      rw [hri4]
      refine a_geti C 4 dX6_readClause_73 (by have := hi4; omega) (lw_obj hi4) rfl rfl ib_3 (by decide) bw_246 ?_
      refine a_bipush C 24 dX6_readClause_76 (by decide) ?_
      refine a_icmp_lt C 90 dX6_readClause_78 (by decide) (fun c15 => ?_) (fun c15 => ?_)
      · have h := h.1 c15
        refine a_iload_n C 2 dX6_readClause_90 rfl rfl ?_
        refine a_if_eq C 99 dX6_readClause_91 (by decide) (fun c12 => ?_) (fun c12 => ?_)
        · have h := h.1 c12
          refine a_sub [1, 2] rfl ?_
          refine tj_X6_readClause_99 C _ _ h
        · have h := h.2 c12
          refine a_iload_n C 2 dX6_readClause_94 rfl rfl ?_
          refine a_iconst C 1 dX6_readClause_95 (by decide) ?_
          refine a_icmp_ne C 107 dX6_readClause_96 (by decide) (fun c11 => ?_) (fun c11 => ?_)
          · have h := h.1 c11
            refine a_aload_n C 1 dX6_readClause_107 rfl rfl ?_
            refine a_iload_n C 2 dX6_readClause_108 rfl rfl ?_
            refine a_callVv C dX6_readClause_109 (m_X6_readDeed l V h) bw_605 bw_607 bw_19 bw_119 bw_608 (by decide) rfl rfl np_X6_readDeed rfl rfl (by decide) (Nat.le_of_ble_eq_true rfl) (fun u10 h => ?_)
            refine a_sub [1] rfl ?_
            refine tj_X6_readClause_112 C _ h
          · have h := h.2 c11
            refine a_sub [1, 2] rfl ?_
            refine tj_X6_readClause_99 C _ _ h
      · have h := h.2 c15
        refine a_aload_n C 1 dX6_readClause_81 rfl rfl ?_
        refine a_bipush C 6 dX6_readClause_82 (by decide) ?_
        refine a_callVv C dX6_readClause_84 (m_X6_blame l V h) bw_526 bw_528 bw_4 bw_119 bw_529 (by decide) rfl rfl np_X6_blame rfl rfl (by decide) (Nat.le_of_ble_eq_true rfl) (fun u14 h => ?_)
        refine a_goto C 112 dX6_readClause_87 (by decide) ?_
        refine a_sub [1] rfl ?_
        refine tj_X6_readClause_112 C _ h
    · have h := h.2 c18
      refine a_aload_n C 1 dX6_readClause_61 rfl rfl ?_
      refine a_iconst C 4 dX6_readClause_62 (by decide) ?_
      refine a_callVv C dX6_readClause_63 (m_X6_blame l V h) bw_526 bw_528 bw_4 bw_119 bw_529 (by decide) rfl rfl np_X6_blame rfl rfl (by decide) (Nat.le_of_ble_eq_true rfl) (fun u17 h => ?_)
      refine a_goto C 112 dX6_readClause_66 (by decide) ?_
      refine a_sub [1] rfl ?_
      refine tj_X6_readClause_112 C _ h
  · have h := h.2 c21
    refine a_aload_n C 1 dX6_readClause_49 rfl rfl ?_
    refine a_iconst C 1 dX6_readClause_50 (by decide) ?_
    refine a_callVv C dX6_readClause_51 (m_X6_blame l V h) bw_526 bw_528 bw_4 bw_119 bw_529 (by decide) rfl rfl np_X6_blame rfl rfl (by decide) (Nat.le_of_ble_eq_true rfl) (fun u20 h => ?_)
    refine a_goto C 112 dX6_readClause_54 (by decide) ?_
    refine a_sub [1] rfl ?_
    refine tj_X6_readClause_112 C _ h
set_option maxHeartbeats 4000000 in
set_option maxRecDepth 100000 in
theorem tj_X6_readClause_40 {p : Program} {l : Launch} {e : Env} {s : State} {m : MethodId} {args : Array Value} {below : List Frame} {meth : Method} {c : Code} {V : VEn} {post : PoS → Prop} (C : CxS p s m args meth c V cX6_readClause 3 RX6 none) (v1 : Int32) (u : PoS) (h : wj_X6_readClause_40 post v1 u) : AtS p l e (Rm 75) s m args below meth c V 3 (QV V below args s post) 40 [(0, .ref (eA V 27)), (1, .int v1)] [] u := by
  rw [wj_X6_readClause_40] at h
  refine a_iconst C 0 dX6_readClause_40 (by decide) ?_
  refine tj_X6_readClause_41 C _ _ _ h
set_option maxHeartbeats 4000000 in
set_option maxRecDepth 100000 in
theorem tj_X6_readClause_36 {p : Program} {l : Launch} {e : Env} {s : State} {m : MethodId} {args : Array Value} {below : List Frame} {meth : Method} {c : Code} {V : VEn} {post : PoS → Prop} (C : CxS p s m args meth c V cX6_readClause 3 RX6 none) (v1 : Int32) (u : PoS) (h : wj_X6_readClause_36 post v1 u) : AtS p l e (Rm 75) s m args below meth c V 3 (QV V below args s post) 36 [(0, .ref (eA V 27)), (1, .int v1)] [] u := by
  rw [wj_X6_readClause_36] at h
  refine a_iconst C 1 dX6_readClause_36 (by decide) ?_
  refine a_goto C 41 dX6_readClause_37 (by decide) ?_
  refine tj_X6_readClause_41 C _ _ _ h
set_option maxHeartbeats 4000000 in
set_option maxRecDepth 100000 in
theorem tj_X6_readClause_20 {p : Program} {l : Launch} {e : Env} {s : State} {m : MethodId} {args : Array Value} {below : List Frame} {meth : Method} {c : Code} {V : VEn} {post : PoS → Prop} (C : CxS p s m args meth c V cX6_readClause 3 RX6 none) (v1 : Int32) (u : PoS) (h : wj_X6_readClause_20 post v1 u) : AtS p l e (Rm 75) s m args below meth c V 3 (QV V below args s post) 20 [(0, .ref (eA V 27)), (1, .int v1)] [] u := by
  rw [wj_X6_readClause_20] at h
  refine a_iload_n C 1 dX6_readClause_20 rfl rfl ?_
  refine a_iconst C 1 dX6_readClause_21 (by decide) ?_
  refine a_icmp_ne C 40 dX6_readClause_22 (by decide) (fun c24 => ?_) (fun c24 => ?_)
  · have h := h.1 c24
    refine tj_X6_readClause_40 C _ _ h
  · have h := h.2 c24
    refine a_aload_n C 0 dX6_readClause_25 rfl rfl ?_
    refine a_getd C 8 dX6_readClause_26 (by decide) rfl rfl rfl ib_6 (by decide) bw_300 ?_
    obtain ⟨i22, hi22, hri22, h⟩ := h
    rw [hri22]
    refine a_geti C 7 dX6_readClause_29 (by have := hi22; omega) (lw_obj hi22) rfl rfl ib_3 (by decide) bw_256 ?_
    refine a_iconst C (-1) dX6_readClause_32 (by decide) ?_
    refine a_icmp_eq C 40 dX6_readClause_33 (by decide) (fun c23 => ?_) (fun c23 => ?_)
    · have h := h.1 c23
      refine tj_X6_readClause_40 C _ _ h
    · have h := h.2 c23
      refine tj_X6_readClause_36 C _ _ h
theorem np_X6_readClause : yX6_readClause.cls ≠ "java/lang/invoke/MethodHandle" ∧ yX6_readClause.cls ≠ "java/lang/invoke/VarHandle" ∧ (parseMethodDescriptor yX6_readClause.desc).map (fun d => d.parameters.length) = some 0 := by decide +kernel
set_option maxHeartbeats 4000000 in
set_option maxRecDepth 100000 in
theorem m_X6_readClause (l : Launch) (V : VEn) {u : PoS} {post : PoS → Prop} (h : wp_X6_readClause  u post) : KV l V yX6_readClause cX6_readClause 3 75 [.ref (eA V 27)] u post := by
  refine KV_of (by decide) (Nat.le_of_ble_eq_true rfl) (lv := [(0, .ref (eA V 27))]) rfl ?_
  intro p e s m args below meth c C
  rw [wp_X6_readClause] at h
  refine a_aload_n C 0 dX6_readClause_0 rfl rfl ?_
  refine a_geti C 7 dX6_readClause_1 (by decide) rfl rfl rfl ib_6 (by decide) bw_299 ?_
  refine a_topi (fun x1 ex1 => ?_)
  have h := h x1 ex1
  refine a_istore_n C [(1, .int x1), (0, .ref (eA V 27))] dX6_readClause_4 rfl (by decide) rfl ?_
  refine a_iload_n C 0 dX6_readClause_5 rfl rfl ?_
  refine a_if_ne C 20 dX6_readClause_6 (by decide) (fun c27 => ?_) (fun c27 => ?_)
  · have h := h.1 c27
    refine a_sub [1, 0] rfl ?_
    refine tj_X6_readClause_20 C _ _ h
  · have h := h.2 c27
    refine a_aload_n C 1 dX6_readClause_9 rfl rfl ?_
    refine a_getd C 8 dX6_readClause_10 (by decide) rfl rfl rfl ib_6 (by decide) bw_300 ?_
    obtain ⟨i25, hi25, hri25, h⟩ := h
    rw [hri25]
    refine a_geti C 6 dX6_readClause_13 (by have := hi25; omega) (lw_obj hi25) rfl rfl ib_3 (by decide) bw_253 ?_
    refine a_iconst C (-1) dX6_readClause_16 (by decide) ?_
    refine a_icmp_ne C 36 dX6_readClause_17 (by decide) (fun c26 => ?_) (fun c26 => ?_)
    · have h := h.1 c26
      refine a_sub [1, 0] rfl ?_
      refine tj_X6_readClause_36 C _ _ h
    · have h := h.2 c26
      refine a_sub [1, 0] rfl ?_
      refine tj_X6_readClause_20 C _ _ h
