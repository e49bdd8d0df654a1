/-! RainOnTheOneModel.from(Z)I -/
def wj_X12_from_45 (k10 : Int32 → Int32 → Int32 → Int32 → PoS → Prop) (post : Int32 → PoS → Prop) (v1 : Int32) (v2 : Int32) (v4 : Int32) (s0 : Int32) (s1 : Int32) (u : PoS) : Prop := ∀ x5 : Int32, x5 = (s1 ||| s0) → k10 v1 v2 x5 (v4 + 1) u
def wj_X12_from_44 (k10 : Int32 → Int32 → Int32 → Int32 → PoS → Prop) (post : Int32 → PoS → Prop) (v1 : Int32) (v2 : Int32) (v4 : Int32) (s0 : Int32) (u : PoS) : Prop := wj_X12_from_45 k10 post v1 v2 v4 0 s0 u
def wl_X12_from_10 (k53 : Int32 → Int32 → PoS → Prop) (post : Int32 → PoS → Prop) : Nat → Int32 → Int32 → Int32 → Int32 → PoS → Prop
  | 0, _, _, _, _, _ => False
  | n + 1, v1, v2, v3, v4, u => ((30 ≤ v4 → k53 v1 v3 u) ∧ (¬ 30 ≤ v4 → wp_X12_has v2 v4 u (fun (r3 : Int32) (u4 : PoS) => ((r3 = 0 → wj_X12_from_44 (wl_X12_from_10 k53 post n) post v1 v2 v4 v3 u4) ∧ (¬ r3 = 0 → wp_X12_isFrom v4 v2 u4 (fun (r6 : Int32) (u7 : PoS) => ((r6 = 0 → wj_X12_from_44 (wl_X12_from_10 k53 post n) post v1 v2 v4 v3 u7) ∧ (¬ r6 = 0 → wj_X12_from_45 (wl_X12_from_10 k53 post n) post v1 v2 v4 (1 <<< (v4 &&& 31)) v3 u7))))))))
def wp_X12_from (a0 : Int32) (u : PoS) (post : Int32 → PoS → Prop) : Prop := wp_X12_free u (fun (r1 : Int32) (u2 : PoS) => (∃ n10, wl_X12_from_10 (fun (v111 : Int32) (v311 : Int32) (u11 : PoS) => ((v111 = 0 → post v311 u11) ∧ (¬ v111 = 0 → wp_X12_bits v311 u11 (fun (r12 : Int32) (u13 : PoS) => post r12 u13)))) post n10 a0 r1 0 0 u2))
set_option maxHeartbeats 4000000 in
set_option maxRecDepth 100000 in
theorem tj_X12_from_45 {p : Program} {l : Launch} {e : Env} {s : State} {m : MethodId} {args : Array Value} {below : List Frame} {meth : Method} {c : Code} {V : VEn} {k10 : Int32 → Int32 → Int32 → Int32 → PoS → Prop} {post : Int32 → PoS → Prop} (C : CxS p s m args meth c V cX12_from 5 RX12 (some .int)) (hk10 : ∀ (v1 : Int32) (v2 : Int32) (v3 : Int32) (v4 : Int32) (u : PoS), k10 v1 v2 v3 v4 u → AtS p l e (Rm 4) s m args below meth c V 5 (QI V below args s post) 10 [(0, .ref (eA V 48)), (1, .int v1), (2, .int v2), (3, .int v3), (4, .int v4)] [] u) (v1 : Int32) (v2 : Int32) (v4 : Int32) (s0 : Int32) (s1 : Int32) (u : PoS) (h : wj_X12_from_45 k10 post v1 v2 v4 s0 s1 u) : AtS p l e (Rm 4) s m args below meth c V 5 (QI V below args s post) 45 [(0, .ref (eA V 48)), (1, .int v1), (2, .int v2), (4, .int v4)] [.int s0, .int s1] u := by
  rw [wj_X12_from_45] at h
  refine a_ior C dX12_from_45 ?_
  refine a_topi (fun x5 ex5 => ?_)
  have h := h x5 ex5
  refine a_istore_n C [(3, .int x5), (0, .ref (eA V 48)), (1, .int v1), (2, .int v2), (4, .int v4)] dX12_from_46 rfl (by decide) rfl ?_
  refine a_iinc C (v4 + 1) 4 [(4, .int (v4 + 1)), (3, .int x5), (0, .ref (eA V 48)), (1, .int v1), (2, .int v2)] dX12_from_47 rfl (congrArg (fun z => v4 + z) (show Int32.ofInt 1 = 1 by decide)) (by decide) rfl ?_
  refine a_goto C 10 dX12_from_50 (by decide) ?_
  refine a_sub [2, 3, 4, 1, 0] rfl ?_
  exact hk10 _ _ _ _ _ h
set_option maxHeartbeats 4000000 in
set_option maxRecDepth 100000 in
theorem tj_X12_from_44 {p : Program} {l : Launch} {e : Env} {s : State} {m : MethodId} {args : Array Value} {below : List Frame} {meth : Method} {c : Code} {V : VEn} {k10 : Int32 → Int32 → Int32 → Int32 → PoS → Prop} {post : Int32 → PoS → Prop} (C : CxS p s m args meth c V cX12_from 5 RX12 (some .int)) (hk10 : ∀ (v1 : Int32) (v2 : Int32) (v3 : Int32) (v4 : Int32) (u : PoS), k10 v1 v2 v3 v4 u → AtS p l e (Rm 4) s m args below meth c V 5 (QI V below args s post) 10 [(0, .ref (eA V 48)), (1, .int v1), (2, .int v2), (3, .int v3), (4, .int v4)] [] u) (v1 : Int32) (v2 : Int32) (v4 : Int32) (s0 : Int32) (u : PoS) (h : wj_X12_from_44 k10 post v1 v2 v4 s0 u) : AtS p l e (Rm 4) s m args below meth c V 5 (QI V below args s post) 44 [(0, .ref (eA V 48)), (1, .int v1), (2, .int v2), (4, .int v4)] [.int s0] u := by
  rw [wj_X12_from_44] at h
  refine a_iconst C 0 dX12_from_44 (by decide) ?_
  refine tj_X12_from_45 C hk10 _ _ _ _ _ _ h
set_option maxHeartbeats 4000000 in
set_option maxRecDepth 100000 in
theorem tl_X12_from_10 {p : Program} {l : Launch} {e : Env} {s : State} {m : MethodId} {args : Array Value} {below : List Frame} {meth : Method} {c : Code} {V : VEn} {k53 : Int32 → Int32 → PoS → Prop} {post : Int32 → PoS → Prop} (C : CxS p s m args meth c V cX12_from 5 RX12 (some .int)) (hk53 : ∀ (v1 : Int32) (v3 : Int32) (u : PoS), k53 v1 v3 u → AtS p l e (Rm 4) s m args below meth c V 5 (QI V below args s post) 53 [(1, .int v1), (3, .int v3)] [] u) : ∀ (n : Nat) (v1 : Int32) (v2 : Int32) (v3 : Int32) (v4 : Int32) (u : PoS), wl_X12_from_10 k53 post n v1 v2 v3 v4 u → AtS p l e (Rm 4) s m args below meth c V 5 (QI V below args s post) 10 [(0, .ref (eA V 48)), (1, .int v1), (2, .int v2), (3, .int v3), (4, .int v4)] [] u := by
  intro n
  induction n with
  | zero => intro v1 v2 v3 v4 u h; exact h.elim
  | succ n ih =>
    intro v1 v2 v3 v4 u h
    rw [wl_X12_from_10] at h
    refine a_iload C 4 dX12_from_10 rfl ?_
    refine a_bipush C 30 dX12_from_12 (by decide) ?_
    refine a_icmp_ge C 53 dX12_from_14 (by decide) (fun c10 => ?_) (fun c10 => ?_)
    · have h := h.1 c10
      refine a_sub [1, 3] rfl ?_
      exact hk53 _ _ _ h
    · have h := h.2 c10
      refine a_iload_n C 3 dX12_from_17 rfl rfl ?_
      refine a_iload_n C 2 dX12_from_18 rfl rfl ?_
      refine a_iload C 4 dX12_from_19 rfl ?_
      refine a_callSi C dX12_from_21 (m_X12_has l V h) bw_1240 bw_1241 bw_123 bw_1242 np_X12_has rfl rfl (by decide) (Nat.le_of_ble_eq_true rfl) (fun r3 u4 h => ?_)
      refine a_if_eq C 44 dX12_from_24 (by decide) (fun c9 => ?_) (fun c9 => ?_)
      · have h := h.1 c9
        refine a_sub [0, 1, 2, 4] rfl ?_
        refine tj_X12_from_44 C ih _ _ _ _ _ h
      · have h := h.2 c9
        refine a_aload_n C 0 dX12_from_27 rfl rfl ?_
        refine a_iload C 4 dX12_from_28 rfl ?_
        refine a_iload_n C 2 dX12_from_30 rfl rfl ?_
        refine a_callVi C dX12_from_31 (m_X12_isFrom l V h) bw_1672 bw_1674 bw_109 bw_123 bw_1675 (by decide) rfl rfl np_X12_isFrom rfl rfl (by decide) (Nat.le_of_ble_eq_true rfl) (fun r6 u7 h => ?_)
        refine a_if_eq C 44 dX12_from_34 (by decide) (fun c8 => ?_) (fun c8 => ?_)
        · have h := h.1 c8
          refine a_sub [0, 1, 2, 4] rfl ?_
          refine tj_X12_from_44 C ih _ _ _ _ _ h
        · have h := h.2 c8
          refine a_iconst C 1 dX12_from_37 (by decide) ?_
          refine a_iload C 4 dX12_from_38 rfl ?_
          refine a_ishl C dX12_from_40 ?_
          refine a_goto C 45 dX12_from_41 (by decide) ?_
          refine a_sub [0, 1, 2, 4] rfl ?_
          refine tj_X12_from_45 C ih _ _ _ _ _ _ h
theorem np_X12_from : yX12_from.cls ≠ "java/lang/invoke/MethodHandle" ∧ yX12_from.cls ≠ "java/lang/invoke/VarHandle" ∧ (parseMethodDescriptor yX12_from.desc).map (fun d => d.parameters.length) = some 1 := by decide +kernel
set_option maxHeartbeats 4000000 in
set_option maxRecDepth 100000 in
theorem m_X12_from (l : Launch) (V : VEn) {a0 : Int32} {u : PoS} {post : Int32 → PoS → Prop} (h : wp_X12_from a0 u post) : KI l V yX12_from cX12_from 5 .int 4 [.ref (eA V 48), .int a0] u post := by
  refine KI_of (by decide) (Nat.le_of_ble_eq_true rfl) (lv := [(0, .ref (eA V 48)), (1, .int a0)]) rfl ?_
  intro p e s m args below meth c C
  rw [wp_X12_from] at h
  refine a_aload_n C 0 dX12_from_0 rfl rfl ?_
  refine a_callVi C dX12_from_1 (m_X12_free l V h) bw_1395 bw_1397 bw_79 bw_123 bw_1398 (by decide) rfl rfl np_X12_free rfl rfl (by decide) (Nat.le_of_ble_eq_true rfl) (fun r1 u2 h => ?_)
  refine a_istore_n C [(2, .int r1), (0, .ref (eA V 48)), (1, .int a0)] dX12_from_4 rfl (by decide) rfl ?_
  refine a_iconst C 0 dX12_from_5 (by decide) ?_
  refine a_istore_n C [(3, .int 0), (2, .int r1), (0, .ref (eA V 48)), (1, .int a0)] dX12_from_6 rfl (by decide) rfl ?_
  refine a_iconst C 0 dX12_from_7 (by decide) ?_
  refine a_istore C [(4, .int 0), (3, .int 0), (2, .int r1), (0, .ref (eA V 48)), (1, .int a0)] dX12_from_8 (by decide) rfl ?_
  refine a_sub [3, 4, 2, 1, 0] rfl ?_
  obtain ⟨n10, h⟩ := h
  refine tl_X12_from_10 C (fun v111 v311 u11 h => ?_) n10 _ _ _ _ _ h
  refine a_iload_n C 0 dX12_from_53 rfl rfl ?_
  refine a_if_eq C 64 dX12_from_54 (by decide) (fun c14 => ?_) (fun c14 => ?_)
  · have h := h.1 c14
    refine a_iload_n C 1 dX12_from_64 rfl rfl ?_
    exact a_iret C dX12_from_65 h
  · have h := h.2 c14
    refine a_iload_n C 1 dX12_from_57 rfl rfl ?_
    refine a_callSi C dX12_from_58 (m_X12_bits l V h) bw_1599 bw_1600 bw_123 bw_1601 np_X12_bits rfl rfl (by decide) (Nat.le_of_ble_eq_true rfl) (fun r12 u13 h => ?_)
    refine a_goto C 65 dX12_from_61 (by decide) ?_
    exact a_iret C dX12_from_65 h

/-! RainOnTheOneModel.divisor(JJ)J -/
def wl_X12_divisor_6 (post : Int64 → PoS → Prop) : Nat → Int64 → Int64 → PoS → Prop
  | 0, _, _, _ => False
  | n + 1, v4, v6, u => (((lg_cmp v6 0) = 0 → post v4 u) ∧ (¬ (lg_cmp v6 0) = 0 → ¬ v6 = 0 ∧ ∀ x1 : Int64, x1 = (lrem v4 v6) → wl_X12_divisor_6 post n v6 x1 u))
def wp_X12_divisor (a0 : Int64) (a1 : Int64) (u : PoS) (post : Int64 → PoS → Prop) : Prop := (∃ n6, wl_X12_divisor_6 post n6 a0 a1 u)
set_option maxHeartbeats 4000000 in
set_option maxRecDepth 100000 in
theorem tl_X12_divisor_6 {p : Program} {l : Launch} {e : Env} {s : State} {m : MethodId} {args : Array Value} {below : List Frame} {meth : Method} {c : Code} {V : VEn} {post : Int64 → PoS → Prop} (C : CxS p s m args meth c V cX12_divisor 10 RX12 (some .long)) : ∀ (n : Nat) (v4 : Int64) (v6 : Int64) (u : PoS), wl_X12_divisor_6 post n v4 v6 u → AtS p l e (Rm 0) s m args below meth c V 10 (QL V below args s post) 6 [(4, .long v4), (6, .long v6)] [] u := by
  intro n
  induction n with
  | zero => intro v4 v6 u h; exact h.elim
  | succ n ih =>
    intro v4 v6 u h
    rw [wl_X12_divisor_6] at h
    refine a_lload C 1 dX12_divisor_6 rfl ?_
    refine a_lconst C 0 dX12_divisor_8 (by decide) ?_
    refine a_lcmp C dX12_divisor_9 ?_
    refine a_if_eq C 31 dX12_divisor_10 (by decide) (fun c2 => ?_) (fun c2 => ?_)
    · have h := h.1 c2
      refine a_lload C 0 dX12_divisor_31 rfl ?_
      exact a_lret C dX12_divisor_33 h
    · have h := h.2 c2
      refine a_lload C 0 dX12_divisor_13 rfl ?_
      refine a_lload C 1 dX12_divisor_15 rfl ?_
      refine b_lrem C dX12_divisor_17 h.1 ?_
      have h := h.2
      refine a_topl (fun x1 ex1 => ?_)
      have h := h x1 ex1
      refine a_lstore C [(8, .long x1), (4, .long v4), (6, .long v6)] dX12_divisor_18 (by decide) rfl ?_
      refine a_lload C 2 dX12_divisor_20 rfl ?_
      refine a_lstore C [(4, .long v6), (8, .long x1), (6, .long v6)] dX12_divisor_22 (by decide) rfl ?_
      refine a_lload C 1 dX12_divisor_24 rfl ?_
      refine a_lstore C [(6, .long x1), (4, .long v6), (8, .long x1)] dX12_divisor_26 (by decide) rfl ?_
      refine a_goto C 6 dX12_divisor_28 (by decide) ?_
      refine a_sub [1, 0] rfl ?_
      exact ih _ _ _ h
theorem np_X12_divisor : yX12_divisor.cls ≠ "java/lang/invoke/MethodHandle" ∧ yX12_divisor.cls ≠ "java/lang/invoke/VarHandle" ∧ (parseMethodDescriptor yX12_divisor.desc).map (fun d => d.parameters.length) = some 2 := by decide +kernel
set_option maxHeartbeats 4000000 in
set_option maxRecDepth 100000 in
theorem m_X12_divisor (l : Launch) (V : VEn) {a0 : Int64} {a1 : Int64} {u : PoS} {post : Int64 → PoS → Prop} (h : wp_X12_divisor a0 a1 u post) : KL l V yX12_divisor cX12_divisor 10 .long 0 [.long a0, .long a1] u post := by
  refine KL_of (by decide) (Nat.le_of_ble_eq_true rfl) (lv := [(0, .long a0), (2, .long a1)]) rfl ?_
  intro p e s m args below meth c C
  rw [wp_X12_divisor] at h
  refine a_lload_n C 0 dX12_divisor_0 rfl rfl ?_
  refine a_lstore C [(4, .long a0), (0, .long a0), (2, .long a1)] dX12_divisor_1 (by decide) rfl ?_
  refine a_lload_n C 2 dX12_divisor_3 rfl rfl ?_
  refine a_lstore C [(6, .long a1), (4, .long a0), (0, .long a0), (2, .long a1)] dX12_divisor_4 (by decide) rfl ?_
  refine a_sub [1, 0] rfl ?_
  obtain ⟨n6, h⟩ := h
  refine tl_X12_divisor_6 C n6 _ _ _ h

/-! RainOnTheOneModel.likely(IIZ)J -/
def wj_X12_likely_62 (k39 : Int32 → Int32 → Int32 → Int64 → Int32 → PoS → Prop) (post : Int64 → PoS → Prop) (v1 : Int32) (v2 : Int32) (v3 : Int32) (v4 : Int64) (v6 : Int32) (s0 : Int64) (s1 : Int32) (u : PoS) : Prop := vp_in s1 11 ∧ k39 v1 v2 v3 v4 (v6 + 1) (pL u 68 (Int32.toNatClampNeg s1) s0)
def wl_X12_likely_39 (k69 : Int32 → Int32 → Int32 → Int64 → PoS → Prop) (post : Int64 → PoS → Prop) : Nat → Int32 → Int32 → Int32 → Int64 → Int32 → PoS → Prop
  | 0, _, _, _, _, _, _ => False
  | n + 1, v1, v2, v3, v4, v6, u => ((11 ≤ v6 → k69 v1 v2 v3 v4 u) ∧ (¬ 11 ≤ v6 → ((¬ v6 = 0 → wj_X12_likely_62 (wl_X12_likely_39 k69 post n) post v1 v2 v3 v4 v6 0 v6 u) ∧ (v6 = 0 → wj_X12_likely_62 (wl_X12_likely_39 k69 post n) post v1 v2 v3 v4 v6 1 v6 u))))
def wj_X12_likely_128 (k82 : Int32 → Int32 → Int32 → Int64 → Int32 → Int32 → PoS → Prop) (post : Int64 → PoS → Prop) (v1 : Int32) (v2 : Int32) (v3 : Int32) (v4 : Int64) (v6 : Int32) (v7 : Int32) (s0 : Int64) (s1 : Int64) (s2 : Int32) (u : PoS) : Prop := vp_in s2 11 ∧ k82 v1 v2 v3 v4 v6 (v7 + (-1)) (pL u 68 (Int32.toNatClampNeg s2) (s1 + s0))
def wl_X12_likely_82 (k136 : Int32 → Int32 → Int32 → Int64 → Int32 → PoS → Prop) (post : Int64 → PoS → Prop) : Nat → Int32 → Int32 → Int32 → Int64 → Int32 → Int32 → PoS → Prop
  | 0, _, _, _, _, _, _, _ => False
  | n + 1, v1, v2, v3, v4, v6, v7, u => ((v7 < 0 → k136 v1 v2 v3 v4 v6 u) ∧ (¬ v7 < 0 → vp_in v7 11 ∧ ((v7 ≤ 0 → wj_X12_likely_128 (wl_X12_likely_82 k136 post n) post v1 v2 v3 v4 v6 v7 0 ((gL u 68 (Int32.toNatClampNeg v7)) * (Int32.toInt64 ((gI u 49 0) - 1))) v7 u) ∧ (¬ v7 ≤ 0 → vp_in (v7 - 1) 11 ∧ wj_X12_likely_128 (wl_X12_likely_82 k136 post n) post v1 v2 v3 v4 v6 v7 (gL u 68 (Int32.toNatClampNeg (v7 - 1))) ((gL u 68 (Int32.toNatClampNeg v7)) * (Int32.toInt64 ((gI u 49 0) - 1))) v7 u))))
def wl_X12_likely_72 (k154 : Int32 → Int32 → Int64 → PoS → Prop) (post : Int64 → PoS → Prop) : Nat → Int32 → Int32 → Int32 → Int64 → Int32 → PoS → Prop
  | 0, _, _, _, _, _, _ => False
  | n + 1, v1, v2, v3, v4, v6, u => ((v1 ≤ v6 → k154 v2 v3 v4 u) ∧ (¬ v1 ≤ v6 → (∃ n82, wl_X12_likely_82 (fun (v110 : Int32) (v210 : Int32) (v310 : Int32) (v410 : Int64) (v610 : Int32) (u10 : PoS) => ∀ x11 : Int64, x11 = (v410 * (Int32.toInt64 (gI u10 49 0))) → wl_X12_likely_72 k154 post n v110 v210 v310 x11 (v610 + 1) u10) post n82 v1 v2 v3 v4 v6 10 u)))
def wj_X12_likely_169 (post : Int64 → PoS → Prop) (v2 : Int32) (v4 : Int64) (s0 : Int64) (u : PoS) : Prop := vp_in v2 11 ∧ wp_X12_divisor (gL u 68 (Int32.toNatClampNeg v2)) v4 u (fun (r14 : Int64) (u15 : PoS) => ¬ r14 = 0 ∧ post (s0 / r14) u15)
def wp_X12_likely (a0 : Int32) (a1 : Int32) (a2 : Int32) (u : PoS) (post : Int64 → PoS → Prop) : Prop := wp_X12_isIn a0 1 10 u (fun (r1 : Int32) (u2 : PoS) => ((r1 = 0 → post (-1) u2) ∧ (¬ r1 = 0 → wp_X12_isIn a1 0 10 u2 (fun (r3 : Int32) (u4 : PoS) => ((r3 = 0 → post (-1) u4) ∧ (¬ r3 = 0 → ((¬ (gI u4 49 0) = 0 → (∃ n39, wl_X12_likely_39 (fun (v17 : Int32) (v27 : Int32) (v37 : Int32) (v47 : Int64) (u7 : PoS) => (∃ n72, wl_X12_likely_72 (fun (v213 : Int32) (v313 : Int32) (v413 : Int64) (u13 : PoS) => ((v313 = 0 → vp_in v213 11 ∧ wj_X12_likely_169 post v213 v413 (gL u13 68 (Int32.toNatClampNeg v213)) u13) ∧ (¬ v313 = 0 → wj_X12_likely_169 post v213 v413 v413 u13))) post n72 v17 v27 v37 v47 0 u7)) post n39 a0 a1 a2 1 0 u4)) ∧ ((gI u4 49 0) = 0 → post (-1) u4))))))))
set_option maxHeartbeats 4000000 in
set_option maxRecDepth 100000 in
theorem tj_X12_likely_62 {p : Program} {l : Launch} {e : Env} {s : State} {m : MethodId} {args : Array Value} {below : List Frame} {meth : Method} {c : Code} {V : VEn} {k39 : Int32 → Int32 → Int32 → Int64 → Int32 → PoS → Prop} {post : Int64 → PoS → Prop} (C : CxS p s m args meth c V cX12_likely 8 RX12 (some .long)) (hk39 : ∀ (v1 : Int32) (v2 : Int32) (v3 : Int32) (v4 : Int64) (v6 : Int32) (u : PoS), k39 v1 v2 v3 v4 v6 u → AtS p l e (Rm 1) s m args below meth c V 8 (QL V below args s post) 39 [(0, .ref (eA V 48)), (1, .int v1), (2, .int v2), (3, .int v3), (4, .long v4), (6, .int v6)] [] u) (v1 : Int32) (v2 : Int32) (v3 : Int32) (v4 : Int64) (v6 : Int32) (s0 : Int64) (s1 : Int32) (u : PoS) (h : wj_X12_likely_62 k39 post v1 v2 v3 v4 v6 s0 s1 u) : AtS p l e (Rm 1) s m args below meth c V 8 (QL V below args s post) 62 [(0, .ref (eA V 48)), (1, .int v1), (2, .int v2), (3, .int v3), (4, .long v4), (6, .int v6)] [.long s0, .int s1, .ref (eA V 68)] u := by
  rw [wj_X12_likely_62] at h
  refine b_last C (Int32.toNatClampNeg s1) dX12_likely_62 (by decide) rfl h.1 rfl ?_
  have h := h.2
  refine a_iinc C (v6 + 1) 5 [(6, .int (v6 + 1)), (0, .ref (eA V 48)), (1, .int v1), (2, .int v2), (3, .int v3), (4, .long v4)] dX12_likely_63 rfl (congrArg (fun z => v6 + z) (show Int32.ofInt 1 = 1 by decide)) (by decide) rfl ?_
  refine a_goto C 39 dX12_likely_66 (by decide) ?_
  refine a_sub [1, 2, 3, 4, 5, 0] rfl ?_
  exact hk39 _ _ _ _ _ _ h
set_option maxHeartbeats 4000000 in
set_option maxRecDepth 100000 in
theorem tl_X12_likely_39 {p : Program} {l : Launch} {e : Env} {s : State} {m : MethodId} {args : Array Value} {below : List Frame} {meth : Method} {c : Code} {V : VEn} {k69 : Int32 → Int32 → Int32 → Int64 → PoS → Prop} {post : Int64 → PoS → Prop} (C : CxS p s m args meth c V cX12_likely 8 RX12 (some .long)) (hk69 : ∀ (v1 : Int32) (v2 : Int32) (v3 : Int32) (v4 : Int64) (u : PoS), k69 v1 v2 v3 v4 u → AtS p l e (Rm 1) s m args below meth c V 8 (QL V below args s post) 69 [(0, .ref (eA V 48)), (1, .int v1), (2, .int v2), (3, .int v3), (4, .long v4)] [] u) : ∀ (n : Nat) (v1 : Int32) (v2 : Int32) (v3 : Int32) (v4 : Int64) (v6 : Int32) (u : PoS), wl_X12_likely_39 k69 post n v1 v2 v3 v4 v6 u → AtS p l e (Rm 1) s m args below meth c V 8 (QL V below args s post) 39 [(0, .ref (eA V 48)), (1, .int v1), (2, .int v2), (3, .int v3), (4, .long v4), (6, .int v6)] [] u := by
  intro n
  induction n with
  | zero => intro v1 v2 v3 v4 v6 u h; exact h.elim
  | succ n ih =>
    intro v1 v2 v3 v4 v6 u h
    rw [wl_X12_likely_39] at h
    refine a_iload C 5 dX12_likely_39 rfl ?_
    refine a_bipush C 11 dX12_likely_41 (by decide) ?_
    refine a_icmp_ge C 69 dX12_likely_43 (by decide) (fun c6 => ?_) (fun c6 => ?_)
    · have h := h.1 c6
      refine a_sub [0, 1, 2, 3, 4] rfl ?_
      exact hk69 _ _ _ _ _ h
    · have h := h.2 c6
      refine a_aload_n C 0 dX12_likely_46 rfl rfl ?_
      refine a_getr C 36 (r := 68) dX12_likely_47 (by decide) rfl rfl rfl ib_12 (by decide) bw_1058 ?_
      refine a_iload C 5 dX12_likely_50 rfl ?_
      refine a_iload C 5 dX12_likely_52 rfl ?_
      refine a_if_ne C 61 dX12_likely_54 (by decide) (fun c5 => ?_) (fun c5 => ?_)
      · have h := h.1 c5
        refine a_lconst C 0 dX12_likely_61 (by decide) ?_
        refine tj_X12_likely_62 C ih _ _ _ _ _ _ _ _ h
      · have h := h.2 c5
        refine a_lconst C 1 dX12_likely_57 (by decide) ?_
        refine a_goto C 62 dX12_likely_58 (by decide) ?_
        refine tj_X12_likely_62 C ih _ _ _ _ _ _ _ _ h
set_option maxHeartbeats 4000000 in
set_option maxRecDepth 100000 in
theorem tj_X12_likely_128 {p : Program} {l : Launch} {e : Env} {s : State} {m : MethodId} {args : Array Value} {below : List Frame} {meth : Method} {c : Code} {V : VEn} {k82 : Int32 → Int32 → Int32 → Int64 → Int32 → Int32 → PoS → Prop} {post : Int64 → PoS → Prop} (C : CxS p s m args meth c V cX12_likely 8 RX12 (some .long)) (hk82 : ∀ (v1 : Int32) (v2 : Int32) (v3 : Int32) (v4 : Int64) (v6 : Int32) (v7 : Int32) (u : PoS), k82 v1 v2 v3 v4 v6 v7 u → AtS p l e (Rm 1) s m args below meth c V 8 (QL V below args s post) 82 [(0, .ref (eA V 48)), (1, .int v1), (2, .int v2), (3, .int v3), (4, .long v4), (6, .int v6), (7, .int v7)] [] u) (v1 : Int32) (v2 : Int32) (v3 : Int32) (v4 : Int64) (v6 : Int32) (v7 : Int32) (s0 : Int64) (s1 : Int64) (s2 : Int32) (u : PoS) (h : wj_X12_likely_128 k82 post v1 v2 v3 v4 v6 v7 s0 s1 s2 u) : AtS p l e (Rm 1) s m args below meth c V 8 (QL V below args s post) 128 [(0, .ref (eA V 48)), (1, .int v1), (2, .int v2), (3, .int v3), (4, .long v4), (6, .int v6), (7, .int v7)] [.long s0, .long s1, .int s2, .ref (eA V 68)] u := by
  rw [wj_X12_likely_128] at h
  refine a_ladd C dX12_likely_128 ?_
  refine b_last C (Int32.toNatClampNeg s2) dX12_likely_129 (by decide) rfl h.1 rfl ?_
  have h := h.2
  refine a_iinc C (v7 + (-1)) 6 [(7, .int (v7 + (-1))), (0, .ref (eA V 48)), (1, .int v1), (2, .int v2), (3, .int v3), (4, .long v4), (6, .int v6)] dX12_likely_130 rfl (congrArg (fun z => v7 + z) (show Int32.ofInt (-1) = (-1) by decide)) (by decide) rfl ?_
  refine a_goto C 82 dX12_likely_133 (by decide) ?_
  refine a_sub [1, 2, 3, 4, 5, 6, 0] rfl ?_
  exact hk82 _ _ _ _ _ _ _ h
set_option maxHeartbeats 4000000 in
set_option maxRecDepth 100000 in
theorem tl_X12_likely_82 {p : Program} {l : Launch} {e : Env} {s : State} {m : MethodId} {args : Array Value} {below : List Frame} {meth : Method} {c : Code} {V : VEn} {k136 : Int32 → Int32 → Int32 → Int64 → Int32 → PoS → Prop} {post : Int64 → PoS → Prop} (C : CxS p s m args meth c V cX12_likely 8 RX12 (some .long)) (hk136 : ∀ (v1 : Int32) (v2 : Int32) (v3 : Int32) (v4 : Int64) (v6 : Int32) (u : PoS), k136 v1 v2 v3 v4 v6 u → AtS p l e (Rm 1) s m args below meth c V 8 (QL V below args s post) 136 [(0, .ref (eA V 48)), (1, .int v1), (2, .int v2), (3, .int v3), (4, .long v4), (6, .int v6)] [] u) : ∀ (n : Nat) (v1 : Int32) (v2 : Int32) (v3 : Int32) (v4 : Int64) (v6 : Int32) (v7 : Int32) (u : PoS), wl_X12_likely_82 k136 post n v1 v2 v3 v4 v6 v7 u → AtS p l e (Rm 1) s m args below meth c V 8 (QL V below args s post) 82 [(0, .ref (eA V 48)), (1, .int v1), (2, .int v2), (3, .int v3), (4, .long v4), (6, .int v6), (7, .int v7)] [] u := by
  intro n
  induction n with
  | zero => intro v1 v2 v3 v4 v6 v7 u h; exact h.elim
  | succ n ih =>
    intro v1 v2 v3 v4 v6 v7 u h
    rw [wl_X12_likely_82] at h
    refine a_iload C 6 dX12_likely_82 rfl ?_
    refine a_if_lt C 136 dX12_likely_84 (by decide) (fun c9 => ?_) (fun c9 => ?_)
    · have h := h.1 c9
      refine a_sub [0, 1, 2, 3, 4, 5] rfl ?_
      exact hk136 _ _ _ _ _ _ h
    · have h := h.2 c9
      refine a_aload_n C 0 dX12_likely_87 rfl rfl ?_
      refine a_getr C 36 (r := 68) dX12_likely_88 (by decide) rfl rfl rfl ib_12 (by decide) bw_1058 ?_
      refine a_iload C 6 dX12_likely_91 rfl ?_
      refine a_aload_n C 0 dX12_likely_93 rfl rfl ?_
      refine a_getr C 36 (r := 68) dX12_likely_94 (by decide) rfl rfl rfl ib_12 (by decide) bw_1058 ?_
      refine a_iload C 6 dX12_likely_97 rfl ?_
      refine b_lald C (Int32.toNatClampNeg v7) dX12_likely_99 (by decide) rfl h.1 rfl ?_
      have h := h.2
      refine a_aload_n C 0 dX12_likely_100 rfl rfl ?_
      refine a_getr C 0 (r := 49) dX12_likely_101 (by decide) rfl rfl rfl ib_12 (by decide) bw_1022 ?_
      refine a_iconst C 0 dX12_likely_104 (by decide) ?_
      refine b_iald C 0 dX12_likely_105 (by decide) rfl (vp_lit (by decide)) (by decide) ?_
      refine a_iconst C 1 dX12_likely_106 (by decide) ?_
      refine a_isub C dX12_likely_107 ?_
      refine a_i2l C dX12_likely_108 ?_
      refine a_lmul C dX12_likely_109 ?_
      refine a_iload C 6 dX12_likely_110 rfl ?_
      refine a_if_le C 127 dX12_likely_112 (by decide) (fun c8 => ?_) (fun c8 => ?_)
      · have h := h.1 c8
        refine a_lconst C 0 dX12_likely_127 (by decide) ?_
        refine tj_X12_likely_128 C ih _ _ _ _ _ _ _ _ _ _ h
      · have h := h.2 c8
        refine a_aload_n C 0 dX12_likely_115 rfl rfl ?_
        refine a_getr C 36 (r := 68) dX12_likely_116 (by decide) rfl rfl rfl ib_12 (by decide) bw_1058 ?_
        refine a_iload C 6 dX12_likely_119 rfl ?_
        refine a_iconst C 1 dX12_likely_121 (by decide) ?_
        refine a_isub C dX12_likely_122 ?_
        refine b_lald C (Int32.toNatClampNeg (v7 - 1)) dX12_likely_123 (by decide) rfl h.1 rfl ?_
        have h := h.2
        refine a_goto C 128 dX12_likely_124 (by decide) ?_
        refine tj_X12_likely_128 C ih _ _ _ _ _ _ _ _ _ _ h
set_option maxHeartbeats 4000000 in
set_option maxRecDepth 100000 in
theorem tl_X12_likely_72 {p : Program} {l : Launch} {e : Env} {s : State} {m : MethodId} {args : Array Value} {below : List Frame} {meth : Method} {c : Code} {V : VEn} {k154 : Int32 → Int32 → Int64 → PoS → Prop} {post : Int64 → PoS → Prop} (C : CxS p s m args meth c V cX12_likely 8 RX12 (some .long)) (hk154 : ∀ (v2 : Int32) (v3 : Int32) (v4 : Int64) (u : PoS), k154 v2 v3 v4 u → AtS p l e (Rm 1) s m args below meth c V 8 (QL V below args s post) 154 [(0, .ref (eA V 48)), (2, .int v2), (3, .int v3), (4, .long v4)] [] u) : ∀ (n : Nat) (v1 : Int32) (v2 : Int32) (v3 : Int32) (v4 : Int64) (v6 : Int32) (u : PoS), wl_X12_likely_72 k154 post n v1 v2 v3 v4 v6 u → AtS p l e (Rm 1) s m args below meth c V 8 (QL V below args s post) 72 [(0, .ref (eA V 48)), (1, .int v1), (2, .int v2), (3, .int v3), (4, .long v4), (6, .int v6)] [] u := by
  intro n
  induction n with
  | zero => intro v1 v2 v3 v4 v6 u h; exact h.elim
  | succ n ih =>
    intro v1 v2 v3 v4 v6 u h
    rw [wl_X12_likely_72] at h
    refine a_iload C 5 dX12_likely_72 rfl ?_
    refine a_iload_n C 1 dX12_likely_74 rfl rfl ?_
    refine a_icmp_ge C 154 dX12_likely_75 (by decide) (fun c12 => ?_) (fun c12 => ?_)
    · have h := h.1 c12
      refine a_sub [0, 2, 3, 4] rfl ?_
      exact hk154 _ _ _ _ h
    · have h := h.2 c12
      refine a_bipush C 10 dX12_likely_78 (by decide) ?_
      refine a_istore C [(7, .int 10), (0, .ref (eA V 48)), (1, .int v1), (2, .int v2), (3, .int v3), (4, .long v4), (6, .int v6)] dX12_likely_80 (by decide) rfl ?_
      refine a_sub [1, 2, 3, 4, 5, 6, 0] rfl ?_
      obtain ⟨n82, h⟩ := h
      refine tl_X12_likely_82 C (fun v110 v210 v310 v410 v610 u10 h => ?_) n82 _ _ _ _ _ _ _ h
      refine a_lload C 4 dX12_likely_136 rfl ?_
      refine a_aload_n C 0 dX12_likely_138 rfl rfl ?_
      refine a_getr C 0 (r := 49) dX12_likely_139 (by decide) rfl rfl rfl ib_12 (by decide) bw_1022 ?_
      refine a_iconst C 0 dX12_likely_142 (by decide) ?_
      refine b_iald C 0 dX12_likely_143 (by decide) rfl (vp_lit (by decide)) (by decide) ?_
      refine a_i2l C dX12_likely_144 ?_
      refine a_lmul C dX12_likely_145 ?_
      refine a_topl (fun x11 ex11 => ?_)
      have h := h x11 ex11
      refine a_lstore C [(4, .long x11), (0, .ref (eA V 48)), (1, .int v110), (2, .int v210), (3, .int v310), (6, .int v610)] dX12_likely_146 (by decide) rfl ?_
      refine a_iinc C (v610 + 1) 5 [(6, .int (v610 + 1)), (4, .long x11), (0, .ref (eA V 48)), (1, .int v110), (2, .int v210), (3, .int v310)] dX12_likely_148 rfl (congrArg (fun z => v610 + z) (show Int32.ofInt 1 = 1 by decide)) (by decide) rfl ?_
      refine a_goto C 72 dX12_likely_151 (by decide) ?_
      refine a_sub [2, 3, 4, 5, 1, 0] rfl ?_
      exact ih _ _ _ _ _ _ h
set_option maxHeartbeats 4000000 in
set_option maxRecDepth 100000 in
theorem tj_X12_likely_169 {p : Program} {l : Launch} {e : Env} {s : State} {m : MethodId} {args : Array Value} {below : List Frame} {meth : Method} {c : Code} {V : VEn} {post : Int64 → PoS → Prop} (C : CxS p s m args meth c V cX12_likely 8 RX12 (some .long)) (v2 : Int32) (v4 : Int64) (s0 : Int64) (u : PoS) (h : wj_X12_likely_169 post v2 v4 s0 u) : AtS p l e (Rm 1) s m args below meth c V 8 (QL V below args s post) 169 [(0, .ref (eA V 48)), (2, .int v2), (4, .long v4)] [.long s0] u := by
  rw [wj_X12_likely_169] at h
  refine a_aload_n C 0 dX12_likely_169 rfl rfl ?_
  refine a_getr C 36 (r := 68) dX12_likely_170 (by decide) rfl rfl rfl ib_12 (by decide) bw_1058 ?_
  refine a_iload_n C 1 dX12_likely_173 rfl rfl ?_
  refine b_lald C (Int32.toNatClampNeg v2) dX12_likely_174 (by decide) rfl h.1 rfl ?_
  have h := h.2
  refine a_lload C 2 dX12_likely_175 rfl ?_
  refine a_callSl C dX12_likely_177 (m_X12_divisor l V h) bw_1685 bw_1686 bw_123 bw_1687 np_X12_divisor rfl rfl (by decide) (Nat.le_of_ble_eq_true rfl) (fun r14 u15 h => ?_)
  refine a_ldiv C dX12_likely_180 h.1 ?_
  have h := h.2
  exact a_lret C dX12_likely_181 h
theorem np_X12_likely : yX12_likely.cls ≠ "java/lang/invoke/MethodHandle" ∧ yX12_likely.cls ≠ "java/lang/invoke/VarHandle" ∧ (parseMethodDescriptor yX12_likely.desc).map (fun d => d.parameters.length) = some 3 := by decide +kernel
set_option maxHeartbeats 4000000 in
set_option maxRecDepth 100000 in
theorem m_X12_likely (l : Launch) (V : VEn) {a0 : Int32} {a1 : Int32} {a2 : Int32} {u : PoS} {post : Int64 → PoS → Prop} (h : wp_X12_likely a0 a1 a2 u post) : KL l V yX12_likely cX12_likely 8 .long 1 [.ref (eA V 48), .int a0, .int a1, .int a2] u post := by
  refine KL_of (by decide) (Nat.le_of_ble_eq_true rfl) (lv := [(0, .ref (eA V 48)), (1, .int a0), (2, .int a1), (3, .int a2)]) rfl ?_
  intro p e s m args below meth c C
  rw [wp_X12_likely] at h
  refine a_iload_n C 1 dX12_likely_0 rfl rfl ?_
  refine a_iconst C 1 dX12_likely_1 (by decide) ?_
  refine a_bipush C 10 dX12_likely_2 (by decide) ?_
  refine a_callSi C dX12_likely_4 (m_X12_isIn l V h) bw_1147 bw_1148 bw_123 bw_1149 np_X12_isIn rfl rfl (by decide) (Nat.le_of_ble_eq_true rfl) (fun r1 u2 h => ?_)
  refine a_if_eq C 29 dX12_likely_7 (by decide) (fun c19 => ?_) (fun c19 => ?_)
  · have h := h.1 c19
    refine a_ldc2 C dX12_likely_29 bw_1684 ?_
    exact a_lret C dX12_likely_32 h
  · have h := h.2 c19
    refine a_iload_n C 2 dX12_likely_10 rfl rfl ?_
    refine a_iconst C 0 dX12_likely_11 (by decide) ?_
    refine a_bipush C 10 dX12_likely_12 (by decide) ?_
    refine a_callSi C dX12_likely_14 (m_X12_isIn l V h) bw_1147 bw_1148 bw_123 bw_1149 np_X12_isIn rfl rfl (by decide) (Nat.le_of_ble_eq_true rfl) (fun r3 u4 h => ?_)
    refine a_if_eq C 29 dX12_likely_17 (by decide) (fun c18 => ?_) (fun c18 => ?_)
    · have h := h.1 c18
      refine a_ldc2 C dX12_likely_29 bw_1684 ?_
      exact a_lret C dX12_likely_32 h
    · have h := h.2 c18
      refine a_aload_n C 0 dX12_likely_20 rfl rfl ?_
      refine a_getr C 0 (r := 49) dX12_likely_21 (by decide) rfl rfl rfl ib_12 (by decide) bw_1022 ?_
      refine a_iconst C 0 dX12_likely_24 (by decide) ?_
      refine b_iald C 0 dX12_likely_25 (by decide) rfl (vp_lit (by decide)) (by decide) ?_
      refine a_if_ne C 33 dX12_likely_26 (by decide) (fun c17 => ?_) (fun c17 => ?_)
      · have h := h.1 c17
        refine a_lconst C 1 dX12_likely_33 (by decide) ?_
        refine a_lstore C [(4, .long 1), (0, .ref (eA V 48)), (1, .int a0), (2, .int a1), (3, .int a2)] dX12_likely_34 (by decide) rfl ?_
        refine a_iconst C 0 dX12_likely_36 (by decide) ?_
        refine a_istore C [(6, .int 0), (4, .long 1), (0, .ref (eA V 48)), (1, .int a0), (2, .int a1), (3, .int a2)] dX12_likely_37 (by decide) rfl ?_
        refine a_sub [2, 3, 4, 5, 1, 0] rfl ?_
        obtain ⟨n39, h⟩ := h
        refine tl_X12_likely_39 C (fun v17 v27 v37 v47 u7 h => ?_) n39 _ _ _ _ _ _ h
        refine a_iconst C 0 dX12_likely_69 (by decide) ?_
        refine a_istore C [(6, .int 0), (0, .ref (eA V 48)), (1, .int v17), (2, .int v27), (3, .int v37), (4, .long v47)] dX12_likely_70 (by decide) rfl ?_
        refine a_sub [1, 2, 3, 4, 5, 0] rfl ?_
        obtain ⟨n72, h⟩ := h
        refine tl_X12_likely_72 C (fun v213 v313 v413 u13 h => ?_) n72 _ _ _ _ _ _ h
        refine a_iload_n C 2 dX12_likely_154 rfl rfl ?_
        refine a_if_eq C 163 dX12_likely_155 (by decide) (fun c16 => ?_) (fun c16 => ?_)
        · have h := h.1 c16
          refine a_aload_n C 0 dX12_likely_163 rfl rfl ?_
          refine a_getr C 36 (r := 68) dX12_likely_164 (by decide) rfl rfl rfl ib_12 (by decide) bw_1058 ?_
          refine a_iload_n C 1 dX12_likely_167 rfl rfl ?_
          refine b_lald C (Int32.toNatClampNeg v213) dX12_likely_168 (by decide) rfl h.1 rfl ?_
          have h := h.2
          refine a_sub [0, 1, 3] rfl ?_
          refine tj_X12_likely_169 C _ _ _ _ h
        · have h := h.2 c16
          refine a_lload C 3 dX12_likely_158 rfl ?_
          refine a_goto C 169 dX12_likely_160 (by decide) ?_
          refine a_sub [0, 1, 3] rfl ?_
          refine tj_X12_likely_169 C _ _ _ _ h
      · have h := h.2 c17
        refine a_ldc2 C dX12_likely_29 bw_1684 ?_
        exact a_lret C dX12_likely_32 h

/-! RainOnTheOneModel.days(Z)I -/
def wl_X12_days_15 (k45 : Int32 → Int32 → PoS → Prop) (post : Int32 → PoS → Prop) : Nat → Int32 → Int32 → Int32 → PoS → Prop
  | 0, _, _, _, _ => False
  | n + 1, v1, v2, v3, u => (((gI u 49 0) < v3 → k45 v1 v2 u) ∧ (¬ (gI u 49 0) < v3 → ¬ v3 = 0 ∧ ∀ x1 : Int32, x1 = (v2 + ((60 / v3) * (gI u 49 0))) → wl_X12_days_15 k45 post n v1 x1 (v3 + 1) u))
def wj_X12_days_55 (post : Int32 → PoS → Prop) (v2 : Int32) (s0 : Int32) (u : PoS) : Prop := wp_X12_divisor (Int32.toInt64 v2) 60 u (fun (r4 : Int64) (u5 : PoS) => ¬ (Int64.toInt32 r4) = 0 ∧ post (s0 / (Int64.toInt32 r4)) u5)
def wp_X12_days (a0 : Int32) (u : PoS) (post : Int32 → PoS → Prop) : Prop := ((¬ (gI u 49 0) = 0 → (∃ n15, wl_X12_days_15 (fun (v13 : Int32) (v23 : Int32) (u3 : PoS) => ((v13 = 0 → wj_X12_days_55 post v23 v23 u3) ∧ (¬ v13 = 0 → wj_X12_days_55 post v23 60 u3))) post n15 a0 0 1 u)) ∧ ((gI u 49 0) = 0 → post (-1) u))
set_option maxHeartbeats 4000000 in
set_option maxRecDepth 100000 in
theorem tl_X12_days_15 {p : Program} {l : Launch} {e : Env} {s : State} {m : MethodId} {args : Array Value} {below : List Frame} {meth : Method} {c : Code} {V : VEn} {k45 : Int32 → Int32 → PoS → Prop} {post : Int32 → PoS → Prop} (C : CxS p s m args meth c V cX12_days 4 RX12 (some .int)) (hk45 : ∀ (v1 : Int32) (v2 : Int32) (u : PoS), k45 v1 v2 u → AtS p l e (Rm 1) s m args below meth c V 4 (QI V below args s post) 45 [(1, .int v1), (2, .int v2)] [] u) : ∀ (n : Nat) (v1 : Int32) (v2 : Int32) (v3 : Int32) (u : PoS), wl_X12_days_15 k45 post n v1 v2 v3 u → AtS p l e (Rm 1) s m args below meth c V 4 (QI V below args s post) 15 [(0, .ref (eA V 48)), (1, .int v1), (2, .int v2), (3, .int v3)] [] u := by
  intro n
  induction n with
  | zero => intro v1 v2 v3 u h; exact h.elim
  | succ n ih =>
    intro v1 v2 v3 u h
    rw [wl_X12_days_15] at h
    refine a_iload_n C 3 dX12_days_15 rfl rfl ?_
    refine a_aload_n C 0 dX12_days_16 rfl rfl ?_
    refine a_getr C 0 (r := 49) dX12_days_17 (by decide) rfl rfl rfl ib_12 (by decide) bw_1022 ?_
    refine a_iconst C 0 dX12_days_20 (by decide) ?_
    refine b_iald C 0 dX12_days_21 (by decide) rfl (vp_lit (by decide)) (by decide) ?_
    refine a_icmp_gt C 45 dX12_days_22 (by decide) (fun c2 => ?_) (fun c2 => ?_)
    · have h := h.1 c2
      refine a_sub [1, 2] rfl ?_
      exact hk45 _ _ _ h
    · have h := h.2 c2
      refine a_iload_n C 2 dX12_days_25 rfl rfl ?_
      refine a_bipush C 60 dX12_days_26 (by decide) ?_
      refine a_iload_n C 3 dX12_days_28 rfl rfl ?_
      refine a_idiv C dX12_days_29 h.1 ?_
      have h := h.2
      refine a_aload_n C 0 dX12_days_30 rfl rfl ?_
      refine a_getr C 0 (r := 49) dX12_days_31 (by decide) rfl rfl rfl ib_12 (by decide) bw_1022 ?_
      refine a_iconst C 0 dX12_days_34 (by decide) ?_
      refine b_iald C 0 dX12_days_35 (by decide) rfl (vp_lit (by decide)) (by decide) ?_
      refine a_imul C dX12_days_36 ?_
      refine a_iadd C dX12_days_37 ?_
      refine a_topi (fun x1 ex1 => ?_)
      have h := h x1 ex1
      refine a_istore_n C [(2, .int x1), (0, .ref (eA V 48)), (1, .int v1), (3, .int v3)] dX12_days_38 rfl (by decide) rfl ?_
      refine a_iinc C (v3 + 1) 3 [(3, .int (v3 + 1)), (2, .int x1), (0, .ref (eA V 48)), (1, .int v1)] dX12_days_39 rfl (congrArg (fun z => v3 + z) (show Int32.ofInt 1 = 1 by decide)) (by decide) rfl ?_
      refine a_goto C 15 dX12_days_42 (by decide) ?_
      refine a_sub [2, 3, 1, 0] rfl ?_
      exact ih _ _ _ _ h
set_option maxHeartbeats 4000000 in
set_option maxRecDepth 100000 in
theorem tj_X12_days_55 {p : Program} {l : Launch} {e : Env} {s : State} {m : MethodId} {args : Array Value} {below : List Frame} {meth : Method} {c : Code} {V : VEn} {post : Int32 → PoS → Prop} (C : CxS p s m args meth c V cX12_days 4 RX12 (some .int)) (v2 : Int32) (s0 : Int32) (u : PoS) (h : wj_X12_days_55 post v2 s0 u) : AtS p l e (Rm 1) s m args below meth c V 4 (QI V below args s post) 55 [(2, .int v2)] [.int s0] u := by
  rw [wj_X12_days_55] at h
  refine a_iload_n C 0 dX12_days_55 rfl rfl ?_
  refine a_i2l C dX12_days_56 ?_
  refine a_ldc2 C dX12_days_57 bw_1692 ?_
  refine a_callSl C dX12_days_60 (m_X12_divisor l V h) bw_1685 bw_1686 bw_123 bw_1687 np_X12_divisor rfl rfl (by decide) (Nat.le_of_ble_eq_true rfl) (fun r4 u5 h => ?_)
  refine a_l2i C dX12_days_63 ?_
  refine a_idiv C dX12_days_64 h.1 ?_
  have h := h.2
  exact a_iret C dX12_days_65 h
theorem np_X12_days : yX12_days.cls ≠ "java/lang/invoke/MethodHandle" ∧ yX12_days.cls ≠ "java/lang/invoke/VarHandle" ∧ (parseMethodDescriptor yX12_days.desc).map (fun d => d.parameters.length) = some 1 := by decide +kernel
set_option maxHeartbeats 4000000 in
set_option maxRecDepth 100000 in
theorem m_X12_days (l : Launch) (V : VEn) {a0 : Int32} {u : PoS} {post : Int32 → PoS → Prop} (h : wp_X12_days a0 u post) : KI l V yX12_days cX12_days 4 .int 1 [.ref (eA V 48), .int a0] u post := by
  refine KI_of (by decide) (Nat.le_of_ble_eq_true rfl) (lv := [(0, .ref (eA V 48)), (1, .int a0)]) rfl ?_
  intro p e s m args below meth c C
  rw [wp_X12_days] at h
  refine a_aload_n C 0 dX12_days_0 rfl rfl ?_
  refine a_getr C 0 (r := 49) dX12_days_1 (by decide) rfl rfl rfl ib_12 (by decide) bw_1022 ?_
  refine a_iconst C 0 dX12_days_4 (by decide) ?_
  refine b_iald C 0 dX12_days_5 (by decide) rfl (vp_lit (by decide)) (by decide) ?_
  refine a_if_ne C 11 dX12_days_6 (by decide) (fun c7 => ?_) (fun c7 => ?_)
  · have h := h.1 c7
    refine a_iconst C 0 dX12_days_11 (by decide) ?_
    refine a_istore_n C [(2, .int 0), (0, .ref (eA V 48)), (1, .int a0)] dX12_days_12 rfl (by decide) rfl ?_
    refine a_iconst C 1 dX12_days_13 (by decide) ?_
    refine a_istore_n C [(3, .int 1), (2, .int 0), (0, .ref (eA V 48)), (1, .int a0)] dX12_days_14 rfl (by decide) rfl ?_
    refine a_sub [2, 3, 1, 0] rfl ?_
    obtain ⟨n15, h⟩ := h
    refine tl_X12_days_15 C (fun v13 v23 u3 h => ?_) n15 _ _ _ _ h
    refine a_iload_n C 0 dX12_days_45 rfl rfl ?_
    refine a_if_eq C 54 dX12_days_46 (by decide) (fun c6 => ?_) (fun c6 => ?_)
    · have h := h.1 c6
      refine a_iload_n C 1 dX12_days_54 rfl rfl ?_
      refine a_sub [1] rfl ?_
      refine tj_X12_days_55 C _ _ _ h
    · have h := h.2 c6
      refine a_bipush C 60 dX12_days_49 (by decide) ?_
      refine a_goto C 55 dX12_days_51 (by decide) ?_
      refine a_sub [1] rfl ?_
      refine tj_X12_days_55 C _ _ _ h
  · have h := h.2 c7
    refine a_iconst C (-1) dX12_days_9 (by decide) ?_
    exact a_iret C dX12_days_10 h

/-! RainOnTheOneModel.said(II)I -/
def wp_X12_said (a0 : Int32) (a1 : Int32) (u : PoS) (post : Int32 → PoS → Prop) : Prop := ((¬ a0 = (-1) → wp_X12_isPerson a0 u (fun (r1 : Int32) (u2 : PoS) => ((r1 = 0 → post (-2) u2) ∧ (¬ r1 = 0 → wp_X12_isIn a1 (-999) 999 u2 (fun (r3 : Int32) (u4 : PoS) => ((r3 = 0 → post (-2) u4) ∧ (¬ r3 = 0 → ((¬ (gI u4 49 5) = 8 → vp_in (177 + (2 * (gI u4 49 5))) 3703 ∧ vp_in ((177 + (2 * (gI (pI u4 49 (Int32.toNatClampNeg (177 + (2 * (gI u4 49 5)))) a0) 49 5))) + 1) 3703 ∧ post (gI (pI (pI (pI u4 49 (Int32.toNatClampNeg (177 + (2 * (gI u4 49 5)))) a0) 49 (Int32.toNatClampNeg ((177 + (2 * (gI (pI u4 49 (Int32.toNatClampNeg (177 + (2 * (gI u4 49 5)))) a0) 49 5))) + 1)) a1) 49 5 ((gI (pI (pI u4 49 (Int32.toNatClampNeg (177 + (2 * (gI u4 49 5)))) a0) 49 (Int32.toNatClampNeg ((177 + (2 * (gI (pI u4 49 (Int32.toNatClampNeg (177 + (2 * (gI u4 49 5)))) a0) 49 5))) + 1)) a1) 49 5) + 1)) 49 5) (pI (pI (pI u4 49 (Int32.toNatClampNeg (177 + (2 * (gI u4 49 5)))) a0) 49 (Int32.toNatClampNeg ((177 + (2 * (gI (pI u4 49 (Int32.toNatClampNeg (177 + (2 * (gI u4 49 5)))) a0) 49 5))) + 1)) a1) 49 5 ((gI (pI (pI u4 49 (Int32.toNatClampNeg (177 + (2 * (gI u4 49 5)))) a0) 49 (Int32.toNatClampNeg ((177 + (2 * (gI (pI u4 49 (Int32.toNatClampNeg (177 + (2 * (gI u4 49 5)))) a0) 49 5))) + 1)) a1) 49 5) + 1))) ∧ ((gI u4 49 5) = 8 → post (-2) u4))))))))) ∧ (a0 = (-1) → post 0 (pI u 49 5 0)))
theorem np_X12_said : yX12_said.cls ≠ "java/lang/invoke/MethodHandle" ∧ yX12_said.cls ≠ "java/lang/invoke/VarHandle" ∧ (parseMethodDescriptor yX12_said.desc).map (fun d => d.parameters.length) = some 2 := by decide +kernel
set_option maxHeartbeats 4000000 in
set_option maxRecDepth 100000 in
theorem m_X12_said (l : Launch) (V : VEn) {a0 : Int32} {a1 : Int32} {u : PoS} {post : Int32 → PoS → Prop} (h : wp_X12_said a0 a1 u post) : KI l V yX12_said cX12_said 3 .int 2 [.ref (eA V 48), .int a0, .int a1] u post := by
  refine KI_of (by decide) (Nat.le_of_ble_eq_true rfl) (lv := [(0, .ref (eA V 48)), (1, .int a0), (2, .int a1)]) rfl ?_
  intro p e s m args below meth c C
  rw [wp_X12_said] at h
  refine a_iload_n C 1 dX12_said_0 rfl rfl ?_
  refine a_iconst C (-1) dX12_said_1 (by decide) ?_
  refine a_icmp_ne C 14 dX12_said_2 (by decide) (fun c8 => ?_) (fun c8 => ?_)
  · have h := h.1 c8
    refine a_aload_n C 0 dX12_said_14 rfl rfl ?_
    refine a_iload_n C 1 dX12_said_15 rfl rfl ?_
    refine a_callVi C dX12_said_16 (m_X12_isPerson l V h) bw_1342 bw_1344 bw_71 bw_123 bw_1345 (by decide) rfl rfl np_X12_isPerson rfl rfl (by decide) (Nat.le_of_ble_eq_true rfl) (fun r1 u2 h => ?_)
    refine a_if_eq C 46 dX12_said_19 (by decide) (fun c7 => ?_) (fun c7 => ?_)
    · have h := h.1 c7
      refine a_bipush C (-2) dX12_said_46 (by decide) ?_
      exact a_iret C dX12_said_48 h
    · have h := h.2 c7
      refine a_iload_n C 2 dX12_said_22 rfl rfl ?_
      refine a_sipush C (-999) dX12_said_23 (by decide) ?_
      refine a_sipush C 999 dX12_said_26 (by decide) ?_
      refine a_callSi C dX12_said_29 (m_X12_isIn l V h) bw_1147 bw_1148 bw_123 bw_1149 np_X12_isIn rfl rfl (by decide) (Nat.le_of_ble_eq_true rfl) (fun r3 u4 h => ?_)
      refine a_if_eq C 46 dX12_said_32 (by decide) (fun c6 => ?_) (fun c6 => ?_)
      · have h := h.1 c6
        refine a_bipush C (-2) dX12_said_46 (by decide) ?_
        exact a_iret C dX12_said_48 h
      · have h := h.2 c6
        refine a_aload_n C 0 dX12_said_35 rfl rfl ?_
        refine a_getr C 0 (r := 49) dX12_said_36 (by decide) rfl rfl rfl ib_12 (by decide) bw_1022 ?_
        refine a_iconst C 5 dX12_said_39 (by decide) ?_
        refine b_iald C 5 dX12_said_40 (by decide) rfl (vp_lit (by decide)) (by decide) ?_
        refine a_bipush C 8 dX12_said_41 (by decide) ?_
        refine a_icmp_ne C 49 dX12_said_43 (by decide) (fun c5 => ?_) (fun c5 => ?_)
        · have h := h.1 c5
          refine a_aload_n C 0 dX12_said_49 rfl rfl ?_
          refine a_getr C 0 (r := 49) dX12_said_50 (by decide) rfl rfl rfl ib_12 (by decide) bw_1022 ?_
          refine a_sipush C 177 dX12_said_53 (by decide) ?_
          refine a_iconst C 2 dX12_said_56 (by decide) ?_
          refine a_aload_n C 0 dX12_said_57 rfl rfl ?_
          refine a_getr C 0 (r := 49) dX12_said_58 (by decide) rfl rfl rfl ib_12 (by decide) bw_1022 ?_
          refine a_iconst C 5 dX12_said_61 (by decide) ?_
          refine b_iald C 5 dX12_said_62 (by decide) rfl (vp_lit (by decide)) (by decide) ?_
          refine a_imul C dX12_said_63 ?_
          refine a_iadd C dX12_said_64 ?_
          refine a_iload_n C 1 dX12_said_65 rfl rfl ?_
          refine b_iast C (Int32.toNatClampNeg (177 + (2 * (gI u4 49 5)))) dX12_said_66 (by decide) rfl h.1 rfl ?_
          have h := h.2
          refine a_aload_n C 0 dX12_said_67 rfl rfl ?_
          refine a_getr C 0 (r := 49) dX12_said_68 (by decide) rfl rfl rfl ib_12 (by decide) bw_1022 ?_
          refine a_sipush C 177 dX12_said_71 (by decide) ?_
          refine a_iconst C 2 dX12_said_74 (by decide) ?_
          refine a_aload_n C 0 dX12_said_75 rfl rfl ?_
          refine a_getr C 0 (r := 49) dX12_said_76 (by decide) rfl rfl rfl ib_12 (by decide) bw_1022 ?_
          refine a_iconst C 5 dX12_said_79 (by decide) ?_
          refine b_iald C 5 dX12_said_80 (by decide) rfl (vp_lit (by decide)) (by decide) ?_
          refine a_imul C dX12_said_81 ?_
          refine a_iadd C dX12_said_82 ?_
          refine a_iconst C 1 dX12_said_83 (by decide) ?_
          refine a_iadd C dX12_said_84 ?_
          refine a_iload_n C 2 dX12_said_85 rfl rfl ?_
          refine b_iast C (Int32.toNatClampNeg ((177 + (2 * (gI (pI u4 49 (Int32.toNatClampNeg (177 + (2 * (gI u4 49 5)))) a0) 49 5))) + 1)) dX12_said_86 (by decide) rfl h.1 rfl ?_
          have h := h.2
          refine a_aload_n C 0 dX12_said_87 rfl rfl ?_
          refine a_getr C 0 (r := 49) dX12_said_88 (by decide) rfl rfl rfl ib_12 (by decide) bw_1022 ?_
          refine a_iconst C 5 dX12_said_91 (by decide) ?_
          refine a_dup2 C dX12_said_92 rfl rfl ?_
          refine b_iald C 5 dX12_said_93 (by decide) rfl (vp_lit (by decide)) (by decide) ?_
          refine a_iconst C 1 dX12_said_94 (by decide) ?_
          refine a_iadd C dX12_said_95 ?_
          refine b_iast C 5 dX12_said_96 (by decide) rfl (vp_lit (by decide)) (by decide) ?_
          refine a_aload_n C 0 dX12_said_97 rfl rfl ?_
          refine a_getr C 0 (r := 49) dX12_said_98 (by decide) rfl rfl rfl ib_12 (by decide) bw_1022 ?_
          refine a_iconst C 5 dX12_said_101 (by decide) ?_
          refine b_iald C 5 dX12_said_102 (by decide) rfl (vp_lit (by decide)) (by decide) ?_
          exact a_iret C dX12_said_103 h
        · have h := h.2 c5
          refine a_bipush C (-2) dX12_said_46 (by decide) ?_
          exact a_iret C dX12_said_48 h
  · have h := h.2 c8
    refine a_aload_n C 0 dX12_said_5 rfl rfl ?_
    refine a_getr C 0 (r := 49) dX12_said_6 (by decide) rfl rfl rfl ib_12 (by decide) bw_1022 ?_
    refine a_iconst C 5 dX12_said_9 (by decide) ?_
    refine a_iconst C 0 dX12_said_10 (by decide) ?_
    refine b_iast C 5 dX12_said_11 (by decide) rfl (vp_lit (by decide)) (by decide) ?_
    refine a_iconst C 0 dX12_said_12 (by decide) ?_
    exact a_iret C dX12_said_13 h

/-! RainOnTheOneModel.whose()I -/
def wj_X12_whose_75 (k19 : Int32 → Int32 → Int32 → Int32 → PoS → Prop) (post : Int32 → PoS → Prop) (v1 : Int32) (v2 : Int32) (v4 : Int32) (s0 : Int32) (u : PoS) : Prop := k19 v1 v2 s0 (v4 + 1) u
def wj_X12_whose_74 (k19 : Int32 → Int32 → Int32 → Int32 → PoS → Prop) (post : Int32 → PoS → Prop) (v1 : Int32) (v2 : Int32) (v4 : Int32) (u : PoS) : Prop := wj_X12_whose_75 k19 post v1 v2 v4 0 u
def wl_X12_whose_19 (k82 : Int32 → Int32 → Int32 → PoS → Prop) (post : Int32 → PoS → Prop) : Nat → Int32 → Int32 → Int32 → Int32 → PoS → Prop
  | 0, _, _, _, _, _ => False
  | n + 1, v1, v2, v3, v4, u => (((gI u 49 5) ≤ v4 → k82 v1 v2 v3 u) ∧ (¬ (gI u 49 5) ≤ v4 → ((v3 = 0 → wj_X12_whose_74 (wl_X12_whose_19 k82 post n) post v1 v2 v4 u) ∧ (¬ v3 = 0 → vp_in (177 + (2 * v4)) 3703 ∧ wp_X12_wantsOf v2 (gI u 49 (Int32.toNatClampNeg (177 + (2 * v4)))) u (fun (r1 : Int32) (u2 : PoS) => vp_in ((177 + (2 * v4)) + 1) 3703 ∧ ((¬ r1 = (gI u2 49 (Int32.toNatClampNeg ((177 + (2 * v4)) + 1))) → wj_X12_whose_74 (wl_X12_whose_19 k82 post n) post v1 v2 v4 u2) ∧ (r1 = (gI u2 49 (Int32.toNatClampNeg ((177 + (2 * v4)) + 1))) → wj_X12_whose_75 (wl_X12_whose_19 k82 post n) post v1 v2 v4 1 u2)))))))
def wj_X12_whose_94 (k4 : Int32 → Int32 → PoS → Prop) (post : Int32 → PoS → Prop) (v2 : Int32) (s0 : Int32) (s1 : Int32) (u : PoS) : Prop := ∀ x7 : Int32, x7 = (s1 ||| s0) → k4 x7 (v2 + 1) u
def wl_X12_whose_4 (post : Int32 → PoS → Prop) : Nat → Int32 → Int32 → PoS → Prop
  | 0, _, _, _ => False
  | n + 1, v1, v2, u => (((gI u 49 1) ≤ v2 → post v1 u) ∧ (¬ (gI u 49 1) ≤ v2 → (∃ n19, wl_X12_whose_19 (fun (v16 : Int32) (v26 : Int32) (v36 : Int32) (u6 : PoS) => ((v36 = 0 → wj_X12_whose_94 (wl_X12_whose_4 post n) post v26 0 v16 u6) ∧ (¬ v36 = 0 → wj_X12_whose_94 (wl_X12_whose_4 post n) post v26 (1 <<< (v26 &&& 31)) v16 u6))) post n19 v1 v2 1 0 u)))
def wp_X12_whose (u : PoS) (post : Int32 → PoS → Prop) : Prop := (∃ n4, wl_X12_whose_4 post n4 0 0 u)
set_option maxHeartbeats 4000000 in
set_option maxRecDepth 100000 in
theorem tj_X12_whose_75 {p : Program} {l : Launch} {e : Env} {s : State} {m : MethodId} {args : Array Value} {below : List Frame} {meth : Method} {c : Code} {V : VEn} {k19 : Int32 → Int32 → Int32 → Int32 → PoS → Prop} {post : Int32 → PoS → Prop} (C : CxS p s m args meth c V cX12_whose 5 RX12 (some .int)) (hk19 : ∀ (v1 : Int32) (v2 : Int32) (v3 : Int32) (v4 : Int32) (u : PoS), k19 v1 v2 v3 v4 u → AtS p l e (Rm 6) s m args below meth c V 5 (QI V below args s post) 19 [(0, .ref (eA V 48)), (1, .int v1), (2, .int v2), (3, .int v3), (4, .int v4)] [] u) (v1 : Int32) (v2 : Int32) (v4 : Int32) (s0 : Int32) (u : PoS) (h : wj_X12_whose_75 k19 post v1 v2 v4 s0 u) : AtS p l e (Rm 6) s m args below meth c V 5 (QI V below args s post) 75 [(0, .ref (eA V 48)), (1, .int v1), (2, .int v2), (4, .int v4)] [.int s0] u := by
  rw [wj_X12_whose_75] at h
  refine a_istore_n C [(3, .int s0), (0, .ref (eA V 48)), (1, .int v1), (2, .int v2), (4, .int v4)] dX12_whose_75 rfl (by decide) rfl ?_
  refine a_iinc C (v4 + 1) 4 [(4, .int (v4 + 1)), (3, .int s0), (0, .ref (eA V 48)), (1, .int v1), (2, .int v2)] dX12_whose_76 rfl (congrArg (fun z => v4 + z) (show Int32.ofInt 1 = 1 by decide)) (by decide) rfl ?_
  refine a_goto C 19 dX12_whose_79 (by decide) ?_
  refine a_sub [2, 3, 4, 1, 0] rfl ?_
  exact hk19 _ _ _ _ _ h
set_option maxHeartbeats 4000000 in
set_option maxRecDepth 100000 in
theorem tj_X12_whose_74 {p : Program} {l : Launch} {e : Env} {s : State} {m : MethodId} {args : Array Value} {below : List Frame} {meth : Method} {c : Code} {V : VEn} {k19 : Int32 → Int32 → Int32 → Int32 → PoS → Prop} {post : Int32 → PoS → Prop} (C : CxS p s m args meth c V cX12_whose 5 RX12 (some .int)) (hk19 : ∀ (v1 : Int32) (v2 : Int32) (v3 : Int32) (v4 : Int32) (u : PoS), k19 v1 v2 v3 v4 u → AtS p l e (Rm 6) s m args below meth c V 5 (QI V below args s post) 19 [(0, .ref (eA V 48)), (1, .int v1), (2, .int v2), (3, .int v3), (4, .int v4)] [] u) (v1 : Int32) (v2 : Int32) (v4 : Int32) (u : PoS) (h : wj_X12_whose_74 k19 post v1 v2 v4 u) : AtS p l e (Rm 6) s m args below meth c V 5 (QI V below args s post) 74 [(0, .ref (eA V 48)), (1, .int v1), (2, .int v2), (4, .int v4)] [] u := by
  rw [wj_X12_whose_74] at h
  refine a_iconst C 0 dX12_whose_74 (by decide) ?_
  refine tj_X12_whose_75 C hk19 _ _ _ _ _ h
set_option maxHeartbeats 4000000 in
set_option maxRecDepth 100000 in
theorem tl_X12_whose_19 {p : Program} {l : Launch} {e : Env} {s : State} {m : MethodId} {args : Array Value} {below : List Frame} {meth : Method} {c : Code} {V : VEn} {k82 : Int32 → Int32 → Int32 → PoS → Prop} {post : Int32 → PoS → Prop} (C : CxS p s m args meth c V cX12_whose 5 RX12 (some .int)) (hk82 : ∀ (v1 : Int32) (v2 : Int32) (v3 : Int32) (u : PoS), k82 v1 v2 v3 u → AtS p l e (Rm 6) s m args below meth c V 5 (QI V below args s post) 82 [(0, .ref (eA V 48)), (1, .int v1), (2, .int v2), (3, .int v3)] [] u) : ∀ (n : Nat) (v1 : Int32) (v2 : Int32) (v3 : Int32) (v4 : Int32) (u : PoS), wl_X12_whose_19 k82 post n v1 v2 v3 v4 u → AtS p l e (Rm 6) s m args below meth c V 5 (QI V below args s post) 19 [(0, .ref (eA V 48)), (1, .int v1), (2, .int v2), (3, .int v3), (4, .int v4)] [] u := by
  intro n
  induction n with
  | zero => intro v1 v2 v3 v4 u h; exact h.elim
  | succ n ih =>
    intro v1 v2 v3 v4 u h
    rw [wl_X12_whose_19] at h
    refine a_iload C 4 dX12_whose_19 rfl ?_
    refine a_aload_n C 0 dX12_whose_21 rfl rfl ?_
    refine a_getr C 0 (r := 49) dX12_whose_22 (by decide) rfl rfl rfl ib_12 (by decide) bw_1022 ?_
    refine a_iconst C 5 dX12_whose_25 (by decide) ?_
    refine b_iald C 5 dX12_whose_26 (by decide) rfl (vp_lit (by decide)) (by decide) ?_
    refine a_icmp_ge C 82 dX12_whose_27 (by decide) (fun c5 => ?_) (fun c5 => ?_)
    · have h := h.1 c5
      refine a_sub [0, 1, 2, 3] rfl ?_
      exact hk82 _ _ _ _ h
    · have h := h.2 c5
      refine a_iload_n C 3 dX12_whose_30 rfl rfl ?_
      refine a_if_eq C 74 dX12_whose_31 (by decide) (fun c4 => ?_) (fun c4 => ?_)
      · have h := h.1 c4
        refine a_sub [0, 1, 2, 4] rfl ?_
        refine tj_X12_whose_74 C ih _ _ _ _ h
      · have h := h.2 c4
        refine a_aload_n C 0 dX12_whose_34 rfl rfl ?_
        refine a_iload_n C 2 dX12_whose_35 rfl rfl ?_
        refine a_aload_n C 0 dX12_whose_36 rfl rfl ?_
        refine a_getr C 0 (r := 49) dX12_whose_37 (by decide) rfl rfl rfl ib_12 (by decide) bw_1022 ?_
        refine a_sipush C 177 dX12_whose_40 (by decide) ?_
        refine a_iconst C 2 dX12_whose_43 (by decide) ?_
        refine a_iload C 4 dX12_whose_44 rfl ?_
        refine a_imul C dX12_whose_46 ?_
        refine a_iadd C dX12_whose_47 ?_
        refine b_iald C (Int32.toNatClampNeg (177 + (2 * v4))) dX12_whose_48 (by decide) rfl h.1 rfl ?_
        have h := h.2
        refine a_callVi C dX12_whose_49 (m_X12_wantsOf l V h) bw_1409 bw_1411 bw_81 bw_123 bw_1412 (by decide) rfl rfl np_X12_wantsOf rfl rfl (by decide) (Nat.le_of_ble_eq_true rfl) (fun r1 u2 h => ?_)
        refine a_aload_n C 0 dX12_whose_52 rfl rfl ?_
        refine a_getr C 0 (r := 49) dX12_whose_53 (by decide) rfl rfl rfl ib_12 (by decide) bw_1022 ?_
        refine a_sipush C 177 dX12_whose_56 (by decide) ?_
        refine a_iconst C 2 dX12_whose_59 (by decide) ?_
        refine a_iload C 4 dX12_whose_60 rfl ?_
        refine a_imul C dX12_whose_62 ?_
        refine a_iadd C dX12_whose_63 ?_
        refine a_iconst C 1 dX12_whose_64 (by decide) ?_
        refine a_iadd C dX12_whose_65 ?_
        refine b_iald C (Int32.toNatClampNeg ((177 + (2 * v4)) + 1)) dX12_whose_66 (by decide) rfl h.1 rfl ?_
        have h := h.2
        refine a_icmp_ne C 74 dX12_whose_67 (by decide) (fun c3 => ?_) (fun c3 => ?_)
        · have h := h.1 c3
          refine a_sub [0, 1, 2, 4] rfl ?_
          refine tj_X12_whose_74 C ih _ _ _ _ h
        · have h := h.2 c3
          refine a_iconst C 1 dX12_whose_70 (by decide) ?_
          refine a_goto C 75 dX12_whose_71 (by decide) ?_
          refine a_sub [0, 1, 2, 4] rfl ?_
          refine tj_X12_whose_75 C ih _ _ _ _ _ h
set_option maxHeartbeats 4000000 in
set_option maxRecDepth 100000 in
theorem tj_X12_whose_94 {p : Program} {l : Launch} {e : Env} {s : State} {m : MethodId} {args : Array Value} {below : List Frame} {meth : Method} {c : Code} {V : VEn} {k4 : Int32 → Int32 → PoS → Prop} {post : Int32 → PoS → Prop} (C : CxS p s m args meth c V cX12_whose 5 RX12 (some .int)) (hk4 : ∀ (v1 : Int32) (v2 : Int32) (u : PoS), k4 v1 v2 u → AtS p l e (Rm 6) s m args below meth c V 5 (QI V below args s post) 4 [(0, .ref (eA V 48)), (1, .int v1), (2, .int v2)] [] u) (v2 : Int32) (s0 : Int32) (s1 : Int32) (u : PoS) (h : wj_X12_whose_94 k4 post v2 s0 s1 u) : AtS p l e (Rm 6) s m args below meth c V 5 (QI V below args s post) 94 [(0, .ref (eA V 48)), (2, .int v2)] [.int s0, .int s1] u := by
  rw [wj_X12_whose_94] at h
  refine a_ior C dX12_whose_94 ?_
  refine a_topi (fun x7 ex7 => ?_)
  have h := h x7 ex7
  refine a_istore_n C [(1, .int x7), (0, .ref (eA V 48)), (2, .int v2)] dX12_whose_95 rfl (by decide) rfl ?_
  refine a_iinc C (v2 + 1) 2 [(2, .int (v2 + 1)), (1, .int x7), (0, .ref (eA V 48))] dX12_whose_96 rfl (congrArg (fun z => v2 + z) (show Int32.ofInt 1 = 1 by decide)) (by decide) rfl ?_
  refine a_goto C 4 dX12_whose_99 (by decide) ?_
  refine a_sub [2, 1, 0] rfl ?_
  exact hk4 _ _ _ h
set_option maxHeartbeats 4000000 in
set_option maxRecDepth 100000 in
theorem tl_X12_whose_4 {p : Program} {l : Launch} {e : Env} {s : State} {m : MethodId} {args : Array Value} {below : List Frame} {meth : Method} {c : Code} {V : VEn} {post : Int32 → PoS → Prop} (C : CxS p s m args meth c V cX12_whose 5 RX12 (some .int)) : ∀ (n : Nat) (v1 : Int32) (v2 : Int32) (u : PoS), wl_X12_whose_4 post n v1 v2 u → AtS p l e (Rm 6) s m args below meth c V 5 (QI V below args s post) 4 [(0, .ref (eA V 48)), (1, .int v1), (2, .int v2)] [] u := by
  intro n
  induction n with
  | zero => intro v1 v2 u h; exact h.elim
  | succ n ih =>
    intro v1 v2 u h
    rw [wl_X12_whose_4] at h
    refine a_iload_n C 2 dX12_whose_4 rfl rfl ?_
    refine a_aload_n C 0 dX12_whose_5 rfl rfl ?_
    refine a_getr C 0 (r := 49) dX12_whose_6 (by decide) rfl rfl rfl ib_12 (by decide) bw_1022 ?_
    refine a_iconst C 1 dX12_whose_9 (by decide) ?_
    refine b_iald C 1 dX12_whose_10 (by decide) rfl (vp_lit (by decide)) (by decide) ?_
    refine a_icmp_ge C 102 dX12_whose_11 (by decide) (fun c9 => ?_) (fun c9 => ?_)
    · have h := h.1 c9
      refine a_iload_n C 1 dX12_whose_102 rfl rfl ?_
      exact a_iret C dX12_whose_103 h
    · have h := h.2 c9
      refine a_iconst C 1 dX12_whose_14 (by decide) ?_
      refine a_istore_n C [(3, .int 1), (0, .ref (eA V 48)), (1, .int v1), (2, .int v2)] dX12_whose_15 rfl (by decide) rfl ?_
      refine a_iconst C 0 dX12_whose_16 (by decide) ?_
      refine a_istore C [(4, .int 0), (3, .int 1), (0, .ref (eA V 48)), (1, .int v1), (2, .int v2)] dX12_whose_17 (by decide) rfl ?_
      refine a_sub [2, 3, 4, 1, 0] rfl ?_
      obtain ⟨n19, h⟩ := h
      refine tl_X12_whose_19 C (fun v16 v26 v36 u6 h => ?_) n19 _ _ _ _ _ h
      refine a_iload_n C 1 dX12_whose_82 rfl rfl ?_
      refine a_iload_n C 3 dX12_whose_83 rfl rfl ?_
      refine a_if_eq C 93 dX12_whose_84 (by decide) (fun c8 => ?_) (fun c8 => ?_)
      · have h := h.1 c8
        refine a_iconst C 0 dX12_whose_93 (by decide) ?_
        refine a_sub [0, 2] rfl ?_
        refine tj_X12_whose_94 C ih _ _ _ _ h
      · have h := h.2 c8
        refine a_iconst C 1 dX12_whose_87 (by decide) ?_
        refine a_iload_n C 2 dX12_whose_88 rfl rfl ?_
        refine a_ishl C dX12_whose_89 ?_
        refine a_goto C 94 dX12_whose_90 (by decide) ?_
        refine a_sub [0, 2] rfl ?_
        refine tj_X12_whose_94 C ih _ _ _ _ h
theorem np_X12_whose : yX12_whose.cls ≠ "java/lang/invoke/MethodHandle" ∧ yX12_whose.cls ≠ "java/lang/invoke/VarHandle" ∧ (parseMethodDescriptor yX12_whose.desc).map (fun d => d.parameters.length) = some 0 := by decide +kernel
set_option maxHeartbeats 4000000 in
set_option maxRecDepth 100000 in
theorem m_X12_whose (l : Launch) (V : VEn) {u : PoS} {post : Int32 → PoS → Prop} (h : wp_X12_whose  u post) : KI l V yX12_whose cX12_whose 5 .int 6 [.ref (eA V 48)] u post := by
  refine KI_of (by decide) (Nat.le_of_ble_eq_true rfl) (lv := [(0, .ref (eA V 48))]) rfl ?_
  intro p e s m args below meth c C
  rw [wp_X12_whose] at h
  refine a_iconst C 0 dX12_whose_0 (by decide) ?_
  refine a_istore_n C [(1, .int 0), (0, .ref (eA V 48))] dX12_whose_1 rfl (by decide) rfl ?_
  refine a_iconst C 0 dX12_whose_2 (by decide) ?_
  refine a_istore_n C [(2, .int 0), (1, .int 0), (0, .ref (eA V 48))] dX12_whose_3 rfl (by decide) rfl ?_
  refine a_sub [2, 1, 0] rfl ?_
  obtain ⟨n4, h⟩ := h
  refine tl_X12_whose_4 C n4 _ _ _ h

/-! RainOnTheOneModel.image()I -/
def wp_X12_image (u : PoS) (post : Int32 → PoS → Prop) : Prop := wp_X12_copyA u (fun (u2 : PoS) => post (gI u2 49 6) u2)
theorem np_X12_image : yX12_image.cls ≠ "java/lang/invoke/MethodHandle" ∧ yX12_image.cls ≠ "java/lang/invoke/VarHandle" ∧ (parseMethodDescriptor yX12_image.desc).map (fun d => d.parameters.length) = some 0 := by decide +kernel
set_option maxHeartbeats 4000000 in
set_option maxRecDepth 100000 in
theorem m_X12_image (l : Launch) (V : VEn) {u : PoS} {post : Int32 → PoS → Prop} (h : wp_X12_image  u post) : KI l V yX12_image cX12_image 1 .int 1 [.ref (eA V 48)] u post := by
  refine KI_of (by decide) (Nat.le_of_ble_eq_true rfl) (lv := [(0, .ref (eA V 48))]) rfl ?_
  intro p e s m args below meth c C
  rw [wp_X12_image] at h
  refine a_aload_n C 0 dX12_image_0 rfl rfl ?_
  refine a_getr C 0 (r := 49) dX12_image_1 (by decide) rfl rfl rfl ib_12 (by decide) bw_1022 ?_
  refine a_aload_n C 0 dX12_image_4 rfl rfl ?_
  refine a_getr C 1 (r := 50) dX12_image_5 (by decide) rfl rfl rfl ib_12 (by decide) bw_1023 ?_
  refine a_callSv C dX12_image_8 (m_X12_copyA l V h) bw_1019 bw_1020 bw_123 bw_1021 np_X12_copyA rfl rfl (by decide) (Nat.le_of_ble_eq_true rfl) (fun u2 h => ?_)
  refine a_aload_n C 0 dX12_image_11 rfl rfl ?_
  refine a_getr C 0 (r := 49) dX12_image_12 (by decide) rfl rfl rfl ib_12 (by decide) bw_1022 ?_
  refine a_bipush C 6 dX12_image_15 (by decide) ?_
  refine b_iald C 6 dX12_image_17 (by decide) rfl (vp_lit (by decide)) (by decide) ?_
  exact a_iret C dX12_image_18 h

/-! RainOnTheOneModel.back()I -/
def wp_X12_back (u : PoS) (post : Int32 → PoS → Prop) : Prop := wp_X12_copyB u (fun (u2 : PoS) => post (gI u2 49 6) u2)
theorem np_X12_back : yX12_back.cls ≠ "java/lang/invoke/MethodHandle" ∧ yX12_back.cls ≠ "java/lang/invoke/VarHandle" ∧ (parseMethodDescriptor yX12_back.desc).map (fun d => d.parameters.length) = some 0 := by decide +kernel
set_option maxHeartbeats 4000000 in
set_option maxRecDepth 100000 in
theorem m_X12_back (l : Launch) (V : VEn) {u : PoS} {post : Int32 → PoS → Prop} (h : wp_X12_back  u post) : KI l V yX12_back cX12_back 1 .int 1 [.ref (eA V 48)] u post := by
  refine KI_of (by decide) (Nat.le_of_ble_eq_true rfl) (lv := [(0, .ref (eA V 48))]) rfl ?_
  intro p e s m args below meth c C
  rw [wp_X12_back] at h
  refine a_aload_n C 0 dX12_back_0 rfl rfl ?_
  refine a_getr C 1 (r := 50) dX12_back_1 (by decide) rfl rfl rfl ib_12 (by decide) bw_1023 ?_
  refine a_aload_n C 0 dX12_back_4 rfl rfl ?_
  refine a_getr C 0 (r := 49) dX12_back_5 (by decide) rfl rfl rfl ib_12 (by decide) bw_1022 ?_
  refine a_callSv C dX12_back_8 (m_X12_copyB l V h) bw_1019 bw_1020 bw_123 bw_1021 np_X12_copyB rfl rfl (by decide) (Nat.le_of_ble_eq_true rfl) (fun u2 h => ?_)
  refine a_aload_n C 0 dX12_back_11 rfl rfl ?_
  refine a_getr C 0 (r := 49) dX12_back_12 (by decide) rfl rfl rfl ib_12 (by decide) bw_1022 ?_
  refine a_bipush C 6 dX12_back_15 (by decide) ?_
  refine b_iald C 6 dX12_back_17 (by decide) rfl (vp_lit (by decide)) (by decide) ?_
  exact a_iret C dX12_back_18 h

/-! RainOnTheOneModel.about(I)I -/
def wp_X12_about (a0 : Int32) (u : PoS) (post : Int32 → PoS → Prop) : Prop := wp_X12_isIn a0 0 5 u (fun (r1 : Int32) (u2 : PoS) => ((r1 = 0 → ((¬ a0 = 6 → post (-2) u2) ∧ (a0 = 6 → post (gI u2 48 4) u2))) ∧ (¬ r1 = 0 → vp_in a0 3703 ∧ post (gI u2 49 (Int32.toNatClampNeg a0)) u2)))
theorem np_X12_about : yX12_about.cls ≠ "java/lang/invoke/MethodHandle" ∧ yX12_about.cls ≠ "java/lang/invoke/VarHandle" ∧ (parseMethodDescriptor yX12_about.desc).map (fun d => d.parameters.length) = some 1 := by decide +kernel
set_option maxHeartbeats 4000000 in
set_option maxRecDepth 100000 in
theorem m_X12_about (l : Launch) (V : VEn) {a0 : Int32} {u : PoS} {post : Int32 → PoS → Prop} (h : wp_X12_about a0 u post) : KI l V yX12_about cX12_about 2 .int 1 [.ref (eA V 48), .int a0] u post := by
  refine KI_of (by decide) (Nat.le_of_ble_eq_true rfl) (lv := [(0, .ref (eA V 48)), (1, .int a0)]) rfl ?_
  intro p e s m args below meth c C
  rw [wp_X12_about] at h
  refine a_iload_n C 1 dX12_about_0 rfl rfl ?_
  refine a_iconst C 0 dX12_about_1 (by decide) ?_
  refine a_iconst C 5 dX12_about_2 (by decide) ?_
  refine a_callSi C dX12_about_3 (m_X12_isIn l V h) bw_1147 bw_1148 bw_123 bw_1149 np_X12_isIn rfl rfl (by decide) (Nat.le_of_ble_eq_true rfl) (fun r1 u2 h => ?_)
  refine a_if_eq C 18 dX12_about_6 (by decide) (fun c4 => ?_) (fun c4 => ?_)
  · have h := h.1 c4
    refine a_iload_n C 1 dX12_about_18 rfl rfl ?_
    refine a_bipush C 6 dX12_about_19 (by decide) ?_
    refine a_icmp_ne C 31 dX12_about_21 (by decide) (fun c3 => ?_) (fun c3 => ?_)
    · have h := h.1 c3
      refine a_bipush C (-2) dX12_about_31 (by decide) ?_
      exact a_iret C dX12_about_33 h
    · have h := h.2 c3
      refine a_aload_n C 0 dX12_about_24 rfl rfl ?_
      refine a_geti C 4 dX12_about_25 (by decide) rfl rfl rfl ib_12 (by decide) bw_1026 ?_
      refine a_goto C 33 dX12_about_28 (by decide) ?_
      exact a_iret C dX12_about_33 h
  · have h := h.2 c4
    refine a_aload_n C 0 dX12_about_9 rfl rfl ?_
    refine a_getr C 0 (r := 49) dX12_about_10 (by decide) rfl rfl rfl ib_12 (by decide) bw_1022 ?_
    refine a_iload_n C 1 dX12_about_13 rfl rfl ?_
    refine b_iald C (Int32.toNatClampNeg a0) dX12_about_14 (by decide) rfl h.1 rfl ?_
    have h := h.2
    refine a_goto C 33 dX12_about_15 (by decide) ?_
    exact a_iret C dX12_about_33 h
