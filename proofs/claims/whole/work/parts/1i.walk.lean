/-! RainOnTheOneModel.days(Z)I -/
def wl_X12_days_15 (k45 : Int32 → Int32 → PoS → Prop) (post : Int32 → PoS → Prop) : Nat → Int32 → Int32 → Int32 → PoS → Prop
  | 0, _, _, _, _ => False
  | n + 1, v1, v2, v3, u => (((gI u 49 0) < v3 → k45 v1 v2 u) ∧ (¬ (gI u 49 0) < v3 → ¬ v3 = 0 ∧ ∀ x1 : Int32, x1 = (v2 + ((60 / v3) * (gI u 49 0))) → wl_X12_days_15 k45 post n v1 x1 (v3 + 1) u))
def wj_X12_days_55 (post : Int32 → PoS → Prop) (v2 : Int32) (s0 : Int32) (u : PoS) : Prop := wp_X12_divisor (Int32.toInt64 v2) 60 u (fun (r4 : Int64) (u5 : PoS) => ¬ (Int64.toInt32 r4) = 0 ∧ post (s0 / (Int64.toInt32 r4)) u5)
def wp_X12_days (a0 : Int32) (u : PoS) (post : Int32 → PoS → Prop) : Prop := ((¬ (gI u 49 0) = 0 → (∃ n15, wl_X12_days_15 (fun (v13 : Int32) (v23 : Int32) (u3 : PoS) => ((v13 = 0 → wj_X12_days_55 post v23 v23 u3) ∧ (¬ v13 = 0 → wj_X12_days_55 post v23 60 u3))) post n15 a0 0 1 u)) ∧ ((gI u 49 0) = 0 → post (-1) u))
set_option maxHeartbeats 4000000 in
set_option maxRecDepth 100000 in
theorem tl_X12_days_15 {p : Program} {l : Launch} {e : Env} {s : State} {m : MethodId} {args : Array Value} {below : List Frame} {meth : Method} {c : Code} {V : VEn} {k45 : Int32 → Int32 → PoS → Prop} {post : Int32 → PoS → Prop} (C : CxS p s m args meth c V cX12_days 4 RX12 (some .int)) (hk45 : ∀ (v1 : Int32) (v2 : Int32) (u : PoS), k45 v1 v2 u → AtS p l e (Rm 1) s m args below meth c V 4 0 0 (QI V below args s post) 45 [(1, .int v1), (2, .int v2)] [] u) : ∀ (n : Nat) (v1 : Int32) (v2 : Int32) (v3 : Int32) (u : PoS), wl_X12_days_15 k45 post n v1 v2 v3 u → AtS p l e (Rm 1) s m args below meth c V 4 0 0 (QI V below args s post) 15 [(0, .ref (eA V 48)), (1, .int v1), (2, .int v2), (3, .int v3)] [] u := by
  intro n
  induction n with
  | zero => intro v1 v2 v3 u h; exact h.elim
  | succ n ih =>
    intro v1 v2 v3 u h
    rw [wl_X12_days_15] at h
    refine a_iload_n C 3 dX12_days_15 rfl rfl ?_
    refine a_aload_n C 0 dX12_days_16 rfl rfl ?_
    refine a_getr C 0 (r := 49) dX12_days_17 (by decide) rfl rfl rfl ib_12 (by decide) bw_1022 ?_
    refine a_iconst C 0 dX12_days_20 (by decide) ?_
    refine b_iald C 0 dX12_days_21 (by decide) rfl (vp_lit (by decide)) (by decide) ?_
    refine a_icmp_gt C 45 dX12_days_22 (by decide) (fun c2 => ?_) (fun c2 => ?_)
    · have h := h.1 c2
      refine a_sub [1, 2] rfl ?_
      exact hk45 _ _ _ h
    · have h := h.2 c2
      refine a_iload_n C 2 dX12_days_25 rfl rfl ?_
      refine a_bipush C 60 dX12_days_26 (by decide) ?_
      refine a_iload_n C 3 dX12_days_28 rfl rfl ?_
      refine a_idiv C dX12_days_29 h.1 ?_
      have h := h.2
      refine a_aload_n C 0 dX12_days_30 rfl rfl ?_
      refine a_getr C 0 (r := 49) dX12_days_31 (by decide) rfl rfl rfl ib_12 (by decide) bw_1022 ?_
      refine a_iconst C 0 dX12_days_34 (by decide) ?_
      refine b_iald C 0 dX12_days_35 (by decide) rfl (vp_lit (by decide)) (by decide) ?_
      refine a_imul C dX12_days_36 ?_
      refine a_iadd C dX12_days_37 ?_
      refine a_topi (fun x1 ex1 => ?_)
      have h := h x1 ex1
      refine a_istore_n C [(2, .int x1), (0, .ref (eA V 48)), (1, .int v1), (3, .int v3)] dX12_days_38 rfl (by decide) rfl ?_
      refine a_iinc C (v3 + 1) 3 [(3, .int (v3 + 1)), (2, .int x1), (0, .ref (eA V 48)), (1, .int v1)] dX12_days_39 rfl (congrArg (fun z => v3 + z) (show Int32.ofInt 1 = 1 by decide)) (by decide) rfl ?_
      refine a_goto C 15 dX12_days_42 (by decide) ?_
      refine a_sub [2, 3, 1, 0] rfl ?_
      exact ih _ _ _ _ h
set_option maxHeartbeats 4000000 in
set_option maxRecDepth 100000 in
theorem tj_X12_days_55 {p : Program} {l : Launch} {e : Env} {s : State} {m : MethodId} {args : Array Value} {below : List Frame} {meth : Method} {c : Code} {V : VEn} {post : Int32 → PoS → Prop} (C : CxS p s m args meth c V cX12_days 4 RX12 (some .int)) (v2 : Int32) (s0 : Int32) (u : PoS) (h : wj_X12_days_55 post v2 s0 u) : AtS p l e (Rm 1) s m args below meth c V 4 0 0 (QI V below args s post) 55 [(2, .int v2)] [.int s0] u := by
  rw [wj_X12_days_55] at h
  refine a_iload_n C 0 dX12_days_55 rfl rfl ?_
  refine a_i2l C dX12_days_56 ?_
  refine a_ldc2 C dX12_days_57 bw_1692 ?_
  refine a_callSl C dX12_days_60 (m_X12_divisor l V h) bw_1685 bw_1686 bw_123 bw_1687 np_X12_divisor rfl rfl (by decide) (Nat.le_of_ble_eq_true rfl) ⟨Nat.zero_le _, Nat.zero_le _⟩ (fun r4 u5 h => ?_)
  refine a_l2i C dX12_days_63 ?_
  refine a_idiv C dX12_days_64 h.1 ?_
  have h := h.2
  exact a_iret C dX12_days_65 h
theorem np_X12_days : yX12_days.cls ≠ "java/lang/invoke/MethodHandle" ∧ yX12_days.cls ≠ "java/lang/invoke/VarHandle" ∧ (parseMethodDescriptor yX12_days.desc).map (fun d => d.parameters.length) = some 1 := by decide +kernel
set_option maxHeartbeats 4000000 in
set_option maxRecDepth 100000 in
theorem m_X12_days (l : Launch) (V : VEn) {a0 : Int32} {u : PoS} {post : Int32 → PoS → Prop} (h : wp_X12_days a0 u post) : KI l V yX12_days cX12_days 4 .int 1 [.ref (eA V 48), .int a0] u post := by
  refine KI_of (by decide) (Nat.le_of_ble_eq_true rfl) (lv := [(0, .ref (eA V 48)), (1, .int a0)]) rfl ?_
  intro p e s m args below meth c C
  rw [wp_X12_days] at h
  refine a_aload_n C 0 dX12_days_0 rfl rfl ?_
  refine a_getr C 0 (r := 49) dX12_days_1 (by decide) rfl rfl rfl ib_12 (by decide) bw_1022 ?_
  refine a_iconst C 0 dX12_days_4 (by decide) ?_
  refine b_iald C 0 dX12_days_5 (by decide) rfl (vp_lit (by decide)) (by decide) ?_
  refine a_if_ne C 11 dX12_days_6 (by decide) (fun c7 => ?_) (fun c7 => ?_)
  · have h := h.1 c7
    refine a_iconst C 0 dX12_days_11 (by decide) ?_
    refine a_istore_n C [(2, .int 0), (0, .ref (eA V 48)), (1, .int a0)] dX12_days_12 rfl (by decide) rfl ?_
    refine a_iconst C 1 dX12_days_13 (by decide) ?_
    refine a_istore_n C [(3, .int 1), (2, .int 0), (0, .ref (eA V 48)), (1, .int a0)] dX12_days_14 rfl (by decide) rfl ?_
    refine a_sub [2, 3, 1, 0] rfl ?_
    obtain ⟨n15, h⟩ := h
    refine tl_X12_days_15 C (fun v13 v23 u3 h => ?_) n15 _ _ _ _ h
    refine a_iload_n C 0 dX12_days_45 rfl rfl ?_
    refine a_if_eq C 54 dX12_days_46 (by decide) (fun c6 => ?_) (fun c6 => ?_)
    · have h := h.1 c6
      refine a_iload_n C 1 dX12_days_54 rfl rfl ?_
      refine a_sub [1] rfl ?_
      refine tj_X12_days_55 C _ _ _ h
    · have h := h.2 c6
      refine a_bipush C 60 dX12_days_49 (by decide) ?_
      refine a_goto C 55 dX12_days_51 (by decide) ?_
      refine a_sub [1] rfl ?_
      refine tj_X12_days_55 C _ _ _ h
  · have h := h.2 c7
    refine a_iconst C (-1) dX12_days_9 (by decide) ?_
    exact a_iret C dX12_days_10 h

/-! RainOnTheOneModel.said(II)I -/
def wp_X12_said (a0 : Int32) (a1 : Int32) (u : PoS) (post : Int32 → PoS → Prop) : Prop := ((¬ a0 = (-1) → wp_X12_isPerson a0 u (fun (r1 : Int32) (u2 : PoS) => ((r1 = 0 → post (-2) u2) ∧ (¬ r1 = 0 → wp_X12_isIn a1 (-999) 999 u2 (fun (r3 : Int32) (u4 : PoS) => ((r3 = 0 → post (-2) u4) ∧ (¬ r3 = 0 → ((¬ (gI u4 49 5) = 8 → vp_in (177 + (2 * (gI u4 49 5))) 3703 ∧ ∀ z5 : PoS, z5 = pI u4 49 (Int32.toNatClampNeg (177 + (2 * (gI u4 49 5)))) a0 → vp_in ((177 + (2 * (gI z5 49 5))) + 1) 3703 ∧ ∀ z6 : PoS, z6 = pI z5 49 (Int32.toNatClampNeg ((177 + (2 * (gI z5 49 5))) + 1)) a1 → ∀ z7 : PoS, z7 = pI z6 49 5 ((gI z6 49 5) + 1) → post (gI z7 49 5) z7) ∧ ((gI u4 49 5) = 8 → post (-2) u4))))))))) ∧ (a0 = (-1) → ∀ z11 : PoS, z11 = pI u 49 5 0 → post 0 z11))
theorem np_X12_said : yX12_said.cls ≠ "java/lang/invoke/MethodHandle" ∧ yX12_said.cls ≠ "java/lang/invoke/VarHandle" ∧ (parseMethodDescriptor yX12_said.desc).map (fun d => d.parameters.length) = some 2 := by decide +kernel
set_option maxHeartbeats 4000000 in
set_option maxRecDepth 100000 in
theorem m_X12_said (l : Launch) (V : VEn) {a0 : Int32} {a1 : Int32} {u : PoS} {post : Int32 → PoS → Prop} (h : wp_X12_said a0 a1 u post) : KI l V yX12_said cX12_said 3 .int 2 [.ref (eA V 48), .int a0, .int a1] u post := by
  refine KI_of (by decide) (Nat.le_of_ble_eq_true rfl) (lv := [(0, .ref (eA V 48)), (1, .int a0), (2, .int a1)]) rfl ?_
  intro p e s m args below meth c C
  rw [wp_X12_said] at h
  refine a_iload_n C 1 dX12_said_0 rfl rfl ?_
  refine a_iconst C (-1) dX12_said_1 (by decide) ?_
  refine a_icmp_ne C 14 dX12_said_2 (by decide) (fun c12 => ?_) (fun c12 => ?_)
  · have h := h.1 c12
    refine a_aload_n C 0 dX12_said_14 rfl rfl ?_
    refine a_iload_n C 1 dX12_said_15 rfl rfl ?_
    refine a_callVi C dX12_said_16 (m_X12_isPerson l V h) bw_1342 bw_1344 bw_71 bw_123 bw_1345 (by decide) rfl rfl np_X12_isPerson rfl rfl (by decide) (Nat.le_of_ble_eq_true rfl) ⟨Nat.zero_le _, Nat.zero_le _⟩ (fun r1 u2 h => ?_)
    refine a_if_eq C 46 dX12_said_19 (by decide) (fun c10 => ?_) (fun c10 => ?_)
    · have h := h.1 c10
      refine a_bipush C (-2) dX12_said_46 (by decide) ?_
      exact a_iret C dX12_said_48 h
    · have h := h.2 c10
      refine a_iload_n C 2 dX12_said_22 rfl rfl ?_
      refine a_sipush C (-999) dX12_said_23 (by decide) ?_
      refine a_sipush C 999 dX12_said_26 (by decide) ?_
      refine a_callSi C dX12_said_29 (m_X12_isIn l V h) bw_1147 bw_1148 bw_123 bw_1149 np_X12_isIn rfl rfl (by decide) (Nat.le_of_ble_eq_true rfl) ⟨Nat.zero_le _, Nat.zero_le _⟩ (fun r3 u4 h => ?_)
      refine a_if_eq C 46 dX12_said_32 (by decide) (fun c9 => ?_) (fun c9 => ?_)
      · have h := h.1 c9
        refine a_bipush C (-2) dX12_said_46 (by decide) ?_
        exact a_iret C dX12_said_48 h
      · have h := h.2 c9
        refine a_aload_n C 0 dX12_said_35 rfl rfl ?_
        refine a_getr C 0 (r := 49) dX12_said_36 (by decide) rfl rfl rfl ib_12 (by decide) bw_1022 ?_
        refine a_iconst C 5 dX12_said_39 (by decide) ?_
        refine b_iald C 5 dX12_said_40 (by decide) rfl (vp_lit (by decide)) (by decide) ?_
        refine a_bipush C 8 dX12_said_41 (by decide) ?_
        refine a_icmp_ne C 49 dX12_said_43 (by decide) (fun c8 => ?_) (fun c8 => ?_)
        · have h := h.1 c8
          refine a_aload_n C 0 dX12_said_49 rfl rfl ?_
          refine a_getr C 0 (r := 49) dX12_said_50 (by decide) rfl rfl rfl ib_12 (by decide) bw_1022 ?_
          refine a_sipush C 177 dX12_said_53 (by decide) ?_
          refine a_iconst C 2 dX12_said_56 (by decide) ?_
          refine a_aload_n C 0 dX12_said_57 rfl rfl ?_
          refine a_getr C 0 (r := 49) dX12_said_58 (by decide) rfl rfl rfl ib_12 (by decide) bw_1022 ?_
          refine a_iconst C 5 dX12_said_61 (by decide) ?_
          refine b_iald C 5 dX12_said_62 (by decide) rfl (vp_lit (by decide)) (by decide) ?_
          refine a_imul C dX12_said_63 ?_
          refine a_iadd C dX12_said_64 ?_
          refine a_iload_n C 1 dX12_said_65 rfl rfl ?_
          refine b_iast C (Int32.toNatClampNeg (177 + (2 * (gI u4 49 5)))) dX12_said_66 (by decide) rfl h.1 rfl ?_
          have h := h.2
          refine a_topu (fun z5 ez5 => ?_)
          have h := h z5 ez5
          refine a_aload_n C 0 dX12_said_67 rfl rfl ?_
          refine a_getr C 0 (r := 49) dX12_said_68 (by decide) rfl rfl rfl ib_12 (by decide) bw_1022 ?_
          refine a_sipush C 177 dX12_said_71 (by decide) ?_
          refine a_iconst C 2 dX12_said_74 (by decide) ?_
          refine a_aload_n C 0 dX12_said_75 rfl rfl ?_
          refine a_getr C 0 (r := 49) dX12_said_76 (by decide) rfl rfl rfl ib_12 (by decide) bw_1022 ?_
          refine a_iconst C 5 dX12_said_79 (by decide) ?_
          refine b_iald C 5 dX12_said_80 (by decide) rfl (vp_lit (by decide)) (by decide) ?_
          refine a_imul C dX12_said_81 ?_
          refine a_iadd C dX12_said_82 ?_
          refine a_iconst C 1 dX12_said_83 (by decide) ?_
          refine a_iadd C dX12_said_84 ?_
          refine a_iload_n C 2 dX12_said_85 rfl rfl ?_
          refine b_iast C (Int32.toNatClampNeg ((177 + (2 * (gI z5 49 5))) + 1)) dX12_said_86 (by decide) rfl h.1 rfl ?_
          have h := h.2
          refine a_topu (fun z6 ez6 => ?_)
          have h := h z6 ez6
          refine a_aload_n C 0 dX12_said_87 rfl rfl ?_
          refine a_getr C 0 (r := 49) dX12_said_88 (by decide) rfl rfl rfl ib_12 (by decide) bw_1022 ?_
          refine a_iconst C 5 dX12_said_91 (by decide) ?_
          refine a_dup2 C dX12_said_92 rfl rfl ?_
          refine b_iald C 5 dX12_said_93 (by decide) rfl (vp_lit (by decide)) (by decide) ?_
          refine a_iconst C 1 dX12_said_94 (by decide) ?_
          refine a_iadd C dX12_said_95 ?_
          refine b_iast C 5 dX12_said_96 (by decide) rfl (vp_lit (by decide)) (by decide) ?_
          refine a_topu (fun z7 ez7 => ?_)
          have h := h z7 ez7
          refine a_aload_n C 0 dX12_said_97 rfl rfl ?_
          refine a_getr C 0 (r := 49) dX12_said_98 (by decide) rfl rfl rfl ib_12 (by decide) bw_1022 ?_
          refine a_iconst C 5 dX12_said_101 (by decide) ?_
          refine b_iald C 5 dX12_said_102 (by decide) rfl (vp_lit (by decide)) (by decide) ?_
          exact a_iret C dX12_said_103 h
        · have h := h.2 c8
          refine a_bipush C (-2) dX12_said_46 (by decide) ?_
          exact a_iret C dX12_said_48 h
  · have h := h.2 c12
    refine a_aload_n C 0 dX12_said_5 rfl rfl ?_
    refine a_getr C 0 (r := 49) dX12_said_6 (by decide) rfl rfl rfl ib_12 (by decide) bw_1022 ?_
    refine a_iconst C 5 dX12_said_9 (by decide) ?_
    refine a_iconst C 0 dX12_said_10 (by decide) ?_
    refine b_iast C 5 dX12_said_11 (by decide) rfl (vp_lit (by decide)) (by decide) ?_
    refine a_topu (fun z11 ez11 => ?_)
    have h := h z11 ez11
    refine a_iconst C 0 dX12_said_12 (by decide) ?_
    exact a_iret C dX12_said_13 h

/-! RainOnTheOneModel.whose()I -/
def wj_X12_whose_75 (k19 : Int32 → Int32 → Int32 → Int32 → PoS → Prop) (post : Int32 → PoS → Prop) (v1 : Int32) (v2 : Int32) (v4 : Int32) (s0 : Int32) (u : PoS) : Prop := k19 v1 v2 s0 (v4 + 1) u
def wj_X12_whose_74 (k19 : Int32 → Int32 → Int32 → Int32 → PoS → Prop) (post : Int32 → PoS → Prop) (v1 : Int32) (v2 : Int32) (v4 : Int32) (u : PoS) : Prop := wj_X12_whose_75 k19 post v1 v2 v4 0 u
def wl_X12_whose_19 (k82 : Int32 → Int32 → Int32 → PoS → Prop) (post : Int32 → PoS → Prop) : Nat → Int32 → Int32 → Int32 → Int32 → PoS → Prop
  | 0, _, _, _, _, _ => False
  | n + 1, v1, v2, v3, v4, u => (((gI u 49 5) ≤ v4 → k82 v1 v2 v3 u) ∧ (¬ (gI u 49 5) ≤ v4 → ((v3 = 0 → wj_X12_whose_74 (wl_X12_whose_19 k82 post n) post v1 v2 v4 u) ∧ (¬ v3 = 0 → vp_in (177 + (2 * v4)) 3703 ∧ wp_X12_wantsOf v2 (gI u 49 (Int32.toNatClampNeg (177 + (2 * v4)))) u (fun (r1 : Int32) (u2 : PoS) => vp_in ((177 + (2 * v4)) + 1) 3703 ∧ ((¬ r1 = (gI u2 49 (Int32.toNatClampNeg ((177 + (2 * v4)) + 1))) → wj_X12_whose_74 (wl_X12_whose_19 k82 post n) post v1 v2 v4 u2) ∧ (r1 = (gI u2 49 (Int32.toNatClampNeg ((177 + (2 * v4)) + 1))) → wj_X12_whose_75 (wl_X12_whose_19 k82 post n) post v1 v2 v4 1 u2)))))))
def wj_X12_whose_94 (k4 : Int32 → Int32 → PoS → Prop) (post : Int32 → PoS → Prop) (v2 : Int32) (s0 : Int32) (s1 : Int32) (u : PoS) : Prop := ∀ x7 : Int32, x7 = (s1 ||| s0) → k4 x7 (v2 + 1) u
def wl_X12_whose_4 (post : Int32 → PoS → Prop) : Nat → Int32 → Int32 → PoS → Prop
  | 0, _, _, _ => False
  | n + 1, v1, v2, u => (((gI u 49 1) ≤ v2 → post v1 u) ∧ (¬ (gI u 49 1) ≤ v2 → (∃ n19, wl_X12_whose_19 (fun (v16 : Int32) (v26 : Int32) (v36 : Int32) (u6 : PoS) => ((v36 = 0 → wj_X12_whose_94 (wl_X12_whose_4 post n) post v26 0 v16 u6) ∧ (¬ v36 = 0 → wj_X12_whose_94 (wl_X12_whose_4 post n) post v26 (1 <<< (v26 &&& 31)) v16 u6))) post n19 v1 v2 1 0 u)))
def wp_X12_whose (u : PoS) (post : Int32 → PoS → Prop) : Prop := (∃ n4, wl_X12_whose_4 post n4 0 0 u)
set_option maxHeartbeats 4000000 in
set_option maxRecDepth 100000 in
theorem tj_X12_whose_75 {p : Program} {l : Launch} {e : Env} {s : State} {m : MethodId} {args : Array Value} {below : List Frame} {meth : Method} {c : Code} {V : VEn} {k19 : Int32 → Int32 → Int32 → Int32 → PoS → Prop} {post : Int32 → PoS → Prop} (C : CxS p s m args meth c V cX12_whose 5 RX12 (some .int)) (hk19 : ∀ (v1 : Int32) (v2 : Int32) (v3 : Int32) (v4 : Int32) (u : PoS), k19 v1 v2 v3 v4 u → AtS p l e (Rm 6) s m args below meth c V 5 0 0 (QI V below args s post) 19 [(0, .ref (eA V 48)), (1, .int v1), (2, .int v2), (3, .int v3), (4, .int v4)] [] u) (v1 : Int32) (v2 : Int32) (v4 : Int32) (s0 : Int32) (u : PoS) (h : wj_X12_whose_75 k19 post v1 v2 v4 s0 u) : AtS p l e (Rm 6) s m args below meth c V 5 0 0 (QI V below args s post) 75 [(0, .ref (eA V 48)), (1, .int v1), (2, .int v2), (4, .int v4)] [.int s0] u := by
  rw [wj_X12_whose_75] at h
  refine a_istore_n C [(3, .int s0), (0, .ref (eA V 48)), (1, .int v1), (2, .int v2), (4, .int v4)] dX12_whose_75 rfl (by decide) rfl ?_
  refine a_iinc C (v4 + 1) 4 [(4, .int (v4 + 1)), (3, .int s0), (0, .ref (eA V 48)), (1, .int v1), (2, .int v2)] dX12_whose_76 rfl (congrArg (fun z => v4 + z) (show Int32.ofInt 1 = 1 by decide)) (by decide) rfl ?_
  refine a_goto C 19 dX12_whose_79 (by decide) ?_
  refine a_sub [2, 3, 4, 1, 0] rfl ?_
  exact hk19 _ _ _ _ _ h
set_option maxHeartbeats 4000000 in
set_option maxRecDepth 100000 in
theorem tj_X12_whose_74 {p : Program} {l : Launch} {e : Env} {s : State} {m : MethodId} {args : Array Value} {below : List Frame} {meth : Method} {c : Code} {V : VEn} {k19 : Int32 → Int32 → Int32 → Int32 → PoS → Prop} {post : Int32 → PoS → Prop} (C : CxS p s m args meth c V cX12_whose 5 RX12 (some .int)) (hk19 : ∀ (v1 : Int32) (v2 : Int32) (v3 : Int32) (v4 : Int32) (u : PoS), k19 v1 v2 v3 v4 u → AtS p l e (Rm 6) s m args below meth c V 5 0 0 (QI V below args s post) 19 [(0, .ref (eA V 48)), (1, .int v1), (2, .int v2), (3, .int v3), (4, .int v4)] [] u) (v1 : Int32) (v2 : Int32) (v4 : Int32) (u : PoS) (h : wj_X12_whose_74 k19 post v1 v2 v4 u) : AtS p l e (Rm 6) s m args below meth c V 5 0 0 (QI V below args s post) 74 [(0, .ref (eA V 48)), (1, .int v1), (2, .int v2), (4, .int v4)] [] u := by
  rw [wj_X12_whose_74] at h
  refine a_iconst C 0 dX12_whose_74 (by decide) ?_
  refine tj_X12_whose_75 C hk19 _ _ _ _ _ h
set_option maxHeartbeats 4000000 in
set_option maxRecDepth 100000 in
theorem tl_X12_whose_19 {p : Program} {l : Launch} {e : Env} {s : State} {m : MethodId} {args : Array Value} {below : List Frame} {meth : Method} {c : Code} {V : VEn} {k82 : Int32 → Int32 → Int32 → PoS → Prop} {post : Int32 → PoS → Prop} (C : CxS p s m args meth c V cX12_whose 5 RX12 (some .int)) (hk82 : ∀ (v1 : Int32) (v2 : Int32) (v3 : Int32) (u : PoS), k82 v1 v2 v3 u → AtS p l e (Rm 6) s m args below meth c V 5 0 0 (QI V below args s post) 82 [(0, .ref (eA V 48)), (1, .int v1), (2, .int v2), (3, .int v3)] [] u) : ∀ (n : Nat) (v1 : Int32) (v2 : Int32) (v3 : Int32) (v4 : Int32) (u : PoS), wl_X12_whose_19 k82 post n v1 v2 v3 v4 u → AtS p l e (Rm 6) s m args below meth c V 5 0 0 (QI V below args s post) 19 [(0, .ref (eA V 48)), (1, .int v1), (2, .int v2), (3, .int v3), (4, .int v4)] [] u := by
  intro n
  induction n with
  | zero => intro v1 v2 v3 v4 u h; exact h.elim
  | succ n ih =>
    intro v1 v2 v3 v4 u h
    rw [wl_X12_whose_19] at h
    refine a_iload C 4 dX12_whose_19 rfl ?_
    refine a_aload_n C 0 dX12_whose_21 rfl rfl ?_
    refine a_getr C 0 (r := 49) dX12_whose_22 (by decide) rfl rfl rfl ib_12 (by decide) bw_1022 ?_
    refine a_iconst C 5 dX12_whose_25 (by decide) ?_
    refine b_iald C 5 dX12_whose_26 (by decide) rfl (vp_lit (by decide)) (by decide) ?_
    refine a_icmp_ge C 82 dX12_whose_27 (by decide) (fun c5 => ?_) (fun c5 => ?_)
    · have h := h.1 c5
      refine a_sub [0, 1, 2, 3] rfl ?_
      exact hk82 _ _ _ _ h
    · have h := h.2 c5
      refine a_iload_n C 3 dX12_whose_30 rfl rfl ?_
      refine a_if_eq C 74 dX12_whose_31 (by decide) (fun c4 => ?_) (fun c4 => ?_)
      · have h := h.1 c4
        refine a_sub [0, 1, 2, 4] rfl ?_
        refine tj_X12_whose_74 C ih _ _ _ _ h
      · have h := h.2 c4
        refine a_aload_n C 0 dX12_whose_34 rfl rfl ?_
        refine a_iload_n C 2 dX12_whose_35 rfl rfl ?_
        refine a_aload_n C 0 dX12_whose_36 rfl rfl ?_
        refine a_getr C 0 (r := 49) dX12_whose_37 (by decide) rfl rfl rfl ib_12 (by decide) bw_1022 ?_
        refine a_sipush C 177 dX12_whose_40 (by decide) ?_
        refine a_iconst C 2 dX12_whose_43 (by decide) ?_
        refine a_iload C 4 dX12_whose_44 rfl ?_
        refine a_imul C dX12_whose_46 ?_
        refine a_iadd C dX12_whose_47 ?_
        refine b_iald C (Int32.toNatClampNeg (177 + (2 * v4))) dX12_whose_48 (by decide) rfl h.1 rfl ?_
        have h := h.2
        refine a_callVi C dX12_whose_49 (m_X12_wantsOf l V h) bw_1409 bw_1411 bw_81 bw_123 bw_1412 (by decide) rfl rfl np_X12_wantsOf rfl rfl (by decide) (Nat.le_of_ble_eq_true rfl) ⟨Nat.zero_le _, Nat.zero_le _⟩ (fun r1 u2 h => ?_)
        refine a_aload_n C 0 dX12_whose_52 rfl rfl ?_
        refine a_getr C 0 (r := 49) dX12_whose_53 (by decide) rfl rfl rfl ib_12 (by decide) bw_1022 ?_
        refine a_sipush C 177 dX12_whose_56 (by decide) ?_
        refine a_iconst C 2 dX12_whose_59 (by decide) ?_
        refine a_iload C 4 dX12_whose_60 rfl ?_
        refine a_imul C dX12_whose_62 ?_
        refine a_iadd C dX12_whose_63 ?_
        refine a_iconst C 1 dX12_whose_64 (by decide) ?_
        refine a_iadd C dX12_whose_65 ?_
        refine b_iald C (Int32.toNatClampNeg ((177 + (2 * v4)) + 1)) dX12_whose_66 (by decide) rfl h.1 rfl ?_
        have h := h.2
        refine a_icmp_ne C 74 dX12_whose_67 (by decide) (fun c3 => ?_) (fun c3 => ?_)
        · have h := h.1 c3
          refine a_sub [0, 1, 2, 4] rfl ?_
          refine tj_X12_whose_74 C ih _ _ _ _ h
        · have h := h.2 c3
          refine a_iconst C 1 dX12_whose_70 (by decide) ?_
          refine a_goto C 75 dX12_whose_71 (by decide) ?_
          refine a_sub [0, 1, 2, 4] rfl ?_
          refine tj_X12_whose_75 C ih _ _ _ _ _ h
set_option maxHeartbeats 4000000 in
set_option maxRecDepth 100000 in
theorem tj_X12_whose_94 {p : Program} {l : Launch} {e : Env} {s : State} {m : MethodId} {args : Array Value} {below : List Frame} {meth : Method} {c : Code} {V : VEn} {k4 : Int32 → Int32 → PoS → Prop} {post : Int32 → PoS → Prop} (C : CxS p s m args meth c V cX12_whose 5 RX12 (some .int)) (hk4 : ∀ (v1 : Int32) (v2 : Int32) (u : PoS), k4 v1 v2 u → AtS p l e (Rm 6) s m args below meth c V 5 0 0 (QI V below args s post) 4 [(0, .ref (eA V 48)), (1, .int v1), (2, .int v2)] [] u) (v2 : Int32) (s0 : Int32) (s1 : Int32) (u : PoS) (h : wj_X12_whose_94 k4 post v2 s0 s1 u) : AtS p l e (Rm 6) s m args below meth c V 5 0 0 (QI V below args s post) 94 [(0, .ref (eA V 48)), (2, .int v2)] [.int s0, .int s1] u := by
  rw [wj_X12_whose_94] at h
  refine a_ior C dX12_whose_94 ?_
  refine a_topi (fun x7 ex7 => ?_)
  have h := h x7 ex7
  refine a_istore_n C [(1, .int x7), (0, .ref (eA V 48)), (2, .int v2)] dX12_whose_95 rfl (by decide) rfl ?_
  refine a_iinc C (v2 + 1) 2 [(2, .int (v2 + 1)), (1, .int x7), (0, .ref (eA V 48))] dX12_whose_96 rfl (congrArg (fun z => v2 + z) (show Int32.ofInt 1 = 1 by decide)) (by decide) rfl ?_
  refine a_goto C 4 dX12_whose_99 (by decide) ?_
  refine a_sub [2, 1, 0] rfl ?_
  exact hk4 _ _ _ h
set_option maxHeartbeats 4000000 in
set_option maxRecDepth 100000 in
theorem tl_X12_whose_4 {p : Program} {l : Launch} {e : Env} {s : State} {m : MethodId} {args : Array Value} {below : List Frame} {meth : Method} {c : Code} {V : VEn} {post : Int32 → PoS → Prop} (C : CxS p s m args meth c V cX12_whose 5 RX12 (some .int)) : ∀ (n : Nat) (v1 : Int32) (v2 : Int32) (u : PoS), wl_X12_whose_4 post n v1 v2 u → AtS p l e (Rm 6) s m args below meth c V 5 0 0 (QI V below args s post) 4 [(0, .ref (eA V 48)), (1, .int v1), (2, .int v2)] [] u := by
  intro n
  induction n with
  | zero => intro v1 v2 u h; exact h.elim
  | succ n ih =>
    intro v1 v2 u h
    rw [wl_X12_whose_4] at h
    refine a_iload_n C 2 dX12_whose_4 rfl rfl ?_
    refine a_aload_n C 0 dX12_whose_5 rfl rfl ?_
    refine a_getr C 0 (r := 49) dX12_whose_6 (by decide) rfl rfl rfl ib_12 (by decide) bw_1022 ?_
    refine a_iconst C 1 dX12_whose_9 (by decide) ?_
    refine b_iald C 1 dX12_whose_10 (by decide) rfl (vp_lit (by decide)) (by decide) ?_
    refine a_icmp_ge C 102 dX12_whose_11 (by decide) (fun c9 => ?_) (fun c9 => ?_)
    · have h := h.1 c9
      refine a_iload_n C 1 dX12_whose_102 rfl rfl ?_
      exact a_iret C dX12_whose_103 h
    · have h := h.2 c9
      refine a_iconst C 1 dX12_whose_14 (by decide) ?_
      refine a_istore_n C [(3, .int 1), (0, .ref (eA V 48)), (1, .int v1), (2, .int v2)] dX12_whose_15 rfl (by decide) rfl ?_
      refine a_iconst C 0 dX12_whose_16 (by decide) ?_
      refine a_istore C [(4, .int 0), (3, .int 1), (0, .ref (eA V 48)), (1, .int v1), (2, .int v2)] dX12_whose_17 (by decide) rfl ?_
      refine a_sub [2, 3, 4, 1, 0] rfl ?_
      obtain ⟨n19, h⟩ := h
      refine tl_X12_whose_19 C (fun v16 v26 v36 u6 h => ?_) n19 _ _ _ _ _ h
      refine a_iload_n C 1 dX12_whose_82 rfl rfl ?_
      refine a_iload_n C 3 dX12_whose_83 rfl rfl ?_
      refine a_if_eq C 93 dX12_whose_84 (by decide) (fun c8 => ?_) (fun c8 => ?_)
      · have h := h.1 c8
        refine a_iconst C 0 dX12_whose_93 (by decide) ?_
        refine a_sub [0, 2] rfl ?_
        refine tj_X12_whose_94 C ih _ _ _ _ h
      · have h := h.2 c8
        refine a_iconst C 1 dX12_whose_87 (by decide) ?_
        refine a_iload_n C 2 dX12_whose_88 rfl rfl ?_
        refine a_ishl C dX12_whose_89 ?_
        refine a_goto C 94 dX12_whose_90 (by decide) ?_
        refine a_sub [0, 2] rfl ?_
        refine tj_X12_whose_94 C ih _ _ _ _ h
theorem np_X12_whose : yX12_whose.cls ≠ "java/lang/invoke/MethodHandle" ∧ yX12_whose.cls ≠ "java/lang/invoke/VarHandle" ∧ (parseMethodDescriptor yX12_whose.desc).map (fun d => d.parameters.length) = some 0 := by decide +kernel
set_option maxHeartbeats 4000000 in
set_option maxRecDepth 100000 in
theorem m_X12_whose (l : Launch) (V : VEn) {u : PoS} {post : Int32 → PoS → Prop} (h : wp_X12_whose  u post) : KI l V yX12_whose cX12_whose 5 .int 6 [.ref (eA V 48)] u post := by
  refine KI_of (by decide) (Nat.le_of_ble_eq_true rfl) (lv := [(0, .ref (eA V 48))]) rfl ?_
  intro p e s m args below meth c C
  rw [wp_X12_whose] at h
  refine a_iconst C 0 dX12_whose_0 (by decide) ?_
  refine a_istore_n C [(1, .int 0), (0, .ref (eA V 48))] dX12_whose_1 rfl (by decide) rfl ?_
  refine a_iconst C 0 dX12_whose_2 (by decide) ?_
  refine a_istore_n C [(2, .int 0), (1, .int 0), (0, .ref (eA V 48))] dX12_whose_3 rfl (by decide) rfl ?_
  refine a_sub [2, 1, 0] rfl ?_
  obtain ⟨n4, h⟩ := h
  refine tl_X12_whose_4 C n4 _ _ _ h

/-! RainOnTheOneModel.image()I -/
def wp_X12_image (u : PoS) (post : Int32 → PoS → Prop) : Prop := wp_X12_copyA u (fun (u2 : PoS) => post (gI u2 49 6) u2)
theorem np_X12_image : yX12_image.cls ≠ "java/lang/invoke/MethodHandle" ∧ yX12_image.cls ≠ "java/lang/invoke/VarHandle" ∧ (parseMethodDescriptor yX12_image.desc).map (fun d => d.parameters.length) = some 0 := by decide +kernel
set_option maxHeartbeats 4000000 in
set_option maxRecDepth 100000 in
theorem m_X12_image (l : Launch) (V : VEn) {u : PoS} {post : Int32 → PoS → Prop} (h : wp_X12_image  u post) : KI l V yX12_image cX12_image 1 .int 1 [.ref (eA V 48)] u post := by
  refine KI_of (by decide) (Nat.le_of_ble_eq_true rfl) (lv := [(0, .ref (eA V 48))]) rfl ?_
  intro p e s m args below meth c C
  rw [wp_X12_image] at h
  refine a_aload_n C 0 dX12_image_0 rfl rfl ?_
  refine a_getr C 0 (r := 49) dX12_image_1 (by decide) rfl rfl rfl ib_12 (by decide) bw_1022 ?_
  refine a_aload_n C 0 dX12_image_4 rfl rfl ?_
  refine a_getr C 1 (r := 50) dX12_image_5 (by decide) rfl rfl rfl ib_12 (by decide) bw_1023 ?_
  refine a_callSv C dX12_image_8 (m_X12_copyA l V h) bw_1019 bw_1020 bw_123 bw_1021 np_X12_copyA rfl rfl (by decide) (Nat.le_of_ble_eq_true rfl) ⟨Nat.zero_le _, Nat.zero_le _⟩ (fun u2 h => ?_)
  refine a_aload_n C 0 dX12_image_11 rfl rfl ?_
  refine a_getr C 0 (r := 49) dX12_image_12 (by decide) rfl rfl rfl ib_12 (by decide) bw_1022 ?_
  refine a_bipush C 6 dX12_image_15 (by decide) ?_
  refine b_iald C 6 dX12_image_17 (by decide) rfl (vp_lit (by decide)) (by decide) ?_
  exact a_iret C dX12_image_18 h

/-! RainOnTheOneModel.back()I -/
def wp_X12_back (u : PoS) (post : Int32 → PoS → Prop) : Prop := wp_X12_copyB u (fun (u2 : PoS) => post (gI u2 49 6) u2)
theorem np_X12_back : yX12_back.cls ≠ "java/lang/invoke/MethodHandle" ∧ yX12_back.cls ≠ "java/lang/invoke/VarHandle" ∧ (parseMethodDescriptor yX12_back.desc).map (fun d => d.parameters.length) = some 0 := by decide +kernel
set_option maxHeartbeats 4000000 in
set_option maxRecDepth 100000 in
theorem m_X12_back (l : Launch) (V : VEn) {u : PoS} {post : Int32 → PoS → Prop} (h : wp_X12_back  u post) : KI l V yX12_back cX12_back 1 .int 1 [.ref (eA V 48)] u post := by
  refine KI_of (by decide) (Nat.le_of_ble_eq_true rfl) (lv := [(0, .ref (eA V 48))]) rfl ?_
  intro p e s m args below meth c C
  rw [wp_X12_back] at h
  refine a_aload_n C 0 dX12_back_0 rfl rfl ?_
  refine a_getr C 1 (r := 50) dX12_back_1 (by decide) rfl rfl rfl ib_12 (by decide) bw_1023 ?_
  refine a_aload_n C 0 dX12_back_4 rfl rfl ?_
  refine a_getr C 0 (r := 49) dX12_back_5 (by decide) rfl rfl rfl ib_12 (by decide) bw_1022 ?_
  refine a_callSv C dX12_back_8 (m_X12_copyB l V h) bw_1019 bw_1020 bw_123 bw_1021 np_X12_copyB rfl rfl (by decide) (Nat.le_of_ble_eq_true rfl) ⟨Nat.zero_le _, Nat.zero_le _⟩ (fun u2 h => ?_)
  refine a_aload_n C 0 dX12_back_11 rfl rfl ?_
  refine a_getr C 0 (r := 49) dX12_back_12 (by decide) rfl rfl rfl ib_12 (by decide) bw_1022 ?_
  refine a_bipush C 6 dX12_back_15 (by decide) ?_
  refine b_iald C 6 dX12_back_17 (by decide) rfl (vp_lit (by decide)) (by decide) ?_
  exact a_iret C dX12_back_18 h

/-! RainOnTheOneModel.about(I)I -/
def wp_X12_about (a0 : Int32) (u : PoS) (post : Int32 → PoS → Prop) : Prop := wp_X12_isIn a0 0 5 u (fun (r1 : Int32) (u2 : PoS) => ((r1 = 0 → ((¬ a0 = 6 → post (-2) u2) ∧ (a0 = 6 → post (gI u2 48 4) u2))) ∧ (¬ r1 = 0 → vp_in a0 3703 ∧ post (gI u2 49 (Int32.toNatClampNeg a0)) u2)))
theorem np_X12_about : yX12_about.cls ≠ "java/lang/invoke/MethodHandle" ∧ yX12_about.cls ≠ "java/lang/invoke/VarHandle" ∧ (parseMethodDescriptor yX12_about.desc).map (fun d => d.parameters.length) = some 1 := by decide +kernel
set_option maxHeartbeats 4000000 in
set_option maxRecDepth 100000 in
theorem m_X12_about (l : Launch) (V : VEn) {a0 : Int32} {u : PoS} {post : Int32 → PoS → Prop} (h : wp_X12_about a0 u post) : KI l V yX12_about cX12_about 2 .int 1 [.ref (eA V 48), .int a0] u post := by
  refine KI_of (by decide) (Nat.le_of_ble_eq_true rfl) (lv := [(0, .ref (eA V 48)), (1, .int a0)]) rfl ?_
  intro p e s m args below meth c C
  rw [wp_X12_about] at h
  refine a_iload_n C 1 dX12_about_0 rfl rfl ?_
  refine a_iconst C 0 dX12_about_1 (by decide) ?_
  refine a_iconst C 5 dX12_about_2 (by decide) ?_
  refine a_callSi C dX12_about_3 (m_X12_isIn l V h) bw_1147 bw_1148 bw_123 bw_1149 np_X12_isIn rfl rfl (by decide) (Nat.le_of_ble_eq_true rfl) ⟨Nat.zero_le _, Nat.zero_le _⟩ (fun r1 u2 h => ?_)
  refine a_if_eq C 18 dX12_about_6 (by decide) (fun c4 => ?_) (fun c4 => ?_)
  · have h := h.1 c4
    refine a_iload_n C 1 dX12_about_18 rfl rfl ?_
    refine a_bipush C 6 dX12_about_19 (by decide) ?_
    refine a_icmp_ne C 31 dX12_about_21 (by decide) (fun c3 => ?_) (fun c3 => ?_)
    · have h := h.1 c3
      refine a_bipush C (-2) dX12_about_31 (by decide) ?_
      exact a_iret C dX12_about_33 h
    · have h := h.2 c3
      refine a_aload_n C 0 dX12_about_24 rfl rfl ?_
      refine a_geti C 4 dX12_about_25 (by decide) rfl rfl rfl ib_12 (by decide) bw_1026 ?_
      refine a_goto C 33 dX12_about_28 (by decide) ?_
      exact a_iret C dX12_about_33 h
  · have h := h.2 c4
    refine a_aload_n C 0 dX12_about_9 rfl rfl ?_
    refine a_getr C 0 (r := 49) dX12_about_10 (by decide) rfl rfl rfl ib_12 (by decide) bw_1022 ?_
    refine a_iload_n C 1 dX12_about_13 rfl rfl ?_
    refine b_iald C (Int32.toNatClampNeg a0) dX12_about_14 (by decide) rfl h.1 rfl ?_
    have h := h.2
    refine a_goto C 33 dX12_about_15 (by decide) ?_
    exact a_iret C dX12_about_33 h








theorem np_X6_readProduct : yX6_readProduct.cls ≠ "java/lang/invoke/MethodHandle" ∧ yX6_readProduct.cls ≠ "java/lang/invoke/VarHandle" ∧ (parseMethodDescriptor yX6_readProduct.desc).map (fun d => d.parameters.length) = some 0 := by decide +kernel
theorem np_X6_readSum : yX6_readSum.cls ≠ "java/lang/invoke/MethodHandle" ∧ yX6_readSum.cls ≠ "java/lang/invoke/VarHandle" ∧ (parseMethodDescriptor yX6_readSum.desc).map (fun d => d.parameters.length) = some 0 := by decide +kernel
theorem np_X6_readBoth : yX6_readBoth.cls ≠ "java/lang/invoke/MethodHandle" ∧ yX6_readBoth.cls ≠ "java/lang/invoke/VarHandle" ∧ (parseMethodDescriptor yX6_readBoth.desc).map (fun d => d.parameters.length) = some 0 := by decide +kernel
theorem np_X6_readEither : yX6_readEither.cls ≠ "java/lang/invoke/MethodHandle" ∧ yX6_readEither.cls ≠ "java/lang/invoke/VarHandle" ∧ (parseMethodDescriptor yX6_readEither.desc).map (fun d => d.parameters.length) = some 0 := by decide +kernel
theorem np_X6_readChoice : yX6_readChoice.cls ≠ "java/lang/invoke/MethodHandle" ∧ yX6_readChoice.cls ≠ "java/lang/invoke/VarHandle" ∧ (parseMethodDescriptor yX6_readChoice.desc).map (fun d => d.parameters.length) = some 0 := by decide +kernel
theorem np_X6_readInner : yX6_readInner.cls ≠ "java/lang/invoke/MethodHandle" ∧ yX6_readInner.cls ≠ "java/lang/invoke/VarHandle" ∧ (parseMethodDescriptor yX6_readInner.desc).map (fun d => d.parameters.length) = some 0 := by decide +kernel
theorem np_X6_readOne : yX6_readOne.cls ≠ "java/lang/invoke/MethodHandle" ∧ yX6_readOne.cls ≠ "java/lang/invoke/VarHandle" ∧ (parseMethodDescriptor yX6_readOne.desc).map (fun d => d.parameters.length) = some 0 := by decide +kernel
theorem np_X6_readAsk : yX6_readAsk.cls ≠ "java/lang/invoke/MethodHandle" ∧ yX6_readAsk.cls ≠ "java/lang/invoke/VarHandle" ∧ (parseMethodDescriptor yX6_readAsk.desc).map (fun d => d.parameters.length) = some 0 := by decide +kernel
/-! RainOnTheOne$Reader.readProduct()V -/
def wj_X6_readProduct_31 (rc_X6_readSum : PoS → (PoS → Prop) → Prop) (rc_X6_readOne : PoS → (PoS → Prop) → Prop) (rc_X6_readAsk : PoS → (PoS → Prop) → Prop) (k6 : Int32 → PoS → Prop) (post : PoS → Prop) (v1 : Int32) (u : PoS) : Prop := ∀ x3 : Int32, x3 = (gI u 27 7) → wp_X6_advance u (fun (u5 : PoS) => rc_X6_readOne u5 (fun (u7 : PoS) => ∃ i8, i8 < 4 ∧ gR u7 27 8 = 7 + i8 ∧ wp_X3_addCode i8 x3 0 u7 (fun (u10 : PoS) => k6 (v1 + 1) u10)))
def wl_X6_readProduct_6 (rc_X6_readSum : PoS → (PoS → Prop) → Prop) (rc_X6_readOne : PoS → (PoS → Prop) → Prop) (rc_X6_readAsk : PoS → (PoS → Prop) → Prop) (post : PoS → Prop) : Nat → Int32 → PoS → Prop
  | 0, _, _ => False
  | n + 1, v1, u => ((300 ≤ v1 → post u) ∧ (¬ 300 ≤ v1 → (((gI u 27 7) = 34 → wj_X6_readProduct_31 rc_X6_readSum rc_X6_readOne rc_X6_readAsk (wl_X6_readProduct_6 rc_X6_readSum rc_X6_readOne rc_X6_readAsk post n) post v1 u) ∧ (¬ (gI u 27 7) = 34 → ((¬ (gI u 27 7) = 35 → post u) ∧ ((gI u 27 7) = 35 → wj_X6_readProduct_31 rc_X6_readSum rc_X6_readOne rc_X6_readAsk (wl_X6_readProduct_6 rc_X6_readSum rc_X6_readOne rc_X6_readAsk post n) post v1 u))))))
def wp_X6_readProduct (rc_X6_readSum : PoS → (PoS → Prop) → Prop) (rc_X6_readOne : PoS → (PoS → Prop) → Prop) (rc_X6_readAsk : PoS → (PoS → Prop) → Prop) (u : PoS) (post : PoS → Prop) : Prop := rc_X6_readOne u (fun (u2 : PoS) => (∃ n6, wl_X6_readProduct_6 rc_X6_readSum rc_X6_readOne rc_X6_readAsk post n6 0 u2))
set_option maxHeartbeats 4000000 in
set_option maxRecDepth 100000 in
theorem tj_X6_readProduct_31 {p : Program} {l : Launch} {e : Env} {s : State} {m : MethodId} {args : Array Value} {below : List Frame} {meth : Method} {c : Code} {V : VEn} {D : Nat} {rc_X6_readSum : PoS → (PoS → Prop) → Prop} {rc_X6_readOne : PoS → (PoS → Prop) → Prop} {rc_X6_readAsk : PoS → (PoS → Prop) → Prop} {k6 : Int32 → PoS → Prop} {post : PoS → Prop} (C : CxS p s m args meth c V cX6_readProduct 3 RX6 none) (hD : 1 ≤ D) (hrc_X6_readSum : ∀ (u : PoS) (post : PoS → Prop), rc_X6_readSum  u post → KV l V yX6_readSum cX6_readSum 3 D [.ref (eA V 27)] u post) (hrc_X6_readOne : ∀ (u : PoS) (post : PoS → Prop), rc_X6_readOne  u post → KV l V yX6_readOne cX6_readOne 1 D [.ref (eA V 27)] u post) (hrc_X6_readAsk : ∀ (u : PoS) (post : PoS → Prop), rc_X6_readAsk  u post → KV l V yX6_readAsk cX6_readAsk 2 D [.ref (eA V 27)] u post) (hk6 : ∀ (v1 : Int32) (u : PoS), k6 v1 u → AtS p l e (Rm (D + 1)) s m args below meth c V 3 0 0 (QV V below args s post) 6 [(0, .ref (eA V 27)), (1, .int v1)] [] u) (v1 : Int32) (u : PoS) (h : wj_X6_readProduct_31 rc_X6_readSum rc_X6_readOne rc_X6_readAsk k6 post v1 u) : AtS p l e (Rm (D + 1)) s m args below meth c V 3 0 0 (QV V below args s post) 31 [(0, .ref (eA V 27)), (1, .int v1)] [] u := by
  rw [wj_X6_readProduct_31] at h
  refine a_aload_n C 0 dX6_readProduct_31 rfl rfl ?_
  refine a_geti C 7 dX6_readProduct_32 (by decide) rfl rfl rfl ib_6 (by decide) bw_299 ?_
  refine a_topi (fun x3 ex3 => ?_)
  have h := h x3 ex3
  refine a_istore_n C [(2, .int x3), (0, .ref (eA V 27)), (1, .int v1)] dX6_readProduct_35 rfl (by decide) rfl ?_
  refine a_aload_n C 1 dX6_readProduct_36 rfl rfl ?_
  refine a_callVv C dX6_readProduct_37 (m_X6_advance l V h) bw_538 bw_540 bw_6 bw_119 bw_541 (by decide) rfl rfl np_X6_advance rfl rfl (rm_ok (by omega) (by decide)) (Nat.le_of_ble_eq_true rfl) ⟨Nat.zero_le _, Nat.zero_le _⟩ (fun u5 h => ?_)
  refine a_aload_n C 1 dX6_readProduct_40 rfl rfl ?_
  refine a_callVv C dX6_readProduct_41 (hrc_X6_readOne _ _ h) bw_550 bw_552 bw_9 bw_119 bw_553 (by decide) rfl rfl np_X6_readOne rfl rfl (rm_ok (by omega) (by decide)) (Nat.le_of_ble_eq_true rfl) ⟨Nat.zero_le _, Nat.zero_le _⟩ (fun u7 h => ?_)
  refine a_aload_n C 1 dX6_readProduct_44 rfl rfl ?_
  refine a_getd C 8 dX6_readProduct_45 (by decide) rfl rfl rfl ib_6 (by decide) bw_300 ?_
  obtain ⟨i8, hi8, hri8, h⟩ := h
  rw [hri8]
  refine a_iload_n C 0 dX6_readProduct_48 rfl rfl ?_
  refine a_iconst C 0 dX6_readProduct_49 (by decide) ?_
  refine a_callVv C dX6_readProduct_50 (m_X3_addCode l V hi8 h) bw_559 bw_560 bw_561 bw_117 bw_562 (by have := hi8; omega) (lw_obj hi8) rfl np_X3_addCode rfl rfl (rm_ok (by omega) (by decide)) (Nat.le_of_ble_eq_true rfl) ⟨Nat.zero_le _, Nat.zero_le _⟩ (fun u10 h => ?_)
  refine a_iinc C (v1 + 1) 2 [(1, .int (v1 + 1)), (2, .int x3), (0, .ref (eA V 27))] dX6_readProduct_53 rfl (congrArg (fun z => v1 + z) (show Int32.ofInt 1 = 1 by decide)) (by decide) rfl ?_
  refine a_goto C 6 dX6_readProduct_56 (by decide) ?_
  refine a_sub [2, 0] rfl ?_
  exact hk6 _ _ h
set_option maxHeartbeats 4000000 in
set_option maxRecDepth 100000 in
theorem tl_X6_readProduct_6 {p : Program} {l : Launch} {e : Env} {s : State} {m : MethodId} {args : Array Value} {below : List Frame} {meth : Method} {c : Code} {V : VEn} {D : Nat} {rc_X6_readSum : PoS → (PoS → Prop) → Prop} {rc_X6_readOne : PoS → (PoS → Prop) → Prop} {rc_X6_readAsk : PoS → (PoS → Prop) → Prop} {post : PoS → Prop} (C : CxS p s m args meth c V cX6_readProduct 3 RX6 none) (hD : 1 ≤ D) (hrc_X6_readSum : ∀ (u : PoS) (post : PoS → Prop), rc_X6_readSum  u post → KV l V yX6_readSum cX6_readSum 3 D [.ref (eA V 27)] u post) (hrc_X6_readOne : ∀ (u : PoS) (post : PoS → Prop), rc_X6_readOne  u post → KV l V yX6_readOne cX6_readOne 1 D [.ref (eA V 27)] u post) (hrc_X6_readAsk : ∀ (u : PoS) (post : PoS → Prop), rc_X6_readAsk  u post → KV l V yX6_readAsk cX6_readAsk 2 D [.ref (eA V 27)] u post) : ∀ (n : Nat) (v1 : Int32) (u : PoS), wl_X6_readProduct_6 rc_X6_readSum rc_X6_readOne rc_X6_readAsk post n v1 u → AtS p l e (Rm (D + 1)) s m args below meth c V 3 0 0 (QV V below args s post) 6 [(0, .ref (eA V 27)), (1, .int v1)] [] u := by
  intro n
  induction n with
  | zero => intro v1 u h; exact h.elim
  | succ n ih =>
    intro v1 u h
    rw [wl_X6_readProduct_6] at h
    refine a_iload_n C 1 dX6_readProduct_6 rfl rfl ?_
    refine a_sipush C 300 dX6_readProduct_7 (by decide) ?_
    refine a_icmp_ge C 59 dX6_readProduct_10 (by decide) (fun c13 => ?_) (fun c13 => ?_)
    · have h := h.1 c13
      exact a_vret C dX6_readProduct_59 h
    · have h := h.2 c13
      refine a_aload_n C 0 dX6_readProduct_13 rfl rfl ?_
      refine a_geti C 7 dX6_readProduct_14 (by decide) rfl rfl rfl ib_6 (by decide) bw_299 ?_
      refine a_bipush C 34 dX6_readProduct_17 (by decide) ?_
      refine a_icmp_eq C 31 dX6_readProduct_19 (by decide) (fun c12 => ?_) (fun c12 => ?_)
      · have h := h.1 c12
        refine tj_X6_readProduct_31 C hD hrc_X6_readSum hrc_X6_readOne hrc_X6_readAsk ih _ _ h
      · have h := h.2 c12
        refine a_aload_n C 0 dX6_readProduct_22 rfl rfl ?_
        refine a_geti C 7 dX6_readProduct_23 (by decide) rfl rfl rfl ib_6 (by decide) bw_299 ?_
        refine a_bipush C 35 dX6_readProduct_26 (by decide) ?_
        refine a_icmp_ne C 59 dX6_readProduct_28 (by decide) (fun c11 => ?_) (fun c11 => ?_)
        · have h := h.1 c11
          exact a_vret C dX6_readProduct_59 h
        · have h := h.2 c11
          refine tj_X6_readProduct_31 C hD hrc_X6_readSum hrc_X6_readOne hrc_X6_readAsk ih _ _ h
set_option maxHeartbeats 4000000 in
set_option maxRecDepth 100000 in
theorem m_X6_readProduct (l : Launch) (V : VEn) {D : Nat} {rc_X6_readSum : PoS → (PoS → Prop) → Prop} {rc_X6_readOne : PoS → (PoS → Prop) → Prop} {rc_X6_readAsk : PoS → (PoS → Prop) → Prop} (hD : 1 ≤ D) (hrc_X6_readSum : ∀ (u : PoS) (post : PoS → Prop), rc_X6_readSum  u post → KV l V yX6_readSum cX6_readSum 3 D [.ref (eA V 27)] u post) (hrc_X6_readOne : ∀ (u : PoS) (post : PoS → Prop), rc_X6_readOne  u post → KV l V yX6_readOne cX6_readOne 1 D [.ref (eA V 27)] u post) (hrc_X6_readAsk : ∀ (u : PoS) (post : PoS → Prop), rc_X6_readAsk  u post → KV l V yX6_readAsk cX6_readAsk 2 D [.ref (eA V 27)] u post) {u : PoS} {post : PoS → Prop} (h : wp_X6_readProduct rc_X6_readSum rc_X6_readOne rc_X6_readAsk u post) : KV l V yX6_readProduct cX6_readProduct 3 (D + 1) [.ref (eA V 27)] u post := by
  refine KV_of (by decide) (Nat.le_of_ble_eq_true rfl) (lv := [(0, .ref (eA V 27))]) rfl ?_
  intro p e s m args below meth c C
  rw [wp_X6_readProduct] at h
  refine a_aload_n C 0 dX6_readProduct_0 rfl rfl ?_
  refine a_callVv C dX6_readProduct_1 (hrc_X6_readOne _ _ h) bw_550 bw_552 bw_9 bw_119 bw_553 (by decide) rfl rfl np_X6_readOne rfl rfl (rm_ok (by omega) (by decide)) (Nat.le_of_ble_eq_true rfl) ⟨Nat.zero_le _, Nat.zero_le _⟩ (fun u2 h => ?_)
  refine a_iconst C 0 dX6_readProduct_4 (by decide) ?_
  refine a_istore_n C [(1, .int 0), (0, .ref (eA V 27))] dX6_readProduct_5 rfl (by decide) rfl ?_
  refine a_sub [1, 0] rfl ?_
  obtain ⟨n6, h⟩ := h
  refine tl_X6_readProduct_6 C hD hrc_X6_readSum hrc_X6_readOne hrc_X6_readAsk n6 _ _ h

/-! RainOnTheOne$Reader.readSum()V -/
def wj_X6_readSum_31 (rc_X6_readSum : PoS → (PoS → Prop) → Prop) (rc_X6_readOne : PoS → (PoS → Prop) → Prop) (rc_X6_readAsk : PoS → (PoS → Prop) → Prop) (k6 : Int32 → PoS → Prop) (post : PoS → Prop) (v1 : Int32) (u : PoS) : Prop := ∀ x3 : Int32, x3 = (gI u 27 7) → wp_X6_advance u (fun (u5 : PoS) => wp_X6_readProduct rc_X6_readSum rc_X6_readOne rc_X6_readAsk u5 (fun (u7 : PoS) => ∃ i8, i8 < 4 ∧ gR u7 27 8 = 7 + i8 ∧ wp_X3_addCode i8 x3 0 u7 (fun (u10 : PoS) => k6 (v1 + 1) u10)))
def wl_X6_readSum_6 (rc_X6_readSum : PoS → (PoS → Prop) → Prop) (rc_X6_readOne : PoS → (PoS → Prop) → Prop) (rc_X6_readAsk : PoS → (PoS → Prop) → Prop) (post : PoS → Prop) : Nat → Int32 → PoS → Prop
  | 0, _, _ => False
  | n + 1, v1, u => ((300 ≤ v1 → post u) ∧ (¬ 300 ≤ v1 → (((gI u 27 7) = 32 → wj_X6_readSum_31 rc_X6_readSum rc_X6_readOne rc_X6_readAsk (wl_X6_readSum_6 rc_X6_readSum rc_X6_readOne rc_X6_readAsk post n) post v1 u) ∧ (¬ (gI u 27 7) = 32 → ((¬ (gI u 27 7) = 33 → post u) ∧ ((gI u 27 7) = 33 → wj_X6_readSum_31 rc_X6_readSum rc_X6_readOne rc_X6_readAsk (wl_X6_readSum_6 rc_X6_readSum rc_X6_readOne rc_X6_readAsk post n) post v1 u))))))
def wb_X6_readSum (rc_X6_readSum : PoS → (PoS → Prop) → Prop) (rc_X6_readOne : PoS → (PoS → Prop) → Prop) (rc_X6_readAsk : PoS → (PoS → Prop) → Prop) (u : PoS) (post : PoS → Prop) : Prop := wp_X6_readProduct rc_X6_readSum rc_X6_readOne rc_X6_readAsk u (fun (u2 : PoS) => (∃ n6, wl_X6_readSum_6 rc_X6_readSum rc_X6_readOne rc_X6_readAsk post n6 0 u2))
set_option maxHeartbeats 4000000 in
set_option maxRecDepth 100000 in
theorem tj_X6_readSum_31 {p : Program} {l : Launch} {e : Env} {s : State} {m : MethodId} {args : Array Value} {below : List Frame} {meth : Method} {c : Code} {V : VEn} {D : Nat} {rc_X6_readSum : PoS → (PoS → Prop) → Prop} {rc_X6_readOne : PoS → (PoS → Prop) → Prop} {rc_X6_readAsk : PoS → (PoS → Prop) → Prop} {k6 : Int32 → PoS → Prop} {post : PoS → Prop} (C : CxS p s m args meth c V cX6_readSum 3 RX6 none) (hD : 1 ≤ D) (hrc_X6_readSum : ∀ (u : PoS) (post : PoS → Prop), rc_X6_readSum  u post → KV l V yX6_readSum cX6_readSum 3 D [.ref (eA V 27)] u post) (hrc_X6_readOne : ∀ (u : PoS) (post : PoS → Prop), rc_X6_readOne  u post → KV l V yX6_readOne cX6_readOne 1 D [.ref (eA V 27)] u post) (hrc_X6_readAsk : ∀ (u : PoS) (post : PoS → Prop), rc_X6_readAsk  u post → KV l V yX6_readAsk cX6_readAsk 2 D [.ref (eA V 27)] u post) (hk6 : ∀ (v1 : Int32) (u : PoS), k6 v1 u → AtS p l e (Rm (D + 6)) s m args below meth c V 3 0 0 (QV V below args s post) 6 [(0, .ref (eA V 27)), (1, .int v1)] [] u) (v1 : Int32) (u : PoS) (h : wj_X6_readSum_31 rc_X6_readSum rc_X6_readOne rc_X6_readAsk k6 post v1 u) : AtS p l e (Rm (D + 6)) s m args below meth c V 3 0 0 (QV V below args s post) 31 [(0, .ref (eA V 27)), (1, .int v1)] [] u := by
  rw [wj_X6_readSum_31] at h
  refine a_aload_n C 0 dX6_readSum_31 rfl rfl ?_
  refine a_geti C 7 dX6_readSum_32 (by decide) rfl rfl rfl ib_6 (by decide) bw_299 ?_
  refine a_topi (fun x3 ex3 => ?_)
  have h := h x3 ex3
  refine a_istore_n C [(2, .int x3), (0, .ref (eA V 27)), (1, .int v1)] dX6_readSum_35 rfl (by decide) rfl ?_
  refine a_aload_n C 1 dX6_readSum_36 rfl rfl ?_
  refine a_callVv C dX6_readSum_37 (m_X6_advance l V h) bw_538 bw_540 bw_6 bw_119 bw_541 (by decide) rfl rfl np_X6_advance rfl rfl (rm_ok (by omega) (by decide)) (Nat.le_of_ble_eq_true rfl) ⟨Nat.zero_le _, Nat.zero_le _⟩ (fun u5 h => ?_)
  refine a_aload_n C 1 dX6_readSum_40 rfl rfl ?_
  refine a_callVv C dX6_readSum_41 (m_X6_readProduct l V hD hrc_X6_readSum hrc_X6_readOne hrc_X6_readAsk h) bw_546 bw_548 bw_8 bw_119 bw_549 (by decide) rfl rfl np_X6_readProduct rfl rfl (rm_ok (by omega) (by decide)) (Nat.le_of_ble_eq_true rfl) ⟨Nat.zero_le _, Nat.zero_le _⟩ (fun u7 h => ?_)
  refine a_aload_n C 1 dX6_readSum_44 rfl rfl ?_
  refine a_getd C 8 dX6_readSum_45 (by decide) rfl rfl rfl ib_6 (by decide) bw_300 ?_
  obtain ⟨i8, hi8, hri8, h⟩ := h
  rw [hri8]
  refine a_iload_n C 0 dX6_readSum_48 rfl rfl ?_
  refine a_iconst C 0 dX6_readSum_49 (by decide) ?_
  refine a_callVv C dX6_readSum_50 (m_X3_addCode l V hi8 h) bw_559 bw_560 bw_561 bw_117 bw_562 (by have := hi8; omega) (lw_obj hi8) rfl np_X3_addCode rfl rfl (rm_ok (by omega) (by decide)) (Nat.le_of_ble_eq_true rfl) ⟨Nat.zero_le _, Nat.zero_le _⟩ (fun u10 h => ?_)
  refine a_iinc C (v1 + 1) 2 [(1, .int (v1 + 1)), (2, .int x3), (0, .ref (eA V 27))] dX6_readSum_53 rfl (congrArg (fun z => v1 + z) (show Int32.ofInt 1 = 1 by decide)) (by decide) rfl ?_
  refine a_goto C 6 dX6_readSum_56 (by decide) ?_
  refine a_sub [2, 0] rfl ?_
  exact hk6 _ _ h
set_option maxHeartbeats 4000000 in
set_option maxRecDepth 100000 in
theorem tl_X6_readSum_6 {p : Program} {l : Launch} {e : Env} {s : State} {m : MethodId} {args : Array Value} {below : List Frame} {meth : Method} {c : Code} {V : VEn} {D : Nat} {rc_X6_readSum : PoS → (PoS → Prop) → Prop} {rc_X6_readOne : PoS → (PoS → Prop) → Prop} {rc_X6_readAsk : PoS → (PoS → Prop) → Prop} {post : PoS → Prop} (C : CxS p s m args meth c V cX6_readSum 3 RX6 none) (hD : 1 ≤ D) (hrc_X6_readSum : ∀ (u : PoS) (post : PoS → Prop), rc_X6_readSum  u post → KV l V yX6_readSum cX6_readSum 3 D [.ref (eA V 27)] u post) (hrc_X6_readOne : ∀ (u : PoS) (post : PoS → Prop), rc_X6_readOne  u post → KV l V yX6_readOne cX6_readOne 1 D [.ref (eA V 27)] u post) (hrc_X6_readAsk : ∀ (u : PoS) (post : PoS → Prop), rc_X6_readAsk  u post → KV l V yX6_readAsk cX6_readAsk 2 D [.ref (eA V 27)] u post) : ∀ (n : Nat) (v1 : Int32) (u : PoS), wl_X6_readSum_6 rc_X6_readSum rc_X6_readOne rc_X6_readAsk post n v1 u → AtS p l e (Rm (D + 6)) s m args below meth c V 3 0 0 (QV V below args s post) 6 [(0, .ref (eA V 27)), (1, .int v1)] [] u := by
  intro n
  induction n with
  | zero => intro v1 u h; exact h.elim
  | succ n ih =>
    intro v1 u h
    rw [wl_X6_readSum_6] at h
    refine a_iload_n C 1 dX6_readSum_6 rfl rfl ?_
    refine a_sipush C 300 dX6_readSum_7 (by decide) ?_
    refine a_icmp_ge C 59 dX6_readSum_10 (by decide) (fun c13 => ?_) (fun c13 => ?_)
    · have h := h.1 c13
      exact a_vret C dX6_readSum_59 h
    · have h := h.2 c13
      refine a_aload_n C 0 dX6_readSum_13 rfl rfl ?_
      refine a_geti C 7 dX6_readSum_14 (by decide) rfl rfl rfl ib_6 (by decide) bw_299 ?_
      refine a_bipush C 32 dX6_readSum_17 (by decide) ?_
      refine a_icmp_eq C 31 dX6_readSum_19 (by decide) (fun c12 => ?_) (fun c12 => ?_)
      · have h := h.1 c12
        refine tj_X6_readSum_31 C hD hrc_X6_readSum hrc_X6_readOne hrc_X6_readAsk ih _ _ h
      · have h := h.2 c12
        refine a_aload_n C 0 dX6_readSum_22 rfl rfl ?_
        refine a_geti C 7 dX6_readSum_23 (by decide) rfl rfl rfl ib_6 (by decide) bw_299 ?_
        refine a_bipush C 33 dX6_readSum_26 (by decide) ?_
        refine a_icmp_ne C 59 dX6_readSum_28 (by decide) (fun c11 => ?_) (fun c11 => ?_)
        · have h := h.1 c11
          exact a_vret C dX6_readSum_59 h
        · have h := h.2 c11
          refine tj_X6_readSum_31 C hD hrc_X6_readSum hrc_X6_readOne hrc_X6_readAsk ih _ _ h
set_option maxHeartbeats 4000000 in
set_option maxRecDepth 100000 in
theorem mb_X6_readSum (l : Launch) (V : VEn) {D : Nat} {rc_X6_readSum : PoS → (PoS → Prop) → Prop} {rc_X6_readOne : PoS → (PoS → Prop) → Prop} {rc_X6_readAsk : PoS → (PoS → Prop) → Prop} (hD : 1 ≤ D) (hrc_X6_readSum : ∀ (u : PoS) (post : PoS → Prop), rc_X6_readSum  u post → KV l V yX6_readSum cX6_readSum 3 D [.ref (eA V 27)] u post) (hrc_X6_readOne : ∀ (u : PoS) (post : PoS → Prop), rc_X6_readOne  u post → KV l V yX6_readOne cX6_readOne 1 D [.ref (eA V 27)] u post) (hrc_X6_readAsk : ∀ (u : PoS) (post : PoS → Prop), rc_X6_readAsk  u post → KV l V yX6_readAsk cX6_readAsk 2 D [.ref (eA V 27)] u post) {u : PoS} {post : PoS → Prop} (h : wb_X6_readSum rc_X6_readSum rc_X6_readOne rc_X6_readAsk u post) : KV l V yX6_readSum cX6_readSum 3 (D + 6) [.ref (eA V 27)] u post := by
  refine KV_of (by decide) (Nat.le_of_ble_eq_true rfl) (lv := [(0, .ref (eA V 27))]) rfl ?_
  intro p e s m args below meth c C
  rw [wb_X6_readSum] at h
  refine a_aload_n C 0 dX6_readSum_0 rfl rfl ?_
  refine a_callVv C dX6_readSum_1 (m_X6_readProduct l V hD hrc_X6_readSum hrc_X6_readOne hrc_X6_readAsk h) bw_546 bw_548 bw_8 bw_119 bw_549 (by decide) rfl rfl np_X6_readProduct rfl rfl (rm_ok (by omega) (by decide)) (Nat.le_of_ble_eq_true rfl) ⟨Nat.zero_le _, Nat.zero_le _⟩ (fun u2 h => ?_)
  refine a_iconst C 0 dX6_readSum_4 (by decide) ?_
  refine a_istore_n C [(1, .int 0), (0, .ref (eA V 27))] dX6_readSum_5 rfl (by decide) rfl ?_
  refine a_sub [1, 0] rfl ?_
  obtain ⟨n6, h⟩ := h
  refine tl_X6_readSum_6 C hD hrc_X6_readSum hrc_X6_readOne hrc_X6_readAsk n6 _ _ h

/-! RainOnTheOne$Reader.readBoth()V -/
def wl_X6_readBoth_6 (rc_X6_readSum : PoS → (PoS → Prop) → Prop) (rc_X6_readOne : PoS → (PoS → Prop) → Prop) (rc_X6_readAsk : PoS → (PoS → Prop) → Prop) (post : PoS → Prop) : Nat → Int32 → PoS → Prop
  | 0, _, _ => False
  | n + 1, v1, u => ((300 ≤ v1 → post u) ∧ (¬ 300 ≤ v1 → ((¬ (gI u 27 7) = 27 → post u) ∧ ((gI u 27 7) = 27 → wp_X6_advance u (fun (u4 : PoS) => rc_X6_readAsk u4 (fun (u6 : PoS) => ∃ i7, i7 < 4 ∧ gR u6 27 8 = 7 + i7 ∧ wp_X3_addCode i7 27 0 u6 (fun (u9 : PoS) => wl_X6_readBoth_6 rc_X6_readSum rc_X6_readOne rc_X6_readAsk post n (v1 + 1) u9)))))))
def wp_X6_readBoth (rc_X6_readSum : PoS → (PoS → Prop) → Prop) (rc_X6_readOne : PoS → (PoS → Prop) → Prop) (rc_X6_readAsk : PoS → (PoS → Prop) → Prop) (u : PoS) (post : PoS → Prop) : Prop := rc_X6_readAsk u (fun (u2 : PoS) => (∃ n6, wl_X6_readBoth_6 rc_X6_readSum rc_X6_readOne rc_X6_readAsk post n6 0 u2))
set_option maxHeartbeats 4000000 in
set_option maxRecDepth 100000 in
theorem tl_X6_readBoth_6 {p : Program} {l : Launch} {e : Env} {s : State} {m : MethodId} {args : Array Value} {below : List Frame} {meth : Method} {c : Code} {V : VEn} {D : Nat} {rc_X6_readSum : PoS → (PoS → Prop) → Prop} {rc_X6_readOne : PoS → (PoS → Prop) → Prop} {rc_X6_readAsk : PoS → (PoS → Prop) → Prop} {post : PoS → Prop} (C : CxS p s m args meth c V cX6_readBoth 2 RX6 none) (hD : 1 ≤ D) (hrc_X6_readSum : ∀ (u : PoS) (post : PoS → Prop), rc_X6_readSum  u post → KV l V yX6_readSum cX6_readSum 3 D [.ref (eA V 27)] u post) (hrc_X6_readOne : ∀ (u : PoS) (post : PoS → Prop), rc_X6_readOne  u post → KV l V yX6_readOne cX6_readOne 1 D [.ref (eA V 27)] u post) (hrc_X6_readAsk : ∀ (u : PoS) (post : PoS → Prop), rc_X6_readAsk  u post → KV l V yX6_readAsk cX6_readAsk 2 D [.ref (eA V 27)] u post) : ∀ (n : Nat) (v1 : Int32) (u : PoS), wl_X6_readBoth_6 rc_X6_readSum rc_X6_readOne rc_X6_readAsk post n v1 u → AtS p l e (Rm (D + 1)) s m args below meth c V 2 0 0 (QV V below args s post) 6 [(0, .ref (eA V 27)), (1, .int v1)] [] u := by
  intro n
  induction n with
  | zero => intro v1 u h; exact h.elim
  | succ n ih =>
    intro v1 u h
    rw [wl_X6_readBoth_6] at h
    refine a_iload_n C 1 dX6_readBoth_6 rfl rfl ?_
    refine a_sipush C 300 dX6_readBoth_7 (by decide) ?_
    refine a_icmp_ge C 46 dX6_readBoth_10 (by decide) (fun c11 => ?_) (fun c11 => ?_)
    · have h := h.1 c11
      exact a_vret C dX6_readBoth_46 h
    · have h := h.2 c11
      refine a_aload_n C 0 dX6_readBoth_13 rfl rfl ?_
      refine a_geti C 7 dX6_readBoth_14 (by decide) rfl rfl rfl ib_6 (by decide) bw_299 ?_
      refine a_bipush C 27 dX6_readBoth_17 (by decide) ?_
      refine a_icmp_ne C 46 dX6_readBoth_19 (by decide) (fun c10 => ?_) (fun c10 => ?_)
      · have h := h.1 c10
        exact a_vret C dX6_readBoth_46 h
      · have h := h.2 c10
        refine a_aload_n C 0 dX6_readBoth_22 rfl rfl ?_
        refine a_callVv C dX6_readBoth_23 (m_X6_advance l V h) bw_538 bw_540 bw_6 bw_119 bw_541 (by decide) rfl rfl np_X6_advance rfl rfl (rm_ok (by omega) (by decide)) (Nat.le_of_ble_eq_true rfl) ⟨Nat.zero_le _, Nat.zero_le _⟩ (fun u4 h => ?_)
        refine a_aload_n C 0 dX6_readBoth_26 rfl rfl ?_
        refine a_callVv C dX6_readBoth_27 (hrc_X6_readAsk _ _ h) bw_594 bw_596 bw_18 bw_119 bw_597 (by decide) rfl rfl np_X6_readAsk rfl rfl (rm_ok (by omega) (by decide)) (Nat.le_of_ble_eq_true rfl) ⟨Nat.zero_le _, Nat.zero_le _⟩ (fun u6 h => ?_)
        refine a_aload_n C 0 dX6_readBoth_30 rfl rfl ?_
        refine a_getd C 8 dX6_readBoth_31 (by decide) rfl rfl rfl ib_6 (by decide) bw_300 ?_
        obtain ⟨i7, hi7, hri7, h⟩ := h
        rw [hri7]
        refine a_bipush C 27 dX6_readBoth_34 (by decide) ?_
        refine a_iconst C 0 dX6_readBoth_36 (by decide) ?_
        refine a_callVv C dX6_readBoth_37 (m_X3_addCode l V hi7 h) bw_559 bw_560 bw_561 bw_117 bw_562 (by have := hi7; omega) (lw_obj hi7) rfl np_X3_addCode rfl rfl (rm_ok (by omega) (by decide)) (Nat.le_of_ble_eq_true rfl) ⟨Nat.zero_le _, Nat.zero_le _⟩ (fun u9 h => ?_)
        refine a_iinc C (v1 + 1) 1 [(1, .int (v1 + 1)), (0, .ref (eA V 27))] dX6_readBoth_40 rfl (congrArg (fun z => v1 + z) (show Int32.ofInt 1 = 1 by decide)) (by decide) rfl ?_
        refine a_goto C 6 dX6_readBoth_43 (by decide) ?_
        refine a_sub [1, 0] rfl ?_
        exact ih _ _ h
set_option maxHeartbeats 4000000 in
set_option maxRecDepth 100000 in
theorem m_X6_readBoth (l : Launch) (V : VEn) {D : Nat} {rc_X6_readSum : PoS → (PoS → Prop) → Prop} {rc_X6_readOne : PoS → (PoS → Prop) → Prop} {rc_X6_readAsk : PoS → (PoS → Prop) → Prop} (hD : 1 ≤ D) (hrc_X6_readSum : ∀ (u : PoS) (post : PoS → Prop), rc_X6_readSum  u post → KV l V yX6_readSum cX6_readSum 3 D [.ref (eA V 27)] u post) (hrc_X6_readOne : ∀ (u : PoS) (post : PoS → Prop), rc_X6_readOne  u post → KV l V yX6_readOne cX6_readOne 1 D [.ref (eA V 27)] u post) (hrc_X6_readAsk : ∀ (u : PoS) (post : PoS → Prop), rc_X6_readAsk  u post → KV l V yX6_readAsk cX6_readAsk 2 D [.ref (eA V 27)] u post) {u : PoS} {post : PoS → Prop} (h : wp_X6_readBoth rc_X6_readSum rc_X6_readOne rc_X6_readAsk u post) : KV l V yX6_readBoth cX6_readBoth 2 (D + 1) [.ref (eA V 27)] u post := by
  refine KV_of (by decide) (Nat.le_of_ble_eq_true rfl) (lv := [(0, .ref (eA V 27))]) rfl ?_
  intro p e s m args below meth c C
  rw [wp_X6_readBoth] at h
  refine a_aload_n C 0 dX6_readBoth_0 rfl rfl ?_
  refine a_callVv C dX6_readBoth_1 (hrc_X6_readAsk _ _ h) bw_594 bw_596 bw_18 bw_119 bw_597 (by decide) rfl rfl np_X6_readAsk rfl rfl (rm_ok (by omega) (by decide)) (Nat.le_of_ble_eq_true rfl) ⟨Nat.zero_le _, Nat.zero_le _⟩ (fun u2 h => ?_)
  refine a_iconst C 0 dX6_readBoth_4 (by decide) ?_
  refine a_istore_n C [(1, .int 0), (0, .ref (eA V 27))] dX6_readBoth_5 rfl (by decide) rfl ?_
  refine a_sub [1, 0] rfl ?_
  obtain ⟨n6, h⟩ := h
  refine tl_X6_readBoth_6 C hD hrc_X6_readSum hrc_X6_readOne hrc_X6_readAsk n6 _ _ h

/-! RainOnTheOne$Reader.readEither()V -/
def wl_X6_readEither_6 (rc_X6_readSum : PoS → (PoS → Prop) → Prop) (rc_X6_readOne : PoS → (PoS → Prop) → Prop) (rc_X6_readAsk : PoS → (PoS → Prop) → Prop) (post : PoS → Prop) : Nat → Int32 → PoS → Prop
  | 0, _, _ => False
  | n + 1, v1, u => ((300 ≤ v1 → post u) ∧ (¬ 300 ≤ v1 → ((¬ (gI u 27 7) = 26 → post u) ∧ ((gI u 27 7) = 26 → wp_X6_advance u (fun (u4 : PoS) => wp_X6_readBoth rc_X6_readSum rc_X6_readOne rc_X6_readAsk u4 (fun (u6 : PoS) => ∃ i7, i7 < 4 ∧ gR u6 27 8 = 7 + i7 ∧ wp_X3_addCode i7 26 0 u6 (fun (u9 : PoS) => wl_X6_readEither_6 rc_X6_readSum rc_X6_readOne rc_X6_readAsk post n (v1 + 1) u9)))))))
def wp_X6_readEither (rc_X6_readSum : PoS → (PoS → Prop) → Prop) (rc_X6_readOne : PoS → (PoS → Prop) → Prop) (rc_X6_readAsk : PoS → (PoS → Prop) → Prop) (u : PoS) (post : PoS → Prop) : Prop := wp_X6_readBoth rc_X6_readSum rc_X6_readOne rc_X6_readAsk u (fun (u2 : PoS) => (∃ n6, wl_X6_readEither_6 rc_X6_readSum rc_X6_readOne rc_X6_readAsk post n6 0 u2))
set_option maxHeartbeats 4000000 in
set_option maxRecDepth 100000 in
theorem tl_X6_readEither_6 {p : Program} {l : Launch} {e : Env} {s : State} {m : MethodId} {args : Array Value} {below : List Frame} {meth : Method} {c : Code} {V : VEn} {D : Nat} {rc_X6_readSum : PoS → (PoS → Prop) → Prop} {rc_X6_readOne : PoS → (PoS → Prop) → Prop} {rc_X6_readAsk : PoS → (PoS → Prop) → Prop} {post : PoS → Prop} (C : CxS p s m args meth c V cX6_readEither 2 RX6 none) (hD : 1 ≤ D) (hrc_X6_readSum : ∀ (u : PoS) (post : PoS → Prop), rc_X6_readSum  u post → KV l V yX6_readSum cX6_readSum 3 D [.ref (eA V 27)] u post) (hrc_X6_readOne : ∀ (u : PoS) (post : PoS → Prop), rc_X6_readOne  u post → KV l V yX6_readOne cX6_readOne 1 D [.ref (eA V 27)] u post) (hrc_X6_readAsk : ∀ (u : PoS) (post : PoS → Prop), rc_X6_readAsk  u post → KV l V yX6_readAsk cX6_readAsk 2 D [.ref (eA V 27)] u post) : ∀ (n : Nat) (v1 : Int32) (u : PoS), wl_X6_readEither_6 rc_X6_readSum rc_X6_readOne rc_X6_readAsk post n v1 u → AtS p l e (Rm (D + 2)) s m args below meth c V 2 0 0 (QV V below args s post) 6 [(0, .ref (eA V 27)), (1, .int v1)] [] u := by
  intro n
  induction n with
  | zero => intro v1 u h; exact h.elim
  | succ n ih =>
    intro v1 u h
    rw [wl_X6_readEither_6] at h
    refine a_iload_n C 1 dX6_readEither_6 rfl rfl ?_
    refine a_sipush C 300 dX6_readEither_7 (by decide) ?_
    refine a_icmp_ge C 46 dX6_readEither_10 (by decide) (fun c11 => ?_) (fun c11 => ?_)
    · have h := h.1 c11
      exact a_vret C dX6_readEither_46 h
    · have h := h.2 c11
      refine a_aload_n C 0 dX6_readEither_13 rfl rfl ?_
      refine a_geti C 7 dX6_readEither_14 (by decide) rfl rfl rfl ib_6 (by decide) bw_299 ?_
      refine a_bipush C 26 dX6_readEither_17 (by decide) ?_
      refine a_icmp_ne C 46 dX6_readEither_19 (by decide) (fun c10 => ?_) (fun c10 => ?_)
      · have h := h.1 c10
        exact a_vret C dX6_readEither_46 h
      · have h := h.2 c10
        refine a_aload_n C 0 dX6_readEither_22 rfl rfl ?_
        refine a_callVv C dX6_readEither_23 (m_X6_advance l V h) bw_538 bw_540 bw_6 bw_119 bw_541 (by decide) rfl rfl np_X6_advance rfl rfl (rm_ok (by omega) (by decide)) (Nat.le_of_ble_eq_true rfl) ⟨Nat.zero_le _, Nat.zero_le _⟩ (fun u4 h => ?_)
        refine a_aload_n C 0 dX6_readEither_26 rfl rfl ?_
        refine a_callVv C dX6_readEither_27 (m_X6_readBoth l V hD hrc_X6_readSum hrc_X6_readOne hrc_X6_readAsk h) bw_590 bw_592 bw_17 bw_119 bw_593 (by decide) rfl rfl np_X6_readBoth rfl rfl (rm_ok (by omega) (by decide)) (Nat.le_of_ble_eq_true rfl) ⟨Nat.zero_le _, Nat.zero_le _⟩ (fun u6 h => ?_)
        refine a_aload_n C 0 dX6_readEither_30 rfl rfl ?_
        refine a_getd C 8 dX6_readEither_31 (by decide) rfl rfl rfl ib_6 (by decide) bw_300 ?_
        obtain ⟨i7, hi7, hri7, h⟩ := h
        rw [hri7]
        refine a_bipush C 26 dX6_readEither_34 (by decide) ?_
        refine a_iconst C 0 dX6_readEither_36 (by decide) ?_
        refine a_callVv C dX6_readEither_37 (m_X3_addCode l V hi7 h) bw_559 bw_560 bw_561 bw_117 bw_562 (by have := hi7; omega) (lw_obj hi7) rfl np_X3_addCode rfl rfl (rm_ok (by omega) (by decide)) (Nat.le_of_ble_eq_true rfl) ⟨Nat.zero_le _, Nat.zero_le _⟩ (fun u9 h => ?_)
        refine a_iinc C (v1 + 1) 1 [(1, .int (v1 + 1)), (0, .ref (eA V 27))] dX6_readEither_40 rfl (congrArg (fun z => v1 + z) (show Int32.ofInt 1 = 1 by decide)) (by decide) rfl ?_
        refine a_goto C 6 dX6_readEither_43 (by decide) ?_
        refine a_sub [1, 0] rfl ?_
        exact ih _ _ h
set_option maxHeartbeats 4000000 in
set_option maxRecDepth 100000 in
theorem m_X6_readEither (l : Launch) (V : VEn) {D : Nat} {rc_X6_readSum : PoS → (PoS → Prop) → Prop} {rc_X6_readOne : PoS → (PoS → Prop) → Prop} {rc_X6_readAsk : PoS → (PoS → Prop) → Prop} (hD : 1 ≤ D) (hrc_X6_readSum : ∀ (u : PoS) (post : PoS → Prop), rc_X6_readSum  u post → KV l V yX6_readSum cX6_readSum 3 D [.ref (eA V 27)] u post) (hrc_X6_readOne : ∀ (u : PoS) (post : PoS → Prop), rc_X6_readOne  u post → KV l V yX6_readOne cX6_readOne 1 D [.ref (eA V 27)] u post) (hrc_X6_readAsk : ∀ (u : PoS) (post : PoS → Prop), rc_X6_readAsk  u post → KV l V yX6_readAsk cX6_readAsk 2 D [.ref (eA V 27)] u post) {u : PoS} {post : PoS → Prop} (h : wp_X6_readEither rc_X6_readSum rc_X6_readOne rc_X6_readAsk u post) : KV l V yX6_readEither cX6_readEither 2 (D + 2) [.ref (eA V 27)] u post := by
  refine KV_of (by decide) (Nat.le_of_ble_eq_true rfl) (lv := [(0, .ref (eA V 27))]) rfl ?_
  intro p e s m args below meth c C
  rw [wp_X6_readEither] at h
  refine a_aload_n C 0 dX6_readEither_0 rfl rfl ?_
  refine a_callVv C dX6_readEither_1 (m_X6_readBoth l V hD hrc_X6_readSum hrc_X6_readOne hrc_X6_readAsk h) bw_590 bw_592 bw_17 bw_119 bw_593 (by decide) rfl rfl np_X6_readBoth rfl rfl (rm_ok (by omega) (by decide)) (Nat.le_of_ble_eq_true rfl) ⟨Nat.zero_le _, Nat.zero_le _⟩ (fun u2 h => ?_)
  refine a_iconst C 0 dX6_readEither_4 (by decide) ?_
  refine a_istore_n C [(1, .int 0), (0, .ref (eA V 27))] dX6_readEither_5 rfl (by decide) rfl ?_
  refine a_sub [1, 0] rfl ?_
  obtain ⟨n6, h⟩ := h
  refine tl_X6_readEither_6 C hD hrc_X6_readSum hrc_X6_readOne hrc_X6_readAsk n6 _ _ h

/-! RainOnTheOne$Reader.readChoice()V -/
def wp_X6_readChoice (rc_X6_readSum : PoS → (PoS → Prop) → Prop) (rc_X6_readOne : PoS → (PoS → Prop) → Prop) (rc_X6_readAsk : PoS → (PoS → Prop) → Prop) (u : PoS) (post : PoS → Prop) : Prop := wp_X6_readEither rc_X6_readSum rc_X6_readOne rc_X6_readAsk u (fun (u2 : PoS) => wp_X6_expect 23 u2 (fun (u4 : PoS) => ∃ i5, i5 < 4 ∧ gR u4 27 8 = 7 + i5 ∧ ∀ x6 : Int32, x6 = (gI u4 (7 + i5) 5) → ∃ i7, i7 < 4 ∧ gR u4 27 8 = 7 + i7 ∧ wp_X3_addCode i7 47 0 u4 (fun (u9 : PoS) => rc_X6_readSum u9 (fun (u11 : PoS) => wp_X6_expect 24 u11 (fun (u13 : PoS) => ∃ i14, i14 < 4 ∧ gR u13 27 8 = 7 + i14 ∧ ∀ x15 : Int32, x15 = (gI u13 (7 + i14) 5) → ∃ i16, i16 < 4 ∧ gR u13 27 8 = 7 + i16 ∧ wp_X3_addCode i16 46 0 u13 (fun (u18 : PoS) => ∃ i19, i19 < 4 ∧ gR u18 27 8 = 7 + i19 ∧ wp_X3_skipToHere i19 x6 u18 (fun (u21 : PoS) => rc_X6_readSum u21 (fun (u23 : PoS) => wp_X6_expect 25 u23 (fun (u25 : PoS) => ∃ i26, i26 < 4 ∧ gR u25 27 8 = 7 + i26 ∧ wp_X3_skipToHere i26 x15 u25 (fun (u28 : PoS) => post u28))))))))))
set_option maxHeartbeats 4000000 in
set_option maxRecDepth 100000 in
theorem m_X6_readChoice (l : Launch) (V : VEn) {D : Nat} {rc_X6_readSum : PoS → (PoS → Prop) → Prop} {rc_X6_readOne : PoS → (PoS → Prop) → Prop} {rc_X6_readAsk : PoS → (PoS → Prop) → Prop} (hD : 1 ≤ D) (hrc_X6_readSum : ∀ (u : PoS) (post : PoS → Prop), rc_X6_readSum  u post → KV l V yX6_readSum cX6_readSum 3 D [.ref (eA V 27)] u post) (hrc_X6_readOne : ∀ (u : PoS) (post : PoS → Prop), rc_X6_readOne  u post → KV l V yX6_readOne cX6_readOne 1 D [.ref (eA V 27)] u post) (hrc_X6_readAsk : ∀ (u : PoS) (post : PoS → Prop), rc_X6_readAsk  u post → KV l V yX6_readAsk cX6_readAsk 2 D [.ref (eA V 27)] u post) {u : PoS} {post : PoS → Prop} (h : wp_X6_readChoice rc_X6_readSum rc_X6_readOne rc_X6_readAsk u post) : KV l V yX6_readChoice cX6_readChoice 3 (D + 3) [.ref (eA V 27)] u post := by
  refine KV_of (by decide) (Nat.le_of_ble_eq_true rfl) (lv := [(0, .ref (eA V 27))]) rfl ?_
  intro p e s m args below meth c C
  rw [wp_X6_readChoice] at h
  refine a_aload_n C 0 dX6_readChoice_0 rfl rfl ?_
  refine a_callVv C dX6_readChoice_1 (m_X6_readEither l V hD hrc_X6_readSum hrc_X6_readOne hrc_X6_readAsk h) bw_586 bw_588 bw_16 bw_119 bw_589 (by decide) rfl rfl np_X6_readEither rfl rfl (rm_ok (by omega) (by decide)) (Nat.le_of_ble_eq_true rfl) ⟨Nat.zero_le _, Nat.zero_le _⟩ (fun u2 h => ?_)
  refine a_aload_n C 0 dX6_readChoice_4 rfl rfl ?_
  refine a_bipush C 23 dX6_readChoice_5 (by decide) ?_
  refine a_callVv C dX6_readChoice_7 (m_X6_expect l V h) bw_578 bw_580 bw_14 bw_119 bw_581 (by decide) rfl rfl np_X6_expect rfl rfl (rm_ok (by omega) (by decide)) (Nat.le_of_ble_eq_true rfl) ⟨Nat.zero_le _, Nat.zero_le _⟩ (fun u4 h => ?_)
  refine a_aload_n C 0 dX6_readChoice_10 rfl rfl ?_
  refine a_getd C 8 dX6_readChoice_11 (by decide) rfl rfl rfl ib_6 (by decide) bw_300 ?_
  obtain ⟨i5, hi5, hri5, h⟩ := h
  rw [hri5]
  refine a_geti C 5 dX6_readChoice_14 (by have := hi5; omega) (lw_obj hi5) rfl rfl ib_3 (by decide) bw_250 ?_
  refine a_topi (fun x6 ex6 => ?_)
  have h := h x6 ex6
  refine a_istore_n C [(1, .int x6), (0, .ref (eA V 27))] dX6_readChoice_17 rfl (by decide) rfl ?_
  refine a_aload_n C 1 dX6_readChoice_18 rfl rfl ?_
  refine a_getd C 8 dX6_readChoice_19 (by decide) rfl rfl rfl ib_6 (by decide) bw_300 ?_
  obtain ⟨i7, hi7, hri7, h⟩ := h
  rw [hri7]
  refine a_bipush C 47 dX6_readChoice_22 (by decide) ?_
  refine a_iconst C 0 dX6_readChoice_24 (by decide) ?_
  refine a_callVv C dX6_readChoice_25 (m_X3_addCode l V hi7 h) bw_559 bw_560 bw_561 bw_117 bw_562 (by have := hi7; omega) (lw_obj hi7) rfl np_X3_addCode rfl rfl (rm_ok (by omega) (by decide)) (Nat.le_of_ble_eq_true rfl) ⟨Nat.zero_le _, Nat.zero_le _⟩ (fun u9 h => ?_)
  refine a_aload_n C 1 dX6_readChoice_28 rfl rfl ?_
  refine a_callVv C dX6_readChoice_29 (hrc_X6_readSum _ _ h) bw_542 bw_544 bw_7 bw_119 bw_545 (by decide) rfl rfl np_X6_readSum rfl rfl (rm_ok (by omega) (by decide)) (Nat.le_of_ble_eq_true rfl) ⟨Nat.zero_le _, Nat.zero_le _⟩ (fun u11 h => ?_)
  refine a_aload_n C 1 dX6_readChoice_32 rfl rfl ?_
  refine a_bipush C 24 dX6_readChoice_33 (by decide) ?_
  refine a_callVv C dX6_readChoice_35 (m_X6_expect l V h) bw_578 bw_580 bw_14 bw_119 bw_581 (by decide) rfl rfl np_X6_expect rfl rfl (rm_ok (by omega) (by decide)) (Nat.le_of_ble_eq_true rfl) ⟨Nat.zero_le _, Nat.zero_le _⟩ (fun u13 h => ?_)
  refine a_aload_n C 1 dX6_readChoice_38 rfl rfl ?_
  refine a_getd C 8 dX6_readChoice_39 (by decide) rfl rfl rfl ib_6 (by decide) bw_300 ?_
  obtain ⟨i14, hi14, hri14, h⟩ := h
  rw [hri14]
  refine a_geti C 5 dX6_readChoice_42 (by have := hi14; omega) (lw_obj hi14) rfl rfl ib_3 (by decide) bw_250 ?_
  refine a_topi (fun x15 ex15 => ?_)
  have h := h x15 ex15
  refine a_istore_n C [(2, .int x15), (1, .int x6), (0, .ref (eA V 27))] dX6_readChoice_45 rfl (by decide) rfl ?_
  refine a_aload_n C 2 dX6_readChoice_46 rfl rfl ?_
  refine a_getd C 8 dX6_readChoice_47 (by decide) rfl rfl rfl ib_6 (by decide) bw_300 ?_
  obtain ⟨i16, hi16, hri16, h⟩ := h
  rw [hri16]
  refine a_bipush C 46 dX6_readChoice_50 (by decide) ?_
  refine a_iconst C 0 dX6_readChoice_52 (by decide) ?_
  refine a_callVv C dX6_readChoice_53 (m_X3_addCode l V hi16 h) bw_559 bw_560 bw_561 bw_117 bw_562 (by have := hi16; omega) (lw_obj hi16) rfl np_X3_addCode rfl rfl (rm_ok (by omega) (by decide)) (Nat.le_of_ble_eq_true rfl) ⟨Nat.zero_le _, Nat.zero_le _⟩ (fun u18 h => ?_)
  refine a_aload_n C 2 dX6_readChoice_56 rfl rfl ?_
  refine a_getd C 8 dX6_readChoice_57 (by decide) rfl rfl rfl ib_6 (by decide) bw_300 ?_
  obtain ⟨i19, hi19, hri19, h⟩ := h
  rw [hri19]
  refine a_iload_n C 1 dX6_readChoice_60 rfl rfl ?_
  refine a_callVv C dX6_readChoice_61 (m_X3_skipToHere l V hi19 h) bw_601 bw_602 bw_603 bw_117 bw_604 (by have := hi19; omega) (lw_obj hi19) rfl np_X3_skipToHere rfl rfl (rm_ok (by omega) (by decide)) (Nat.le_of_ble_eq_true rfl) ⟨Nat.zero_le _, Nat.zero_le _⟩ (fun u21 h => ?_)
  refine a_aload_n C 2 dX6_readChoice_64 rfl rfl ?_
  refine a_callVv C dX6_readChoice_65 (hrc_X6_readSum _ _ h) bw_542 bw_544 bw_7 bw_119 bw_545 (by decide) rfl rfl np_X6_readSum rfl rfl (rm_ok (by omega) (by decide)) (Nat.le_of_ble_eq_true rfl) ⟨Nat.zero_le _, Nat.zero_le _⟩ (fun u23 h => ?_)
  refine a_aload_n C 2 dX6_readChoice_68 rfl rfl ?_
  refine a_bipush C 25 dX6_readChoice_69 (by decide) ?_
  refine a_callVv C dX6_readChoice_71 (m_X6_expect l V h) bw_578 bw_580 bw_14 bw_119 bw_581 (by decide) rfl rfl np_X6_expect rfl rfl (rm_ok (by omega) (by decide)) (Nat.le_of_ble_eq_true rfl) ⟨Nat.zero_le _, Nat.zero_le _⟩ (fun u25 h => ?_)
  refine a_aload_n C 2 dX6_readChoice_74 rfl rfl ?_
  refine a_getd C 8 dX6_readChoice_75 (by decide) rfl rfl rfl ib_6 (by decide) bw_300 ?_
  obtain ⟨i26, hi26, hri26, h⟩ := h
  rw [hri26]
  refine a_iload_n C 0 dX6_readChoice_78 rfl rfl ?_
  refine a_callVv C dX6_readChoice_79 (m_X3_skipToHere l V hi26 h) bw_601 bw_602 bw_603 bw_117 bw_604 (by have := hi26; omega) (lw_obj hi26) rfl np_X3_skipToHere rfl rfl (rm_ok (by omega) (by decide)) (Nat.le_of_ble_eq_true rfl) ⟨Nat.zero_le _, Nat.zero_le _⟩ (fun u28 h => ?_)
  exact a_vret C dX6_readChoice_82 h

/-! RainOnTheOne$Reader.readInner()V -/
def wj_X6_readInner_136 (rc_X6_readSum : PoS → (PoS → Prop) → Prop) (rc_X6_readOne : PoS → (PoS → Prop) → Prop) (rc_X6_readAsk : PoS → (PoS → Prop) → Prop) (post : PoS → Prop) (u : PoS) : Prop := ∀ z7 : PoS, z7 = pI u 27 9 ((gI u 27 9) - 1) → post z7
def wp_X6_readInner (rc_X6_readSum : PoS → (PoS → Prop) → Prop) (rc_X6_readOne : PoS → (PoS → Prop) → Prop) (rc_X6_readAsk : PoS → (PoS → Prop) → Prop) (u : PoS) (post : PoS → Prop) : Prop := ∀ x1 : Int32, x1 = (gI u 27 7) → (((gI u 27 9) < 8 → ∀ z2 : PoS, z2 = pI u 27 9 ((gI u 27 9) + 1) → wp_X6_advance z2 (fun (u4 : PoS) => ((¬ x1 = 36 → ((¬ x1 = 33 → ((¬ x1 = 18 → ((¬ x1 = 17 → wp_X6_readChoice rc_X6_readSum rc_X6_readOne rc_X6_readAsk u4 (fun (u6 : PoS) => wj_X6_readInner_136 rc_X6_readSum rc_X6_readOne rc_X6_readAsk post  u6)) ∧ (x1 = 17 → rc_X6_readOne u4 (fun (u9 : PoS) => wp_X6_expect 21 u9 (fun (u11 : PoS) => rc_X6_readOne u11 (fun (u13 : PoS) => ∃ i14, i14 < 4 ∧ gR u13 27 8 = 7 + i14 ∧ wp_X3_addCode i14 17 0 u13 (fun (u16 : PoS) => wj_X6_readInner_136 rc_X6_readSum rc_X6_readOne rc_X6_readAsk post  u16))))))) ∧ (x1 = 18 → rc_X6_readOne u4 (fun (u19 : PoS) => ∃ i20, i20 < 4 ∧ gR u19 27 8 = 7 + i20 ∧ wp_X3_addCode i20 18 0 u19 (fun (u22 : PoS) => wj_X6_readInner_136 rc_X6_readSum rc_X6_readOne rc_X6_readAsk post  u22))))) ∧ (x1 = 33 → rc_X6_readOne u4 (fun (u25 : PoS) => ∃ i26, i26 < 4 ∧ gR u25 27 8 = 7 + i26 ∧ wp_X3_addCode i26 45 0 u25 (fun (u28 : PoS) => wj_X6_readInner_136 rc_X6_readSum rc_X6_readOne rc_X6_readAsk post  u28))))) ∧ (x1 = 36 → rc_X6_readSum u4 (fun (u31 : PoS) => wp_X6_expect 37 u31 (fun (u33 : PoS) => wj_X6_readInner_136 rc_X6_readSum rc_X6_readOne rc_X6_readAsk post  u33)))))) ∧ (¬ (gI u 27 9) < 8 → wp_X6_blame 3 u (fun (u36 : PoS) => post u36)))
set_option maxHeartbeats 4000000 in
set_option maxRecDepth 100000 in
theorem tj_X6_readInner_136 {p : Program} {l : Launch} {e : Env} {s : State} {m : MethodId} {args : Array Value} {below : List Frame} {meth : Method} {c : Code} {V : VEn} {D : Nat} {rc_X6_readSum : PoS → (PoS → Prop) → Prop} {rc_X6_readOne : PoS → (PoS → Prop) → Prop} {rc_X6_readAsk : PoS → (PoS → Prop) → Prop} {post : PoS → Prop} (C : CxS p s m args meth c V cX6_readInner 2 RX6 none) (hD : 1 ≤ D) (hrc_X6_readSum : ∀ (u : PoS) (post : PoS → Prop), rc_X6_readSum  u post → KV l V yX6_readSum cX6_readSum 3 D [.ref (eA V 27)] u post) (hrc_X6_readOne : ∀ (u : PoS) (post : PoS → Prop), rc_X6_readOne  u post → KV l V yX6_readOne cX6_readOne 1 D [.ref (eA V 27)] u post) (hrc_X6_readAsk : ∀ (u : PoS) (post : PoS → Prop), rc_X6_readAsk  u post → KV l V yX6_readAsk cX6_readAsk 2 D [.ref (eA V 27)] u post) (u : PoS) (h : wj_X6_readInner_136 rc_X6_readSum rc_X6_readOne rc_X6_readAsk post  u) : AtS p l e (Rm (D + 4)) s m args below meth c V 2 0 0 (QV V below args s post) 136 [(0, .ref (eA V 27))] [] u := by
  rw [wj_X6_readInner_136] at h
  refine a_aload_n C 0 dX6_readInner_136 rfl rfl ?_
  refine a_dup C dX6_readInner_137 rfl ?_
  refine a_geti C 9 dX6_readInner_138 (by decide) rfl rfl rfl ib_6 (by decide) bw_301 ?_
  refine a_iconst C 1 dX6_readInner_141 (by decide) ?_
  refine a_isub C dX6_readInner_142 ?_
  refine a_puti C (ty := .int) 9 dX6_readInner_143 (by decide) rfl rfl rfl ib_6 (by decide) bw_301 tyX6 tyX6_ok nmX6 rfl (by decide +kernel) rfl rfl ?_
  refine a_topu (fun z7 ez7 => ?_)
  have h := h z7 ez7
  exact a_vret C dX6_readInner_146 h
set_option maxHeartbeats 4000000 in
set_option maxRecDepth 100000 in
theorem m_X6_readInner (l : Launch) (V : VEn) {D : Nat} {rc_X6_readSum : PoS → (PoS → Prop) → Prop} {rc_X6_readOne : PoS → (PoS → Prop) → Prop} {rc_X6_readAsk : PoS → (PoS → Prop) → Prop} (hD : 1 ≤ D) (hrc_X6_readSum : ∀ (u : PoS) (post : PoS → Prop), rc_X6_readSum  u post → KV l V yX6_readSum cX6_readSum 3 D [.ref (eA V 27)] u post) (hrc_X6_readOne : ∀ (u : PoS) (post : PoS → Prop), rc_X6_readOne  u post → KV l V yX6_readOne cX6_readOne 1 D [.ref (eA V 27)] u post) (hrc_X6_readAsk : ∀ (u : PoS) (post : PoS → Prop), rc_X6_readAsk  u post → KV l V yX6_readAsk cX6_readAsk 2 D [.ref (eA V 27)] u post) {u : PoS} {post : PoS → Prop} (h : wp_X6_readInner rc_X6_readSum rc_X6_readOne rc_X6_readAsk u post) : KV l V yX6_readInner cX6_readInner 2 (D + 4) [.ref (eA V 27)] u post := by
  refine KV_of (by decide) (Nat.le_of_ble_eq_true rfl) (lv := [(0, .ref (eA V 27))]) rfl ?_
  intro p e s m args below meth c C
  rw [wp_X6_readInner] at h
  refine a_aload_n C 0 dX6_readInner_0 rfl rfl ?_
  refine a_geti C 7 dX6_readInner_1 (by decide) rfl rfl rfl ib_6 (by decide) bw_299 ?_
  refine a_topi (fun x1 ex1 => ?_)
  have h := h x1 ex1
  refine a_istore_n C [(1, .int x1), (0, .ref (eA V 27))] dX6_readInner_4 rfl (by decide) rfl ?_
  refine a_aload_n C 1 dX6_readInner_5 rfl rfl ?_
  refine a_geti C 9 dX6_readInner_6 (by decide) rfl rfl rfl ib_6 (by decide) bw_301 ?_
  refine a_bipush C 8 dX6_readInner_9 (by decide) ?_
  refine a_icmp_lt C 20 dX6_readInner_11 (by decide) (fun c37 => ?_) (fun c37 => ?_)
  · have h := h.1 c37
    refine a_aload_n C 1 dX6_readInner_20 rfl rfl ?_
    refine a_dup C dX6_readInner_21 rfl ?_
    refine a_geti C 9 dX6_readInner_22 (by decide) rfl rfl rfl ib_6 (by decide) bw_301 ?_
    refine a_iconst C 1 dX6_readInner_25 (by decide) ?_
    refine a_iadd C dX6_readInner_26 ?_
    refine a_puti C (ty := .int) 9 dX6_readInner_27 (by decide) rfl rfl rfl ib_6 (by decide) bw_301 tyX6 tyX6_ok nmX6 rfl (by decide +kernel) rfl rfl ?_
    refine a_topu (fun z2 ez2 => ?_)
    have h := h z2 ez2
    refine a_aload_n C 1 dX6_readInner_30 rfl rfl ?_
    refine a_callVv C dX6_readInner_31 (m_X6_advance l V h) bw_538 bw_540 bw_6 bw_119 bw_541 (by decide) rfl rfl np_X6_advance rfl rfl (rm_ok (by omega) (by decide)) (Nat.le_of_ble_eq_true rfl) ⟨Nat.zero_le _, Nat.zero_le _⟩ (fun u4 h => ?_)
    refine a_iload_n C 0 dX6_readInner_34 rfl rfl ?_
    refine a_bipush C 36 dX6_readInner_35 (by decide) ?_
    refine a_icmp_ne C 53 dX6_readInner_37 (by decide) (fun c34 => ?_) (fun c34 => ?_)
    · have h := h.1 c34
      refine a_iload_n C 0 dX6_readInner_53 rfl rfl ?_
      refine a_bipush C 33 dX6_readInner_54 (by decide) ?_
      refine a_icmp_ne C 76 dX6_readInner_56 (by decide) (fun c29 => ?_) (fun c29 => ?_)
      · have h := h.1 c29
        refine a_iload_n C 0 dX6_readInner_76 rfl rfl ?_
        refine a_bipush C 18 dX6_readInner_77 (by decide) ?_
        refine a_icmp_ne C 99 dX6_readInner_79 (by decide) (fun c23 => ?_) (fun c23 => ?_)
        · have h := h.1 c23
          refine a_iload_n C 0 dX6_readInner_99 rfl rfl ?_
          refine a_bipush C 17 dX6_readInner_100 (by decide) ?_
          refine a_icmp_ne C 132 dX6_readInner_102 (by decide) (fun c17 => ?_) (fun c17 => ?_)
          · have h := h.1 c17
            refine a_aload_n C 1 dX6_readInner_132 rfl rfl ?_
            refine a_callVv C dX6_readInner_133 (m_X6_readChoice l V hD hrc_X6_readSum hrc_X6_readOne hrc_X6_readAsk h) bw_582 bw_584 bw_15 bw_119 bw_585 (by decide) rfl rfl np_X6_readChoice rfl rfl (rm_ok (by omega) (by decide)) (Nat.le_of_ble_eq_true rfl) ⟨Nat.zero_le _, Nat.zero_le _⟩ (fun u6 h => ?_)
            refine a_sub [1] rfl ?_
            refine tj_X6_readInner_136 C hD hrc_X6_readSum hrc_X6_readOne hrc_X6_readAsk _ h
          · have h := h.2 c17
            refine a_aload_n C 1 dX6_readInner_105 rfl rfl ?_
            refine a_callVv C dX6_readInner_106 (hrc_X6_readOne _ _ h) bw_550 bw_552 bw_9 bw_119 bw_553 (by decide) rfl rfl np_X6_readOne rfl rfl (rm_ok (by omega) (by decide)) (Nat.le_of_ble_eq_true rfl) ⟨Nat.zero_le _, Nat.zero_le _⟩ (fun u9 h => ?_)
            refine a_aload_n C 1 dX6_readInner_109 rfl rfl ?_
            refine a_bipush C 21 dX6_readInner_110 (by decide) ?_
            refine a_callVv C dX6_readInner_112 (m_X6_expect l V h) bw_578 bw_580 bw_14 bw_119 bw_581 (by decide) rfl rfl np_X6_expect rfl rfl (rm_ok (by omega) (by decide)) (Nat.le_of_ble_eq_true rfl) ⟨Nat.zero_le _, Nat.zero_le _⟩ (fun u11 h => ?_)
            refine a_aload_n C 1 dX6_readInner_115 rfl rfl ?_
            refine a_callVv C dX6_readInner_116 (hrc_X6_readOne _ _ h) bw_550 bw_552 bw_9 bw_119 bw_553 (by decide) rfl rfl np_X6_readOne rfl rfl (rm_ok (by omega) (by decide)) (Nat.le_of_ble_eq_true rfl) ⟨Nat.zero_le _, Nat.zero_le _⟩ (fun u13 h => ?_)
            refine a_aload_n C 1 dX6_readInner_119 rfl rfl ?_
            refine a_getd C 8 dX6_readInner_120 (by decide) rfl rfl rfl ib_6 (by decide) bw_300 ?_
            obtain ⟨i14, hi14, hri14, h⟩ := h
            rw [hri14]
            refine a_bipush C 17 dX6_readInner_123 (by decide) ?_
            refine a_iconst C 0 dX6_readInner_125 (by decide) ?_
            refine a_callVv C dX6_readInner_126 (m_X3_addCode l V hi14 h) bw_559 bw_560 bw_561 bw_117 bw_562 (by have := hi14; omega) (lw_obj hi14) rfl np_X3_addCode rfl rfl (rm_ok (by omega) (by decide)) (Nat.le_of_ble_eq_true rfl) ⟨Nat.zero_le _, Nat.zero_le _⟩ (fun u16 h => ?_)
            refine a_goto C 136 dX6_readInner_129 (by decide) ?_
            refine a_sub [1] rfl ?_
            refine tj_X6_readInner_136 C hD hrc_X6_readSum hrc_X6_readOne hrc_X6_readAsk _ h
        · have h := h.2 c23
          refine a_aload_n C 1 dX6_readInner_82 rfl rfl ?_
          refine a_callVv C dX6_readInner_83 (hrc_X6_readOne _ _ h) bw_550 bw_552 bw_9 bw_119 bw_553 (by decide) rfl rfl np_X6_readOne rfl rfl (rm_ok (by omega) (by decide)) (Nat.le_of_ble_eq_true rfl) ⟨Nat.zero_le _, Nat.zero_le _⟩ (fun u19 h => ?_)
          refine a_aload_n C 1 dX6_readInner_86 rfl rfl ?_
          refine a_getd C 8 dX6_readInner_87 (by decide) rfl rfl rfl ib_6 (by decide) bw_300 ?_
          obtain ⟨i20, hi20, hri20, h⟩ := h
          rw [hri20]
          refine a_bipush C 18 dX6_readInner_90 (by decide) ?_
          refine a_iconst C 0 dX6_readInner_92 (by decide) ?_
          refine a_callVv C dX6_readInner_93 (m_X3_addCode l V hi20 h) bw_559 bw_560 bw_561 bw_117 bw_562 (by have := hi20; omega) (lw_obj hi20) rfl np_X3_addCode rfl rfl (rm_ok (by omega) (by decide)) (Nat.le_of_ble_eq_true rfl) ⟨Nat.zero_le _, Nat.zero_le _⟩ (fun u22 h => ?_)
          refine a_goto C 136 dX6_readInner_96 (by decide) ?_
          refine a_sub [1] rfl ?_
          refine tj_X6_readInner_136 C hD hrc_X6_readSum hrc_X6_readOne hrc_X6_readAsk _ h
      · have h := h.2 c29
        refine a_aload_n C 1 dX6_readInner_59 rfl rfl ?_
        refine a_callVv C dX6_readInner_60 (hrc_X6_readOne _ _ h) bw_550 bw_552 bw_9 bw_119 bw_553 (by decide) rfl rfl np_X6_readOne rfl rfl (rm_ok (by omega) (by decide)) (Nat.le_of_ble_eq_true rfl) ⟨Nat.zero_le _, Nat.zero_le _⟩ (fun u25 h => ?_)
        refine a_aload_n C 1 dX6_readInner_63 rfl rfl ?_
        refine a_getd C 8 dX6_readInner_64 (by decide) rfl rfl rfl ib_6 (by decide) bw_300 ?_
        obtain ⟨i26, hi26, hri26, h⟩ := h
        rw [hri26]
        refine a_bipush C 45 dX6_readInner_67 (by decide) ?_
        refine a_iconst C 0 dX6_readInner_69 (by decide) ?_
        refine a_callVv C dX6_readInner_70 (m_X3_addCode l V hi26 h) bw_559 bw_560 bw_561 bw_117 bw_562 (by have := hi26; omega) (lw_obj hi26) rfl np_X3_addCode rfl rfl (rm_ok (by omega) (by decide)) (Nat.le_of_ble_eq_true rfl) ⟨Nat.zero_le _, Nat.zero_le _⟩ (fun u28 h => ?_)
        refine a_goto C 136 dX6_readInner_73 (by decide) ?_
        refine a_sub [1] rfl ?_
        refine tj_X6_readInner_136 C hD hrc_X6_readSum hrc_X6_readOne hrc_X6_readAsk _ h
    · have h := h.2 c34
      refine a_aload_n C 1 dX6_readInner_40 rfl rfl ?_
      refine a_callVv C dX6_readInner_41 (hrc_X6_readSum _ _ h) bw_542 bw_544 bw_7 bw_119 bw_545 (by decide) rfl rfl np_X6_readSum rfl rfl (rm_ok (by omega) (by decide)) (Nat.le_of_ble_eq_true rfl) ⟨Nat.zero_le _, Nat.zero_le _⟩ (fun u31 h => ?_)
      refine a_aload_n C 1 dX6_readInner_44 rfl rfl ?_
      refine a_bipush C 37 dX6_readInner_45 (by decide) ?_
      refine a_callVv C dX6_readInner_47 (m_X6_expect l V h) bw_578 bw_580 bw_14 bw_119 bw_581 (by decide) rfl rfl np_X6_expect rfl rfl (rm_ok (by omega) (by decide)) (Nat.le_of_ble_eq_true rfl) ⟨Nat.zero_le _, Nat.zero_le _⟩ (fun u33 h => ?_)
      refine a_goto C 136 dX6_readInner_50 (by decide) ?_
      refine a_sub [1] rfl ?_
      refine tj_X6_readInner_136 C hD hrc_X6_readSum hrc_X6_readOne hrc_X6_readAsk _ h
  · have h := h.2 c37
    refine a_aload_n C 1 dX6_readInner_14 rfl rfl ?_
    refine a_iconst C 3 dX6_readInner_15 (by decide) ?_
    refine a_callVv C dX6_readInner_16 (m_X6_blame l V h) bw_526 bw_528 bw_4 bw_119 bw_529 (by decide) rfl rfl np_X6_blame rfl rfl (rm_ok (by omega) (by decide)) (Nat.le_of_ble_eq_true rfl) ⟨Nat.zero_le _, Nat.zero_le _⟩ (fun u36 h => ?_)
    exact a_vret C dX6_readInner_19 h

/-! RainOnTheOne$Reader.readOne()V -/
def wb_X6_readOne (rc_X6_readSum : PoS → (PoS → Prop) → Prop) (rc_X6_readOne : PoS → (PoS → Prop) → Prop) (rc_X6_readAsk : PoS → (PoS → Prop) → Prop) (u : PoS) (post : PoS → Prop) : Prop := ((¬ (gI u 27 7) = 41 → wp_X9_isName (gI u 27 7) u (fun (r1 : Int32) (u2 : PoS) => ((r1 = 0 → wp_X6_opensOne u2 (fun (r3 : Int32) (u4 : PoS) => ((r3 = 0 → wp_X6_blame 1 u4 (fun (u6 : PoS) => post u6)) ∧ (¬ r3 = 0 → wp_X6_readInner rc_X6_readSum rc_X6_readOne rc_X6_readAsk u4 (fun (u8 : PoS) => post u8))))) ∧ (¬ r1 = 0 → wp_X6_readName u2 (fun (u11 : PoS) => post u11))))) ∧ ((gI u 27 7) = 41 → ∃ i13, i13 < 4 ∧ gR u 27 8 = 7 + i13 ∧ wp_X6_numberWithin 0 9999 u (fun (r14 : Int32) (u15 : PoS) => wp_X3_addCode i13 41 r14 u15 (fun (u17 : PoS) => post u17))))
set_option maxHeartbeats 4000000 in
set_option maxRecDepth 100000 in
theorem mb_X6_readOne (l : Launch) (V : VEn) {D : Nat} {rc_X6_readSum : PoS → (PoS → Prop) → Prop} {rc_X6_readOne : PoS → (PoS → Prop) → Prop} {rc_X6_readAsk : PoS → (PoS → Prop) → Prop} (hD : 1 ≤ D) (hrc_X6_readSum : ∀ (u : PoS) (post : PoS → Prop), rc_X6_readSum  u post → KV l V yX6_readSum cX6_readSum 3 D [.ref (eA V 27)] u post) (hrc_X6_readOne : ∀ (u : PoS) (post : PoS → Prop), rc_X6_readOne  u post → KV l V yX6_readOne cX6_readOne 1 D [.ref (eA V 27)] u post) (hrc_X6_readAsk : ∀ (u : PoS) (post : PoS → Prop), rc_X6_readAsk  u post → KV l V yX6_readAsk cX6_readAsk 2 D [.ref (eA V 27)] u post) {u : PoS} {post : PoS → Prop} (h : wb_X6_readOne rc_X6_readSum rc_X6_readOne rc_X6_readAsk u post) : KV l V yX6_readOne cX6_readOne 1 (D + 6) [.ref (eA V 27)] u post := by
  refine KV_of (by decide) (Nat.le_of_ble_eq_true rfl) (lv := [(0, .ref (eA V 27))]) rfl ?_
  intro p e s m args below meth c C
  rw [wb_X6_readOne] at h
  refine a_aload_n C 0 dX6_readOne_0 rfl rfl ?_
  refine a_geti C 7 dX6_readOne_1 (by decide) rfl rfl rfl ib_6 (by decide) bw_299 ?_
  refine a_bipush C 41 dX6_readOne_4 (by decide) ?_
  refine a_icmp_ne C 29 dX6_readOne_6 (by decide) (fun c18 => ?_) (fun c18 => ?_)
  · have h := h.1 c18
    refine a_aload_n C 0 dX6_readOne_29 rfl rfl ?_
    refine a_geti C 7 dX6_readOne_30 (by decide) rfl rfl rfl ib_6 (by decide) bw_299 ?_
    refine a_callSi C dX6_readOne_33 (m_X9_isName l V h) bw_563 bw_564 bw_128 bw_565 np_X9_isName rfl rfl (rm_ok (by omega) (by decide)) (Nat.le_of_ble_eq_true rfl) ⟨Nat.zero_le _, Nat.zero_le _⟩ (fun r1 u2 h => ?_)
    refine a_if_eq C 46 dX6_readOne_36 (by decide) (fun c12 => ?_) (fun c12 => ?_)
    · have h := h.1 c12
      refine a_aload_n C 0 dX6_readOne_46 rfl rfl ?_
      refine a_callVi C dX6_readOne_47 (m_X6_opensOne l V h) bw_570 bw_572 bw_12 bw_119 bw_573 (by decide) rfl rfl np_X6_opensOne rfl rfl (rm_ok (by omega) (by decide)) (Nat.le_of_ble_eq_true rfl) ⟨Nat.zero_le _, Nat.zero_le _⟩ (fun r3 u4 h => ?_)
      refine a_if_eq C 60 dX6_readOne_50 (by decide) (fun c9 => ?_) (fun c9 => ?_)
      · have h := h.1 c9
        refine a_aload_n C 0 dX6_readOne_60 rfl rfl ?_
        refine a_iconst C 1 dX6_readOne_61 (by decide) ?_
        refine a_callVv C dX6_readOne_62 (m_X6_blame l V h) bw_526 bw_528 bw_4 bw_119 bw_529 (by decide) rfl rfl np_X6_blame rfl rfl (rm_ok (by omega) (by decide)) (Nat.le_of_ble_eq_true rfl) ⟨Nat.zero_le _, Nat.zero_le _⟩ (fun u6 h => ?_)
        exact a_vret C dX6_readOne_65 h
      · have h := h.2 c9
        refine a_aload_n C 0 dX6_readOne_53 rfl rfl ?_
        refine a_callVv C dX6_readOne_54 (m_X6_readInner l V hD hrc_X6_readSum hrc_X6_readOne hrc_X6_readAsk h) bw_574 bw_576 bw_13 bw_119 bw_577 (by decide) rfl rfl np_X6_readInner rfl rfl (rm_ok (by omega) (by decide)) (Nat.le_of_ble_eq_true rfl) ⟨Nat.zero_le _, Nat.zero_le _⟩ (fun u8 h => ?_)
        refine a_goto C 65 dX6_readOne_57 (by decide) ?_
        exact a_vret C dX6_readOne_65 h
    · have h := h.2 c12
      refine a_aload_n C 0 dX6_readOne_39 rfl rfl ?_
      refine a_callVv C dX6_readOne_40 (m_X6_readName l V h) bw_566 bw_568 bw_11 bw_119 bw_569 (by decide) rfl rfl np_X6_readName rfl rfl (rm_ok (by omega) (by decide)) (Nat.le_of_ble_eq_true rfl) ⟨Nat.zero_le _, Nat.zero_le _⟩ (fun u11 h => ?_)
      refine a_goto C 65 dX6_readOne_43 (by decide) ?_
      exact a_vret C dX6_readOne_65 h
  · have h := h.2 c18
    refine a_aload_n C 0 dX6_readOne_9 rfl rfl ?_
    refine a_getd C 8 dX6_readOne_10 (by decide) rfl rfl rfl ib_6 (by decide) bw_300 ?_
    obtain ⟨i13, hi13, hri13, h⟩ := h
    rw [hri13]
    refine a_bipush C 41 dX6_readOne_13 (by decide) ?_
    refine a_aload_n C 0 dX6_readOne_15 rfl rfl ?_
    refine a_iconst C 0 dX6_readOne_16 (by decide) ?_
    refine a_sipush C 9999 dX6_readOne_17 (by decide) ?_
    refine a_callVi C dX6_readOne_20 (m_X6_numberWithin l V h) bw_554 bw_556 bw_10 bw_119 bw_557 (by decide) rfl rfl np_X6_numberWithin rfl rfl (rm_ok (by omega) (by decide)) (Nat.le_of_ble_eq_true rfl) ⟨Nat.zero_le _, Nat.zero_le _⟩ (fun r14 u15 h => ?_)
    refine a_callVv C dX6_readOne_23 (m_X3_addCode l V hi13 h) bw_559 bw_560 bw_561 bw_117 bw_562 (by have := hi13; omega) (lw_obj hi13) rfl np_X3_addCode rfl rfl (rm_ok (by omega) (by decide)) (Nat.le_of_ble_eq_true rfl) ⟨Nat.zero_le _, Nat.zero_le _⟩ (fun u17 h => ?_)
    refine a_goto C 65 dX6_readOne_26 (by decide) ?_
    exact a_vret C dX6_readOne_65 h

/-! RainOnTheOne$Reader.readAsk()V -/
def wj_X6_readAsk_84 (rc_X6_readSum : PoS → (PoS → Prop) → Prop) (rc_X6_readOne : PoS → (PoS → Prop) → Prop) (rc_X6_readAsk : PoS → (PoS → Prop) → Prop) (post : PoS → Prop) (v1 : Int32) (u : PoS) : Prop := wp_X6_advance u (fun (u7 : PoS) => rc_X6_readSum u7 (fun (u9 : PoS) => ∃ i10, i10 < 4 ∧ gR u9 27 8 = 7 + i10 ∧ wp_X3_addCode i10 v1 0 u9 (fun (u12 : PoS) => post u12)))
def wb_X6_readAsk (rc_X6_readSum : PoS → (PoS → Prop) → Prop) (rc_X6_readOne : PoS → (PoS → Prop) → Prop) (rc_X6_readAsk : PoS → (PoS → Prop) → Prop) (u : PoS) (post : PoS → Prop) : Prop := ((¬ (gI u 27 7) = 20 → rc_X6_readSum u (fun (u2 : PoS) => ∀ x3 : Int32, x3 = (gI u2 27 7) → wp_X9_isCompare x3 u2 (fun (r4 : Int32) (u5 : PoS) => ((¬ r4 = 0 → wj_X6_readAsk_84 rc_X6_readSum rc_X6_readOne rc_X6_readAsk post x3 u5) ∧ (r4 = 0 → wp_X6_blame 1 u5 (fun (u14 : PoS) => wj_X6_readAsk_84 rc_X6_readSum rc_X6_readOne rc_X6_readAsk post x3 u14)))))) ∧ ((gI u 27 7) = 20 → (((gI u 27 9) < 8 → ∀ z16 : PoS, z16 = pI u 27 9 ((gI u 27 9) + 1) → wp_X6_advance z16 (fun (u18 : PoS) => rc_X6_readAsk u18 (fun (u20 : PoS) => ∃ i21, i21 < 4 ∧ gR u20 27 8 = 7 + i21 ∧ wp_X3_addCode i21 20 0 u20 (fun (u23 : PoS) => ∀ z24 : PoS, z24 = pI u23 27 9 ((gI u23 27 9) - 1) → post z24)))) ∧ (¬ (gI u 27 9) < 8 → wp_X6_blame 3 u (fun (u26 : PoS) => post u26)))))
set_option maxHeartbeats 4000000 in
set_option maxRecDepth 100000 in
theorem tj_X6_readAsk_84 {p : Program} {l : Launch} {e : Env} {s : State} {m : MethodId} {args : Array Value} {below : List Frame} {meth : Method} {c : Code} {V : VEn} {D : Nat} {rc_X6_readSum : PoS → (PoS → Prop) → Prop} {rc_X6_readOne : PoS → (PoS → Prop) → Prop} {rc_X6_readAsk : PoS → (PoS → Prop) → Prop} {post : PoS → Prop} (C : CxS p s m args meth c V cX6_readAsk 2 RX6 none) (hD : 1 ≤ D) (hrc_X6_readSum : ∀ (u : PoS) (post : PoS → Prop), rc_X6_readSum  u post → KV l V yX6_readSum cX6_readSum 3 D [.ref (eA V 27)] u post) (hrc_X6_readOne : ∀ (u : PoS) (post : PoS → Prop), rc_X6_readOne  u post → KV l V yX6_readOne cX6_readOne 1 D [.ref (eA V 27)] u post) (hrc_X6_readAsk : ∀ (u : PoS) (post : PoS → Prop), rc_X6_readAsk  u post → KV l V yX6_readAsk cX6_readAsk 2 D [.ref (eA V 27)] u post) (v1 : Int32) (u : PoS) (h : wj_X6_readAsk_84 rc_X6_readSum rc_X6_readOne rc_X6_readAsk post v1 u) : AtS p l e (Rm (D + 6)) s m args below meth c V 2 0 0 (QV V below args s post) 84 [(0, .ref (eA V 27)), (1, .int v1)] [] u := by
  rw [wj_X6_readAsk_84] at h
  refine a_aload_n C 0 dX6_readAsk_84 rfl rfl ?_
  refine a_callVv C dX6_readAsk_85 (m_X6_advance l V h) bw_538 bw_540 bw_6 bw_119 bw_541 (by decide) rfl rfl np_X6_advance rfl rfl (rm_ok (by omega) (by decide)) (Nat.le_of_ble_eq_true rfl) ⟨Nat.zero_le _, Nat.zero_le _⟩ (fun u7 h => ?_)
  refine a_aload_n C 0 dX6_readAsk_88 rfl rfl ?_
  refine a_callVv C dX6_readAsk_89 (hrc_X6_readSum _ _ h) bw_542 bw_544 bw_7 bw_119 bw_545 (by decide) rfl rfl np_X6_readSum rfl rfl (rm_ok (by omega) (by decide)) (Nat.le_of_ble_eq_true rfl) ⟨Nat.zero_le _, Nat.zero_le _⟩ (fun u9 h => ?_)
  refine a_aload_n C 0 dX6_readAsk_92 rfl rfl ?_
  refine a_getd C 8 dX6_readAsk_93 (by decide) rfl rfl rfl ib_6 (by decide) bw_300 ?_
  obtain ⟨i10, hi10, hri10, h⟩ := h
  rw [hri10]
  refine a_iload_n C 1 dX6_readAsk_96 rfl rfl ?_
  refine a_iconst C 0 dX6_readAsk_97 (by decide) ?_
  refine a_callVv C dX6_readAsk_98 (m_X3_addCode l V hi10 h) bw_559 bw_560 bw_561 bw_117 bw_562 (by have := hi10; omega) (lw_obj hi10) rfl np_X3_addCode rfl rfl (rm_ok (by omega) (by decide)) (Nat.le_of_ble_eq_true rfl) ⟨Nat.zero_le _, Nat.zero_le _⟩ (fun u12 h => ?_)
  exact a_vret C dX6_readAsk_101 h
set_option maxHeartbeats 4000000 in
set_option maxRecDepth 100000 in
theorem mb_X6_readAsk (l : Launch) (V : VEn) {D : Nat} {rc_X6_readSum : PoS → (PoS → Prop) → Prop} {rc_X6_readOne : PoS → (PoS → Prop) → Prop} {rc_X6_readAsk : PoS → (PoS → Prop) → Prop} (hD : 1 ≤ D) (hrc_X6_readSum : ∀ (u : PoS) (post : PoS → Prop), rc_X6_readSum  u post → KV l V yX6_readSum cX6_readSum 3 D [.ref (eA V 27)] u post) (hrc_X6_readOne : ∀ (u : PoS) (post : PoS → Prop), rc_X6_readOne  u post → KV l V yX6_readOne cX6_readOne 1 D [.ref (eA V 27)] u post) (hrc_X6_readAsk : ∀ (u : PoS) (post : PoS → Prop), rc_X6_readAsk  u post → KV l V yX6_readAsk cX6_readAsk 2 D [.ref (eA V 27)] u post) {u : PoS} {post : PoS → Prop} (h : wb_X6_readAsk rc_X6_readSum rc_X6_readOne rc_X6_readAsk u post) : KV l V yX6_readAsk cX6_readAsk 2 (D + 6) [.ref (eA V 27)] u post := by
  refine KV_of (by decide) (Nat.le_of_ble_eq_true rfl) (lv := [(0, .ref (eA V 27))]) rfl ?_
  intro p e s m args below meth c C
  rw [wb_X6_readAsk] at h
  refine a_aload_n C 0 dX6_readAsk_0 rfl rfl ?_
  refine a_geti C 7 dX6_readAsk_1 (by decide) rfl rfl rfl ib_6 (by decide) bw_299 ?_
  refine a_bipush C 20 dX6_readAsk_4 (by decide) ?_
  refine a_icmp_ne C 63 dX6_readAsk_6 (by decide) (fun c28 => ?_) (fun c28 => ?_)
  · have h := h.1 c28
    refine a_aload_n C 0 dX6_readAsk_63 rfl rfl ?_
    refine a_callVv C dX6_readAsk_64 (hrc_X6_readSum _ _ h) bw_542 bw_544 bw_7 bw_119 bw_545 (by decide) rfl rfl np_X6_readSum rfl rfl (rm_ok (by omega) (by decide)) (Nat.le_of_ble_eq_true rfl) ⟨Nat.zero_le _, Nat.zero_le _⟩ (fun u2 h => ?_)
    refine a_aload_n C 0 dX6_readAsk_67 rfl rfl ?_
    refine a_geti C 7 dX6_readAsk_68 (by decide) rfl rfl rfl ib_6 (by decide) bw_299 ?_
    refine a_topi (fun x3 ex3 => ?_)
    have h := h x3 ex3
    refine a_istore_n C [(1, .int x3), (0, .ref (eA V 27))] dX6_readAsk_71 rfl (by decide) rfl ?_
    refine a_iload_n C 0 dX6_readAsk_72 rfl rfl ?_
    refine a_callSi C dX6_readAsk_73 (m_X9_isCompare l V h) bw_598 bw_599 bw_128 bw_600 np_X9_isCompare rfl rfl (rm_ok (by omega) (by decide)) (Nat.le_of_ble_eq_true rfl) ⟨Nat.zero_le _, Nat.zero_le _⟩ (fun r4 u5 h => ?_)
    refine a_if_ne C 84 dX6_readAsk_76 (by decide) (fun c15 => ?_) (fun c15 => ?_)
    · have h := h.1 c15
      refine a_sub [1, 0] rfl ?_
      refine tj_X6_readAsk_84 C hD hrc_X6_readSum hrc_X6_readOne hrc_X6_readAsk _ _ h
    · have h := h.2 c15
      refine a_aload_n C 1 dX6_readAsk_79 rfl rfl ?_
      refine a_iconst C 1 dX6_readAsk_80 (by decide) ?_
      refine a_callVv C dX6_readAsk_81 (m_X6_blame l V h) bw_526 bw_528 bw_4 bw_119 bw_529 (by decide) rfl rfl np_X6_blame rfl rfl (rm_ok (by omega) (by decide)) (Nat.le_of_ble_eq_true rfl) ⟨Nat.zero_le _, Nat.zero_le _⟩ (fun u14 h => ?_)
      refine a_sub [1, 0] rfl ?_
      refine tj_X6_readAsk_84 C hD hrc_X6_readSum hrc_X6_readOne hrc_X6_readAsk _ _ h
  · have h := h.2 c28
    refine a_aload_n C 0 dX6_readAsk_9 rfl rfl ?_
    refine a_geti C 9 dX6_readAsk_10 (by decide) rfl rfl rfl ib_6 (by decide) bw_301 ?_
    refine a_bipush C 8 dX6_readAsk_13 (by decide) ?_
    refine a_icmp_lt C 24 dX6_readAsk_15 (by decide) (fun c27 => ?_) (fun c27 => ?_)
    · have h := h.1 c27
      refine a_aload_n C 0 dX6_readAsk_24 rfl rfl ?_
      refine a_dup C dX6_readAsk_25 rfl ?_
      refine a_geti C 9 dX6_readAsk_26 (by decide) rfl rfl rfl ib_6 (by decide) bw_301 ?_
      refine a_iconst C 1 dX6_readAsk_29 (by decide) ?_
      refine a_iadd C dX6_readAsk_30 ?_
      refine a_puti C (ty := .int) 9 dX6_readAsk_31 (by decide) rfl rfl rfl ib_6 (by decide) bw_301 tyX6 tyX6_ok nmX6 rfl (by decide +kernel) rfl rfl ?_
      refine a_topu (fun z16 ez16 => ?_)
      have h := h z16 ez16
      refine a_aload_n C 0 dX6_readAsk_34 rfl rfl ?_
      refine a_callVv C dX6_readAsk_35 (m_X6_advance l V h) bw_538 bw_540 bw_6 bw_119 bw_541 (by decide) rfl rfl np_X6_advance rfl rfl (rm_ok (by omega) (by decide)) (Nat.le_of_ble_eq_true rfl) ⟨Nat.zero_le _, Nat.zero_le _⟩ (fun u18 h => ?_)
      refine a_aload_n C 0 dX6_readAsk_38 rfl rfl ?_
      refine a_callVv C dX6_readAsk_39 (hrc_X6_readAsk _ _ h) bw_594 bw_596 bw_18 bw_119 bw_597 (by decide) rfl rfl np_X6_readAsk rfl rfl (rm_ok (by omega) (by decide)) (Nat.le_of_ble_eq_true rfl) ⟨Nat.zero_le _, Nat.zero_le _⟩ (fun u20 h => ?_)
      refine a_aload_n C 0 dX6_readAsk_42 rfl rfl ?_
      refine a_getd C 8 dX6_readAsk_43 (by decide) rfl rfl rfl ib_6 (by decide) bw_300 ?_
      obtain ⟨i21, hi21, hri21, h⟩ := h
      rw [hri21]
      refine a_bipush C 20 dX6_readAsk_46 (by decide) ?_
      refine a_iconst C 0 dX6_readAsk_48 (by decide) ?_
      refine a_callVv C dX6_readAsk_49 (m_X3_addCode l V hi21 h) bw_559 bw_560 bw_561 bw_117 bw_562 (by have := hi21; omega) (lw_obj hi21) rfl np_X3_addCode rfl rfl (rm_ok (by omega) (by decide)) (Nat.le_of_ble_eq_true rfl) ⟨Nat.zero_le _, Nat.zero_le _⟩ (fun u23 h => ?_)
      refine a_aload_n C 0 dX6_readAsk_52 rfl rfl ?_
      refine a_dup C dX6_readAsk_53 rfl ?_
      refine a_geti C 9 dX6_readAsk_54 (by decide) rfl rfl rfl ib_6 (by decide) bw_301 ?_
      refine a_iconst C 1 dX6_readAsk_57 (by decide) ?_
      refine a_isub C dX6_readAsk_58 ?_
      refine a_puti C (ty := .int) 9 dX6_readAsk_59 (by decide) rfl rfl rfl ib_6 (by decide) bw_301 tyX6 tyX6_ok nmX6 rfl (by decide +kernel) rfl rfl ?_
      refine a_topu (fun z24 ez24 => ?_)
      have h := h z24 ez24
      exact a_vret C dX6_readAsk_62 h
    · have h := h.2 c27
      refine a_aload_n C 0 dX6_readAsk_18 rfl rfl ?_
      refine a_iconst C 3 dX6_readAsk_19 (by decide) ?_
      refine a_callVv C dX6_readAsk_20 (m_X6_blame l V h) bw_526 bw_528 bw_4 bw_119 bw_529 (by decide) rfl rfl np_X6_blame rfl rfl (rm_ok (by omega) (by decide)) (Nat.le_of_ble_eq_true rfl) ⟨Nat.zero_le _, Nat.zero_le _⟩ (fun u26 h => ?_)
      exact a_vret C dX6_readAsk_23 h

def wR_reader : Nat → (PoS → (PoS → Prop) → Prop) × (PoS → (PoS → Prop) → Prop) × (PoS → (PoS → Prop) → Prop)
  | 0 => (fun _ _ => False, fun _ _ => False, fun _ _ => False)
  | q + 1 => (wb_X6_readSum (wR_reader q).1 (wR_reader q).2.1 (wR_reader q).2.2, wb_X6_readOne (wR_reader q).1 (wR_reader q).2.1 (wR_reader q).2.2, wb_X6_readAsk (wR_reader q).1 (wR_reader q).2.1 (wR_reader q).2.2)
def wp_X6_readSum (q : Nat) (u : PoS) (post : PoS → Prop) : Prop := (wR_reader q).1  u post
def wp_X6_readOne (q : Nat) (u : PoS) (post : PoS → Prop) : Prop := (wR_reader q).2.1  u post
def wp_X6_readAsk (q : Nat) (u : PoS) (post : PoS → Prop) : Prop := (wR_reader q).2.2  u post
theorem mR_reader (l : Launch) (V : VEn) : ∀ q : Nat, (∀ (u : PoS) (post : PoS → Prop), (wR_reader q).1  u post → KV l V yX6_readSum cX6_readSum 3 (1 + 6 * q) [.ref (eA V 27)] u post) ∧ (∀ (u : PoS) (post : PoS → Prop), (wR_reader q).2.1  u post → KV l V yX6_readOne cX6_readOne 1 (1 + 6 * q) [.ref (eA V 27)] u post) ∧ (∀ (u : PoS) (post : PoS → Prop), (wR_reader q).2.2  u post → KV l V yX6_readAsk cX6_readAsk 2 (1 + 6 * q) [.ref (eA V 27)] u post) := by
  intro q
  induction q with
  | zero => exact ⟨fun _ _ h => h.elim, fun _ _ h => h.elim, fun _ _ h => h.elim⟩
  | succ q ih =>
    rw [show 1 + 6 * (q + 1) = 1 + 6 * q + 6 by omega]
    exact ⟨fun _ _ h => mb_X6_readSum l V (D := 1 + 6 * q) (by omega) ih.1 ih.2.1 ih.2.2 h, fun _ _ h => mb_X6_readOne l V (D := 1 + 6 * q) (by omega) ih.1 ih.2.1 ih.2.2 h, fun _ _ h => mb_X6_readAsk l V (D := 1 + 6 * q) (by omega) ih.1 ih.2.1 ih.2.2 h⟩
theorem m_X6_readSum (l : Launch) (V : VEn) (q : Nat) (u : PoS) (post : PoS → Prop) (h : wp_X6_readSum q  u post) : KV l V yX6_readSum cX6_readSum 3 (1 + 6 * q) [.ref (eA V 27)] u post := (mR_reader l V q).1  u post h
theorem m_X6_readOne (l : Launch) (V : VEn) (q : Nat) (u : PoS) (post : PoS → Prop) (h : wp_X6_readOne q  u post) : KV l V yX6_readOne cX6_readOne 1 (1 + 6 * q) [.ref (eA V 27)] u post := (mR_reader l V q).2.1  u post h
theorem m_X6_readAsk (l : Launch) (V : VEn) (q : Nat) (u : PoS) (post : PoS → Prop) (h : wp_X6_readAsk q  u post) : KV l V yX6_readAsk cX6_readAsk 2 (1 + 6 * q) [.ref (eA V 27)] u post := (mR_reader l V q).2.2  u post h

/-! RainOnTheOne$Reader.readLaw(I)V -/
def wj_X6_readLaw_52 (post : PoS → Prop) (v1 : Int32) (u : PoS) : Prop := ∃ i5, i5 < 4 ∧ gR u 27 8 = 7 + i5 ∧ wp_X3_addClause i5 v1 0 0 u (fun (u7 : PoS) => wp_X6_advance u7 (fun (u9 : PoS) => wp_X6_readSum 27 u9 (fun (u11 : PoS) => ∃ i12, i12 < 4 ∧ gR u11 27 8 = 7 + i12 ∧ wp_X3_addCode i12 48 0 u11 (fun (u14 : PoS) => post u14))))
def wj_X6_readLaw_11 (post : PoS → Prop) (v1 : Int32) (s0 : Int32) (u : PoS) : Prop := IsB s0 ∧ ∀ z1 : PoS, z1 = pI u 27 10 s0 → (((gI z1 27 10) = 0 → ∃ i2, i2 < 4 ∧ gR z1 27 8 = 7 + i2 ∧ ∃ i3, i3 < 4 ∧ gR z1 27 8 = 7 + i3 ∧ ∀ z4 : PoS, z4 = pI z1 (7 + i2) 6 (gI z1 (7 + i3) 5) → wj_X6_readLaw_52 post v1 z4) ∧ (¬ (gI z1 27 10) = 0 → ∃ i15, i15 < 4 ∧ gR z1 27 8 = 7 + i15 ∧ ∃ i16, i16 < 4 ∧ gR z1 27 8 = 7 + i16 ∧ ∀ z17 : PoS, z17 = pI z1 (7 + i15) 7 (gI z1 (7 + i16) 5) → wj_X6_readLaw_52 post v1 z17))
def wp_X6_readLaw (a0 : Int32) (u : PoS) (post : PoS → Prop) : Prop := ((¬ a0 = 1 → wj_X6_readLaw_11 post a0 0 u) ∧ (a0 = 1 → wj_X6_readLaw_11 post a0 1 u))
set_option maxHeartbeats 4000000 in
set_option maxRecDepth 100000 in
theorem tj_X6_readLaw_52 {p : Program} {l : Launch} {e : Env} {s : State} {m : MethodId} {args : Array Value} {below : List Frame} {meth : Method} {c : Code} {V : VEn} {post : PoS → Prop} (C : CxS p s m args meth c V cX6_readLaw 2 RX6 none) (v1 : Int32) (u : PoS) (h : wj_X6_readLaw_52 post v1 u) : AtS p l e (Rm 164) s m args below meth c V 2 0 0 (QV V below args s post) 52 [(0, .ref (eA V 27)), (1, .int v1)] [] u := by
  rw [wj_X6_readLaw_52] at h
  refine a_aload_n C 0 dX6_readLaw_52 rfl rfl ?_
  refine a_getd C 8 dX6_readLaw_53 (by decide) rfl rfl rfl ib_6 (by decide) bw_300 ?_
  obtain ⟨i5, hi5, hri5, h⟩ := h
  rw [hri5]
  refine a_iload_n C 1 dX6_readLaw_56 rfl rfl ?_
  refine a_iconst C 0 dX6_readLaw_57 (by decide) ?_
  refine a_iconst C 0 dX6_readLaw_58 (by decide) ?_
  refine a_callVv C dX6_readLaw_59 (m_X3_addClause l V hi5 h) bw_534 bw_535 bw_536 bw_117 bw_537 (by have := hi5; omega) (lw_obj hi5) rfl np_X3_addClause rfl rfl (by decide) (Nat.le_of_ble_eq_true rfl) ⟨Nat.zero_le _, Nat.zero_le _⟩ (fun u7 h => ?_)
  refine a_aload_n C 0 dX6_readLaw_62 rfl rfl ?_
  refine a_callVv C dX6_readLaw_63 (m_X6_advance l V h) bw_538 bw_540 bw_6 bw_119 bw_541 (by decide) rfl rfl np_X6_advance rfl rfl (by decide) (Nat.le_of_ble_eq_true rfl) ⟨Nat.zero_le _, Nat.zero_le _⟩ (fun u9 h => ?_)
  refine a_aload_n C 0 dX6_readLaw_66 rfl rfl ?_
  refine a_callVv C dX6_readLaw_67 (m_X6_readSum l V 27 _ _ h) bw_542 bw_544 bw_7 bw_119 bw_545 (by decide) rfl rfl np_X6_readSum rfl rfl (by decide) (Nat.le_of_ble_eq_true rfl) ⟨Nat.zero_le _, Nat.zero_le _⟩ (fun u11 h => ?_)
  refine a_aload_n C 0 dX6_readLaw_70 rfl rfl ?_
  refine a_getd C 8 dX6_readLaw_71 (by decide) rfl rfl rfl ib_6 (by decide) bw_300 ?_
  obtain ⟨i12, hi12, hri12, h⟩ := h
  rw [hri12]
  refine a_bipush C 48 dX6_readLaw_74 (by decide) ?_
  refine a_iconst C 0 dX6_readLaw_76 (by decide) ?_
  refine a_callVv C dX6_readLaw_77 (m_X3_addCode l V hi12 h) bw_559 bw_560 bw_561 bw_117 bw_562 (by have := hi12; omega) (lw_obj hi12) rfl np_X3_addCode rfl rfl (by decide) (Nat.le_of_ble_eq_true rfl) ⟨Nat.zero_le _, Nat.zero_le _⟩ (fun u14 h => ?_)
  exact a_vret C dX6_readLaw_80 h
set_option maxHeartbeats 4000000 in
set_option maxRecDepth 100000 in
theorem tj_X6_readLaw_11 {p : Program} {l : Launch} {e : Env} {s : State} {m : MethodId} {args : Array Value} {below : List Frame} {meth : Method} {c : Code} {V : VEn} {post : PoS → Prop} (C : CxS p s m args meth c V cX6_readLaw 2 RX6 none) (v1 : Int32) (s0 : Int32) (u : PoS) (h : wj_X6_readLaw_11 post v1 s0 u) : AtS p l e (Rm 164) s m args below meth c V 2 0 0 (QV V below args s post) 11 [(0, .ref (eA V 27)), (1, .int v1)] [.int s0, .ref (eA V 27)] u := by
  rw [wj_X6_readLaw_11] at h
  refine a_puti C (ty := .boolean) 10 dX6_readLaw_11 (by decide) rfl rfl rfl ib_6 (by decide) bw_302 tyX6 tyX6_ok nmX6 rfl (by decide +kernel) (isB_n h.1) (isB_f h.1) ?_
  have h := h.2
  refine a_topu (fun z1 ez1 => ?_)
  have h := h z1 ez1
  refine a_aload_n C 0 dX6_readLaw_14 rfl rfl ?_
  refine a_geti C 10 dX6_readLaw_15 (by decide) rfl rfl rfl ib_6 (by decide) bw_302 ?_
  refine a_if_eq C 38 dX6_readLaw_18 (by decide) (fun c18 => ?_) (fun c18 => ?_)
  · have h := h.1 c18
    refine a_aload_n C 0 dX6_readLaw_38 rfl rfl ?_
    refine a_getd C 8 dX6_readLaw_39 (by decide) rfl rfl rfl ib_6 (by decide) bw_300 ?_
    obtain ⟨i2, hi2, hri2, h⟩ := h
    rw [hri2]
    refine a_aload_n C 0 dX6_readLaw_42 rfl rfl ?_
    refine a_getd C 8 dX6_readLaw_43 (by decide) rfl rfl rfl ib_6 (by decide) bw_300 ?_
    obtain ⟨i3, hi3, hri3, h⟩ := h
    rw [hri3]
    refine a_geti C 5 dX6_readLaw_46 (by have := hi3; omega) (lw_obj hi3) rfl rfl ib_3 (by decide) bw_250 ?_
    refine a_puti C (ty := .int) 6 dX6_readLaw_49 (by have := hi2; omega) (lw_obj hi2) rfl rfl ib_3 (by decide) bw_253 tyX3 tyX3_ok nmX3 rfl (by decide +kernel) rfl rfl ?_
    refine a_topu (fun z4 ez4 => ?_)
    have h := h z4 ez4
    refine tj_X6_readLaw_52 C _ _ h
  · have h := h.2 c18
    refine a_aload_n C 0 dX6_readLaw_21 rfl rfl ?_
    refine a_getd C 8 dX6_readLaw_22 (by decide) rfl rfl rfl ib_6 (by decide) bw_300 ?_
    obtain ⟨i15, hi15, hri15, h⟩ := h
    rw [hri15]
    refine a_aload_n C 0 dX6_readLaw_25 rfl rfl ?_
    refine a_getd C 8 dX6_readLaw_26 (by decide) rfl rfl rfl ib_6 (by decide) bw_300 ?_
    obtain ⟨i16, hi16, hri16, h⟩ := h
    rw [hri16]
    refine a_geti C 5 dX6_readLaw_29 (by have := hi16; omega) (lw_obj hi16) rfl rfl ib_3 (by decide) bw_250 ?_
    refine a_puti C (ty := .int) 7 dX6_readLaw_32 (by have := hi15; omega) (lw_obj hi15) rfl rfl ib_3 (by decide) bw_256 tyX3 tyX3_ok nmX3 rfl (by decide +kernel) rfl rfl ?_
    refine a_topu (fun z17 ez17 => ?_)
    have h := h z17 ez17
    refine a_goto C 52 dX6_readLaw_35 (by decide) ?_
    refine tj_X6_readLaw_52 C _ _ h
theorem np_X6_readLaw : yX6_readLaw.cls ≠ "java/lang/invoke/MethodHandle" ∧ yX6_readLaw.cls ≠ "java/lang/invoke/VarHandle" ∧ (parseMethodDescriptor yX6_readLaw.desc).map (fun d => d.parameters.length) = some 1 := by decide +kernel
set_option maxHeartbeats 4000000 in
set_option maxRecDepth 100000 in
theorem m_X6_readLaw (l : Launch) (V : VEn) {a0 : Int32} {u : PoS} {post : PoS → Prop} (h : wp_X6_readLaw a0 u post) : KV l V yX6_readLaw cX6_readLaw 2 164 [.ref (eA V 27), .int a0] u post := by
  refine KV_of (by decide) (Nat.le_of_ble_eq_true rfl) (lv := [(0, .ref (eA V 27)), (1, .int a0)]) rfl ?_
  intro p e s m args below meth c C
  rw [wp_X6_readLaw] at h
  refine a_aload_n C 0 dX6_readLaw_0 rfl rfl ?_
  refine a_iload_n C 1 dX6_readLaw_1 rfl rfl ?_
  refine a_iconst C 1 dX6_readLaw_2 (by decide) ?_
  refine a_icmp_ne C 10 dX6_readLaw_3 (by decide) (fun c19 => ?_) (fun c19 => ?_)
  · have h := h.1 c19
    refine a_iconst C 0 dX6_readLaw_10 (by decide) ?_
    refine tj_X6_readLaw_11 C _ _ _ h
  · have h := h.2 c19
    refine a_iconst C 1 dX6_readLaw_6 (by decide) ?_
    refine a_goto C 11 dX6_readLaw_7 (by decide) ?_
    refine tj_X6_readLaw_11 C _ _ _ h

/-! RainOnTheOne$Reader.readClause()V -/
def wj_X6_readClause_112 (post : PoS → Prop) (u : PoS) : Prop := wp_X6_expect 38 u (fun (u8 : PoS) => post u8)
def wj_X6_readClause_99 (post : PoS → Prop) (v1 : Int32) (u : PoS) : Prop := wp_X6_readLaw v1 u (fun (u6 : PoS) => wj_X6_readClause_112 post  u6)
def wj_X6_readClause_41 (post : PoS → Prop) (v1 : Int32) (s0 : Int32) (u : PoS) : Prop := wp_X9_isHead v1 u (fun (r2 : Int32) (u3 : PoS) => ((¬ r2 = 0 → ((s0 = 0 → ∃ i4, i4 < 4 ∧ gR u3 27 8 = 7 + i4 ∧ (((gI u3 (7 + i4) 4) < 24 → ((v1 = 0 → wj_X6_readClause_99 post v1 u3) ∧ (¬ v1 = 0 → ((¬ v1 = 1 → wp_X6_readDeed v1 u3 (fun (u10 : PoS) => wj_X6_readClause_112 post  u10)) ∧ (v1 = 1 → wj_X6_readClause_99 post v1 u3))))) ∧ (¬ (gI u3 (7 + i4) 4) < 24 → wp_X6_blame 6 u3 (fun (u14 : PoS) => wj_X6_readClause_112 post  u14)))) ∧ (¬ s0 = 0 → wp_X6_blame 4 u3 (fun (u17 : PoS) => wj_X6_readClause_112 post  u17)))) ∧ (r2 = 0 → wp_X6_blame 1 u3 (fun (u20 : PoS) => wj_X6_readClause_112 post  u20))))
def wj_X6_readClause_40 (post : PoS → Prop) (v1 : Int32) (u : PoS) : Prop := wj_X6_readClause_41 post v1 0 u
def wj_X6_readClause_36 (post : PoS → Prop) (v1 : Int32) (u : PoS) : Prop := wj_X6_readClause_41 post v1 1 u
def wj_X6_readClause_20 (post : PoS → Prop) (v1 : Int32) (u : PoS) : Prop := ((¬ v1 = 1 → wj_X6_readClause_40 post v1 u) ∧ (v1 = 1 → ∃ i22, i22 < 4 ∧ gR u 27 8 = 7 + i22 ∧ (((gI u (7 + i22) 7) = (-1) → wj_X6_readClause_40 post v1 u) ∧ (¬ (gI u (7 + i22) 7) = (-1) → wj_X6_readClause_36 post v1 u))))
def wp_X6_readClause (u : PoS) (post : PoS → Prop) : Prop := ∀ x1 : Int32, x1 = (gI u 27 7) → ((¬ x1 = 0 → wj_X6_readClause_20 post x1 u) ∧ (x1 = 0 → ∃ i25, i25 < 4 ∧ gR u 27 8 = 7 + i25 ∧ ((¬ (gI u (7 + i25) 6) = (-1) → wj_X6_readClause_36 post x1 u) ∧ ((gI u (7 + i25) 6) = (-1) → wj_X6_readClause_20 post x1 u))))
set_option maxHeartbeats 4000000 in
set_option maxRecDepth 100000 in
theorem tj_X6_readClause_112 {p : Program} {l : Launch} {e : Env} {s : State} {m : MethodId} {args : Array Value} {below : List Frame} {meth : Method} {c : Code} {V : VEn} {post : PoS → Prop} (C : CxS p s m args meth c V cX6_readClause 3 RX6 none) (u : PoS) (h : wj_X6_readClause_112 post  u) : AtS p l e (Rm 165) s m args below meth c V 3 0 0 (QV V below args s post) 112 [(0, .ref (eA V 27))] [] u := by
  rw [wj_X6_readClause_112] at h
  refine a_aload_n C 0 dX6_readClause_112 rfl rfl ?_
  refine a_bipush C 38 dX6_readClause_113 (by decide) ?_
  refine a_callVv C dX6_readClause_115 (m_X6_expect l V h) bw_578 bw_580 bw_14 bw_119 bw_581 (by decide) rfl rfl np_X6_expect rfl rfl (by decide) (Nat.le_of_ble_eq_true rfl) ⟨Nat.zero_le _, Nat.zero_le _⟩ (fun u8 h => ?_)
  exact a_vret C dX6_readClause_118 h
set_option maxHeartbeats 4000000 in
set_option maxRecDepth 100000 in
theorem tj_X6_readClause_99 {p : Program} {l : Launch} {e : Env} {s : State} {m : MethodId} {args : Array Value} {below : List Frame} {meth : Method} {c : Code} {V : VEn} {post : PoS → Prop} (C : CxS p s m args meth c V cX6_readClause 3 RX6 none) (v1 : Int32) (u : PoS) (h : wj_X6_readClause_99 post v1 u) : AtS p l e (Rm 165) s m args below meth c V 3 0 0 (QV V below args s post) 99 [(0, .ref (eA V 27)), (1, .int v1)] [] u := by
  rw [wj_X6_readClause_99] at h
  refine a_aload_n C 0 dX6_readClause_99 rfl rfl ?_
  refine a_iload_n C 1 dX6_readClause_100 rfl rfl ?_
  refine a_callVv C dX6_readClause_101 (m_X6_readLaw l V h) bw_530 bw_532 bw_5 bw_119 bw_533 (by decide) rfl rfl np_X6_readLaw rfl rfl (by decide) (Nat.le_of_ble_eq_true rfl) ⟨Nat.zero_le _, Nat.zero_le _⟩ (fun u6 h => ?_)
  refine a_goto C 112 dX6_readClause_104 (by decide) ?_
  refine a_sub [0] rfl ?_
  refine tj_X6_readClause_112 C _ h
set_option maxHeartbeats 4000000 in
set_option maxRecDepth 100000 in
theorem tj_X6_readClause_41 {p : Program} {l : Launch} {e : Env} {s : State} {m : MethodId} {args : Array Value} {below : List Frame} {meth : Method} {c : Code} {V : VEn} {post : PoS → Prop} (C : CxS p s m args meth c V cX6_readClause 3 RX6 none) (v1 : Int32) (s0 : Int32) (u : PoS) (h : wj_X6_readClause_41 post v1 s0 u) : AtS p l e (Rm 165) s m args below meth c V 3 0 0 (QV V below args s post) 41 [(0, .ref (eA V 27)), (1, .int v1)] [.int s0] u := by
  rw [wj_X6_readClause_41] at h
  refine a_istore_n C [(2, .int s0), (0, .ref (eA V 27)), (1, .int v1)] dX6_readClause_41 rfl (by decide) rfl ?_
  refine a_iload_n C 2 dX6_readClause_42 rfl rfl ?_
  refine a_callSi C dX6_readClause_43 (m_X9_isHead l V h) bw_523 bw_524 bw_128 bw_525 np_X9_isHead rfl rfl (by decide) (Nat.le_of_ble_eq_true rfl) ⟨Nat.zero_le _, Nat.zero_le _⟩ (fun r2 u3 h => ?_)
  refine a_if_ne C 57 dX6_readClause_46 (by decide) (fun c21 => ?_) (fun c21 => ?_)
  · have h := h.1 c21
    refine a_iload_n C 0 dX6_readClause_57 rfl rfl ?_
    refine a_if_eq C 69 dX6_readClause_58 (by decide) (fun c18 => ?_) (fun c18 => ?_)
    · have h := h.1 c18
      refine a_aload_n C 1 dX6_readClause_69 rfl rfl ?_
      refine a_getd C 8 dX6_readClause_70 (by decide) rfl rfl rfl ib_6 (by decide) bw_300 ?_
      obtain ⟨i4, hi4, hri4, h⟩ := h
      rw [hri4]
      refine a_geti C 4 dX6_readClause_73 (by have := hi4; omega) (lw_obj hi4) rfl rfl ib_3 (by decide) bw_246 ?_
      refine a_bipush C 24 dX6_readClause_76 (by decide) ?_
      refine a_icmp_lt C 90 dX6_readClause_78 (by decide) (fun c15 => ?_) (fun c15 => ?_)
      · have h := h.1 c15
        refine a_iload_n C 2 dX6_readClause_90 rfl rfl ?_
        refine a_if_eq C 99 dX6_readClause_91 (by decide) (fun c12 => ?_) (fun c12 => ?_)
        · have h := h.1 c12
          refine a_sub [1, 2] rfl ?_
          refine tj_X6_readClause_99 C _ _ h
        · have h := h.2 c12
          refine a_iload_n C 2 dX6_readClause_94 rfl rfl ?_
          refine a_iconst C 1 dX6_readClause_95 (by decide) ?_
          refine a_icmp_ne C 107 dX6_readClause_96 (by decide) (fun c11 => ?_) (fun c11 => ?_)
          · have h := h.1 c11
            refine a_aload_n C 1 dX6_readClause_107 rfl rfl ?_
            refine a_iload_n C 2 dX6_readClause_108 rfl rfl ?_
            refine a_callVv C dX6_readClause_109 (m_X6_readDeed l V h) bw_605 bw_607 bw_19 bw_119 bw_608 (by decide) rfl rfl np_X6_readDeed rfl rfl (by decide) (Nat.le_of_ble_eq_true rfl) ⟨Nat.zero_le _, Nat.zero_le _⟩ (fun u10 h => ?_)
            refine a_sub [1] rfl ?_
            refine tj_X6_readClause_112 C _ h
          · have h := h.2 c11
            refine a_sub [1, 2] rfl ?_
            refine tj_X6_readClause_99 C _ _ h
      · have h := h.2 c15
        refine a_aload_n C 1 dX6_readClause_81 rfl rfl ?_
        refine a_bipush C 6 dX6_readClause_82 (by decide) ?_
        refine a_callVv C dX6_readClause_84 (m_X6_blame l V h) bw_526 bw_528 bw_4 bw_119 bw_529 (by decide) rfl rfl np_X6_blame rfl rfl (by decide) (Nat.le_of_ble_eq_true rfl) ⟨Nat.zero_le _, Nat.zero_le _⟩ (fun u14 h => ?_)
        refine a_goto C 112 dX6_readClause_87 (by decide) ?_
        refine a_sub [1] rfl ?_
        refine tj_X6_readClause_112 C _ h
    · have h := h.2 c18
      refine a_aload_n C 1 dX6_readClause_61 rfl rfl ?_
      refine a_iconst C 4 dX6_readClause_62 (by decide) ?_
      refine a_callVv C dX6_readClause_63 (m_X6_blame l V h) bw_526 bw_528 bw_4 bw_119 bw_529 (by decide) rfl rfl np_X6_blame rfl rfl (by decide) (Nat.le_of_ble_eq_true rfl) ⟨Nat.zero_le _, Nat.zero_le _⟩ (fun u17 h => ?_)
      refine a_goto C 112 dX6_readClause_66 (by decide) ?_
      refine a_sub [1] rfl ?_
      refine tj_X6_readClause_112 C _ h
  · have h := h.2 c21
    refine a_aload_n C 1 dX6_readClause_49 rfl rfl ?_
    refine a_iconst C 1 dX6_readClause_50 (by decide) ?_
    refine a_callVv C dX6_readClause_51 (m_X6_blame l V h) bw_526 bw_528 bw_4 bw_119 bw_529 (by decide) rfl rfl np_X6_blame rfl rfl (by decide) (Nat.le_of_ble_eq_true rfl) ⟨Nat.zero_le _, Nat.zero_le _⟩ (fun u20 h => ?_)
    refine a_goto C 112 dX6_readClause_54 (by decide) ?_
    refine a_sub [1] rfl ?_
    refine tj_X6_readClause_112 C _ h
set_option maxHeartbeats 4000000 in
set_option maxRecDepth 100000 in
theorem tj_X6_readClause_40 {p : Program} {l : Launch} {e : Env} {s : State} {m : MethodId} {args : Array Value} {below : List Frame} {meth : Method} {c : Code} {V : VEn} {post : PoS → Prop} (C : CxS p s m args meth c V cX6_readClause 3 RX6 none) (v1 : Int32) (u : PoS) (h : wj_X6_readClause_40 post v1 u) : AtS p l e (Rm 165) s m args below meth c V 3 0 0 (QV V below args s post) 40 [(0, .ref (eA V 27)), (1, .int v1)] [] u := by
  rw [wj_X6_readClause_40] at h
  refine a_iconst C 0 dX6_readClause_40 (by decide) ?_
  refine tj_X6_readClause_41 C _ _ _ h
set_option maxHeartbeats 4000000 in
set_option maxRecDepth 100000 in
theorem tj_X6_readClause_36 {p : Program} {l : Launch} {e : Env} {s : State} {m : MethodId} {args : Array Value} {below : List Frame} {meth : Method} {c : Code} {V : VEn} {post : PoS → Prop} (C : CxS p s m args meth c V cX6_readClause 3 RX6 none) (v1 : Int32) (u : PoS) (h : wj_X6_readClause_36 post v1 u) : AtS p l e (Rm 165) s m args below meth c V 3 0 0 (QV V below args s post) 36 [(0, .ref (eA V 27)), (1, .int v1)] [] u := by
  rw [wj_X6_readClause_36] at h
  refine a_iconst C 1 dX6_readClause_36 (by decide) ?_
  refine a_goto C 41 dX6_readClause_37 (by decide) ?_
  refine tj_X6_readClause_41 C _ _ _ h
set_option maxHeartbeats 4000000 in
set_option maxRecDepth 100000 in
theorem tj_X6_readClause_20 {p : Program} {l : Launch} {e : Env} {s : State} {m : MethodId} {args : Array Value} {below : List Frame} {meth : Method} {c : Code} {V : VEn} {post : PoS → Prop} (C : CxS p s m args meth c V cX6_readClause 3 RX6 none) (v1 : Int32) (u : PoS) (h : wj_X6_readClause_20 post v1 u) : AtS p l e (Rm 165) s m args below meth c V 3 0 0 (QV V below args s post) 20 [(0, .ref (eA V 27)), (1, .int v1)] [] u := by
  rw [wj_X6_readClause_20] at h
  refine a_iload_n C 1 dX6_readClause_20 rfl rfl ?_
  refine a_iconst C 1 dX6_readClause_21 (by decide) ?_
  refine a_icmp_ne C 40 dX6_readClause_22 (by decide) (fun c24 => ?_) (fun c24 => ?_)
  · have h := h.1 c24
    refine tj_X6_readClause_40 C _ _ h
  · have h := h.2 c24
    refine a_aload_n C 0 dX6_readClause_25 rfl rfl ?_
    refine a_getd C 8 dX6_readClause_26 (by decide) rfl rfl rfl ib_6 (by decide) bw_300 ?_
    obtain ⟨i22, hi22, hri22, h⟩ := h
    rw [hri22]
    refine a_geti C 7 dX6_readClause_29 (by have := hi22; omega) (lw_obj hi22) rfl rfl ib_3 (by decide) bw_256 ?_
    refine a_iconst C (-1) dX6_readClause_32 (by decide) ?_
    refine a_icmp_eq C 40 dX6_readClause_33 (by decide) (fun c23 => ?_) (fun c23 => ?_)
    · have h := h.1 c23
      refine tj_X6_readClause_40 C _ _ h
    · have h := h.2 c23
      refine tj_X6_readClause_36 C _ _ h
theorem np_X6_readClause : yX6_readClause.cls ≠ "java/lang/invoke/MethodHandle" ∧ yX6_readClause.cls ≠ "java/lang/invoke/VarHandle" ∧ (parseMethodDescriptor yX6_readClause.desc).map (fun d => d.parameters.length) = some 0 := by decide +kernel
set_option maxHeartbeats 4000000 in
set_option maxRecDepth 100000 in
theorem m_X6_readClause (l : Launch) (V : VEn) {u : PoS} {post : PoS → Prop} (h : wp_X6_readClause  u post) : KV l V yX6_readClause cX6_readClause 3 165 [.ref (eA V 27)] u post := by
  refine KV_of (by decide) (Nat.le_of_ble_eq_true rfl) (lv := [(0, .ref (eA V 27))]) rfl ?_
  intro p e s m args below meth c C
  rw [wp_X6_readClause] at h
  refine a_aload_n C 0 dX6_readClause_0 rfl rfl ?_
  refine a_geti C 7 dX6_readClause_1 (by decide) rfl rfl rfl ib_6 (by decide) bw_299 ?_
  refine a_topi (fun x1 ex1 => ?_)
  have h := h x1 ex1
  refine a_istore_n C [(1, .int x1), (0, .ref (eA V 27))] dX6_readClause_4 rfl (by decide) rfl ?_
  refine a_iload_n C 0 dX6_readClause_5 rfl rfl ?_
  refine a_if_ne C 20 dX6_readClause_6 (by decide) (fun c27 => ?_) (fun c27 => ?_)
  · have h := h.1 c27
    refine a_sub [1, 0] rfl ?_
    refine tj_X6_readClause_20 C _ _ h
  · have h := h.2 c27
    refine a_aload_n C 1 dX6_readClause_9 rfl rfl ?_
    refine a_getd C 8 dX6_readClause_10 (by decide) rfl rfl rfl ib_6 (by decide) bw_300 ?_
    obtain ⟨i25, hi25, hri25, h⟩ := h
    rw [hri25]
    refine a_geti C 6 dX6_readClause_13 (by have := hi25; omega) (lw_obj hi25) rfl rfl ib_3 (by decide) bw_253 ?_
    refine a_iconst C (-1) dX6_readClause_16 (by decide) ?_
    refine a_icmp_ne C 36 dX6_readClause_17 (by decide) (fun c26 => ?_) (fun c26 => ?_)
    · have h := h.1 c26
      refine a_sub [1, 0] rfl ?_
      refine tj_X6_readClause_36 C _ _ h
    · have h := h.2 c26
      refine a_sub [1, 0] rfl ?_
      refine tj_X6_readClause_20 C _ _ h

/-! RainOnTheOne$Reader.read([IILRainOnTheOne$Law;)V -/
def wl_X6_read_62 (i : Nat) (post : PoS → Prop) : Nat → Int32 → PoS → Prop
  | 0, _, _ => False
  | n + 1, v4, u => ((300 ≤ v4 → post u) ∧ (¬ 300 ≤ v4 → (((gI u 27 7) = 43 → post u) ∧ (¬ (gI u 27 7) = 43 → ((¬ (gI u 27 0) = 0 → post u) ∧ ((gI u 27 0) = 0 → wp_X6_readClause u (fun (u13 : PoS) => wl_X6_read_62 i post n (v4 + 1) u13)))))))
def wp_X6_read (i : Nat) (a1 : Int32) (u : PoS) (post : PoS → Prop) : Prop := ∀ z1 : PoS, z1 = pR u 27 8 (7 + i) → ∃ i2, i2 < 4 ∧ gR z1 27 8 = 7 + i2 ∧ wp_X3_clear i2 z1 (fun (u4 : PoS) => ∀ z5 : PoS, z5 = pI u4 27 0 0 → ∀ z6 : PoS, z6 = pI z5 27 1 (-1) → ∀ z7 : PoS, z7 = pI z6 27 9 0 → wp_X6_cutTokens (imin a1 (imin 300 300)) z7 (fun (u9 : PoS) => ∀ z10 : PoS, z10 = pI u9 27 6 0 → ∀ z11 : PoS, z11 = pI z10 27 7 (gI z10 28 0) → (∃ n62, wl_X6_read_62 i post n62 0 z11)))
set_option maxHeartbeats 4000000 in
set_option maxRecDepth 100000 in
theorem tl_X6_read_62 {p : Program} {l : Launch} {e : Env} {s : State} {m : MethodId} {args : Array Value} {below : List Frame} {meth : Method} {c : Code} {V : VEn} {i : Nat} {post : PoS → Prop} (C : CxS p s m args meth c V cX6_read 5 RX6 none) (hi : i < 4) : ∀ (n : Nat) (v4 : Int32) (u : PoS), wl_X6_read_62 i post n v4 u → AtS p l e (Rm 166) s m args below meth c V 5 0 0 (QV V below args s post) 62 [(0, .ref (eA V 27)), (4, .int v4)] [] u := by
  intro n
  induction n with
  | zero => intro v4 u h; exact h.elim
  | succ n ih =>
    intro v4 u h
    rw [wl_X6_read_62] at h
    refine a_iload C 1 dX6_read_62 rfl ?_
    refine a_sipush C 300 dX6_read_64 (by decide) ?_
    refine a_icmp_ge C 96 dX6_read_67 (by decide) (fun c16 => ?_) (fun c16 => ?_)
    · have h := h.1 c16
      exact a_vret C dX6_read_96 h
    · have h := h.2 c16
      refine a_aload_n C 0 dX6_read_70 rfl rfl ?_
      refine a_geti C 7 dX6_read_71 (by decide) rfl rfl rfl ib_6 (by decide) bw_299 ?_
      refine a_bipush C 43 dX6_read_74 (by decide) ?_
      refine a_icmp_eq C 96 dX6_read_76 (by decide) (fun c15 => ?_) (fun c15 => ?_)
      · have h := h.1 c15
        exact a_vret C dX6_read_96 h
      · have h := h.2 c15
        refine a_aload_n C 0 dX6_read_79 rfl rfl ?_
        refine a_geti C 0 dX6_read_80 (by decide) rfl rfl rfl ib_6 (by decide) bw_290 ?_
        refine a_if_ne C 96 dX6_read_83 (by decide) (fun c14 => ?_) (fun c14 => ?_)
        · have h := h.1 c14
          exact a_vret C dX6_read_96 h
        · have h := h.2 c14
          refine a_aload_n C 0 dX6_read_86 rfl rfl ?_
          refine a_callVv C dX6_read_87 (m_X6_readClause l V h) bw_519 bw_521 bw_3 bw_119 bw_522 (by decide) rfl rfl np_X6_readClause rfl rfl (by decide) (Nat.le_of_ble_eq_true rfl) ⟨Nat.zero_le _, Nat.zero_le _⟩ (fun u13 h => ?_)
          refine a_iinc C (v4 + 1) 1 [(4, .int (v4 + 1)), (0, .ref (eA V 27))] dX6_read_90 rfl (congrArg (fun z => v4 + z) (show Int32.ofInt 1 = 1 by decide)) (by decide) rfl ?_
          refine a_goto C 62 dX6_read_93 (by decide) ?_
          refine a_sub [1, 0] rfl ?_
          exact ih _ _ h
theorem np_X6_read : yX6_read.cls ≠ "java/lang/invoke/MethodHandle" ∧ yX6_read.cls ≠ "java/lang/invoke/VarHandle" ∧ (parseMethodDescriptor yX6_read.desc).map (fun d => d.parameters.length) = some 3 := by decide +kernel
set_option maxHeartbeats 4000000 in
set_option maxRecDepth 100000 in
theorem m_X6_read (l : Launch) (V : VEn) {i : Nat} (hi : i < 4) {a1 : Int32} {u : PoS} {post : PoS → Prop} (h : wp_X6_read i a1 u post) : KV l V yX6_read cX6_read 5 166 [.ref (eA V 27), .ref (eA V 31), .int a1, .ref (eA V (7 + i))] u post := by
  refine KV_of (by decide) (Nat.le_of_ble_eq_true rfl) (lv := [(0, .ref (eA V 27)), (1, .ref (eA V 31)), (2, .int a1), (3, .ref (eA V (7 + i)))]) rfl ?_
  intro p e s m args below meth c C
  rw [wp_X6_read] at h
  refine a_aload_n C 0 dX6_read_0 rfl rfl ?_
  refine a_aload_n C 3 dX6_read_1 rfl rfl ?_
  refine a_putd C (ty := (.object "RainOnTheOne$Law")) (v := (7 + i)) 8 dX6_read_2 (by decide) rfl rfl rfl ib_6 (by decide) bw_300 tyX6 tyX6_ok nmX6 rfl (by decide +kernel) rfl rfl ?_
  refine a_topu (fun z1 ez1 => ?_)
  have h := h z1 ez1
  refine a_aload_n C 0 dX6_read_5 rfl rfl ?_
  refine a_getd C 8 dX6_read_6 (by decide) rfl rfl rfl ib_6 (by decide) bw_300 ?_
  obtain ⟨i2, hi2, hri2, h⟩ := h
  rw [hri2]
  refine a_callVv C dX6_read_9 (m_X3_clear l V hi2 h) bw_436 bw_437 bw_438 bw_117 bw_439 (by have := hi2; omega) (lw_obj hi2) rfl np_X3_clear rfl rfl (by decide) (Nat.le_of_ble_eq_true rfl) ⟨Nat.zero_le _, Nat.zero_le _⟩ (fun u4 h => ?_)
  refine a_aload_n C 0 dX6_read_12 rfl rfl ?_
  refine a_iconst C 0 dX6_read_13 (by decide) ?_
  refine a_puti C (ty := .int) 0 dX6_read_14 (by decide) rfl rfl rfl ib_6 (by decide) bw_290 tyX6 tyX6_ok nmX6 rfl (by decide +kernel) rfl rfl ?_
  refine a_topu (fun z5 ez5 => ?_)
  have h := h z5 ez5
  refine a_aload_n C 0 dX6_read_17 rfl rfl ?_
  refine a_iconst C (-1) dX6_read_18 (by decide) ?_
  refine a_puti C (ty := .int) 1 dX6_read_19 (by decide) rfl rfl rfl ib_6 (by decide) bw_292 tyX6 tyX6_ok nmX6 rfl (by decide +kernel) rfl rfl ?_
  refine a_topu (fun z6 ez6 => ?_)
  have h := h z6 ez6
  refine a_aload_n C 0 dX6_read_22 rfl rfl ?_
  refine a_iconst C 0 dX6_read_23 (by decide) ?_
  refine a_puti C (ty := .int) 9 dX6_read_24 (by decide) rfl rfl rfl ib_6 (by decide) bw_301 tyX6 tyX6_ok nmX6 rfl (by decide +kernel) rfl rfl ?_
  refine a_topu (fun z7 ez7 => ?_)
  have h := h z7 ez7
  refine a_aload_n C 0 dX6_read_27 rfl rfl ?_
  refine a_aload_n C 1 dX6_read_28 rfl rfl ?_
  refine a_iload_n C 2 dX6_read_29 rfl rfl ?_
  refine a_aload_n C 1 dX6_read_30 rfl rfl ?_
  refine a_alen C 300 dX6_read_31 (by decide) rfl (by decide) ?_
  refine a_sipush C 300 dX6_read_32 (by decide) ?_
  refine b_mmin C dX6_read_35 bw_440 bw_441 bw_121 bw_442 (by decide) (Nat.le_of_ble_eq_true rfl) ⟨Nat.zero_le _, Nat.zero_le _⟩ ?_
  refine b_mmin C dX6_read_38 bw_440 bw_441 bw_121 bw_442 (by decide) (Nat.le_of_ble_eq_true rfl) ⟨Nat.zero_le _, Nat.zero_le _⟩ ?_
  refine a_callVv C dX6_read_41 (m_X6_cutTokens l V h) bw_443 bw_445 bw_1 bw_119 bw_446 (by decide) rfl rfl np_X6_cutTokens rfl rfl (by decide) (Nat.le_of_ble_eq_true rfl) ⟨Nat.zero_le _, Nat.zero_le _⟩ (fun u9 h => ?_)
  refine a_aload_n C 0 dX6_read_44 rfl rfl ?_
  refine a_iconst C 0 dX6_read_45 (by decide) ?_
  refine a_puti C (ty := .int) 6 dX6_read_46 (by decide) rfl rfl rfl ib_6 (by decide) bw_298 tyX6 tyX6_ok nmX6 rfl (by decide +kernel) rfl rfl ?_
  refine a_topu (fun z10 ez10 => ?_)
  have h := h z10 ez10
  refine a_aload_n C 0 dX6_read_49 rfl rfl ?_
  refine a_aload_n C 0 dX6_read_50 rfl rfl ?_
  refine a_getr C 2 (r := 28) dX6_read_51 (by decide) rfl rfl rfl ib_6 (by decide) bw_294 ?_
  refine a_iconst C 0 dX6_read_54 (by decide) ?_
  refine b_iald C 0 dX6_read_55 (by decide) rfl (vp_lit (by decide)) (by decide) ?_
  refine a_puti C (ty := .int) 7 dX6_read_56 (by decide) rfl rfl rfl ib_6 (by decide) bw_299 tyX6 tyX6_ok nmX6 rfl (by decide +kernel) rfl rfl ?_
  refine a_topu (fun z11 ez11 => ?_)
  have h := h z11 ez11
  refine a_iconst C 0 dX6_read_59 (by decide) ?_
  refine a_istore C [(4, .int 0), (0, .ref (eA V 27)), (1, .ref (eA V 31)), (2, .int a1), (3, .ref (eA V (7 + i)))] dX6_read_60 (by decide) rfl ?_
  refine a_sub [1, 0] rfl ?_
  obtain ⟨n62, h⟩ := h
  refine tl_X6_read_62 C hi n62 _ _ h

/-! RainOnTheOne.text()I -/
def wp_X11_text (u : PoS) (post : Int32 → PoS → Prop) : Prop := ∀ x1 : Int32, x1 = (gI u 3 117) → ((x1 < 4 → vp_in x1 4 ∧ wp_X6_read (Int32.toNatClampNeg x1) (gI u 0 7) u (fun (u4 : PoS) => ∀ z5 : PoS, z5 = pI u4 0 8 1 → ∀ z6 : PoS, z6 = pI z5 0 7 0 → (((gI z6 27 0) = 0 → ∀ z7 : PoS, z7 = pI z6 3 117 (x1 + 1) → post x1 z7) ∧ (¬ (gI z6 27 0) = 0 → post (-1) z6)))) ∧ (¬ x1 < 4 → post (-1) u))
theorem np_X11_text : yX11_text.cls ≠ "java/lang/invoke/MethodHandle" ∧ yX11_text.cls ≠ "java/lang/invoke/VarHandle" ∧ (parseMethodDescriptor yX11_text.desc).map (fun d => d.parameters.length) = some 0 := by decide +kernel
set_option maxHeartbeats 4000000 in
set_option maxRecDepth 100000 in
theorem m_X11_text (l : Launch) (V : VEn) {u : PoS} {post : Int32 → PoS → Prop} (h : wp_X11_text  u post) : KI l V yX11_text cX11_text 2 .int 167 [.ref (eA V 0)] u post := by
  refine KI_of (by decide) (Nat.le_of_ble_eq_true rfl) (lv := [(0, .ref (eA V 0))]) rfl ?_
  intro p e s m args below meth c C
  rw [wp_X11_text] at h
  refine a_aload_n C 0 dX11_text_0 rfl rfl ?_
  refine a_getr C 2 (r := 3) dX11_text_1 (by decide) rfl rfl rfl ib_11 (by decide) bw_351 ?_
  refine a_bipush C 117 dX11_text_4 (by decide) ?_
  refine b_iald C 117 dX11_text_6 (by decide) rfl (vp_lit (by decide)) (by decide) ?_
  refine a_topi (fun x1 ex1 => ?_)
  have h := h x1 ex1
  refine a_istore_n C [(1, .int x1), (0, .ref (eA V 0))] dX11_text_7 rfl (by decide) rfl ?_
  refine a_iload_n C 0 dX11_text_8 rfl rfl ?_
  refine a_iconst C 4 dX11_text_9 (by decide) ?_
  refine a_icmp_lt C 15 dX11_text_10 (by decide) (fun c9 => ?_) (fun c9 => ?_)
  · have h := h.1 c9
    refine a_aload_n C 1 dX11_text_15 rfl rfl ?_
    refine a_getr C 5 (r := 27) dX11_text_16 (by decide) rfl rfl rfl ib_11 (by decide) bw_354 ?_
    refine a_aload_n C 1 dX11_text_19 rfl rfl ?_
    refine a_getr C 6 (r := 31) dX11_text_20 (by decide) rfl rfl rfl ib_11 (by decide) bw_355 ?_
    refine a_aload_n C 1 dX11_text_23 rfl rfl ?_
    refine a_geti C 7 dX11_text_24 (by decide) rfl rfl rfl ib_11 (by decide) bw_356 ?_
    refine a_aload_n C 1 dX11_text_27 rfl rfl ?_
    refine a_getr C 4 (r := 6) dX11_text_28 (by decide) rfl rfl rfl ib_11 (by decide) bw_353 ?_
    refine a_iload_n C 0 dX11_text_31 rfl rfl ?_
    obtain ⟨hi2, h⟩ := h
    refine a_aald C dX11_text_32 hi2 ?_
    refine a_callVv C dX11_text_33 (m_X6_read l V (vp4 hi2) h) bw_432 bw_433 bw_434 bw_119 bw_435 (by decide) rfl rfl np_X6_read rfl rfl (by decide) (Nat.le_of_ble_eq_true rfl) ⟨Nat.zero_le _, Nat.zero_le _⟩ (fun u4 h => ?_)
    refine a_aload_n C 1 dX11_text_36 rfl rfl ?_
    refine a_iconst C 1 dX11_text_37 (by decide) ?_
    refine a_puti C (ty := .boolean) 8 dX11_text_38 (by decide) rfl rfl rfl ib_11 (by decide) bw_357 tyX11 tyX11_ok nmX11 rfl (by decide +kernel) rfl rfl ?_
    refine a_topu (fun z5 ez5 => ?_)
    have h := h z5 ez5
    refine a_aload_n C 1 dX11_text_41 rfl rfl ?_
    refine a_iconst C 0 dX11_text_42 (by decide) ?_
    refine a_puti C (ty := .int) 7 dX11_text_43 (by decide) rfl rfl rfl ib_11 (by decide) bw_356 tyX11 tyX11_ok nmX11 rfl (by decide +kernel) rfl rfl ?_
    refine a_topu (fun z6 ez6 => ?_)
    have h := h z6 ez6
    refine a_aload_n C 1 dX11_text_46 rfl rfl ?_
    refine a_getr C 5 (r := 27) dX11_text_47 (by decide) rfl rfl rfl ib_11 (by decide) bw_354 ?_
    refine a_geti C 0 dX11_text_50 (by decide) rfl rfl rfl ib_6 (by decide) bw_291 ?_
    refine a_if_eq C 58 dX11_text_53 (by decide) (fun c8 => ?_) (fun c8 => ?_)
    · have h := h.1 c8
      refine a_aload_n C 1 dX11_text_58 rfl rfl ?_
      refine a_getr C 2 (r := 3) dX11_text_59 (by decide) rfl rfl rfl ib_11 (by decide) bw_351 ?_
      refine a_bipush C 117 dX11_text_62 (by decide) ?_
      refine a_iload_n C 0 dX11_text_64 rfl rfl ?_
      refine a_iconst C 1 dX11_text_65 (by decide) ?_
      refine a_iadd C dX11_text_66 ?_
      refine b_iast C 117 dX11_text_67 (by decide) rfl (vp_lit (by decide)) (by decide) ?_
      refine a_topu (fun z7 ez7 => ?_)
      have h := h z7 ez7
      refine a_iload_n C 0 dX11_text_68 rfl rfl ?_
      exact a_iret C dX11_text_69 h
    · have h := h.2 c8
      refine a_iconst C (-1) dX11_text_56 (by decide) ?_
      exact a_iret C dX11_text_57 h
  · have h := h.2 c9
    refine a_iconst C (-1) dX11_text_13 (by decide) ?_
    exact a_iret C dX11_text_14 h
