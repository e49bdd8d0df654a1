/-! RainOnTheOneModel.figure(III)I -/
def wp_X12_figure (a0 : Int32) (a1 : Int32) (a2 : Int32) (u : PoS) (post : Int32 → PoS → Prop) : Prop := (((gI u 48 9) = 1 → wp_X12_isIn (gI u 48 10) a1 a2 u (fun (r1 : Int32) (u2 : PoS) => ((¬ r1 = 0 → vp_in a0 2724 ∧ wp_X12_nextToken (pI u2 51 (Int32.toNatClampNeg a0) (gI u2 48 10)) (fun (u4 : PoS) => post 0 u4)) ∧ (r1 = 0 → post 2 u2)))) ∧ (¬ (gI u 48 9) = 1 → post 1 u))
theorem np_X12_figure : yX12_figure.cls ≠ "java/lang/invoke/MethodHandle" ∧ yX12_figure.cls ≠ "java/lang/invoke/VarHandle" ∧ (parseMethodDescriptor yX12_figure.desc).map (fun d => d.parameters.length) = some 3 := by decide +kernel
set_option maxHeartbeats 4000000 in
set_option maxRecDepth 100000 in
theorem m_X12_figure (l : Launch) (V : VEn) {a0 : Int32} {a1 : Int32} {a2 : Int32} {u : PoS} {post : Int32 → PoS → Prop} (h : wp_X12_figure a0 a1 a2 u post) : KI l V yX12_figure cX12_figure 4 .int 2 [.ref (eA V 48), .int a0, .int a1, .int a2] u post := by
  refine KI_of (by decide) (Nat.le_of_ble_eq_true rfl) (lv := [(0, .ref (eA V 48)), (1, .int a0), (2, .int a1), (3, .int a2)]) rfl ?_
  intro p e s m args below meth c C
  rw [wp_X12_figure] at h
  refine a_aload_n C 0 dX12_figure_0 rfl rfl ?_
  refine a_geti C 9 dX12_figure_1 (by decide) rfl rfl rfl ib_12 (by decide) bw_1031 ?_
  refine a_iconst C 1 dX12_figure_4 (by decide) ?_
  refine a_icmp_eq C 10 dX12_figure_5 (by decide) (fun c6 => ?_) (fun c6 => ?_)
  · have h := h.1 c6
    refine a_aload_n C 0 dX12_figure_10 rfl rfl ?_
    refine a_geti C 10 dX12_figure_11 (by decide) rfl rfl rfl ib_12 (by decide) bw_1032 ?_
    refine a_iload_n C 2 dX12_figure_14 rfl rfl ?_
    refine a_iload_n C 3 dX12_figure_15 rfl rfl ?_
    refine a_callSi C dX12_figure_16 (m_X12_isIn l V h) bw_1147 bw_1148 bw_123 bw_1149 np_X12_isIn rfl rfl (by decide) (Nat.le_of_ble_eq_true rfl) (fun r1 u2 h => ?_)
    refine a_if_ne C 24 dX12_figure_19 (by decide) (fun c5 => ?_) (fun c5 => ?_)
    · have h := h.1 c5
      refine a_aload_n C 0 dX12_figure_24 rfl rfl ?_
      refine a_getr C 2 (r := 51) dX12_figure_25 (by decide) rfl rfl rfl ib_12 (by decide) bw_1024 ?_
      refine a_iload_n C 1 dX12_figure_28 rfl rfl ?_
      refine a_aload_n C 0 dX12_figure_29 rfl rfl ?_
      refine a_geti C 10 dX12_figure_30 (by decide) rfl rfl rfl ib_12 (by decide) bw_1032 ?_
      refine b_iast C (Int32.toNatClampNeg a0) dX12_figure_33 (by decide) rfl h.1 rfl ?_
      have h := h.2
      refine a_aload_n C 0 dX12_figure_34 rfl rfl ?_
      refine a_callVv C dX12_figure_35 (m_X12_nextToken l V h) bw_1194 bw_1196 bw_46 bw_123 bw_1197 (by decide) rfl rfl np_X12_nextToken rfl rfl (by decide) (Nat.le_of_ble_eq_true rfl) (fun u4 h => ?_)
      refine a_iconst C 0 dX12_figure_38 (by decide) ?_
      exact a_iret C dX12_figure_39 h
    · have h := h.2 c5
      refine a_iconst C 2 dX12_figure_22 (by decide) ?_
      exact a_iret C dX12_figure_23 h
  · have h := h.2 c6
    refine a_iconst C 1 dX12_figure_8 (by decide) ?_
    exact a_iret C dX12_figure_9 h

/-! RainOnTheOneModel.lawClause(I)I -/
def wp_X12_lawClause (a0 : Int32) (u : PoS) (post : Int32 → PoS → Prop) : Prop := vp_in (a0 + 1) 2724 ∧ wp_X12_summed (pI u 51 (Int32.toNatClampNeg (a0 + 1)) (gI u 48 13)) (fun (r1 : Int32) (u2 : PoS) => vp_in (a0 + 2) 2724 ∧ post r1 (pI u2 51 (Int32.toNatClampNeg (a0 + 2)) (gI u2 48 13)))
theorem np_X12_lawClause : yX12_lawClause.cls ≠ "java/lang/invoke/MethodHandle" ∧ yX12_lawClause.cls ≠ "java/lang/invoke/VarHandle" ∧ (parseMethodDescriptor yX12_lawClause.desc).map (fun d => d.parameters.length) = some 1 := by decide +kernel
set_option maxHeartbeats 4000000 in
set_option maxRecDepth 100000 in
theorem m_X12_lawClause (l : Launch) (V : VEn) {a0 : Int32} {u : PoS} {post : Int32 → PoS → Prop} (h : wp_X12_lawClause a0 u post) : KI l V yX12_lawClause cX12_lawClause 3 .int 8 [.ref (eA V 48), .int a0] u post := by
  refine KI_of (by decide) (Nat.le_of_ble_eq_true rfl) (lv := [(0, .ref (eA V 48)), (1, .int a0)]) rfl ?_
  intro p e s m args below meth c C
  rw [wp_X12_lawClause] at h
  refine a_aload_n C 0 dX12_lawClause_0 rfl rfl ?_
  refine a_getr C 2 (r := 51) dX12_lawClause_1 (by decide) rfl rfl rfl ib_12 (by decide) bw_1024 ?_
  refine a_iload_n C 1 dX12_lawClause_4 rfl rfl ?_
  refine a_iconst C 1 dX12_lawClause_5 (by decide) ?_
  refine a_iadd C dX12_lawClause_6 ?_
  refine a_aload_n C 0 dX12_lawClause_7 rfl rfl ?_
  refine a_geti C 13 dX12_lawClause_8 (by decide) rfl rfl rfl ib_12 (by decide) bw_1035 ?_
  refine b_iast C (Int32.toNatClampNeg (a0 + 1)) dX12_lawClause_11 (by decide) rfl h.1 rfl ?_
  have h := h.2
  refine a_aload_n C 0 dX12_lawClause_12 rfl rfl ?_
  refine a_callVi C dX12_lawClause_13 (m_X12_summed l V h) bw_1259 bw_1261 bw_55 bw_123 bw_1262 (by decide) rfl rfl np_X12_summed rfl rfl (by decide) (Nat.le_of_ble_eq_true rfl) (fun r1 u2 h => ?_)
  refine a_istore_n C [(2, .int r1), (0, .ref (eA V 48)), (1, .int a0)] dX12_lawClause_16 rfl (by decide) rfl ?_
  refine a_aload_n C 1 dX12_lawClause_17 rfl rfl ?_
  refine a_getr C 2 (r := 51) dX12_lawClause_18 (by decide) rfl rfl rfl ib_12 (by decide) bw_1024 ?_
  refine a_iload_n C 2 dX12_lawClause_21 rfl rfl ?_
  refine a_iconst C 2 dX12_lawClause_22 (by decide) ?_
  refine a_iadd C dX12_lawClause_23 ?_
  refine a_aload_n C 1 dX12_lawClause_24 rfl rfl ?_
  refine a_geti C 13 dX12_lawClause_25 (by decide) rfl rfl rfl ib_12 (by decide) bw_1035 ?_
  refine b_iast C (Int32.toNatClampNeg (a0 + 2)) dX12_lawClause_28 (by decide) rfl h.1 rfl ?_
  have h := h.2
  refine a_iload_n C 0 dX12_lawClause_29 rfl rfl ?_
  exact a_iret C dX12_lawClause_30 h

/-! RainOnTheOneModel.pair(IIJI)I -/
def wp_X12_pair (a0 : Int32) (a1 : Int32) (a2 : Int64) (a3 : Int32) (u : PoS) (post : Int32 → PoS → Prop) : Prop := wp_X12_figure (a0 + 1) 0 a1 u (fun (r1 : Int32) (u2 : PoS) => ((r1 = 0 → wp_X12_isWord a2 u2 (fun (r3 : Int32) (u4 : PoS) => ((¬ r3 = 0 → wp_X12_nextToken u4 (fun (u6 : PoS) => wp_X12_figure (a0 + 2) 0 a3 u6 (fun (r7 : Int32) (u8 : PoS) => post r7 u8))) ∧ (r3 = 0 → post 1 u4)))) ∧ (¬ r1 = 0 → post r1 u2)))
theorem np_X12_pair : yX12_pair.cls ≠ "java/lang/invoke/MethodHandle" ∧ yX12_pair.cls ≠ "java/lang/invoke/VarHandle" ∧ (parseMethodDescriptor yX12_pair.desc).map (fun d => d.parameters.length) = some 4 := by decide +kernel
set_option maxHeartbeats 4000000 in
set_option maxRecDepth 100000 in
theorem m_X12_pair (l : Launch) (V : VEn) {a0 : Int32} {a1 : Int32} {a2 : Int64} {a3 : Int32} {u : PoS} {post : Int32 → PoS → Prop} (h : wp_X12_pair a0 a1 a2 a3 u post) : KI l V yX12_pair cX12_pair 7 .int 3 [.ref (eA V 48), .int a0, .int a1, .long a2, .int a3] u post := by
  refine KI_of (by decide) (Nat.le_of_ble_eq_true rfl) (lv := [(0, .ref (eA V 48)), (1, .int a0), (2, .int a1), (3, .long a2), (5, .int a3)]) rfl ?_
  intro p e s m args below meth c C
  rw [wp_X12_pair] at h
  refine a_aload_n C 0 dX12_pair_0 rfl rfl ?_
  refine a_iload_n C 1 dX12_pair_1 rfl rfl ?_
  refine a_iconst C 1 dX12_pair_2 (by decide) ?_
  refine a_iadd C dX12_pair_3 ?_
  refine a_iconst C 0 dX12_pair_4 (by decide) ?_
  refine a_iload_n C 2 dX12_pair_5 rfl rfl ?_
  refine a_callVi C dX12_pair_6 (m_X12_figure l V h) bw_1247 bw_1249 bw_52 bw_123 bw_1250 (by decide) rfl rfl np_X12_figure rfl rfl (by decide) (Nat.le_of_ble_eq_true rfl) (fun r1 u2 h => ?_)
  refine a_istore C [(6, .int r1), (0, .ref (eA V 48)), (1, .int a0), (2, .int a1), (3, .long a2), (5, .int a3)] dX12_pair_9 (by decide) rfl ?_
  refine a_iload C 0 dX12_pair_11 rfl ?_
  refine a_if_eq C 19 dX12_pair_13 (by decide) (fun c10 => ?_) (fun c10 => ?_)
  · have h := h.1 c10
    refine a_aload_n C 1 dX12_pair_19 rfl rfl ?_
    refine a_lload_n C 4 dX12_pair_20 rfl rfl ?_
    refine a_callVi C dX12_pair_21 (m_X12_isWord l V h) bw_1233 bw_1235 bw_50 bw_123 bw_1236 (by decide) rfl rfl np_X12_isWord rfl rfl (by decide) (Nat.le_of_ble_eq_true rfl) (fun r3 u4 h => ?_)
    refine a_if_ne C 29 dX12_pair_24 (by decide) (fun c9 => ?_) (fun c9 => ?_)
    · have h := h.1 c9
      refine a_aload_n C 1 dX12_pair_29 rfl rfl ?_
      refine a_callVv C dX12_pair_30 (m_X12_nextToken l V h) bw_1194 bw_1196 bw_46 bw_123 bw_1197 (by decide) rfl rfl np_X12_nextToken rfl rfl (by decide) (Nat.le_of_ble_eq_true rfl) (fun u6 h => ?_)
      refine a_aload_n C 1 dX12_pair_33 rfl rfl ?_
      refine a_iload_n C 2 dX12_pair_34 rfl rfl ?_
      refine a_iconst C 2 dX12_pair_35 (by decide) ?_
      refine a_iadd C dX12_pair_36 ?_
      refine a_iconst C 0 dX12_pair_37 (by decide) ?_
      refine a_iload C 5 dX12_pair_38 rfl ?_
      refine a_callVi C dX12_pair_40 (m_X12_figure l V h) bw_1247 bw_1249 bw_52 bw_123 bw_1250 (by decide) rfl rfl np_X12_figure rfl rfl (by decide) (Nat.le_of_ble_eq_true rfl) (fun r7 u8 h => ?_)
      exact a_iret C dX12_pair_43 h
    · have h := h.2 c9
      refine a_iconst C 1 dX12_pair_27 (by decide) ?_
      exact a_iret C dX12_pair_28 h
  · have h := h.2 c10
    refine a_iload C 0 dX12_pair_16 rfl ?_
    exact a_iret C dX12_pair_18 h

/-! RainOnTheOneModel.body(II)I -/
def wp_X12_body (a0 : Int32) (a1 : Int32) (u : PoS) (post : Int32 → PoS → Prop) : Prop := ((a0 = 2 → wp_X12_figure (a1 + 1) 0 29 u (fun (r1 : Int32) (u2 : PoS) => post r1 u2)) ∧ (a0 = 3 → wp_X12_w2 111 102 u (fun (r3 : Int64) (u4 : PoS) => wp_X12_pair a1 99 r3 29 u4 (fun (r5 : Int32) (u6 : PoS) => post r5 u6))) ∧ (a0 = 4 → wp_X12_figure (a1 + 1) 0 29 u (fun (r7 : Int32) (u8 : PoS) => post r7 u8)) ∧ (a0 = 5 → wp_X12_w2 116 111 u (fun (r9 : Int64) (u10 : PoS) => wp_X12_pair a1 4 r9 29 u10 (fun (r11 : Int32) (u12 : PoS) => post r11 u12))) ∧ (a0 = 6 → wp_X12_figure (a1 + 1) 0 4 u (fun (r13 : Int32) (u14 : PoS) => post r13 u14)) ∧ (a0 = 7 → wp_X12_figure (a1 + 1) 0 4 u (fun (r15 : Int32) (u16 : PoS) => post r15 u16)) ∧ (a0 = 8 → post 0 u) ∧ (a0 = 9 → wp_X12_figure (a1 + 1) 1 60 u (fun (r17 : Int32) (u18 : PoS) => post r17 u18)) ∧ (¬ a0 = 2 → ¬ a0 = 3 → ¬ a0 = 4 → ¬ a0 = 5 → ¬ a0 = 6 → ¬ a0 = 7 → ¬ a0 = 8 → ¬ a0 = 9 → wp_X12_lawClause a1 u (fun (r19 : Int32) (u20 : PoS) => post r19 u20)))
theorem np_X12_body : yX12_body.cls ≠ "java/lang/invoke/MethodHandle" ∧ yX12_body.cls ≠ "java/lang/invoke/VarHandle" ∧ (parseMethodDescriptor yX12_body.desc).map (fun d => d.parameters.length) = some 2 := by decide +kernel
set_option maxHeartbeats 4000000 in
set_option maxRecDepth 100000 in
theorem m_X12_body (l : Launch) (V : VEn) {a0 : Int32} {a1 : Int32} {u : PoS} {post : Int32 → PoS → Prop} (h : wp_X12_body a0 a1 u post) : KI l V yX12_body cX12_body 3 .int 9 [.ref (eA V 48), .int a0, .int a1] u post := by
  refine KI_of (by decide) (Nat.le_of_ble_eq_true rfl) (lv := [(0, .ref (eA V 48)), (1, .int a0), (2, .int a1)]) rfl ?_
  intro p e s m args below meth c C
  rw [wp_X12_body] at h
  refine a_iload_n C 1 dX12_body_0 rfl rfl ?_
  obtain ⟨hs0, hs1, hs2, hs3, hs4, hs5, hs6, hs7, hd0⟩ := h
  by_cases hq0 : a0 = 2
  · have h := hs0 hq0
    refine a_tableIn C (off := 47) 48 dX12_body_1 (by rw [hq0]; decide) (by rw [hq0]; decide) (by rw [hq0]; decide +kernel) (by decide) ?_
    refine a_aload_n C 0 dX12_body_48 rfl rfl ?_
    refine a_iload_n C 2 dX12_body_49 rfl rfl ?_
    refine a_iconst C 1 dX12_body_50 (by decide) ?_
    refine a_iadd C dX12_body_51 ?_
    refine a_iconst C 0 dX12_body_52 (by decide) ?_
    refine a_bipush C 29 dX12_body_53 (by decide) ?_
    refine a_callVi C dX12_body_55 (m_X12_figure l V h) bw_1247 bw_1249 bw_52 bw_123 bw_1250 (by decide) rfl rfl np_X12_figure rfl rfl (by decide) (Nat.le_of_ble_eq_true rfl) (fun r1 u2 h => ?_)
    exact a_iret C dX12_body_58 h
  by_cases hq1 : a0 = 3
  · have h := hs1 hq1
    refine a_tableIn C (off := 58) 59 dX12_body_1 (by rw [hq1]; decide) (by rw [hq1]; decide) (by rw [hq1]; decide +kernel) (by decide) ?_
    refine a_aload_n C 0 dX12_body_59 rfl rfl ?_
    refine a_iload_n C 2 dX12_body_60 rfl rfl ?_
    refine a_bipush C 99 dX12_body_61 (by decide) ?_
    refine a_bipush C 111 dX12_body_63 (by decide) ?_
    refine a_bipush C 102 dX12_body_65 (by decide) ?_
    refine a_callSl C dX12_body_67 (m_X12_w2 l V h) bw_1230 bw_1231 bw_123 bw_1232 np_X12_w2 rfl rfl (by decide) (Nat.le_of_ble_eq_true rfl) (fun r3 u4 h => ?_)
    refine a_bipush C 29 dX12_body_70 (by decide) ?_
    refine a_callVi C dX12_body_72 (m_X12_pair l V h) bw_1251 bw_1253 bw_53 bw_123 bw_1254 (by decide) rfl rfl np_X12_pair rfl rfl (by decide) (Nat.le_of_ble_eq_true rfl) (fun r5 u6 h => ?_)
    exact a_iret C dX12_body_75 h
  by_cases hq2 : a0 = 4
  · have h := hs2 hq2
    refine a_tableIn C (off := 75) 76 dX12_body_1 (by rw [hq2]; decide) (by rw [hq2]; decide) (by rw [hq2]; decide +kernel) (by decide) ?_
    refine a_aload_n C 0 dX12_body_76 rfl rfl ?_
    refine a_iload_n C 2 dX12_body_77 rfl rfl ?_
    refine a_iconst C 1 dX12_body_78 (by decide) ?_
    refine a_iadd C dX12_body_79 ?_
    refine a_iconst C 0 dX12_body_80 (by decide) ?_
    refine a_bipush C 29 dX12_body_81 (by decide) ?_
    refine a_callVi C dX12_body_83 (m_X12_figure l V h) bw_1247 bw_1249 bw_52 bw_123 bw_1250 (by decide) rfl rfl np_X12_figure rfl rfl (by decide) (Nat.le_of_ble_eq_true rfl) (fun r7 u8 h => ?_)
    exact a_iret C dX12_body_86 h
  by_cases hq3 : a0 = 5
  · have h := hs3 hq3
    refine a_tableIn C (off := 86) 87 dX12_body_1 (by rw [hq3]; decide) (by rw [hq3]; decide) (by rw [hq3]; decide +kernel) (by decide) ?_
    refine a_aload_n C 0 dX12_body_87 rfl rfl ?_
    refine a_iload_n C 2 dX12_body_88 rfl rfl ?_
    refine a_iconst C 4 dX12_body_89 (by decide) ?_
    refine a_bipush C 116 dX12_body_90 (by decide) ?_
    refine a_bipush C 111 dX12_body_92 (by decide) ?_
    refine a_callSl C dX12_body_94 (m_X12_w2 l V h) bw_1230 bw_1231 bw_123 bw_1232 np_X12_w2 rfl rfl (by decide) (Nat.le_of_ble_eq_true rfl) (fun r9 u10 h => ?_)
    refine a_bipush C 29 dX12_body_97 (by decide) ?_
    refine a_callVi C dX12_body_99 (m_X12_pair l V h) bw_1251 bw_1253 bw_53 bw_123 bw_1254 (by decide) rfl rfl np_X12_pair rfl rfl (by decide) (Nat.le_of_ble_eq_true rfl) (fun r11 u12 h => ?_)
    exact a_iret C dX12_body_102 h
  by_cases hq4 : a0 = 6
  · have h := hs4 hq4
    refine a_tableIn C (off := 102) 103 dX12_body_1 (by rw [hq4]; decide) (by rw [hq4]; decide) (by rw [hq4]; decide +kernel) (by decide) ?_
    refine a_aload_n C 0 dX12_body_103 rfl rfl ?_
    refine a_iload_n C 2 dX12_body_104 rfl rfl ?_
    refine a_iconst C 1 dX12_body_105 (by decide) ?_
    refine a_iadd C dX12_body_106 ?_
    refine a_iconst C 0 dX12_body_107 (by decide) ?_
    refine a_iconst C 4 dX12_body_108 (by decide) ?_
    refine a_callVi C dX12_body_109 (m_X12_figure l V h) bw_1247 bw_1249 bw_52 bw_123 bw_1250 (by decide) rfl rfl np_X12_figure rfl rfl (by decide) (Nat.le_of_ble_eq_true rfl) (fun r13 u14 h => ?_)
    exact a_iret C dX12_body_112 h
  by_cases hq5 : a0 = 7
  · have h := hs5 hq5
    refine a_tableIn C (off := 112) 113 dX12_body_1 (by rw [hq5]; decide) (by rw [hq5]; decide) (by rw [hq5]; decide +kernel) (by decide) ?_
    refine a_aload_n C 0 dX12_body_113 rfl rfl ?_
    refine a_iload_n C 2 dX12_body_114 rfl rfl ?_
    refine a_iconst C 1 dX12_body_115 (by decide) ?_
    refine a_iadd C dX12_body_116 ?_
    refine a_iconst C 0 dX12_body_117 (by decide) ?_
    refine a_iconst C 4 dX12_body_118 (by decide) ?_
    refine a_callVi C dX12_body_119 (m_X12_figure l V h) bw_1247 bw_1249 bw_52 bw_123 bw_1250 (by decide) rfl rfl np_X12_figure rfl rfl (by decide) (Nat.le_of_ble_eq_true rfl) (fun r15 u16 h => ?_)
    exact a_iret C dX12_body_122 h
  by_cases hq6 : a0 = 8
  · have h := hs6 hq6
    refine a_tableIn C (off := 122) 123 dX12_body_1 (by rw [hq6]; decide) (by rw [hq6]; decide) (by rw [hq6]; decide +kernel) (by decide) ?_
    refine a_iconst C 0 dX12_body_123 (by decide) ?_
    exact a_iret C dX12_body_124 h
  by_cases hq7 : a0 = 9
  · have h := hs7 hq7
    refine a_tableIn C (off := 124) 125 dX12_body_1 (by rw [hq7]; decide) (by rw [hq7]; decide) (by rw [hq7]; decide +kernel) (by decide) ?_
    refine a_aload_n C 0 dX12_body_125 rfl rfl ?_
    refine a_iload_n C 2 dX12_body_126 rfl rfl ?_
    refine a_iconst C 1 dX12_body_127 (by decide) ?_
    refine a_iadd C dX12_body_128 ?_
    refine a_iconst C 1 dX12_body_129 (by decide) ?_
    refine a_bipush C 60 dX12_body_130 (by decide) ?_
    refine a_callVi C dX12_body_132 (m_X12_figure l V h) bw_1247 bw_1249 bw_52 bw_123 bw_1250 (by decide) rfl rfl np_X12_figure rfl rfl (by decide) (Nat.le_of_ble_eq_true rfl) (fun r17 u18 h => ?_)
    exact a_iret C dX12_body_135 h
  have h := hd0 hq0 hq1 hq2 hq3 hq4 hq5 hq6 hq7
  refine a_tableOut C 136 dX12_body_1 (tsw_out 2 9 (fun q h1 h2 => by rcases (show q = 2 ∨ q = 3 ∨ q = 4 ∨ q = 5 ∨ q = 6 ∨ q = 7 ∨ q = 8 ∨ q = 9 by omega) with rfl | rfl | rfl | rfl | rfl | rfl | rfl | rfl <;> first | exact lv_neT hq0 (by decide) | exact lv_neT hq1 (by decide) | exact lv_neT hq2 (by decide) | exact lv_neT hq3 (by decide) | exact lv_neT hq4 (by decide) | exact lv_neT hq5 (by decide) | exact lv_neT hq6 (by decide) | exact lv_neT hq7 (by decide))) (by decide) ?_
  refine a_aload_n C 0 dX12_body_136 rfl rfl ?_
  refine a_iload_n C 2 dX12_body_137 rfl rfl ?_
  refine a_callVi C dX12_body_138 (m_X12_lawClause l V h) bw_1255 bw_1257 bw_54 bw_123 bw_1258 (by decide) rfl rfl np_X12_lawClause rfl rfl (by decide) (Nat.le_of_ble_eq_true rfl) (fun r19 u20 h => ?_)
  exact a_iret C dX12_body_141 h

/-! RainOnTheOneModel.sortOf()I -/
def wp_X12_sortOf (u : PoS) (post : Int32 → PoS → Prop) : Prop := wp_X12_w5 119 97 110 116 115 u (fun (r1 : Int64) (u2 : PoS) => wp_X12_isWord r1 u2 (fun (r3 : Int32) (u4 : PoS) => ((r3 = 0 → wp_X12_w5 112 111 117 114 115 u4 (fun (r5 : Int64) (u6 : PoS) => wp_X12_isWord r5 u6 (fun (r7 : Int32) (u8 : PoS) => ((r7 = 0 → wp_X12_w6 112 101 114 115 111 110 u8 (fun (r9 : Int64) (u10 : PoS) => wp_X12_isWord r9 u10 (fun (r11 : Int32) (u12 : PoS) => ((r11 = 0 → wp_X12_w5 102 105 101 108 100 u12 (fun (r13 : Int64) (u14 : PoS) => wp_X12_isWord r13 u14 (fun (r15 : Int32) (u16 : PoS) => ((r15 = 0 → wp_X12_w4 115 104 101 100 u16 (fun (r17 : Int64) (u18 : PoS) => wp_X12_isWord r17 u18 (fun (r19 : Int32) (u20 : PoS) => ((r19 = 0 → wp_X12_w4 119 97 108 107 u20 (fun (r21 : Int64) (u22 : PoS) => wp_X12_isWord r21 u22 (fun (r23 : Int32) (u24 : PoS) => ((r23 = 0 → wp_X12_w3 104 97 116 u24 (fun (r25 : Int64) (u26 : PoS) => wp_X12_isWord r25 u26 (fun (r27 : Int32) (u28 : PoS) => ((r27 = 0 → wp_X12_w4 98 97 114 101 u28 (fun (r29 : Int64) (u30 : PoS) => wp_X12_isWord r29 u30 (fun (r31 : Int32) (u32 : PoS) => ((r31 = 0 → wp_X12_w4 100 114 97 119 u32 (fun (r33 : Int64) (u34 : PoS) => wp_X12_isWord r33 u34 (fun (r35 : Int32) (u36 : PoS) => ((r35 = 0 → wp_X12_w6 109 105 110 117 116 101 u36 (fun (r37 : Int64) (u38 : PoS) => wp_X12_isWord r37 u38 (fun (r39 : Int32) (u40 : PoS) => ((r39 = 0 → post (-1) u40) ∧ (¬ r39 = 0 → post 9 u40))))) ∧ (¬ r35 = 0 → post 8 u36))))) ∧ (¬ r31 = 0 → post 7 u32))))) ∧ (¬ r27 = 0 → post 6 u28))))) ∧ (¬ r23 = 0 → post 5 u24))))) ∧ (¬ r19 = 0 → post 4 u20))))) ∧ (¬ r15 = 0 → post 3 u16))))) ∧ (¬ r11 = 0 → post 2 u12))))) ∧ (¬ r7 = 0 → post 1 u8))))) ∧ (¬ r3 = 0 → post 0 u4))))
theorem np_X12_sortOf : yX12_sortOf.cls ≠ "java/lang/invoke/MethodHandle" ∧ yX12_sortOf.cls ≠ "java/lang/invoke/VarHandle" ∧ (parseMethodDescriptor yX12_sortOf.desc).map (fun d => d.parameters.length) = some 0 := by decide +kernel
set_option maxHeartbeats 4000000 in
set_option maxRecDepth 100000 in
theorem m_X12_sortOf (l : Launch) (V : VEn) {u : PoS} {post : Int32 → PoS → Prop} (h : wp_X12_sortOf  u post) : KI l V yX12_sortOf cX12_sortOf 1 .int 5 [.ref (eA V 48)] u post := by
  refine KI_of (by decide) (Nat.le_of_ble_eq_true rfl) (lv := [(0, .ref (eA V 48))]) rfl ?_
  intro p e s m args below meth c C
  rw [wp_X12_sortOf] at h
  refine a_aload_n C 0 dX12_sortOf_0 rfl rfl ?_
  refine a_bipush C 119 dX12_sortOf_1 (by decide) ?_
  refine a_bipush C 97 dX12_sortOf_3 (by decide) ?_
  refine a_bipush C 110 dX12_sortOf_5 (by decide) ?_
  refine a_bipush C 116 dX12_sortOf_7 (by decide) ?_
  refine a_bipush C 115 dX12_sortOf_9 (by decide) ?_
  refine a_callSl C dX12_sortOf_11 (m_X12_w5 l V h) bw_1221 bw_1222 bw_123 bw_1223 np_X12_w5 rfl rfl (by decide) (Nat.le_of_ble_eq_true rfl) (fun r1 u2 h => ?_)
  refine a_callVi C dX12_sortOf_14 (m_X12_isWord l V h) bw_1233 bw_1235 bw_50 bw_123 bw_1236 (by decide) rfl rfl np_X12_isWord rfl rfl (by decide) (Nat.le_of_ble_eq_true rfl) (fun r3 u4 h => ?_)
  refine a_if_eq C 22 dX12_sortOf_17 (by decide) (fun c50 => ?_) (fun c50 => ?_)
  · have h := h.1 c50
    refine a_aload_n C 0 dX12_sortOf_22 rfl rfl ?_
    refine a_bipush C 112 dX12_sortOf_23 (by decide) ?_
    refine a_bipush C 111 dX12_sortOf_25 (by decide) ?_
    refine a_bipush C 117 dX12_sortOf_27 (by decide) ?_
    refine a_bipush C 114 dX12_sortOf_29 (by decide) ?_
    refine a_bipush C 115 dX12_sortOf_31 (by decide) ?_
    refine a_callSl C dX12_sortOf_33 (m_X12_w5 l V h) bw_1221 bw_1222 bw_123 bw_1223 np_X12_w5 rfl rfl (by decide) (Nat.le_of_ble_eq_true rfl) (fun r5 u6 h => ?_)
    refine a_callVi C dX12_sortOf_36 (m_X12_isWord l V h) bw_1233 bw_1235 bw_50 bw_123 bw_1236 (by decide) rfl rfl np_X12_isWord rfl rfl (by decide) (Nat.le_of_ble_eq_true rfl) (fun r7 u8 h => ?_)
    refine a_if_eq C 44 dX12_sortOf_39 (by decide) (fun c49 => ?_) (fun c49 => ?_)
    · have h := h.1 c49
      refine a_aload_n C 0 dX12_sortOf_44 rfl rfl ?_
      refine a_bipush C 112 dX12_sortOf_45 (by decide) ?_
      refine a_bipush C 101 dX12_sortOf_47 (by decide) ?_
      refine a_bipush C 114 dX12_sortOf_49 (by decide) ?_
      refine a_bipush C 115 dX12_sortOf_51 (by decide) ?_
      refine a_bipush C 111 dX12_sortOf_53 (by decide) ?_
      refine a_bipush C 110 dX12_sortOf_55 (by decide) ?_
      refine a_callSl C dX12_sortOf_57 (m_X12_w6 l V h) bw_1237 bw_1238 bw_123 bw_1239 np_X12_w6 rfl rfl (by decide) (Nat.le_of_ble_eq_true rfl) (fun r9 u10 h => ?_)
      refine a_callVi C dX12_sortOf_60 (m_X12_isWord l V h) bw_1233 bw_1235 bw_50 bw_123 bw_1236 (by decide) rfl rfl np_X12_isWord rfl rfl (by decide) (Nat.le_of_ble_eq_true rfl) (fun r11 u12 h => ?_)
      refine a_if_eq C 68 dX12_sortOf_63 (by decide) (fun c48 => ?_) (fun c48 => ?_)
      · have h := h.1 c48
        refine a_aload_n C 0 dX12_sortOf_68 rfl rfl ?_
        refine a_bipush C 102 dX12_sortOf_69 (by decide) ?_
        refine a_bipush C 105 dX12_sortOf_71 (by decide) ?_
        refine a_bipush C 101 dX12_sortOf_73 (by decide) ?_
        refine a_bipush C 108 dX12_sortOf_75 (by decide) ?_
        refine a_bipush C 100 dX12_sortOf_77 (by decide) ?_
        refine a_callSl C dX12_sortOf_79 (m_X12_w5 l V h) bw_1221 bw_1222 bw_123 bw_1223 np_X12_w5 rfl rfl (by decide) (Nat.le_of_ble_eq_true rfl) (fun r13 u14 h => ?_)
        refine a_callVi C dX12_sortOf_82 (m_X12_isWord l V h) bw_1233 bw_1235 bw_50 bw_123 bw_1236 (by decide) rfl rfl np_X12_isWord rfl rfl (by decide) (Nat.le_of_ble_eq_true rfl) (fun r15 u16 h => ?_)
        refine a_if_eq C 90 dX12_sortOf_85 (by decide) (fun c47 => ?_) (fun c47 => ?_)
        · have h := h.1 c47
          refine a_aload_n C 0 dX12_sortOf_90 rfl rfl ?_
          refine a_bipush C 115 dX12_sortOf_91 (by decide) ?_
          refine a_bipush C 104 dX12_sortOf_93 (by decide) ?_
          refine a_bipush C 101 dX12_sortOf_95 (by decide) ?_
          refine a_bipush C 100 dX12_sortOf_97 (by decide) ?_
          refine a_callSl C dX12_sortOf_99 (m_X12_w4 l V h) bw_1224 bw_1225 bw_123 bw_1226 np_X12_w4 rfl rfl (by decide) (Nat.le_of_ble_eq_true rfl) (fun r17 u18 h => ?_)
          refine a_callVi C dX12_sortOf_102 (m_X12_isWord l V h) bw_1233 bw_1235 bw_50 bw_123 bw_1236 (by decide) rfl rfl np_X12_isWord rfl rfl (by decide) (Nat.le_of_ble_eq_true rfl) (fun r19 u20 h => ?_)
          refine a_if_eq C 110 dX12_sortOf_105 (by decide) (fun c46 => ?_) (fun c46 => ?_)
          · have h := h.1 c46
            refine a_aload_n C 0 dX12_sortOf_110 rfl rfl ?_
            refine a_bipush C 119 dX12_sortOf_111 (by decide) ?_
            refine a_bipush C 97 dX12_sortOf_113 (by decide) ?_
            refine a_bipush C 108 dX12_sortOf_115 (by decide) ?_
            refine a_bipush C 107 dX12_sortOf_117 (by decide) ?_
            refine a_callSl C dX12_sortOf_119 (m_X12_w4 l V h) bw_1224 bw_1225 bw_123 bw_1226 np_X12_w4 rfl rfl (by decide) (Nat.le_of_ble_eq_true rfl) (fun r21 u22 h => ?_)
            refine a_callVi C dX12_sortOf_122 (m_X12_isWord l V h) bw_1233 bw_1235 bw_50 bw_123 bw_1236 (by decide) rfl rfl np_X12_isWord rfl rfl (by decide) (Nat.le_of_ble_eq_true rfl) (fun r23 u24 h => ?_)
            refine a_if_eq C 130 dX12_sortOf_125 (by decide) (fun c45 => ?_) (fun c45 => ?_)
            · have h := h.1 c45
              refine a_aload_n C 0 dX12_sortOf_130 rfl rfl ?_
              refine a_bipush C 104 dX12_sortOf_131 (by decide) ?_
              refine a_bipush C 97 dX12_sortOf_133 (by decide) ?_
              refine a_bipush C 116 dX12_sortOf_135 (by decide) ?_
              refine a_callSl C dX12_sortOf_137 (m_X12_w3 l V h) bw_1227 bw_1228 bw_123 bw_1229 np_X12_w3 rfl rfl (by decide) (Nat.le_of_ble_eq_true rfl) (fun r25 u26 h => ?_)
              refine a_callVi C dX12_sortOf_140 (m_X12_isWord l V h) bw_1233 bw_1235 bw_50 bw_123 bw_1236 (by decide) rfl rfl np_X12_isWord rfl rfl (by decide) (Nat.le_of_ble_eq_true rfl) (fun r27 u28 h => ?_)
              refine a_if_eq C 149 dX12_sortOf_143 (by decide) (fun c44 => ?_) (fun c44 => ?_)
              · have h := h.1 c44
                refine a_aload_n C 0 dX12_sortOf_149 rfl rfl ?_
                refine a_bipush C 98 dX12_sortOf_150 (by decide) ?_
                refine a_bipush C 97 dX12_sortOf_152 (by decide) ?_
                refine a_bipush C 114 dX12_sortOf_154 (by decide) ?_
                refine a_bipush C 101 dX12_sortOf_156 (by decide) ?_
                refine a_callSl C dX12_sortOf_158 (m_X12_w4 l V h) bw_1224 bw_1225 bw_123 bw_1226 np_X12_w4 rfl rfl (by decide) (Nat.le_of_ble_eq_true rfl) (fun r29 u30 h => ?_)
                refine a_callVi C dX12_sortOf_161 (m_X12_isWord l V h) bw_1233 bw_1235 bw_50 bw_123 bw_1236 (by decide) rfl rfl np_X12_isWord rfl rfl (by decide) (Nat.le_of_ble_eq_true rfl) (fun r31 u32 h => ?_)
                refine a_if_eq C 170 dX12_sortOf_164 (by decide) (fun c43 => ?_) (fun c43 => ?_)
                · have h := h.1 c43
                  refine a_aload_n C 0 dX12_sortOf_170 rfl rfl ?_
                  refine a_bipush C 100 dX12_sortOf_171 (by decide) ?_
                  refine a_bipush C 114 dX12_sortOf_173 (by decide) ?_
                  refine a_bipush C 97 dX12_sortOf_175 (by decide) ?_
                  refine a_bipush C 119 dX12_sortOf_177 (by decide) ?_
                  refine a_callSl C dX12_sortOf_179 (m_X12_w4 l V h) bw_1224 bw_1225 bw_123 bw_1226 np_X12_w4 rfl rfl (by decide) (Nat.le_of_ble_eq_true rfl) (fun r33 u34 h => ?_)
                  refine a_callVi C dX12_sortOf_182 (m_X12_isWord l V h) bw_1233 bw_1235 bw_50 bw_123 bw_1236 (by decide) rfl rfl np_X12_isWord rfl rfl (by decide) (Nat.le_of_ble_eq_true rfl) (fun r35 u36 h => ?_)
                  refine a_if_eq C 193 dX12_sortOf_185 (by decide) (fun c42 => ?_) (fun c42 => ?_)
                  · have h := h.1 c42
                    refine a_aload_n C 0 dX12_sortOf_193 rfl rfl ?_
                    refine a_bipush C 109 dX12_sortOf_194 (by decide) ?_
                    refine a_bipush C 105 dX12_sortOf_196 (by decide) ?_
                    refine a_bipush C 110 dX12_sortOf_198 (by decide) ?_
                    refine a_bipush C 117 dX12_sortOf_200 (by decide) ?_
                    refine a_bipush C 116 dX12_sortOf_202 (by decide) ?_
                    refine a_bipush C 101 dX12_sortOf_204 (by decide) ?_
                    refine a_callSl C dX12_sortOf_206 (m_X12_w6 l V h) bw_1237 bw_1238 bw_123 bw_1239 np_X12_w6 rfl rfl (by decide) (Nat.le_of_ble_eq_true rfl) (fun r37 u38 h => ?_)
                    refine a_callVi C dX12_sortOf_209 (m_X12_isWord l V h) bw_1233 bw_1235 bw_50 bw_123 bw_1236 (by decide) rfl rfl np_X12_isWord rfl rfl (by decide) (Nat.le_of_ble_eq_true rfl) (fun r39 u40 h => ?_)
                    refine a_if_eq C 220 dX12_sortOf_212 (by decide) (fun c41 => ?_) (fun c41 => ?_)
                    · have h := h.1 c41
                      refine a_iconst C (-1) dX12_sortOf_220 (by decide) ?_
                      exact a_iret C dX12_sortOf_221 h
                    · have h := h.2 c41
                      refine a_bipush C 9 dX12_sortOf_215 (by decide) ?_
                      refine a_goto C 221 dX12_sortOf_217 (by decide) ?_
                      exact a_iret C dX12_sortOf_221 h
                  · have h := h.2 c42
                    refine a_bipush C 8 dX12_sortOf_188 (by decide) ?_
                    refine a_goto C 221 dX12_sortOf_190 (by decide) ?_
                    exact a_iret C dX12_sortOf_221 h
                · have h := h.2 c43
                  refine a_bipush C 7 dX12_sortOf_167 (by decide) ?_
                  exact a_iret C dX12_sortOf_169 h
              · have h := h.2 c44
                refine a_bipush C 6 dX12_sortOf_146 (by decide) ?_
                exact a_iret C dX12_sortOf_148 h
            · have h := h.2 c45
              refine a_iconst C 5 dX12_sortOf_128 (by decide) ?_
              exact a_iret C dX12_sortOf_129 h
          · have h := h.2 c46
            refine a_iconst C 4 dX12_sortOf_108 (by decide) ?_
            exact a_iret C dX12_sortOf_109 h
        · have h := h.2 c47
          refine a_iconst C 3 dX12_sortOf_88 (by decide) ?_
          exact a_iret C dX12_sortOf_89 h
      · have h := h.2 c48
        refine a_iconst C 2 dX12_sortOf_66 (by decide) ?_
        exact a_iret C dX12_sortOf_67 h
    · have h := h.2 c49
      refine a_iconst C 1 dX12_sortOf_42 (by decide) ?_
      exact a_iret C dX12_sortOf_43 h
  · have h := h.2 c50
    refine a_iconst C 0 dX12_sortOf_20 (by decide) ?_
    exact a_iret C dX12_sortOf_21 h

/-! RainOnTheOneModel.clause()I -/
def wj_X12_clause_65 (post : Int32 → PoS → Prop) (v1 : Int32) (v2 : Int32) (u : PoS) : Prop := wp_X12_nextToken (pI u 48 14 v1) (fun (u5 : PoS) => ∀ x6 : Int32, x6 = (((gI u5 48 12) + 1) + (3 * v2)) → vp_in x6 2724 ∧ wp_X12_body v1 x6 (pI u5 51 (Int32.toNatClampNeg x6) v1) (fun (r7 : Int32) (u8 : PoS) => ((r7 = 0 → vp_in (gI u8 48 12) 2724 ∧ vp_in (gI u8 48 12) 2724 ∧ (((gI (pI u8 51 (Int32.toNatClampNeg (gI u8 48 12)) ((gI u8 51 (Int32.toNatClampNeg (gI u8 48 12))) + 1)) 48 9) = 59 → wp_X12_nextToken (pI u8 51 (Int32.toNatClampNeg (gI u8 48 12)) ((gI u8 51 (Int32.toNatClampNeg (gI u8 48 12))) + 1)) (fun (u10 : PoS) => post 0 u10)) ∧ (¬ (gI (pI u8 51 (Int32.toNatClampNeg (gI u8 48 12)) ((gI u8 51 (Int32.toNatClampNeg (gI u8 48 12))) + 1)) 48 9) = 59 → post 1 (pI u8 51 (Int32.toNatClampNeg (gI u8 48 12)) ((gI u8 51 (Int32.toNatClampNeg (gI u8 48 12))) + 1))))) ∧ (¬ r7 = 0 → post r7 u8))))
def wj_X12_clause_29 (post : Int32 → PoS → Prop) (v1 : Int32) (u : PoS) : Prop := vp_in (gI u 48 12) 2724 ∧ ∀ x3 : Int32, x3 = (gI u 51 (Int32.toNatClampNeg (gI u 48 12))) → ((¬ x3 = 24 → ((1 < v1 → wj_X12_clause_65 post v1 x3 u) ∧ (¬ 1 < v1 → wj_X12_clause_65 post v1 x3 (pI u 48 19 ((gI u 48 19) ||| (1 <<< (v1 &&& 31))))))) ∧ (x3 = 24 → post 6 u))
def wp_X12_clause (u : PoS) (post : Int32 → PoS → Prop) : Prop := wp_X12_sortOf u (fun (r1 : Int32) (u2 : PoS) => ((0 ≤ r1 → ((1 < r1 → wj_X12_clause_29 post r1 u2) ∧ (¬ 1 < r1 → wp_X12_has (gI u2 48 19) r1 u2 (fun (r15 : Int32) (u16 : PoS) => ((r15 = 0 → wj_X12_clause_29 post r1 u16) ∧ (¬ r15 = 0 → post 4 u16)))))) ∧ (¬ 0 ≤ r1 → post 1 u2)))
set_option maxHeartbeats 4000000 in
set_option maxRecDepth 100000 in
theorem tj_X12_clause_65 {p : Program} {l : Launch} {e : Env} {s : State} {m : MethodId} {args : Array Value} {below : List Frame} {meth : Method} {c : Code} {V : VEn} {post : Int32 → PoS → Prop} (C : CxS p s m args meth c V cX12_clause 5 RX12 (some .int)) (v1 : Int32) (v2 : Int32) (u : PoS) (h : wj_X12_clause_65 post v1 v2 u) : AtS p l e (Rm 10) s m args below meth c V 5 (QI V below args s post) 65 [(0, .ref (eA V 48)), (1, .int v1), (2, .int v2)] [] u := by
  rw [wj_X12_clause_65] at h
  refine a_aload_n C 0 dX12_clause_65 rfl rfl ?_
  refine a_iload_n C 1 dX12_clause_66 rfl rfl ?_
  refine a_puti C (ty := .int) 14 dX12_clause_67 (by decide) rfl rfl rfl ib_12 (by decide) bw_1036 tyX12 tyX12_ok nmX12 rfl (by decide +kernel) rfl rfl ?_
  refine a_aload_n C 0 dX12_clause_70 rfl rfl ?_
  refine a_callVv C dX12_clause_71 (m_X12_nextToken l V h) bw_1194 bw_1196 bw_46 bw_123 bw_1197 (by decide) rfl rfl np_X12_nextToken rfl rfl (by decide) (Nat.le_of_ble_eq_true rfl) (fun u5 h => ?_)
  refine a_aload_n C 0 dX12_clause_74 rfl rfl ?_
  refine a_geti C 12 dX12_clause_75 (by decide) rfl rfl rfl ib_12 (by decide) bw_1034 ?_
  refine a_iconst C 1 dX12_clause_78 (by decide) ?_
  refine a_iadd C dX12_clause_79 ?_
  refine a_iconst C 3 dX12_clause_80 (by decide) ?_
  refine a_iload_n C 2 dX12_clause_81 rfl rfl ?_
  refine a_imul C dX12_clause_82 ?_
  refine a_iadd C dX12_clause_83 ?_
  refine a_topi (fun x6 ex6 => ?_)
  have h := h x6 ex6
  refine a_istore_n C [(3, .int x6), (0, .ref (eA V 48)), (1, .int v1), (2, .int v2)] dX12_clause_84 rfl (by decide) rfl ?_
  refine a_aload_n C 1 dX12_clause_85 rfl rfl ?_
  refine a_getr C 2 (r := 51) dX12_clause_86 (by decide) rfl rfl rfl ib_12 (by decide) bw_1024 ?_
  refine a_iload_n C 0 dX12_clause_89 rfl rfl ?_
  refine a_iload_n C 2 dX12_clause_90 rfl rfl ?_
  refine b_iast C (Int32.toNatClampNeg x6) dX12_clause_91 (by decide) rfl h.1 rfl ?_
  have h := h.2
  refine a_aload_n C 1 dX12_clause_92 rfl rfl ?_
  refine a_iload_n C 2 dX12_clause_93 rfl rfl ?_
  refine a_iload_n C 0 dX12_clause_94 rfl rfl ?_
  refine a_callVi C dX12_clause_95 (m_X12_body l V h) bw_1243 bw_1245 bw_51 bw_123 bw_1246 (by decide) rfl rfl np_X12_body rfl rfl (by decide) (Nat.le_of_ble_eq_true rfl) (fun r7 u8 h => ?_)
  refine a_istore C [(4, .int r7), (3, .int x6), (0, .ref (eA V 48)), (1, .int v1), (2, .int v2)] dX12_clause_98 (by decide) rfl ?_
  refine a_iload C 0 dX12_clause_100 rfl ?_
  refine a_if_eq C 108 dX12_clause_102 (by decide) (fun c12 => ?_) (fun c12 => ?_)
  · have h := h.1 c12
    refine a_aload_n C 2 dX12_clause_108 rfl rfl ?_
    refine a_getr C 2 (r := 51) dX12_clause_109 (by decide) rfl rfl rfl ib_12 (by decide) bw_1024 ?_
    refine a_aload_n C 2 dX12_clause_112 rfl rfl ?_
    refine a_geti C 12 dX12_clause_113 (by decide) rfl rfl rfl ib_12 (by decide) bw_1034 ?_
    refine a_dup2 C dX12_clause_116 rfl rfl ?_
    refine b_iald C (Int32.toNatClampNeg (gI u8 48 12)) dX12_clause_117 (by decide) rfl h.1 rfl ?_
    have h := h.2
    refine a_iconst C 1 dX12_clause_118 (by decide) ?_
    refine a_iadd C dX12_clause_119 ?_
    refine b_iast C (Int32.toNatClampNeg (gI u8 48 12)) dX12_clause_120 (by decide) rfl h.1 rfl ?_
    have h := h.2
    refine a_aload_n C 2 dX12_clause_121 rfl rfl ?_
    refine a_geti C 9 dX12_clause_122 (by decide) rfl rfl rfl ib_12 (by decide) bw_1031 ?_
    refine a_bipush C 59 dX12_clause_125 (by decide) ?_
    refine a_icmp_eq C 132 dX12_clause_127 (by decide) (fun c11 => ?_) (fun c11 => ?_)
    · have h := h.1 c11
      refine a_aload_n C 2 dX12_clause_132 rfl rfl ?_
      refine a_callVv C dX12_clause_133 (m_X12_nextToken l V h) bw_1194 bw_1196 bw_46 bw_123 bw_1197 (by decide) rfl rfl np_X12_nextToken rfl rfl (by decide) (Nat.le_of_ble_eq_true rfl) (fun u10 h => ?_)
      refine a_iconst C 0 dX12_clause_136 (by decide) ?_
      exact a_iret C dX12_clause_137 h
    · have h := h.2 c11
      refine a_iconst C 1 dX12_clause_130 (by decide) ?_
      exact a_iret C dX12_clause_131 h
  · have h := h.2 c12
    refine a_iload C 0 dX12_clause_105 rfl ?_
    exact a_iret C dX12_clause_107 h
set_option maxHeartbeats 4000000 in
set_option maxRecDepth 100000 in
theorem tj_X12_clause_29 {p : Program} {l : Launch} {e : Env} {s : State} {m : MethodId} {args : Array Value} {below : List Frame} {meth : Method} {c : Code} {V : VEn} {post : Int32 → PoS → Prop} (C : CxS p s m args meth c V cX12_clause 5 RX12 (some .int)) (v1 : Int32) (u : PoS) (h : wj_X12_clause_29 post v1 u) : AtS p l e (Rm 10) s m args below meth c V 5 (QI V below args s post) 29 [(0, .ref (eA V 48)), (1, .int v1)] [] u := by
  rw [wj_X12_clause_29] at h
  refine a_aload_n C 0 dX12_clause_29 rfl rfl ?_
  refine a_getr C 2 (r := 51) dX12_clause_30 (by decide) rfl rfl rfl ib_12 (by decide) bw_1024 ?_
  refine a_aload_n C 0 dX12_clause_33 rfl rfl ?_
  refine a_geti C 12 dX12_clause_34 (by decide) rfl rfl rfl ib_12 (by decide) bw_1034 ?_
  refine b_iald C (Int32.toNatClampNeg (gI u 48 12)) dX12_clause_37 (by decide) rfl h.1 rfl ?_
  have h := h.2
  refine a_topi (fun x3 ex3 => ?_)
  have h := h x3 ex3
  refine a_istore_n C [(2, .int x3), (0, .ref (eA V 48)), (1, .int v1)] dX12_clause_38 rfl (by decide) rfl ?_
  refine a_iload_n C 0 dX12_clause_39 rfl rfl ?_
  refine a_bipush C 24 dX12_clause_40 (by decide) ?_
  refine a_icmp_ne C 48 dX12_clause_42 (by decide) (fun c14 => ?_) (fun c14 => ?_)
  · have h := h.1 c14
    refine a_iload_n C 2 dX12_clause_48 rfl rfl ?_
    refine a_iconst C 1 dX12_clause_49 (by decide) ?_
    refine a_icmp_gt C 65 dX12_clause_50 (by decide) (fun c13 => ?_) (fun c13 => ?_)
    · have h := h.1 c13
      refine a_sub [1, 2, 0] rfl ?_
      refine tj_X12_clause_65 C _ _ _ h
    · have h := h.2 c13
      refine a_aload_n C 1 dX12_clause_53 rfl rfl ?_
      refine a_dup C dX12_clause_54 rfl ?_
      refine a_geti C 19 dX12_clause_55 (by decide) rfl rfl rfl ib_12 (by decide) bw_1041 ?_
      refine a_iconst C 1 dX12_clause_58 (by decide) ?_
      refine a_iload_n C 2 dX12_clause_59 rfl rfl ?_
      refine a_ishl C dX12_clause_60 ?_
      refine a_ior C dX12_clause_61 ?_
      refine a_puti C (ty := .int) 19 dX12_clause_62 (by decide) rfl rfl rfl ib_12 (by decide) bw_1041 tyX12 tyX12_ok nmX12 rfl (by decide +kernel) rfl rfl ?_
      refine a_sub [1, 2, 0] rfl ?_
      refine tj_X12_clause_65 C _ _ _ h
  · have h := h.2 c14
    refine a_bipush C 6 dX12_clause_45 (by decide) ?_
    exact a_iret C dX12_clause_47 h
theorem np_X12_clause : yX12_clause.cls ≠ "java/lang/invoke/MethodHandle" ∧ yX12_clause.cls ≠ "java/lang/invoke/VarHandle" ∧ (parseMethodDescriptor yX12_clause.desc).map (fun d => d.parameters.length) = some 0 := by decide +kernel
set_option maxHeartbeats 4000000 in
set_option maxRecDepth 100000 in
theorem m_X12_clause (l : Launch) (V : VEn) {u : PoS} {post : Int32 → PoS → Prop} (h : wp_X12_clause  u post) : KI l V yX12_clause cX12_clause 5 .int 10 [.ref (eA V 48)] u post := by
  refine KI_of (by decide) (Nat.le_of_ble_eq_true rfl) (lv := [(0, .ref (eA V 48))]) rfl ?_
  intro p e s m args below meth c C
  rw [wp_X12_clause] at h
  refine a_aload_n C 0 dX12_clause_0 rfl rfl ?_
  refine a_callVi C dX12_clause_1 (m_X12_sortOf l V h) bw_1217 bw_1219 bw_49 bw_123 bw_1220 (by decide) rfl rfl np_X12_sortOf rfl rfl (by decide) (Nat.le_of_ble_eq_true rfl) (fun r1 u2 h => ?_)
  refine a_istore_n C [(1, .int r1), (0, .ref (eA V 48))] dX12_clause_4 rfl (by decide) rfl ?_
  refine a_iload_n C 0 dX12_clause_5 rfl rfl ?_
  refine a_if_ge C 11 dX12_clause_6 (by decide) (fun c19 => ?_) (fun c19 => ?_)
  · have h := h.1 c19
    refine a_iload_n C 0 dX12_clause_11 rfl rfl ?_
    refine a_iconst C 1 dX12_clause_12 (by decide) ?_
    refine a_icmp_gt C 29 dX12_clause_13 (by decide) (fun c18 => ?_) (fun c18 => ?_)
    · have h := h.1 c18
      refine a_sub [1, 0] rfl ?_
      refine tj_X12_clause_29 C _ _ h
    · have h := h.2 c18
      refine a_aload_n C 1 dX12_clause_16 rfl rfl ?_
      refine a_geti C 19 dX12_clause_17 (by decide) rfl rfl rfl ib_12 (by decide) bw_1041 ?_
      refine a_iload_n C 0 dX12_clause_20 rfl rfl ?_
      refine a_callSi C dX12_clause_21 (m_X12_has l V h) bw_1240 bw_1241 bw_123 bw_1242 np_X12_has rfl rfl (by decide) (Nat.le_of_ble_eq_true rfl) (fun r15 u16 h => ?_)
      refine a_if_eq C 29 dX12_clause_24 (by decide) (fun c17 => ?_) (fun c17 => ?_)
      · have h := h.1 c17
        refine a_sub [1, 0] rfl ?_
        refine tj_X12_clause_29 C _ _ h
      · have h := h.2 c17
        refine a_iconst C 4 dX12_clause_27 (by decide) ?_
        exact a_iret C dX12_clause_28 h
  · have h := h.2 c19
    refine a_iconst C 1 dX12_clause_9 (by decide) ?_
    exact a_iret C dX12_clause_10 h

/-! RainOnTheOneModel.readText()I -/
def wl_X12_readText_43 (post : Int32 → PoS → Prop) : Nat → PoS → Prop
  | 0, _ => False
  | n + 1, u => (((gI u 48 9) = 0 → post 0 u) ∧ (¬ (gI u 48 9) = 0 → wp_X12_clause u (fun (r3 : Int32) (u4 : PoS) => ((r3 = 0 → wl_X12_readText_43 post n  u4) ∧ (¬ r3 = 0 → post r3 u4)))))
def wp_X12_readText (u : PoS) (post : Int32 → PoS → Prop) : Prop := vp_in (gI (pI u 48 12 (681 * (gI u 49 1))) 48 12) 2724 ∧ wp_X12_nextToken (pI (pI (pI (pI (pI u 48 12 (681 * (gI u 49 1))) 51 (Int32.toNatClampNeg (gI (pI u 48 12 (681 * (gI u 49 1))) 48 12)) 0) 48 13 0) 48 19 0) 48 7 0) (fun (u2 : PoS) => (∃ n43, wl_X12_readText_43 post n43  u2))
set_option maxHeartbeats 4000000 in
set_option maxRecDepth 100000 in
theorem tl_X12_readText_43 {p : Program} {l : Launch} {e : Env} {s : State} {m : MethodId} {args : Array Value} {below : List Frame} {meth : Method} {c : Code} {V : VEn} {post : Int32 → PoS → Prop} (C : CxS p s m args meth c V cX12_readText 2 RX12 (some .int)) : ∀ (n : Nat) (u : PoS), wl_X12_readText_43 post n  u → AtS p l e (Rm 11) s m args below meth c V 2 (QI V below args s post) 43 [(0, .ref (eA V 48))] [] u := by
  intro n
  induction n with
  | zero => intro u h; exact h.elim
  | succ n ih =>
    intro u h
    rw [wl_X12_readText_43] at h
    refine a_aload_n C 0 dX12_readText_43 rfl rfl ?_
    refine a_geti C 9 dX12_readText_44 (by decide) rfl rfl rfl ib_12 (by decide) bw_1031 ?_
    refine a_if_eq C 64 dX12_readText_47 (by decide) (fun c6 => ?_) (fun c6 => ?_)
    · have h := h.1 c6
      refine a_iconst C 0 dX12_readText_64 (by decide) ?_
      exact a_iret C dX12_readText_65 h
    · have h := h.2 c6
      refine a_aload_n C 0 dX12_readText_50 rfl rfl ?_
      refine a_callVi C dX12_readText_51 (m_X12_clause l V h) bw_1213 bw_1215 bw_48 bw_123 bw_1216 (by decide) rfl rfl np_X12_clause rfl rfl (by decide) (Nat.le_of_ble_eq_true rfl) (fun r3 u4 h => ?_)
      refine a_istore_n C [(1, .int r3), (0, .ref (eA V 48))] dX12_readText_54 rfl (by decide) rfl ?_
      refine a_iload_n C 0 dX12_readText_55 rfl rfl ?_
      refine a_if_eq C 61 dX12_readText_56 (by decide) (fun c5 => ?_) (fun c5 => ?_)
      · have h := h.1 c5
        refine a_goto C 43 dX12_readText_61 (by decide) ?_
        refine a_sub [1] rfl ?_
        exact ih _ h
      · have h := h.2 c5
        refine a_iload_n C 0 dX12_readText_59 rfl rfl ?_
        exact a_iret C dX12_readText_60 h
theorem np_X12_readText : yX12_readText.cls ≠ "java/lang/invoke/MethodHandle" ∧ yX12_readText.cls ≠ "java/lang/invoke/VarHandle" ∧ (parseMethodDescriptor yX12_readText.desc).map (fun d => d.parameters.length) = some 0 := by decide +kernel
set_option maxHeartbeats 4000000 in
set_option maxRecDepth 100000 in
theorem m_X12_readText (l : Launch) (V : VEn) {u : PoS} {post : Int32 → PoS → Prop} (h : wp_X12_readText  u post) : KI l V yX12_readText cX12_readText 2 .int 11 [.ref (eA V 48)] u post := by
  refine KI_of (by decide) (Nat.le_of_ble_eq_true rfl) (lv := [(0, .ref (eA V 48))]) rfl ?_
  intro p e s m args below meth c C
  rw [wp_X12_readText] at h
  refine a_aload_n C 0 dX12_readText_0 rfl rfl ?_
  refine a_sipush C 681 dX12_readText_1 (by decide) ?_
  refine a_aload_n C 0 dX12_readText_4 rfl rfl ?_
  refine a_getr C 0 (r := 49) dX12_readText_5 (by decide) rfl rfl rfl ib_12 (by decide) bw_1022 ?_
  refine a_iconst C 1 dX12_readText_8 (by decide) ?_
  refine b_iald C 1 dX12_readText_9 (by decide) rfl (vp_lit (by decide)) (by decide) ?_
  refine a_imul C dX12_readText_10 ?_
  refine a_puti C (ty := .int) 12 dX12_readText_11 (by decide) rfl rfl rfl ib_12 (by decide) bw_1034 tyX12 tyX12_ok nmX12 rfl (by decide +kernel) rfl rfl ?_
  refine a_aload_n C 0 dX12_readText_14 rfl rfl ?_
  refine a_getr C 2 (r := 51) dX12_readText_15 (by decide) rfl rfl rfl ib_12 (by decide) bw_1024 ?_
  refine a_aload_n C 0 dX12_readText_18 rfl rfl ?_
  refine a_geti C 12 dX12_readText_19 (by decide) rfl rfl rfl ib_12 (by decide) bw_1034 ?_
  refine a_iconst C 0 dX12_readText_22 (by decide) ?_
  refine b_iast C (Int32.toNatClampNeg (gI (pI u 48 12 (681 * (gI u 49 1))) 48 12)) dX12_readText_23 (by decide) rfl h.1 rfl ?_
  have h := h.2
  refine a_aload_n C 0 dX12_readText_24 rfl rfl ?_
  refine a_iconst C 0 dX12_readText_25 (by decide) ?_
  refine a_puti C (ty := .int) 13 dX12_readText_26 (by decide) rfl rfl rfl ib_12 (by decide) bw_1035 tyX12 tyX12_ok nmX12 rfl (by decide +kernel) rfl rfl ?_
  refine a_aload_n C 0 dX12_readText_29 rfl rfl ?_
  refine a_iconst C 0 dX12_readText_30 (by decide) ?_
  refine a_puti C (ty := .int) 19 dX12_readText_31 (by decide) rfl rfl rfl ib_12 (by decide) bw_1041 tyX12 tyX12_ok nmX12 rfl (by decide +kernel) rfl rfl ?_
  refine a_aload_n C 0 dX12_readText_34 rfl rfl ?_
  refine a_iconst C 0 dX12_readText_35 (by decide) ?_
  refine a_puti C (ty := .int) 7 dX12_readText_36 (by decide) rfl rfl rfl ib_12 (by decide) bw_1029 tyX12 tyX12_ok nmX12 rfl (by decide +kernel) rfl rfl ?_
  refine a_aload_n C 0 dX12_readText_39 rfl rfl ?_
  refine a_callVv C dX12_readText_40 (m_X12_nextToken l V h) bw_1194 bw_1196 bw_46 bw_123 bw_1197 (by decide) rfl rfl np_X12_nextToken rfl rfl (by decide) (Nat.le_of_ble_eq_true rfl) (fun u2 h => ?_)
  obtain ⟨n43, h⟩ := h
  refine tl_X12_readText_43 C n43 _ h

/-! RainOnTheOneModel.text()I -/
def wj_X12_text_36 (post : Int32 → PoS → Prop) (s0 : Int32) (u : PoS) : Prop := (((gI (pI (pI u 48 6 s0) 48 4 0) 48 5) = 0 → post ((gI (pI (pI (pI u 48 6 s0) 48 4 0) 49 1 ((gI (pI (pI u 48 6 s0) 48 4 0) 49 1) + 1)) 49 1) - 1) (pI (pI (pI u 48 6 s0) 48 4 0) 49 1 ((gI (pI (pI u 48 6 s0) 48 4 0) 49 1) + 1))) ∧ (¬ (gI (pI (pI u 48 6 s0) 48 4 0) 48 5) = 0 → post (-1) (pI (pI u 48 6 s0) 48 4 0)))
def wp_X12_text (u : PoS) (post : Int32 → PoS → Prop) : Prop := ((¬ (gI u 49 1) = 4 → wp_X12_readText u (fun (r1 : Int32) (u2 : PoS) => ((¬ (gI (pI u2 48 5 r1) 48 5) = 0 → wj_X12_text_36 post (gI (pI u2 48 5 r1) 48 8) (pI u2 48 5 r1)) ∧ ((gI (pI u2 48 5 r1) 48 5) = 0 → wj_X12_text_36 post (-1) (pI u2 48 5 r1))))) ∧ ((gI u 49 1) = 4 → post (-1) u))
set_option maxHeartbeats 4000000 in
set_option maxRecDepth 100000 in
theorem tj_X12_text_36 {p : Program} {l : Launch} {e : Env} {s : State} {m : MethodId} {args : Array Value} {below : List Frame} {meth : Method} {c : Code} {V : VEn} {post : Int32 → PoS → Prop} (C : CxS p s m args meth c V cX12_text 1 RX12 (some .int)) (s0 : Int32) (u : PoS) (h : wj_X12_text_36 post s0 u) : AtS p l e (Rm 12) s m args below meth c V 1 (QI V below args s post) 36 [(0, .ref (eA V 48))] [.int s0, .ref (eA V 48)] u := by
  rw [wj_X12_text_36] at h
  refine a_puti C (ty := .int) 6 dX12_text_36 (by decide) rfl rfl rfl ib_12 (by decide) bw_1028 tyX12 tyX12_ok nmX12 rfl (by decide +kernel) rfl rfl ?_
  refine a_aload_n C 0 dX12_text_39 rfl rfl ?_
  refine a_iconst C 0 dX12_text_40 (by decide) ?_
  refine a_puti C (ty := .int) 4 dX12_text_41 (by decide) rfl rfl rfl ib_12 (by decide) bw_1026 tyX12 tyX12_ok nmX12 rfl (by decide +kernel) rfl rfl ?_
  refine a_aload_n C 0 dX12_text_44 rfl rfl ?_
  refine a_geti C 5 dX12_text_45 (by decide) rfl rfl rfl ib_12 (by decide) bw_1027 ?_
  refine a_if_eq C 53 dX12_text_48 (by decide) (fun c3 => ?_) (fun c3 => ?_)
  · have h := h.1 c3
    refine a_aload_n C 0 dX12_text_53 rfl rfl ?_
    refine a_getr C 0 (r := 49) dX12_text_54 (by decide) rfl rfl rfl ib_12 (by decide) bw_1022 ?_
    refine a_iconst C 1 dX12_text_57 (by decide) ?_
    refine a_dup2 C dX12_text_58 rfl rfl ?_
    refine b_iald C 1 dX12_text_59 (by decide) rfl (vp_lit (by decide)) (by decide) ?_
    refine a_iconst C 1 dX12_text_60 (by decide) ?_
    refine a_iadd C dX12_text_61 ?_
    refine b_iast C 1 dX12_text_62 (by decide) rfl (vp_lit (by decide)) (by decide) ?_
    refine a_aload_n C 0 dX12_text_63 rfl rfl ?_
    refine a_getr C 0 (r := 49) dX12_text_64 (by decide) rfl rfl rfl ib_12 (by decide) bw_1022 ?_
    refine a_iconst C 1 dX12_text_67 (by decide) ?_
    refine b_iald C 1 dX12_text_68 (by decide) rfl (vp_lit (by decide)) (by decide) ?_
    refine a_iconst C 1 dX12_text_69 (by decide) ?_
    refine a_isub C dX12_text_70 ?_
    exact a_iret C dX12_text_71 h
  · have h := h.2 c3
    refine a_iconst C (-1) dX12_text_51 (by decide) ?_
    exact a_iret C dX12_text_52 h
theorem np_X12_text : yX12_text.cls ≠ "java/lang/invoke/MethodHandle" ∧ yX12_text.cls ≠ "java/lang/invoke/VarHandle" ∧ (parseMethodDescriptor yX12_text.desc).map (fun d => d.parameters.length) = some 0 := by decide +kernel
set_option maxHeartbeats 4000000 in
set_option maxRecDepth 100000 in
theorem m_X12_text (l : Launch) (V : VEn) {u : PoS} {post : Int32 → PoS → Prop} (h : wp_X12_text  u post) : KI l V yX12_text cX12_text 1 .int 12 [.ref (eA V 48)] u post := by
  refine KI_of (by decide) (Nat.le_of_ble_eq_true rfl) (lv := [(0, .ref (eA V 48))]) rfl ?_
  intro p e s m args below meth c C
  rw [wp_X12_text] at h
  refine a_aload_n C 0 dX12_text_0 rfl rfl ?_
  refine a_getr C 0 (r := 49) dX12_text_1 (by decide) rfl rfl rfl ib_12 (by decide) bw_1022 ?_
  refine a_iconst C 1 dX12_text_4 (by decide) ?_
  refine b_iald C 1 dX12_text_5 (by decide) rfl (vp_lit (by decide)) (by decide) ?_
  refine a_iconst C 4 dX12_text_6 (by decide) ?_
  refine a_icmp_ne C 12 dX12_text_7 (by decide) (fun c5 => ?_) (fun c5 => ?_)
  · have h := h.1 c5
    refine a_aload_n C 0 dX12_text_12 rfl rfl ?_
    refine a_aload_n C 0 dX12_text_13 rfl rfl ?_
    refine a_callVi C dX12_text_14 (m_X12_readText l V h) bw_1190 bw_1192 bw_45 bw_123 bw_1193 (by decide) rfl rfl np_X12_readText rfl rfl (by decide) (Nat.le_of_ble_eq_true rfl) (fun r1 u2 h => ?_)
    refine a_puti C (ty := .int) 5 dX12_text_17 (by decide) rfl rfl rfl ib_12 (by decide) bw_1027 tyX12 tyX12_ok nmX12 rfl (by decide +kernel) rfl rfl ?_
    refine a_aload_n C 0 dX12_text_20 rfl rfl ?_
    refine a_aload_n C 0 dX12_text_21 rfl rfl ?_
    refine a_geti C 5 dX12_text_22 (by decide) rfl rfl rfl ib_12 (by decide) bw_1027 ?_
    refine a_if_ne C 32 dX12_text_25 (by decide) (fun c4 => ?_) (fun c4 => ?_)
    · have h := h.1 c4
      refine a_aload_n C 0 dX12_text_32 rfl rfl ?_
      refine a_geti C 8 dX12_text_33 (by decide) rfl rfl rfl ib_12 (by decide) bw_1030 ?_
      refine tj_X12_text_36 C _ _ h
    · have h := h.2 c4
      refine a_iconst C (-1) dX12_text_28 (by decide) ?_
      refine a_goto C 36 dX12_text_29 (by decide) ?_
      refine tj_X12_text_36 C _ _ h
  · have h := h.2 c5
    refine a_iconst C (-1) dX12_text_10 (by decide) ?_
    exact a_iret C dX12_text_11 h

/-! RainOnTheOneModel.fault(I)I -/
def wp_X12_fault (a0 : Int32) (u : PoS) (post : Int32 → PoS → Prop) : Prop := ((¬ a0 = 0 → ((¬ a0 = 1 → post (-1) u) ∧ (a0 = 1 → post (gI u 48 6) u))) ∧ (a0 = 0 → post (gI u 48 5) u))
theorem np_X12_fault : yX12_fault.cls ≠ "java/lang/invoke/MethodHandle" ∧ yX12_fault.cls ≠ "java/lang/invoke/VarHandle" ∧ (parseMethodDescriptor yX12_fault.desc).map (fun d => d.parameters.length) = some 1 := by decide +kernel
set_option maxHeartbeats 4000000 in
set_option maxRecDepth 100000 in
theorem m_X12_fault (l : Launch) (V : VEn) {a0 : Int32} {u : PoS} {post : Int32 → PoS → Prop} (h : wp_X12_fault a0 u post) : KI l V yX12_fault cX12_fault 2 .int 0 [.ref (eA V 48), .int a0] u post := by
  refine KI_of (by decide) (Nat.le_of_ble_eq_true rfl) (lv := [(0, .ref (eA V 48)), (1, .int a0)]) rfl ?_
  intro p e s m args below meth c C
  rw [wp_X12_fault] at h
  refine a_iload_n C 1 dX12_fault_0 rfl rfl ?_
  refine a_if_ne C 11 dX12_fault_1 (by decide) (fun c2 => ?_) (fun c2 => ?_)
  · have h := h.1 c2
    refine a_iload_n C 1 dX12_fault_11 rfl rfl ?_
    refine a_iconst C 1 dX12_fault_12 (by decide) ?_
    refine a_icmp_ne C 23 dX12_fault_13 (by decide) (fun c1 => ?_) (fun c1 => ?_)
    · have h := h.1 c1
      refine a_iconst C (-1) dX12_fault_23 (by decide) ?_
      exact a_iret C dX12_fault_24 h
    · have h := h.2 c1
      refine a_aload_n C 0 dX12_fault_16 rfl rfl ?_
      refine a_geti C 6 dX12_fault_17 (by decide) rfl rfl rfl ib_12 (by decide) bw_1028 ?_
      refine a_goto C 24 dX12_fault_20 (by decide) ?_
      exact a_iret C dX12_fault_24 h
  · have h := h.2 c2
    refine a_aload_n C 0 dX12_fault_4 rfl rfl ?_
    refine a_geti C 5 dX12_fault_5 (by decide) rfl rfl rfl ib_12 (by decide) bw_1027 ?_
    refine a_goto C 24 dX12_fault_8 (by decide) ?_
    exact a_iret C dX12_fault_24 h

/-! RainOnTheOneModel.by(I)Z -/
def wp_X12_by (a0 : Int32) (u : PoS) (post : Int32 → PoS → Prop) : Prop := wp_X12_isIn a0 (-1) ((gI u 49 1) - 1) u (fun (r1 : Int32) (u2 : PoS) => ((¬ r1 = 0 → post 1 (pI u2 49 2 a0)) ∧ (r1 = 0 → post 0 u2)))
theorem np_X12_by : yX12_by.cls ≠ "java/lang/invoke/MethodHandle" ∧ yX12_by.cls ≠ "java/lang/invoke/VarHandle" ∧ (parseMethodDescriptor yX12_by.desc).map (fun d => d.parameters.length) = some 1 := by decide +kernel
set_option maxHeartbeats 4000000 in
set_option maxRecDepth 100000 in
theorem m_X12_by (l : Launch) (V : VEn) {a0 : Int32} {u : PoS} {post : Int32 → PoS → Prop} (h : wp_X12_by a0 u post) : KI l V yX12_by cX12_by 2 .boolean 1 [.ref (eA V 48), .int a0] u post := by
  refine KI_of (by decide) (Nat.le_of_ble_eq_true rfl) (lv := [(0, .ref (eA V 48)), (1, .int a0)]) rfl ?_
  intro p e s m args below meth c C
  rw [wp_X12_by] at h
  refine a_iload_n C 1 dX12_by_0 rfl rfl ?_
  refine a_iconst C (-1) dX12_by_1 (by decide) ?_
  refine a_aload_n C 0 dX12_by_2 rfl rfl ?_
  refine a_getr C 0 (r := 49) dX12_by_3 (by decide) rfl rfl rfl ib_12 (by decide) bw_1022 ?_
  refine a_iconst C 1 dX12_by_6 (by decide) ?_
  refine b_iald C 1 dX12_by_7 (by decide) rfl (vp_lit (by decide)) (by decide) ?_
  refine a_iconst C 1 dX12_by_8 (by decide) ?_
  refine a_isub C dX12_by_9 ?_
  refine a_callSi C dX12_by_10 (m_X12_isIn l V h) bw_1147 bw_1148 bw_123 bw_1149 np_X12_isIn rfl rfl (by decide) (Nat.le_of_ble_eq_true rfl) (fun r1 u2 h => ?_)
  refine a_if_ne C 18 dX12_by_13 (by decide) (fun c3 => ?_) (fun c3 => ?_)
  · have h := h.1 c3
    refine a_aload_n C 0 dX12_by_18 rfl rfl ?_
    refine a_getr C 0 (r := 49) dX12_by_19 (by decide) rfl rfl rfl ib_12 (by decide) bw_1022 ?_
    refine a_iconst C 2 dX12_by_22 (by decide) ?_
    refine a_iload_n C 1 dX12_by_23 rfl rfl ?_
    refine b_iast C 2 dX12_by_24 (by decide) rfl (vp_lit (by decide)) (by decide) ?_
    refine a_iconst C 1 dX12_by_25 (by decide) ?_
    exact a_zret C rfl dX12_by_26 h
  · have h := h.2 c3
    refine a_iconst C 0 dX12_by_16 (by decide) ?_
    exact a_zret C rfl dX12_by_17 h

/-! RainOnTheOneModel.clip(J)J -/
def wp_X12_clip (a0 : Int64) (u : PoS) (post : Int64 → PoS → Prop) : Prop := (((lg_cmp a0 1000000) ≤ 0 → ((0 ≤ (lg_cmp a0 (-1000000)) → post a0 u) ∧ (¬ 0 ≤ (lg_cmp a0 (-1000000)) → post (-1000000) u))) ∧ (¬ (lg_cmp a0 1000000) ≤ 0 → post 1000000 u))
theorem np_X12_clip : yX12_clip.cls ≠ "java/lang/invoke/MethodHandle" ∧ yX12_clip.cls ≠ "java/lang/invoke/VarHandle" ∧ (parseMethodDescriptor yX12_clip.desc).map (fun d => d.parameters.length) = some 1 := by decide +kernel
set_option maxHeartbeats 4000000 in
set_option maxRecDepth 100000 in
theorem m_X12_clip (l : Launch) (V : VEn) {a0 : Int64} {u : PoS} {post : Int64 → PoS → Prop} (h : wp_X12_clip a0 u post) : KL l V yX12_clip cX12_clip 2 .long 0 [.long a0] u post := by
  refine KL_of (by decide) (Nat.le_of_ble_eq_true rfl) (lv := [(0, .long a0)]) rfl ?_
  intro p e s m args below meth c C
  rw [wp_X12_clip] at h
  refine a_lload_n C 0 dX12_clip_0 rfl rfl ?_
  refine a_ldc2 C dX12_clip_1 bw_1434 ?_
  refine a_lcmp C dX12_clip_4 ?_
  refine a_if_le C 14 dX12_clip_5 (by decide) (fun c2 => ?_) (fun c2 => ?_)
  · have h := h.1 c2
    refine a_lload_n C 0 dX12_clip_14 rfl rfl ?_
    refine a_ldc2 C dX12_clip_15 bw_1435 ?_
    refine a_lcmp C dX12_clip_18 ?_
    refine a_if_ge C 28 dX12_clip_19 (by decide) (fun c1 => ?_) (fun c1 => ?_)
    · have h := h.1 c1
      refine a_lload_n C 0 dX12_clip_28 rfl rfl ?_
      exact a_lret C dX12_clip_29 h
    · have h := h.2 c1
      refine a_ldc2 C dX12_clip_22 bw_1435 ?_
      refine a_goto C 29 dX12_clip_25 (by decide) ?_
      exact a_lret C dX12_clip_29 h
  · have h := h.2 c2
    refine a_ldc2 C dX12_clip_8 bw_1434 ?_
    refine a_goto C 29 dX12_clip_11 (by decide) ?_
    exact a_lret C dX12_clip_29 h

/-! RainOnTheOneModel.two(IJJ)J -/
def wp_X12_two (a0 : Int32) (a1 : Int64) (a2 : Int64) (u : PoS) (post : Int64 → PoS → Prop) : Prop := ((a0 = 6 → wp_X12_clip (a1 + a2) u (fun (r1 : Int64) (u2 : PoS) => post r1 u2)) ∧ (a0 = 7 → wp_X12_clip (a1 - a2) u (fun (r3 : Int64) (u4 : PoS) => post r3 u4)) ∧ (a0 = 8 → wp_X12_clip (a1 * a2) u (fun (r5 : Int64) (u6 : PoS) => post r5 u6)) ∧ (¬ a0 = 6 → ¬ a0 = 7 → ¬ a0 = 8 → ((¬ (lg_cmp a2 0) = 0 → ¬ a2 = 0 ∧ wp_X12_clip (a1 / a2) u (fun (r7 : Int64) (u8 : PoS) => post r7 u8)) ∧ ((lg_cmp a2 0) = 0 → post 0 u))))
theorem np_X12_two : yX12_two.cls ≠ "java/lang/invoke/MethodHandle" ∧ yX12_two.cls ≠ "java/lang/invoke/VarHandle" ∧ (parseMethodDescriptor yX12_two.desc).map (fun d => d.parameters.length) = some 3 := by decide +kernel
set_option maxHeartbeats 4000000 in
set_option maxRecDepth 100000 in
theorem m_X12_two (l : Launch) (V : VEn) {a0 : Int32} {a1 : Int64} {a2 : Int64} {u : PoS} {post : Int64 → PoS → Prop} (h : wp_X12_two a0 a1 a2 u post) : KL l V yX12_two cX12_two 5 .long 1 [.int a0, .long a1, .long a2] u post := by
  refine KL_of (by decide) (Nat.le_of_ble_eq_true rfl) (lv := [(0, .int a0), (1, .long a1), (3, .long a2)]) rfl ?_
  intro p e s m args below meth c C
  rw [wp_X12_two] at h
  refine a_iload_n C 0 dX12_two_0 rfl rfl ?_
  obtain ⟨hs0, hs1, hs2, hd0⟩ := h
  by_cases hq0 : a0 = 6
  · have h := hs0 hq0
    refine a_tableIn C (off := 27) 28 dX12_two_1 (by rw [hq0]; decide) (by rw [hq0]; decide) (by rw [hq0]; decide +kernel) (by decide) ?_
    refine a_lload_n C 1 dX12_two_28 rfl rfl ?_
    refine a_lload_n C 2 dX12_two_29 rfl rfl ?_
    refine a_ladd C dX12_two_30 ?_
    refine a_callSl C dX12_two_31 (m_X12_clip l V h) bw_1439 bw_1440 bw_123 bw_1441 np_X12_clip rfl rfl (by decide) (Nat.le_of_ble_eq_true rfl) (fun r1 u2 h => ?_)
    exact a_lret C dX12_two_34 h
  by_cases hq1 : a0 = 7
  · have h := hs1 hq1
    refine a_tableIn C (off := 34) 35 dX12_two_1 (by rw [hq1]; decide) (by rw [hq1]; decide) (by rw [hq1]; decide +kernel) (by decide) ?_
    refine a_lload_n C 1 dX12_two_35 rfl rfl ?_
    refine a_lload_n C 2 dX12_two_36 rfl rfl ?_
    refine a_lsub C dX12_two_37 ?_
    refine a_callSl C dX12_two_38 (m_X12_clip l V h) bw_1439 bw_1440 bw_123 bw_1441 np_X12_clip rfl rfl (by decide) (Nat.le_of_ble_eq_true rfl) (fun r3 u4 h => ?_)
    exact a_lret C dX12_two_41 h
  by_cases hq2 : a0 = 8
  · have h := hs2 hq2
    refine a_tableIn C (off := 41) 42 dX12_two_1 (by rw [hq2]; decide) (by rw [hq2]; decide) (by rw [hq2]; decide +kernel) (by decide) ?_
    refine a_lload_n C 1 dX12_two_42 rfl rfl ?_
    refine a_lload_n C 2 dX12_two_43 rfl rfl ?_
    refine a_lmul C dX12_two_44 ?_
    refine a_callSl C dX12_two_45 (m_X12_clip l V h) bw_1439 bw_1440 bw_123 bw_1441 np_X12_clip rfl rfl (by decide) (Nat.le_of_ble_eq_true rfl) (fun r5 u6 h => ?_)
    exact a_lret C dX12_two_48 h
  have h := hd0 hq0 hq1 hq2
  refine a_tableOut C 49 dX12_two_1 (tsw_out 6 8 (fun q h1 h2 => by rcases (show q = 6 ∨ q = 7 ∨ q = 8 by omega) with rfl | rfl | rfl <;> first | exact lv_neT hq0 (by decide) | exact lv_neT hq1 (by decide) | exact lv_neT hq2 (by decide))) (by decide) ?_
  refine a_lload_n C 2 dX12_two_49 rfl rfl ?_
  refine a_lconst C 0 dX12_two_50 (by decide) ?_
  refine a_lcmp C dX12_two_51 ?_
  refine a_if_ne C 59 dX12_two_52 (by decide) (fun c9 => ?_) (fun c9 => ?_)
  · have h := h.1 c9
    refine a_lload_n C 1 dX12_two_59 rfl rfl ?_
    refine a_lload_n C 2 dX12_two_60 rfl rfl ?_
    refine a_ldiv C dX12_two_61 h.1 ?_
    have h := h.2
    refine a_callSl C dX12_two_62 (m_X12_clip l V h) bw_1439 bw_1440 bw_123 bw_1441 np_X12_clip rfl rfl (by decide) (Nat.le_of_ble_eq_true rfl) (fun r7 u8 h => ?_)
    exact a_lret C dX12_two_65 h
  · have h := h.2 c9
    refine a_lconst C 0 dX12_two_55 (by decide) ?_
    refine a_goto C 65 dX12_two_56 (by decide) ?_
    exact a_lret C dX12_two_65 h

/-! RainOnTheOneModel.isAsked(IJJ)Z -/
def wp_X12_isAsked (a0 : Int32) (a1 : Int64) (a2 : Int64) (u : PoS) (post : Int32 → PoS → Prop) : Prop := ((¬ a0 = 10 → ((¬ a0 = 11 → ((¬ a0 = 12 → ((¬ a0 = 13 → ((¬ a0 = 14 → (((lg_cmp a1 a2) = 0 → post 0 u) ∧ (¬ (lg_cmp a1 a2) = 0 → post 1 u))) ∧ (a0 = 14 → ((¬ (lg_cmp a1 a2) = 0 → post 0 u) ∧ ((lg_cmp a1 a2) = 0 → post 1 u))))) ∧ (a0 = 13 → (((lg_cmp a1 a2) < 0 → post 0 u) ∧ (¬ (lg_cmp a1 a2) < 0 → post 1 u))))) ∧ (a0 = 12 → (((lg_cmp a1 a2) ≤ 0 → post 0 u) ∧ (¬ (lg_cmp a1 a2) ≤ 0 → post 1 u))))) ∧ (a0 = 11 → ((0 < (lg_cmp a1 a2) → post 0 u) ∧ (¬ 0 < (lg_cmp a1 a2) → post 1 u))))) ∧ (a0 = 10 → ((0 ≤ (lg_cmp a1 a2) → post 0 u) ∧ (¬ 0 ≤ (lg_cmp a1 a2) → post 1 u))))
theorem np_X12_isAsked : yX12_isAsked.cls ≠ "java/lang/invoke/MethodHandle" ∧ yX12_isAsked.cls ≠ "java/lang/invoke/VarHandle" ∧ (parseMethodDescriptor yX12_isAsked.desc).map (fun d => d.parameters.length) = some 3 := by decide +kernel
set_option maxHeartbeats 4000000 in
set_option maxRecDepth 100000 in
theorem m_X12_isAsked (l : Launch) (V : VEn) {a0 : Int32} {a1 : Int64} {a2 : Int64} {u : PoS} {post : Int32 → PoS → Prop} (h : wp_X12_isAsked a0 a1 a2 u post) : KI l V yX12_isAsked cX12_isAsked 5 .boolean 0 [.int a0, .long a1, .long a2] u post := by
  refine KI_of (by decide) (Nat.le_of_ble_eq_true rfl) (lv := [(0, .int a0), (1, .long a1), (3, .long a2)]) rfl ?_
  intro p e s m args below meth c C
  rw [wp_X12_isAsked] at h
  refine a_iload_n C 0 dX12_isAsked_0 rfl rfl ?_
  refine a_bipush C 10 dX12_isAsked_1 (by decide) ?_
  refine a_icmp_ne C 20 dX12_isAsked_3 (by decide) (fun c11 => ?_) (fun c11 => ?_)
  · have h := h.1 c11
    refine a_iload_n C 0 dX12_isAsked_20 rfl rfl ?_
    refine a_bipush C 11 dX12_isAsked_21 (by decide) ?_
    refine a_icmp_ne C 40 dX12_isAsked_23 (by decide) (fun c9 => ?_) (fun c9 => ?_)
    · have h := h.1 c9
      refine a_iload_n C 0 dX12_isAsked_40 rfl rfl ?_
      refine a_bipush C 12 dX12_isAsked_41 (by decide) ?_
      refine a_icmp_ne C 60 dX12_isAsked_43 (by decide) (fun c7 => ?_) (fun c7 => ?_)
      · have h := h.1 c7
        refine a_iload_n C 0 dX12_isAsked_60 rfl rfl ?_
        refine a_bipush C 13 dX12_isAsked_61 (by decide) ?_
        refine a_icmp_ne C 80 dX12_isAsked_63 (by decide) (fun c5 => ?_) (fun c5 => ?_)
        · have h := h.1 c5
          refine a_iload_n C 0 dX12_isAsked_80 rfl rfl ?_
          refine a_bipush C 14 dX12_isAsked_81 (by decide) ?_
          refine a_icmp_ne C 100 dX12_isAsked_83 (by decide) (fun c3 => ?_) (fun c3 => ?_)
          · have h := h.1 c3
            refine a_lload_n C 1 dX12_isAsked_100 rfl rfl ?_
            refine a_lload_n C 2 dX12_isAsked_101 rfl rfl ?_
            refine a_lcmp C dX12_isAsked_102 ?_
            refine a_if_eq C 110 dX12_isAsked_103 (by decide) (fun c1 => ?_) (fun c1 => ?_)
            · have h := h.1 c1
              refine a_iconst C 0 dX12_isAsked_110 (by decide) ?_
              exact a_zret C rfl dX12_isAsked_111 h
            · have h := h.2 c1
              refine a_iconst C 1 dX12_isAsked_106 (by decide) ?_
              refine a_goto C 111 dX12_isAsked_107 (by decide) ?_
              exact a_zret C rfl dX12_isAsked_111 h
          · have h := h.2 c3
            refine a_lload_n C 1 dX12_isAsked_86 rfl rfl ?_
            refine a_lload_n C 2 dX12_isAsked_87 rfl rfl ?_
            refine a_lcmp C dX12_isAsked_88 ?_
            refine a_if_ne C 96 dX12_isAsked_89 (by decide) (fun c2 => ?_) (fun c2 => ?_)
            · have h := h.1 c2
              refine a_iconst C 0 dX12_isAsked_96 (by decide) ?_
              refine a_goto C 111 dX12_isAsked_97 (by decide) ?_
              exact a_zret C rfl dX12_isAsked_111 h
            · have h := h.2 c2
              refine a_iconst C 1 dX12_isAsked_92 (by decide) ?_
              refine a_goto C 111 dX12_isAsked_93 (by decide) ?_
              exact a_zret C rfl dX12_isAsked_111 h
        · have h := h.2 c5
          refine a_lload_n C 1 dX12_isAsked_66 rfl rfl ?_
          refine a_lload_n C 2 dX12_isAsked_67 rfl rfl ?_
          refine a_lcmp C dX12_isAsked_68 ?_
          refine a_if_lt C 76 dX12_isAsked_69 (by decide) (fun c4 => ?_) (fun c4 => ?_)
          · have h := h.1 c4
            refine a_iconst C 0 dX12_isAsked_76 (by decide) ?_
            refine a_goto C 111 dX12_isAsked_77 (by decide) ?_
            exact a_zret C rfl dX12_isAsked_111 h
          · have h := h.2 c4
            refine a_iconst C 1 dX12_isAsked_72 (by decide) ?_
            refine a_goto C 111 dX12_isAsked_73 (by decide) ?_
            exact a_zret C rfl dX12_isAsked_111 h
      · have h := h.2 c7
        refine a_lload_n C 1 dX12_isAsked_46 rfl rfl ?_
        refine a_lload_n C 2 dX12_isAsked_47 rfl rfl ?_
        refine a_lcmp C dX12_isAsked_48 ?_
        refine a_if_le C 56 dX12_isAsked_49 (by decide) (fun c6 => ?_) (fun c6 => ?_)
        · have h := h.1 c6
          refine a_iconst C 0 dX12_isAsked_56 (by decide) ?_
          refine a_goto C 111 dX12_isAsked_57 (by decide) ?_
          exact a_zret C rfl dX12_isAsked_111 h
        · have h := h.2 c6
          refine a_iconst C 1 dX12_isAsked_52 (by decide) ?_
          refine a_goto C 111 dX12_isAsked_53 (by decide) ?_
          exact a_zret C rfl dX12_isAsked_111 h
    · have h := h.2 c9
      refine a_lload_n C 1 dX12_isAsked_26 rfl rfl ?_
      refine a_lload_n C 2 dX12_isAsked_27 rfl rfl ?_
      refine a_lcmp C dX12_isAsked_28 ?_
      refine a_if_gt C 36 dX12_isAsked_29 (by decide) (fun c8 => ?_) (fun c8 => ?_)
      · have h := h.1 c8
        refine a_iconst C 0 dX12_isAsked_36 (by decide) ?_
        refine a_goto C 111 dX12_isAsked_37 (by decide) ?_
        exact a_zret C rfl dX12_isAsked_111 h
      · have h := h.2 c8
        refine a_iconst C 1 dX12_isAsked_32 (by decide) ?_
        refine a_goto C 111 dX12_isAsked_33 (by decide) ?_
        exact a_zret C rfl dX12_isAsked_111 h
  · have h := h.2 c11
    refine a_lload_n C 1 dX12_isAsked_6 rfl rfl ?_
    refine a_lload_n C 2 dX12_isAsked_7 rfl rfl ?_
    refine a_lcmp C dX12_isAsked_8 ?_
    refine a_if_ge C 16 dX12_isAsked_9 (by decide) (fun c10 => ?_) (fun c10 => ?_)
    · have h := h.1 c10
      refine a_iconst C 0 dX12_isAsked_16 (by decide) ?_
      refine a_goto C 111 dX12_isAsked_17 (by decide) ?_
      exact a_zret C rfl dX12_isAsked_111 h
    · have h := h.2 c10
      refine a_iconst C 1 dX12_isAsked_12 (by decide) ?_
      refine a_goto C 111 dX12_isAsked_13 (by decide) ?_
      exact a_zret C rfl dX12_isAsked_111 h

/-! RainOnTheOneModel.waterOf(J)J -/
def wp_X12_waterOf (a0 : Int64) (u : PoS) (post : Int64 → PoS → Prop) : Prop := (((lg_cmp a0 0) < 0 → post 0 u) ∧ (¬ (lg_cmp a0 0) < 0 → ((0 ≤ (lg_cmp a0 30) → post 0 u) ∧ (¬ 0 ≤ (lg_cmp a0 30) → vp_in (40 + (Int64.toInt32 a0)) 3703 ∧ post (Int32.toInt64 (gI u 49 (Int32.toNatClampNeg (40 + (Int64.toInt32 a0))))) u))))
theorem np_X12_waterOf : yX12_waterOf.cls ≠ "java/lang/invoke/MethodHandle" ∧ yX12_waterOf.cls ≠ "java/lang/invoke/VarHandle" ∧ (parseMethodDescriptor yX12_waterOf.desc).map (fun d => d.parameters.length) = some 1 := by decide +kernel
set_option maxHeartbeats 4000000 in
set_option maxRecDepth 100000 in
theorem m_X12_waterOf (l : Launch) (V : VEn) {a0 : Int64} {u : PoS} {post : Int64 → PoS → Prop} (h : wp_X12_waterOf a0 u post) : KL l V yX12_waterOf cX12_waterOf 3 .long 0 [.ref (eA V 48), .long a0] u post := by
  refine KL_of (by decide) (Nat.le_of_ble_eq_true rfl) (lv := [(0, .ref (eA V 48)), (1, .long a0)]) rfl ?_
  intro p e s m args below meth c C
  rw [wp_X12_waterOf] at h
  refine a_lload_n C 1 dX12_waterOf_0 rfl rfl ?_
  refine a_lconst C 0 dX12_waterOf_1 (by decide) ?_
  refine a_lcmp C dX12_waterOf_2 ?_
  refine a_if_lt C 28 dX12_waterOf_3 (by decide) (fun c2 => ?_) (fun c2 => ?_)
  · have h := h.1 c2
    refine a_lconst C 0 dX12_waterOf_28 (by decide) ?_
    exact a_lret C dX12_waterOf_29 h
  · have h := h.2 c2
    refine a_lload_n C 1 dX12_waterOf_6 rfl rfl ?_
    refine a_ldc2 C dX12_waterOf_7 bw_1429 ?_
    refine a_lcmp C dX12_waterOf_10 ?_
    refine a_if_ge C 28 dX12_waterOf_11 (by decide) (fun c1 => ?_) (fun c1 => ?_)
    · have h := h.1 c1
      refine a_lconst C 0 dX12_waterOf_28 (by decide) ?_
      exact a_lret C dX12_waterOf_29 h
    · have h := h.2 c1
      refine a_aload_n C 0 dX12_waterOf_14 rfl rfl ?_
      refine a_getr C 0 (r := 49) dX12_waterOf_15 (by decide) rfl rfl rfl ib_12 (by decide) bw_1022 ?_
      refine a_bipush C 40 dX12_waterOf_18 (by decide) ?_
      refine a_lload_n C 1 dX12_waterOf_20 rfl rfl ?_
      refine a_l2i C dX12_waterOf_21 ?_
      refine a_iadd C dX12_waterOf_22 ?_
      refine b_iald C (Int32.toNatClampNeg (40 + (Int64.toInt32 a0))) dX12_waterOf_23 (by decide) rfl h.1 rfl ?_
      have h := h.2
      refine a_i2l C dX12_waterOf_24 ?_
      refine a_goto C 29 dX12_waterOf_25 (by decide) ?_
      exact a_lret C dX12_waterOf_29 h

/-! RainOnTheOneModel.shareOf(JJ)J -/
def wj_X12_shareOf_17 (post : Int64 → PoS → Prop) (s0 : Int64) (u : PoS) : Prop := (((lg_cmp s0 1000000) ≤ 0 → ((0 ≤ (lg_cmp s0 (-1000000)) → post s0 u) ∧ (¬ 0 ≤ (lg_cmp s0 (-1000000)) → post (-1000000) u))) ∧ (¬ (lg_cmp s0 1000000) ≤ 0 → post 1000000 u))
def wp_X12_shareOf (a0 : Int64) (a1 : Int64) (u : PoS) (post : Int64 → PoS → Prop) : Prop := ((¬ (lg_cmp a1 0) = 0 → ¬ a1 = 0 ∧ wj_X12_shareOf_17 post ((100 * a0) / a1) u) ∧ ((lg_cmp a1 0) = 0 → wj_X12_shareOf_17 post 0 u))
set_option maxHeartbeats 4000000 in
set_option maxRecDepth 100000 in
theorem tj_X12_shareOf_17 {p : Program} {l : Launch} {e : Env} {s : State} {m : MethodId} {args : Array Value} {below : List Frame} {meth : Method} {c : Code} {V : VEn} {post : Int64 → PoS → Prop} (C : CxS p s m args meth c V cX12_shareOf 6 RX12 (some .long)) (s0 : Int64) (u : PoS) (h : wj_X12_shareOf_17 post s0 u) : AtS p l e (Rm 0) s m args below meth c V 6 (QL V below args s post) 17 [] [.long s0] u := by
  rw [wj_X12_shareOf_17] at h
  refine a_lstore C [(4, .long s0)] dX12_shareOf_17 (by decide) rfl ?_
  refine a_lload C 0 dX12_shareOf_19 rfl ?_
  refine a_ldc2 C dX12_shareOf_21 bw_1434 ?_
  refine a_lcmp C dX12_shareOf_24 ?_
  refine a_if_le C 34 dX12_shareOf_25 (by decide) (fun c2 => ?_) (fun c2 => ?_)
  · have h := h.1 c2
    refine a_lload C 0 dX12_shareOf_34 rfl ?_
    refine a_ldc2 C dX12_shareOf_36 bw_1435 ?_
    refine a_lcmp C dX12_shareOf_39 ?_
    refine a_if_ge C 49 dX12_shareOf_40 (by decide) (fun c1 => ?_) (fun c1 => ?_)
    · have h := h.1 c1
      refine a_lload C 0 dX12_shareOf_49 rfl ?_
      exact a_lret C dX12_shareOf_51 h
    · have h := h.2 c1
      refine a_ldc2 C dX12_shareOf_43 bw_1435 ?_
      refine a_goto C 51 dX12_shareOf_46 (by decide) ?_
      exact a_lret C dX12_shareOf_51 h
  · have h := h.2 c2
    refine a_ldc2 C dX12_shareOf_28 bw_1434 ?_
    refine a_goto C 51 dX12_shareOf_31 (by decide) ?_
    exact a_lret C dX12_shareOf_51 h
theorem np_X12_shareOf : yX12_shareOf.cls ≠ "java/lang/invoke/MethodHandle" ∧ yX12_shareOf.cls ≠ "java/lang/invoke/VarHandle" ∧ (parseMethodDescriptor yX12_shareOf.desc).map (fun d => d.parameters.length) = some 2 := by decide +kernel
set_option maxHeartbeats 4000000 in
set_option maxRecDepth 100000 in
theorem m_X12_shareOf (l : Launch) (V : VEn) {a0 : Int64} {a1 : Int64} {u : PoS} {post : Int64 → PoS → Prop} (h : wp_X12_shareOf a0 a1 u post) : KL l V yX12_shareOf cX12_shareOf 6 .long 0 [.long a0, .long a1] u post := by
  refine KL_of (by decide) (Nat.le_of_ble_eq_true rfl) (lv := [(0, .long a0), (2, .long a1)]) rfl ?_
  intro p e s m args below meth c C
  rw [wp_X12_shareOf] at h
  refine a_lload_n C 1 dX12_shareOf_0 rfl rfl ?_
  refine a_lconst C 0 dX12_shareOf_1 (by decide) ?_
  refine a_lcmp C dX12_shareOf_2 ?_
  refine a_if_ne C 10 dX12_shareOf_3 (by decide) (fun c3 => ?_) (fun c3 => ?_)
  · have h := h.1 c3
    refine a_ldc2 C dX12_shareOf_10 bw_1433 ?_
    refine a_lload_n C 0 dX12_shareOf_13 rfl rfl ?_
    refine a_lmul C dX12_shareOf_14 ?_
    refine a_lload_n C 1 dX12_shareOf_15 rfl rfl ?_
    refine a_ldiv C dX12_shareOf_16 h.1 ?_
    have h := h.2
    refine a_sub [] rfl ?_
    refine tj_X12_shareOf_17 C _ _ h
  · have h := h.2 c3
    refine a_lconst C 0 dX12_shareOf_6 (by decide) ?_
    refine a_goto C 17 dX12_shareOf_7 (by decide) ?_
    refine a_sub [] rfl ?_
    refine tj_X12_shareOf_17 C _ _ h

/-! RainOnTheOneModel.joined(IZZ)Z -/
def wp_X12_joined (a0 : Int32) (a1 : Int32) (a2 : Int32) (u : PoS) (post : Int32 → PoS → Prop) : Prop := ((¬ a0 = 21 → ((¬ a1 = 0 → post 1 u) ∧ (a1 = 0 → ((a2 = 0 → post 0 u) ∧ (¬ a2 = 0 → post 1 u))))) ∧ (a0 = 21 → ((a1 = 0 → post 0 u) ∧ (¬ a1 = 0 → ((a2 = 0 → post 0 u) ∧ (¬ a2 = 0 → post 1 u))))))
theorem np_X12_joined : yX12_joined.cls ≠ "java/lang/invoke/MethodHandle" ∧ yX12_joined.cls ≠ "java/lang/invoke/VarHandle" ∧ (parseMethodDescriptor yX12_joined.desc).map (fun d => d.parameters.length) = some 3 := by decide +kernel
set_option maxHeartbeats 4000000 in
set_option maxRecDepth 100000 in
theorem m_X12_joined (l : Launch) (V : VEn) {a0 : Int32} {a1 : Int32} {a2 : Int32} {u : PoS} {post : Int32 → PoS → Prop} (h : wp_X12_joined a0 a1 a2 u post) : KI l V yX12_joined cX12_joined 3 .boolean 0 [.int a0, .int a1, .int a2] u post := by
  refine KI_of (by decide) (Nat.le_of_ble_eq_true rfl) (lv := [(0, .int a0), (1, .int a1), (2, .int a2)]) rfl ?_
  intro p e s m args below meth c C
  rw [wp_X12_joined] at h
  refine a_iload_n C 0 dX12_joined_0 rfl rfl ?_
  refine a_bipush C 21 dX12_joined_1 (by decide) ?_
  refine a_icmp_ne C 22 dX12_joined_3 (by decide) (fun c5 => ?_) (fun c5 => ?_)
  · have h := h.1 c5
    refine a_iload_n C 1 dX12_joined_22 rfl rfl ?_
    refine a_if_ne C 30 dX12_joined_23 (by decide) (fun c2 => ?_) (fun c2 => ?_)
    · have h := h.1 c2
      refine a_iconst C 1 dX12_joined_30 (by decide) ?_
      refine a_goto C 35 dX12_joined_31 (by decide) ?_
      exact a_zret C rfl dX12_joined_35 h
    · have h := h.2 c2
      refine a_iload_n C 2 dX12_joined_26 rfl rfl ?_
      refine a_if_eq C 34 dX12_joined_27 (by decide) (fun c1 => ?_) (fun c1 => ?_)
      · have h := h.1 c1
        refine a_iconst C 0 dX12_joined_34 (by decide) ?_
        exact a_zret C rfl dX12_joined_35 h
      · have h := h.2 c1
        refine a_iconst C 1 dX12_joined_30 (by decide) ?_
        refine a_goto C 35 dX12_joined_31 (by decide) ?_
        exact a_zret C rfl dX12_joined_35 h
  · have h := h.2 c5
    refine a_iload_n C 1 dX12_joined_6 rfl rfl ?_
    refine a_if_eq C 18 dX12_joined_7 (by decide) (fun c4 => ?_) (fun c4 => ?_)
    · have h := h.1 c4
      refine a_iconst C 0 dX12_joined_18 (by decide) ?_
      refine a_goto C 35 dX12_joined_19 (by decide) ?_
      exact a_zret C rfl dX12_joined_35 h
    · have h := h.2 c4
      refine a_iload_n C 2 dX12_joined_10 rfl rfl ?_
      refine a_if_eq C 18 dX12_joined_11 (by decide) (fun c3 => ?_) (fun c3 => ?_)
      · have h := h.1 c3
        refine a_iconst C 0 dX12_joined_18 (by decide) ?_
        refine a_goto C 35 dX12_joined_19 (by decide) ?_
        exact a_zret C rfl dX12_joined_35 h
      · have h := h.2 c3
        refine a_iconst C 1 dX12_joined_14 (by decide) ?_
        refine a_goto C 35 dX12_joined_15 (by decide) ?_
        exact a_zret C rfl dX12_joined_35 h

/-! RainOnTheOneModel.summedUp(II)J -/
def wj_X12_summedUp_400 (k38 : Int32 → Int32 → Int32 → Int32 → Int32 → PoS → Prop) (post : Int64 → PoS → Prop) (v3 : Int32) (v4 : Int32) (v5 : Int32) (v6 : Int32) (v7 : Int32) (u : PoS) : Prop := k38 v3 v4 v5 v6 (v7 + 1) u
def wj_X12_summedUp_212 (k38 : Int32 → Int32 → Int32 → Int32 → Int32 → PoS → Prop) (post : Int64 → PoS → Prop) (v3 : Int32) (v4 : Int32) (v5 : Int32) (v6 : Int32) (v7 : Int32) (s0 : Int64) (s1 : Int32) (u : PoS) : Prop := vp_in s1 330 ∧ wj_X12_summedUp_400 k38 post v3 v4 v5 v6 v7 (pL u 55 (Int32.toNatClampNeg s1) s0)
def wj_X12_summedUp_172 (k38 : Int32 → Int32 → Int32 → Int32 → Int32 → PoS → Prop) (post : Int64 → PoS → Prop) (v3 : Int32) (v4 : Int32) (v5 : Int32) (v6 : Int32) (v7 : Int32) (v8 : Int32) (u : PoS) : Prop := ((¬ v8 = 5 → vp_in (v5 - 1) 330 ∧ wp_X12_waterOf (gL u 55 (Int32.toNatClampNeg (v5 - 1))) u (fun (r6 : Int64) (u7 : PoS) => wj_X12_summedUp_212 k38 post v3 v4 v5 v6 v7 r6 (v5 - 1) u7)) ∧ (v8 = 5 → vp_in (v5 - 1) 330 ∧ wj_X12_summedUp_212 k38 post v3 v4 v5 v6 v7 (-(gL u 55 (Int32.toNatClampNeg (v5 - 1)))) (v5 - 1) u))
def wj_X12_summedUp_363 (k38 : Int32 → Int32 → Int32 → Int32 → Int32 → PoS → Prop) (post : Int64 → PoS → Prop) (v3 : Int32) (v4 : Int32) (v5 : Int32) (v6 : Int32) (v7 : Int32) (s0 : Int32) (s1 : Int32) (u : PoS) : Prop := vp_in s1 330 ∧ wj_X12_summedUp_400 k38 post v3 v4 v5 v6 v7 (pI u 56 (Int32.toNatClampNeg s1) (vp_nar .boolean s0))
def wj_X12_summedUp_283 (k38 : Int32 → Int32 → Int32 → Int32 → Int32 → PoS → Prop) (post : Int64 → PoS → Prop) (v3 : Int32) (v4 : Int32) (v5 : Int32) (v6 : Int32) (v7 : Int32) (s0 : Int64) (s1 : Int32) (u : PoS) : Prop := vp_in s1 330 ∧ wj_X12_summedUp_400 k38 post v3 v4 v5 v6 v7 (pL u 55 (Int32.toNatClampNeg s1) s0)
def wj_X12_summedUp_112 (k38 : Int32 → Int32 → Int32 → Int32 → Int32 → PoS → Prop) (post : Int64 → PoS → Prop) (v3 : Int32) (v4 : Int32) (v5 : Int32) (v6 : Int32) (v7 : Int32) (s0 : Int64) (s1 : Int32) (u : PoS) : Prop := vp_in s1 330 ∧ wj_X12_summedUp_400 k38 post v3 v4 (v5 + 1) v6 v7 (pL u 55 (Int32.toNatClampNeg s1) s0)
def wl_X12_summedUp_38 (post : Int64 → PoS → Prop) : Nat → Int32 → Int32 → Int32 → Int32 → Int32 → PoS → Prop
  | 0, _, _, _, _, _, _ => False
  | n + 1, v3, v4, v5, v6, v7, u => vp_in (v3 + 2) 2724 ∧ (((gI u 51 (Int32.toNatClampNeg (v3 + 2))) ≤ v7 → post (gL u 55 0) u) ∧ (¬ (gI u 51 (Int32.toNatClampNeg (v3 + 2))) ≤ v7 → vp_in (v4 + (2 * v7)) 2724 ∧ ∀ x4 : Int32, x4 = (gI u 51 (Int32.toNatClampNeg (v4 + (2 * v7)))) → vp_in ((v4 + (2 * v7)) + 1) 2724 ∧ ∀ x5 : Int32, x5 = (gI u 51 (Int32.toNatClampNeg ((v4 + (2 * v7)) + 1))) → ((1 < x4 → ((¬ x4 = 3 → ((x4 = 5 → wj_X12_summedUp_172 (wl_X12_summedUp_38 post n) post v3 v4 v5 v6 v7 x4 u) ∧ (¬ x4 = 5 → ((¬ x4 = 2 → ((10 ≤ x4 → ((20 ≤ x4 → ((¬ x4 = 20 → vp_in ((v6 + (-1)) - 1) 330 ∧ vp_in (v6 + (-1)) 330 ∧ wp_X12_joined x4 (gI u 56 (Int32.toNatClampNeg ((v6 + (-1)) - 1))) (gI u 56 (Int32.toNatClampNeg (v6 + (-1)))) u (fun (r9 : Int32) (u10 : PoS) => vp_in ((v6 + (-1)) - 1) 330 ∧ wj_X12_summedUp_400 (wl_X12_summedUp_38 post n) post v3 v4 v5 (v6 + (-1)) v7 (pI u10 56 (Int32.toNatClampNeg ((v6 + (-1)) - 1)) (vp_nar .boolean r9)))) ∧ (x4 = 20 → vp_in (v6 - 1) 330 ∧ ((¬ (gI u 56 (Int32.toNatClampNeg (v6 - 1))) = 0 → wj_X12_summedUp_363 (wl_X12_summedUp_38 post n) post v3 v4 v5 v6 v7 0 (v6 - 1) u) ∧ ((gI u 56 (Int32.toNatClampNeg (v6 - 1))) = 0 → wj_X12_summedUp_363 (wl_X12_summedUp_38 post n) post v3 v4 v5 v6 v7 1 (v6 - 1) u))))) ∧ (¬ 20 ≤ x4 → vp_in (v5 + (-2)) 330 ∧ vp_in ((v5 + (-2)) + 1) 330 ∧ wp_X12_isAsked x4 (gL u 55 (Int32.toNatClampNeg (v5 + (-2)))) (gL u 55 (Int32.toNatClampNeg ((v5 + (-2)) + 1))) u (fun (r13 : Int32) (u14 : PoS) => vp_in v6 330 ∧ wj_X12_summedUp_400 (wl_X12_summedUp_38 post n) post v3 v4 (v5 + (-2)) (v6 + 1) v7 (pI u14 56 (Int32.toNatClampNeg v6) (vp_nar .boolean r13)))))) ∧ (¬ 10 ≤ x4 → ((¬ x4 = 4 → vp_in ((v5 + (-1)) - 1) 330 ∧ vp_in (v5 + (-1)) 330 ∧ wp_X12_two x4 (gL u 55 (Int32.toNatClampNeg ((v5 + (-1)) - 1))) (gL u 55 (Int32.toNatClampNeg (v5 + (-1)))) u (fun (r16 : Int64) (u17 : PoS) => wj_X12_summedUp_283 (wl_X12_summedUp_38 post n) post v3 v4 (v5 + (-1)) v6 v7 r16 ((v5 + (-1)) - 1) u17)) ∧ (x4 = 4 → vp_in ((v5 + (-1)) - 1) 330 ∧ vp_in (v5 + (-1)) 330 ∧ wp_X12_shareOf (gL u 55 (Int32.toNatClampNeg ((v5 + (-1)) - 1))) (gL u 55 (Int32.toNatClampNeg (v5 + (-1)))) u (fun (r18 : Int64) (u19 : PoS) => wj_X12_summedUp_283 (wl_X12_summedUp_38 post n) post v3 v4 (v5 + (-1)) v6 v7 r18 ((v5 + (-1)) - 1) u19)))))) ∧ (x4 = 2 → wj_X12_summedUp_172 (wl_X12_summedUp_38 post n) post v3 v4 v5 v6 v7 x4 u))))) ∧ (x4 = 3 → vp_in (v6 + (-1)) 330 ∧ ((¬ (gI u 56 (Int32.toNatClampNeg (v6 + (-1)))) = 0 → wj_X12_summedUp_400 (wl_X12_summedUp_38 post n) post v3 v4 (v5 + (-1)) (v6 + (-1)) v7 u) ∧ ((gI u 56 (Int32.toNatClampNeg (v6 + (-1)))) = 0 → vp_in (v5 + (-1)) 330 ∧ vp_in ((v5 + (-1)) - 1) 330 ∧ wj_X12_summedUp_400 (wl_X12_summedUp_38 post n) post v3 v4 (v5 + (-1)) (v6 + (-1)) v7 (pL u 55 (Int32.toNatClampNeg ((v5 + (-1)) - 1)) (gL u 55 (Int32.toNatClampNeg (v5 + (-1)))))))))) ∧ (¬ 1 < x4 → ((¬ x4 = 0 → vp_in x5 8 ∧ wj_X12_summedUp_112 (wl_X12_summedUp_38 post n) post v3 v4 v5 v6 v7 (Int32.toInt64 (gI u 54 (Int32.toNatClampNeg x5))) v5 u) ∧ (x4 = 0 → wj_X12_summedUp_112 (wl_X12_summedUp_38 post n) post v3 v4 v5 v6 v7 (Int32.toInt64 x5) v5 u))))))
def wp_X12_summedUp (a0 : Int32) (a1 : Int32) (u : PoS) (post : Int64 → PoS → Prop) : Prop := ∀ x1 : Int32, x1 = (((681 * a0) + 1) + (3 * a1)) → ∀ x2 : Int32, x2 = ((681 * a0) + 73) → vp_in (x1 + 1) 2724 ∧ ∀ x3 : Int32, x3 = (gI u 51 (Int32.toNatClampNeg (x1 + 1))) → (∃ n38, wl_X12_summedUp_38 post n38 x1 x2 0 0 x3 u)
set_option maxHeartbeats 4000000 in
set_option maxRecDepth 100000 in
theorem tj_X12_summedUp_400 {p : Program} {l : Launch} {e : Env} {s : State} {m : MethodId} {args : Array Value} {below : List Frame} {meth : Method} {c : Code} {V : VEn} {k38 : Int32 → Int32 → Int32 → Int32 → Int32 → PoS → Prop} {post : Int64 → PoS → Prop} (C : CxS p s m args meth c V cX12_summedUp 10 RX12 (some .long)) (hk38 : ∀ (v3 : Int32) (v4 : Int32) (v5 : Int32) (v6 : Int32) (v7 : Int32) (u : PoS), k38 v3 v4 v5 v6 v7 u → AtS p l e (Rm 2) s m args below meth c V 10 (QL V below args s post) 38 [(0, .ref (eA V 48)), (3, .int v3), (4, .int v4), (5, .int v5), (6, .int v6), (7, .int v7)] [] u) (v3 : Int32) (v4 : Int32) (v5 : Int32) (v6 : Int32) (v7 : Int32) (u : PoS) (h : wj_X12_summedUp_400 k38 post v3 v4 v5 v6 v7 u) : AtS p l e (Rm 2) s m args below meth c V 10 (QL V below args s post) 400 [(0, .ref (eA V 48)), (3, .int v3), (4, .int v4), (5, .int v5), (6, .int v6), (7, .int v7)] [] u := by
  rw [wj_X12_summedUp_400] at h
  refine a_iinc C (v7 + 1) 5 [(7, .int (v7 + 1)), (0, .ref (eA V 48)), (3, .int v3), (4, .int v4), (5, .int v5), (6, .int v6)] dX12_summedUp_400 rfl (congrArg (fun z => v7 + z) (show Int32.ofInt 1 = 1 by decide)) (by decide) rfl ?_
  refine a_goto C 38 dX12_summedUp_403 (by decide) ?_
  refine a_sub [1, 2, 3, 4, 5, 0] rfl ?_
  exact hk38 _ _ _ _ _ _ h
set_option maxHeartbeats 4000000 in
set_option maxRecDepth 100000 in
theorem tj_X12_summedUp_212 {p : Program} {l : Launch} {e : Env} {s : State} {m : MethodId} {args : Array Value} {below : List Frame} {meth : Method} {c : Code} {V : VEn} {k38 : Int32 → Int32 → Int32 → Int32 → Int32 → PoS → Prop} {post : Int64 → PoS → Prop} (C : CxS p s m args meth c V cX12_summedUp 10 RX12 (some .long)) (hk38 : ∀ (v3 : Int32) (v4 : Int32) (v5 : Int32) (v6 : Int32) (v7 : Int32) (u : PoS), k38 v3 v4 v5 v6 v7 u → AtS p l e (Rm 2) s m args below meth c V 10 (QL V below args s post) 38 [(0, .ref (eA V 48)), (3, .int v3), (4, .int v4), (5, .int v5), (6, .int v6), (7, .int v7)] [] u) (v3 : Int32) (v4 : Int32) (v5 : Int32) (v6 : Int32) (v7 : Int32) (s0 : Int64) (s1 : Int32) (u : PoS) (h : wj_X12_summedUp_212 k38 post v3 v4 v5 v6 v7 s0 s1 u) : AtS p l e (Rm 2) s m args below meth c V 10 (QL V below args s post) 212 [(0, .ref (eA V 48)), (3, .int v3), (4, .int v4), (5, .int v5), (6, .int v6), (7, .int v7)] [.long s0, .int s1, .ref (eA V 55)] u := by
  rw [wj_X12_summedUp_212] at h
  refine b_last C (Int32.toNatClampNeg s1) dX12_summedUp_212 (by decide) rfl h.1 rfl ?_
  have h := h.2
  refine a_goto C 400 dX12_summedUp_213 (by decide) ?_
  refine tj_X12_summedUp_400 C hk38 _ _ _ _ _ _ h
set_option maxHeartbeats 4000000 in
set_option maxRecDepth 100000 in
theorem tj_X12_summedUp_172 {p : Program} {l : Launch} {e : Env} {s : State} {m : MethodId} {args : Array Value} {below : List Frame} {meth : Method} {c : Code} {V : VEn} {k38 : Int32 → Int32 → Int32 → Int32 → Int32 → PoS → Prop} {post : Int64 → PoS → Prop} (C : CxS p s m args meth c V cX12_summedUp 10 RX12 (some .long)) (hk38 : ∀ (v3 : Int32) (v4 : Int32) (v5 : Int32) (v6 : Int32) (v7 : Int32) (u : PoS), k38 v3 v4 v5 v6 v7 u → AtS p l e (Rm 2) s m args below meth c V 10 (QL V below args s post) 38 [(0, .ref (eA V 48)), (3, .int v3), (4, .int v4), (5, .int v5), (6, .int v6), (7, .int v7)] [] u) (v3 : Int32) (v4 : Int32) (v5 : Int32) (v6 : Int32) (v7 : Int32) (v8 : Int32) (u : PoS) (h : wj_X12_summedUp_172 k38 post v3 v4 v5 v6 v7 v8 u) : AtS p l e (Rm 2) s m args below meth c V 10 (QL V below args s post) 172 [(0, .ref (eA V 48)), (3, .int v3), (4, .int v4), (5, .int v5), (6, .int v6), (7, .int v7), (8, .int v8)] [] u := by
  rw [wj_X12_summedUp_172] at h
  refine a_aload_n C 0 dX12_summedUp_172 rfl rfl ?_
  refine a_getr C 21 (r := 55) dX12_summedUp_173 (by decide) rfl rfl rfl ib_12 (by decide) bw_1043 ?_
  refine a_iload C 3 dX12_summedUp_176 rfl ?_
  refine a_iconst C 1 dX12_summedUp_178 (by decide) ?_
  refine a_isub C dX12_summedUp_179 ?_
  refine a_iload C 6 dX12_summedUp_180 rfl ?_
  refine a_iconst C 5 dX12_summedUp_182 (by decide) ?_
  refine a_icmp_ne C 199 dX12_summedUp_183 (by decide) (fun c8 => ?_) (fun c8 => ?_)
  · have h := h.1 c8
    refine a_aload_n C 0 dX12_summedUp_199 rfl rfl ?_
    refine a_aload_n C 0 dX12_summedUp_200 rfl rfl ?_
    refine a_getr C 21 (r := 55) dX12_summedUp_201 (by decide) rfl rfl rfl ib_12 (by decide) bw_1043 ?_
    refine a_iload C 3 dX12_summedUp_204 rfl ?_
    refine a_iconst C 1 dX12_summedUp_206 (by decide) ?_
    refine a_isub C dX12_summedUp_207 ?_
    refine b_lald C (Int32.toNatClampNeg (v5 - 1)) dX12_summedUp_208 (by decide) rfl h.1 rfl ?_
    have h := h.2
    refine a_callVl C dX12_summedUp_209 (m_X12_waterOf l V h) bw_1425 bw_1427 bw_85 bw_123 bw_1428 (by decide) rfl rfl np_X12_waterOf rfl rfl (by decide) (Nat.le_of_ble_eq_true rfl) (fun r6 u7 h => ?_)
    refine a_sub [0, 1, 2, 3, 4, 5] rfl ?_
    refine tj_X12_summedUp_212 C hk38 _ _ _ _ _ _ _ _ h
  · have h := h.2 c8
    refine a_aload_n C 0 dX12_summedUp_186 rfl rfl ?_
    refine a_getr C 21 (r := 55) dX12_summedUp_187 (by decide) rfl rfl rfl ib_12 (by decide) bw_1043 ?_
    refine a_iload C 3 dX12_summedUp_190 rfl ?_
    refine a_iconst C 1 dX12_summedUp_192 (by decide) ?_
    refine a_isub C dX12_summedUp_193 ?_
    refine b_lald C (Int32.toNatClampNeg (v5 - 1)) dX12_summedUp_194 (by decide) rfl h.1 rfl ?_
    have h := h.2
    refine a_lneg C dX12_summedUp_195 ?_
    refine a_goto C 212 dX12_summedUp_196 (by decide) ?_
    refine a_sub [0, 1, 2, 3, 4, 5] rfl ?_
    refine tj_X12_summedUp_212 C hk38 _ _ _ _ _ _ _ _ h
set_option maxHeartbeats 4000000 in
set_option maxRecDepth 100000 in
theorem tj_X12_summedUp_363 {p : Program} {l : Launch} {e : Env} {s : State} {m : MethodId} {args : Array Value} {below : List Frame} {meth : Method} {c : Code} {V : VEn} {k38 : Int32 → Int32 → Int32 → Int32 → Int32 → PoS → Prop} {post : Int64 → PoS → Prop} (C : CxS p s m args meth c V cX12_summedUp 10 RX12 (some .long)) (hk38 : ∀ (v3 : Int32) (v4 : Int32) (v5 : Int32) (v6 : Int32) (v7 : Int32) (u : PoS), k38 v3 v4 v5 v6 v7 u → AtS p l e (Rm 2) s m args below meth c V 10 (QL V below args s post) 38 [(0, .ref (eA V 48)), (3, .int v3), (4, .int v4), (5, .int v5), (6, .int v6), (7, .int v7)] [] u) (v3 : Int32) (v4 : Int32) (v5 : Int32) (v6 : Int32) (v7 : Int32) (s0 : Int32) (s1 : Int32) (u : PoS) (h : wj_X12_summedUp_363 k38 post v3 v4 v5 v6 v7 s0 s1 u) : AtS p l e (Rm 2) s m args below meth c V 10 (QL V below args s post) 363 [(0, .ref (eA V 48)), (3, .int v3), (4, .int v4), (5, .int v5), (6, .int v6), (7, .int v7)] [.int s0, .int s1, .ref (eA V 56)] u := by
  rw [wj_X12_summedUp_363] at h
  refine b_zast C (Int32.toNatClampNeg s1) dX12_summedUp_363 (by decide) rfl h.1 rfl ?_
  have h := h.2
  refine a_goto C 400 dX12_summedUp_364 (by decide) ?_
  refine tj_X12_summedUp_400 C hk38 _ _ _ _ _ _ h
set_option maxHeartbeats 4000000 in
set_option maxRecDepth 100000 in
theorem tj_X12_summedUp_283 {p : Program} {l : Launch} {e : Env} {s : State} {m : MethodId} {args : Array Value} {below : List Frame} {meth : Method} {c : Code} {V : VEn} {k38 : Int32 → Int32 → Int32 → Int32 → Int32 → PoS → Prop} {post : Int64 → PoS → Prop} (C : CxS p s m args meth c V cX12_summedUp 10 RX12 (some .long)) (hk38 : ∀ (v3 : Int32) (v4 : Int32) (v5 : Int32) (v6 : Int32) (v7 : Int32) (u : PoS), k38 v3 v4 v5 v6 v7 u → AtS p l e (Rm 2) s m args below meth c V 10 (QL V below args s post) 38 [(0, .ref (eA V 48)), (3, .int v3), (4, .int v4), (5, .int v5), (6, .int v6), (7, .int v7)] [] u) (v3 : Int32) (v4 : Int32) (v5 : Int32) (v6 : Int32) (v7 : Int32) (s0 : Int64) (s1 : Int32) (u : PoS) (h : wj_X12_summedUp_283 k38 post v3 v4 v5 v6 v7 s0 s1 u) : AtS p l e (Rm 2) s m args below meth c V 10 (QL V below args s post) 283 [(0, .ref (eA V 48)), (3, .int v3), (4, .int v4), (5, .int v5), (6, .int v6), (7, .int v7)] [.long s0, .int s1, .ref (eA V 55)] u := by
  rw [wj_X12_summedUp_283] at h
  refine b_last C (Int32.toNatClampNeg s1) dX12_summedUp_283 (by decide) rfl h.1 rfl ?_
  have h := h.2
  refine a_goto C 400 dX12_summedUp_284 (by decide) ?_
  refine tj_X12_summedUp_400 C hk38 _ _ _ _ _ _ h
set_option maxHeartbeats 4000000 in
set_option maxRecDepth 100000 in
theorem tj_X12_summedUp_112 {p : Program} {l : Launch} {e : Env} {s : State} {m : MethodId} {args : Array Value} {below : List Frame} {meth : Method} {c : Code} {V : VEn} {k38 : Int32 → Int32 → Int32 → Int32 → Int32 → PoS → Prop} {post : Int64 → PoS → Prop} (C : CxS p s m args meth c V cX12_summedUp 10 RX12 (some .long)) (hk38 : ∀ (v3 : Int32) (v4 : Int32) (v5 : Int32) (v6 : Int32) (v7 : Int32) (u : PoS), k38 v3 v4 v5 v6 v7 u → AtS p l e (Rm 2) s m args below meth c V 10 (QL V below args s post) 38 [(0, .ref (eA V 48)), (3, .int v3), (4, .int v4), (5, .int v5), (6, .int v6), (7, .int v7)] [] u) (v3 : Int32) (v4 : Int32) (v5 : Int32) (v6 : Int32) (v7 : Int32) (s0 : Int64) (s1 : Int32) (u : PoS) (h : wj_X12_summedUp_112 k38 post v3 v4 v5 v6 v7 s0 s1 u) : AtS p l e (Rm 2) s m args below meth c V 10 (QL V below args s post) 112 [(0, .ref (eA V 48)), (3, .int v3), (4, .int v4), (5, .int v5), (6, .int v6), (7, .int v7)] [.long s0, .int s1, .ref (eA V 55)] u := by
  rw [wj_X12_summedUp_112] at h
  refine b_last C (Int32.toNatClampNeg s1) dX12_summedUp_112 (by decide) rfl h.1 rfl ?_
  have h := h.2
  refine a_iinc C (v5 + 1) 3 [(5, .int (v5 + 1)), (0, .ref (eA V 48)), (3, .int v3), (4, .int v4), (6, .int v6), (7, .int v7)] dX12_summedUp_113 rfl (congrArg (fun z => v5 + z) (show Int32.ofInt 1 = 1 by decide)) (by decide) rfl ?_
  refine a_goto C 400 dX12_summedUp_116 (by decide) ?_
  refine a_sub [1, 2, 3, 0, 4, 5] rfl ?_
  refine tj_X12_summedUp_400 C hk38 _ _ _ _ _ _ h
set_option maxHeartbeats 4000000 in
set_option maxRecDepth 100000 in
theorem tl_X12_summedUp_38 {p : Program} {l : Launch} {e : Env} {s : State} {m : MethodId} {args : Array Value} {below : List Frame} {meth : Method} {c : Code} {V : VEn} {post : Int64 → PoS → Prop} (C : CxS p s m args meth c V cX12_summedUp 10 RX12 (some .long)) : ∀ (n : Nat) (v3 : Int32) (v4 : Int32) (v5 : Int32) (v6 : Int32) (v7 : Int32) (u : PoS), wl_X12_summedUp_38 post n v3 v4 v5 v6 v7 u → AtS p l e (Rm 2) s m args below meth c V 10 (QL V below args s post) 38 [(0, .ref (eA V 48)), (3, .int v3), (4, .int v4), (5, .int v5), (6, .int v6), (7, .int v7)] [] u := by
  intro n
  induction n with
  | zero => intro v3 v4 v5 v6 v7 u h; exact h.elim
  | succ n ih =>
    intro v3 v4 v5 v6 v7 u h
    rw [wl_X12_summedUp_38] at h
    refine a_iload C 5 dX12_summedUp_38 rfl ?_
    refine a_aload_n C 0 dX12_summedUp_40 rfl rfl ?_
    refine a_getr C 2 (r := 51) dX12_summedUp_41 (by decide) rfl rfl rfl ib_12 (by decide) bw_1024 ?_
    refine a_iload_n C 1 dX12_summedUp_44 rfl rfl ?_
    refine a_iconst C 2 dX12_summedUp_45 (by decide) ?_
    refine a_iadd C dX12_summedUp_46 ?_
    refine b_iald C (Int32.toNatClampNeg (v3 + 2)) dX12_summedUp_47 (by decide) rfl h.1 rfl ?_
    have h := h.2
    refine a_icmp_ge C 406 dX12_summedUp_48 (by decide) (fun c28 => ?_) (fun c28 => ?_)
    · have h := h.1 c28
      refine a_aload_n C 0 dX12_summedUp_406 rfl rfl ?_
      refine a_getr C 21 (r := 55) dX12_summedUp_407 (by decide) rfl rfl rfl ib_12 (by decide) bw_1043 ?_
      refine a_iconst C 0 dX12_summedUp_410 (by decide) ?_
      refine b_lald C 0 dX12_summedUp_411 (by decide) rfl (vp_lit (by decide)) (by decide) ?_
      exact a_lret C dX12_summedUp_412 h
    · have h := h.2 c28
      refine a_aload_n C 0 dX12_summedUp_51 rfl rfl ?_
      refine a_getr C 2 (r := 51) dX12_summedUp_52 (by decide) rfl rfl rfl ib_12 (by decide) bw_1024 ?_
      refine a_iload C 2 dX12_summedUp_55 rfl ?_
      refine a_iconst C 2 dX12_summedUp_57 (by decide) ?_
      refine a_iload C 5 dX12_summedUp_58 rfl ?_
      refine a_imul C dX12_summedUp_60 ?_
      refine a_iadd C dX12_summedUp_61 ?_
      refine b_iald C (Int32.toNatClampNeg (v4 + (2 * v7))) dX12_summedUp_62 (by decide) rfl h.1 rfl ?_
      have h := h.2
      refine a_topi (fun x4 ex4 => ?_)
      have h := h x4 ex4
      refine a_istore C [(8, .int x4), (0, .ref (eA V 48)), (3, .int v3), (4, .int v4), (5, .int v5), (6, .int v6), (7, .int v7)] dX12_summedUp_63 (by decide) rfl ?_
      refine a_aload_n C 1 dX12_summedUp_65 rfl rfl ?_
      refine a_getr C 2 (r := 51) dX12_summedUp_66 (by decide) rfl rfl rfl ib_12 (by decide) bw_1024 ?_
      refine a_iload C 3 dX12_summedUp_69 rfl ?_
      refine a_iconst C 2 dX12_summedUp_71 (by decide) ?_
      refine a_iload C 6 dX12_summedUp_72 rfl ?_
      refine a_imul C dX12_summedUp_74 ?_
      refine a_iadd C dX12_summedUp_75 ?_
      refine a_iconst C 1 dX12_summedUp_76 (by decide) ?_
      refine a_iadd C dX12_summedUp_77 ?_
      refine b_iald C (Int32.toNatClampNeg ((v4 + (2 * v7)) + 1)) dX12_summedUp_78 (by decide) rfl h.1 rfl ?_
      have h := h.2
      refine a_topi (fun x5 ex5 => ?_)
      have h := h x5 ex5
      refine a_istore C [(9, .int x5), (8, .int x4), (0, .ref (eA V 48)), (3, .int v3), (4, .int v4), (5, .int v5), (6, .int v6), (7, .int v7)] dX12_summedUp_79 (by decide) rfl ?_
      refine a_iload C 1 dX12_summedUp_81 rfl ?_
      refine a_iconst C 1 dX12_summedUp_83 (by decide) ?_
      refine a_icmp_gt C 119 dX12_summedUp_84 (by decide) (fun c27 => ?_) (fun c27 => ?_)
      · have h := h.1 c27
        refine a_iload C 1 dX12_summedUp_119 rfl ?_
        refine a_iconst C 3 dX12_summedUp_121 (by decide) ?_
        refine a_icmp_ne C 160 dX12_summedUp_122 (by decide) (fun c25 => ?_) (fun c25 => ?_)
        · have h := h.1 c25
          refine a_iload C 1 dX12_summedUp_160 rfl ?_
          refine a_iconst C 5 dX12_summedUp_162 (by decide) ?_
          refine a_icmp_eq C 172 dX12_summedUp_163 (by decide) (fun c23 => ?_) (fun c23 => ?_)
          · have h := h.1 c23
            refine a_sub [2, 3, 4, 5, 6, 7, 1] rfl ?_
            refine tj_X12_summedUp_172 C ih _ _ _ _ _ _ _ h
          · have h := h.2 c23
            refine a_iload C 1 dX12_summedUp_166 rfl ?_
            refine a_iconst C 2 dX12_summedUp_168 (by decide) ?_
            refine a_icmp_ne C 216 dX12_summedUp_169 (by decide) (fun c22 => ?_) (fun c22 => ?_)
            · have h := h.1 c22
              refine a_iload C 1 dX12_summedUp_216 rfl ?_
              refine a_bipush C 10 dX12_summedUp_218 (by decide) ?_
              refine a_icmp_ge C 287 dX12_summedUp_220 (by decide) (fun c21 => ?_) (fun c21 => ?_)
              · have h := h.1 c21
                refine a_iload C 1 dX12_summedUp_287 rfl ?_
                refine a_bipush C 20 dX12_summedUp_289 (by decide) ?_
                refine a_icmp_ge C 331 dX12_summedUp_291 (by decide) (fun c15 => ?_) (fun c15 => ?_)
                · have h := h.1 c15
                  refine a_iload C 1 dX12_summedUp_331 rfl ?_
                  refine a_bipush C 20 dX12_summedUp_333 (by decide) ?_
                  refine a_icmp_ne C 367 dX12_summedUp_335 (by decide) (fun c12 => ?_) (fun c12 => ?_)
                  · have h := h.1 c12
                    refine a_iinc C (v6 + (-1)) 6 [(6, .int (v6 + (-1))), (9, .int x5), (8, .int x4), (0, .ref (eA V 48)), (3, .int v3), (4, .int v4), (5, .int v5), (7, .int v7)] dX12_summedUp_367 rfl (congrArg (fun z => v6 + z) (show Int32.ofInt (-1) = (-1) by decide)) (by decide) rfl ?_
                    refine a_aload_n C 3 dX12_summedUp_370 rfl rfl ?_
                    refine a_getr C 22 (r := 56) dX12_summedUp_371 (by decide) rfl rfl rfl ib_12 (by decide) bw_1044 ?_
                    refine a_iload C 0 dX12_summedUp_374 rfl ?_
                    refine a_iconst C 1 dX12_summedUp_376 (by decide) ?_
                    refine a_isub C dX12_summedUp_377 ?_
                    refine a_iload C 2 dX12_summedUp_378 rfl ?_
                    refine a_aload_n C 3 dX12_summedUp_380 rfl rfl ?_
                    refine a_getr C 22 (r := 56) dX12_summedUp_381 (by decide) rfl rfl rfl ib_12 (by decide) bw_1044 ?_
                    refine a_iload C 0 dX12_summedUp_384 rfl ?_
                    refine a_iconst C 1 dX12_summedUp_386 (by decide) ?_
                    refine a_isub C dX12_summedUp_387 ?_
                    refine b_zald C (Int32.toNatClampNeg ((v6 + (-1)) - 1)) dX12_summedUp_388 (by decide) rfl h.1 rfl ?_
                    have h := h.2
                    refine a_aload_n C 3 dX12_summedUp_389 rfl rfl ?_
                    refine a_getr C 22 (r := 56) dX12_summedUp_390 (by decide) rfl rfl rfl ib_12 (by decide) bw_1044 ?_
                    refine a_iload C 0 dX12_summedUp_393 rfl ?_
                    refine b_zald C (Int32.toNatClampNeg (v6 + (-1))) dX12_summedUp_395 (by decide) rfl h.1 rfl ?_
                    have h := h.2
                    refine a_callSi C dX12_summedUp_396 (m_X12_joined l V h) bw_1445 bw_1446 bw_123 bw_1447 np_X12_joined rfl rfl (by decide) (Nat.le_of_ble_eq_true rfl) (fun r9 u10 h => ?_)
                    refine b_zast C (Int32.toNatClampNeg ((v6 + (-1)) - 1)) dX12_summedUp_399 (by decide) rfl h.1 rfl ?_
                    have h := h.2
                    refine a_sub [3, 4, 5, 6, 0, 7] rfl ?_
                    refine tj_X12_summedUp_400 C ih _ _ _ _ _ _ h
                  · have h := h.2 c12
                    refine a_aload_n C 2 dX12_summedUp_338 rfl rfl ?_
                    refine a_getr C 22 (r := 56) dX12_summedUp_339 (by decide) rfl rfl rfl ib_12 (by decide) bw_1044 ?_
                    refine a_iload C 6 dX12_summedUp_342 rfl ?_
                    refine a_iconst C 1 dX12_summedUp_344 (by decide) ?_
                    refine a_isub C dX12_summedUp_345 ?_
                    refine a_aload_n C 2 dX12_summedUp_346 rfl rfl ?_
                    refine a_getr C 22 (r := 56) dX12_summedUp_347 (by decide) rfl rfl rfl ib_12 (by decide) bw_1044 ?_
                    refine a_iload C 6 dX12_summedUp_350 rfl ?_
                    refine a_iconst C 1 dX12_summedUp_352 (by decide) ?_
                    refine a_isub C dX12_summedUp_353 ?_
                    refine b_zald C (Int32.toNatClampNeg (v6 - 1)) dX12_summedUp_354 (by decide) rfl h.1 rfl ?_
                    have h := h.2
                    refine a_if_ne C 362 dX12_summedUp_355 (by decide) (fun c11 => ?_) (fun c11 => ?_)
                    · have h := h.1 c11
                      refine a_iconst C 0 dX12_summedUp_362 (by decide) ?_
                      refine a_sub [2, 3, 4, 5, 6, 7] rfl ?_
                      refine tj_X12_summedUp_363 C ih _ _ _ _ _ _ _ _ h
                    · have h := h.2 c11
                      refine a_iconst C 1 dX12_summedUp_358 (by decide) ?_
                      refine a_goto C 363 dX12_summedUp_359 (by decide) ?_
                      refine a_sub [2, 3, 4, 5, 6, 7] rfl ?_
                      refine tj_X12_summedUp_363 C ih _ _ _ _ _ _ _ _ h
                · have h := h.2 c15
                  refine a_iinc C (v5 + (-2)) 5 [(5, .int (v5 + (-2))), (9, .int x5), (8, .int x4), (0, .ref (eA V 48)), (3, .int v3), (4, .int v4), (6, .int v6), (7, .int v7)] dX12_summedUp_294 rfl (congrArg (fun z => v5 + z) (show Int32.ofInt (-2) = (-2) by decide)) (by decide) rfl ?_
                  refine a_aload_n C 3 dX12_summedUp_297 rfl rfl ?_
                  refine a_getr C 22 (r := 56) dX12_summedUp_298 (by decide) rfl rfl rfl ib_12 (by decide) bw_1044 ?_
                  refine a_iload C 6 dX12_summedUp_301 rfl ?_
                  refine a_iload C 2 dX12_summedUp_303 rfl ?_
                  refine a_aload_n C 3 dX12_summedUp_305 rfl rfl ?_
                  refine a_getr C 21 (r := 55) dX12_summedUp_306 (by decide) rfl rfl rfl ib_12 (by decide) bw_1043 ?_
                  refine a_iload C 0 dX12_summedUp_309 rfl ?_
                  refine b_lald C (Int32.toNatClampNeg (v5 + (-2))) dX12_summedUp_311 (by decide) rfl h.1 rfl ?_
                  have h := h.2
                  refine a_aload_n C 3 dX12_summedUp_312 rfl rfl ?_
                  refine a_getr C 21 (r := 55) dX12_summedUp_313 (by decide) rfl rfl rfl ib_12 (by decide) bw_1043 ?_
                  refine a_iload C 0 dX12_summedUp_316 rfl ?_
                  refine a_iconst C 1 dX12_summedUp_318 (by decide) ?_
                  refine a_iadd C dX12_summedUp_319 ?_
                  refine b_lald C (Int32.toNatClampNeg ((v5 + (-2)) + 1)) dX12_summedUp_320 (by decide) rfl h.1 rfl ?_
                  have h := h.2
                  refine a_callSi C dX12_summedUp_321 (m_X12_isAsked l V h) bw_1442 bw_1443 bw_123 bw_1444 np_X12_isAsked rfl rfl (by decide) (Nat.le_of_ble_eq_true rfl) (fun r13 u14 h => ?_)
                  refine b_zast C (Int32.toNatClampNeg v6) dX12_summedUp_324 (by decide) rfl h.1 rfl ?_
                  have h := h.2
                  refine a_iinc C (v6 + 1) 6 [(6, .int (v6 + 1)), (5, .int (v5 + (-2))), (9, .int x5), (8, .int x4), (0, .ref (eA V 48)), (3, .int v3), (4, .int v4), (7, .int v7)] dX12_summedUp_325 rfl (congrArg (fun z => v6 + z) (show Int32.ofInt 1 = 1 by decide)) (by decide) rfl ?_
                  refine a_goto C 400 dX12_summedUp_328 (by decide) ?_
                  refine a_sub [4, 5, 6, 1, 0, 7] rfl ?_
                  refine tj_X12_summedUp_400 C ih _ _ _ _ _ _ h
              · have h := h.2 c21
                refine a_iinc C (v5 + (-1)) 5 [(5, .int (v5 + (-1))), (9, .int x5), (8, .int x4), (0, .ref (eA V 48)), (3, .int v3), (4, .int v4), (6, .int v6), (7, .int v7)] dX12_summedUp_223 rfl (congrArg (fun z => v5 + z) (show Int32.ofInt (-1) = (-1) by decide)) (by decide) rfl ?_
                refine a_aload_n C 3 dX12_summedUp_226 rfl rfl ?_
                refine a_getr C 21 (r := 55) dX12_summedUp_227 (by decide) rfl rfl rfl ib_12 (by decide) bw_1043 ?_
                refine a_iload C 0 dX12_summedUp_230 rfl ?_
                refine a_iconst C 1 dX12_summedUp_232 (by decide) ?_
                refine a_isub C dX12_summedUp_233 ?_
                refine a_iload C 2 dX12_summedUp_234 rfl ?_
                refine a_iconst C 4 dX12_summedUp_236 (by decide) ?_
                refine a_icmp_ne C 262 dX12_summedUp_237 (by decide) (fun c20 => ?_) (fun c20 => ?_)
                · have h := h.1 c20
                  refine a_iload C 2 dX12_summedUp_262 rfl ?_
                  refine a_aload_n C 3 dX12_summedUp_264 rfl rfl ?_
                  refine a_getr C 21 (r := 55) dX12_summedUp_265 (by decide) rfl rfl rfl ib_12 (by decide) bw_1043 ?_
                  refine a_iload C 0 dX12_summedUp_268 rfl ?_
                  refine a_iconst C 1 dX12_summedUp_270 (by decide) ?_
                  refine a_isub C dX12_summedUp_271 ?_
                  refine b_lald C (Int32.toNatClampNeg ((v5 + (-1)) - 1)) dX12_summedUp_272 (by decide) rfl h.1 rfl ?_
                  have h := h.2
                  refine a_aload_n C 3 dX12_summedUp_273 rfl rfl ?_
                  refine a_getr C 21 (r := 55) dX12_summedUp_274 (by decide) rfl rfl rfl ib_12 (by decide) bw_1043 ?_
                  refine a_iload C 0 dX12_summedUp_277 rfl ?_
                  refine b_lald C (Int32.toNatClampNeg (v5 + (-1))) dX12_summedUp_279 (by decide) rfl h.1 rfl ?_
                  have h := h.2
                  refine a_callSl C dX12_summedUp_280 (m_X12_two l V h) bw_1436 bw_1437 bw_123 bw_1438 np_X12_two rfl rfl (by decide) (Nat.le_of_ble_eq_true rfl) (fun r16 u17 h => ?_)
                  refine a_sub [3, 4, 5, 0, 6, 7] rfl ?_
                  refine tj_X12_summedUp_283 C ih _ _ _ _ _ _ _ _ h
                · have h := h.2 c20
                  refine a_aload_n C 3 dX12_summedUp_240 rfl rfl ?_
                  refine a_getr C 21 (r := 55) dX12_summedUp_241 (by decide) rfl rfl rfl ib_12 (by decide) bw_1043 ?_
                  refine a_iload C 0 dX12_summedUp_244 rfl ?_
                  refine a_iconst C 1 dX12_summedUp_246 (by decide) ?_
                  refine a_isub C dX12_summedUp_247 ?_
                  refine b_lald C (Int32.toNatClampNeg ((v5 + (-1)) - 1)) dX12_summedUp_248 (by decide) rfl h.1 rfl ?_
                  have h := h.2
                  refine a_aload_n C 3 dX12_summedUp_249 rfl rfl ?_
                  refine a_getr C 21 (r := 55) dX12_summedUp_250 (by decide) rfl rfl rfl ib_12 (by decide) bw_1043 ?_
                  refine a_iload C 0 dX12_summedUp_253 rfl ?_
                  refine b_lald C (Int32.toNatClampNeg (v5 + (-1))) dX12_summedUp_255 (by decide) rfl h.1 rfl ?_
                  have h := h.2
                  refine a_callSl C dX12_summedUp_256 (m_X12_shareOf l V h) bw_1430 bw_1431 bw_123 bw_1432 np_X12_shareOf rfl rfl (by decide) (Nat.le_of_ble_eq_true rfl) (fun r18 u19 h => ?_)
                  refine a_goto C 283 dX12_summedUp_259 (by decide) ?_
                  refine a_sub [3, 4, 5, 0, 6, 7] rfl ?_
                  refine tj_X12_summedUp_283 C ih _ _ _ _ _ _ _ _ h
            · have h := h.2 c22
              refine a_sub [2, 3, 4, 5, 6, 7, 1] rfl ?_
              refine tj_X12_summedUp_172 C ih _ _ _ _ _ _ _ h
        · have h := h.2 c25
          refine a_iinc C (v5 + (-1)) 5 [(5, .int (v5 + (-1))), (9, .int x5), (8, .int x4), (0, .ref (eA V 48)), (3, .int v3), (4, .int v4), (6, .int v6), (7, .int v7)] dX12_summedUp_125 rfl (congrArg (fun z => v5 + z) (show Int32.ofInt (-1) = (-1) by decide)) (by decide) rfl ?_
          refine a_iinc C (v6 + (-1)) 6 [(6, .int (v6 + (-1))), (5, .int (v5 + (-1))), (9, .int x5), (8, .int x4), (0, .ref (eA V 48)), (3, .int v3), (4, .int v4), (7, .int v7)] dX12_summedUp_128 rfl (congrArg (fun z => v6 + z) (show Int32.ofInt (-1) = (-1) by decide)) (by decide) rfl ?_
          refine a_aload_n C 4 dX12_summedUp_131 rfl rfl ?_
          refine a_getr C 22 (r := 56) dX12_summedUp_132 (by decide) rfl rfl rfl ib_12 (by decide) bw_1044 ?_
          refine a_iload C 0 dX12_summedUp_135 rfl ?_
          refine b_zald C (Int32.toNatClampNeg (v6 + (-1))) dX12_summedUp_137 (by decide) rfl h.1 rfl ?_
          have h := h.2
          refine a_if_ne C 400 dX12_summedUp_138 (by decide) (fun c24 => ?_) (fun c24 => ?_)
          · have h := h.1 c24
            refine a_sub [4, 5, 6, 1, 0, 7] rfl ?_
            refine tj_X12_summedUp_400 C ih _ _ _ _ _ _ h
          · have h := h.2 c24
            refine a_aload_n C 4 dX12_summedUp_141 rfl rfl ?_
            refine a_getr C 21 (r := 55) dX12_summedUp_142 (by decide) rfl rfl rfl ib_12 (by decide) bw_1043 ?_
            refine a_iload C 1 dX12_summedUp_145 rfl ?_
            refine a_iconst C 1 dX12_summedUp_147 (by decide) ?_
            refine a_isub C dX12_summedUp_148 ?_
            refine a_aload_n C 4 dX12_summedUp_149 rfl rfl ?_
            refine a_getr C 21 (r := 55) dX12_summedUp_150 (by decide) rfl rfl rfl ib_12 (by decide) bw_1043 ?_
            refine a_iload C 1 dX12_summedUp_153 rfl ?_
            refine b_lald C (Int32.toNatClampNeg (v5 + (-1))) dX12_summedUp_155 (by decide) rfl h.1 rfl ?_
            have h := h.2
            refine b_last C (Int32.toNatClampNeg ((v5 + (-1)) - 1)) dX12_summedUp_156 (by decide) rfl h.1 rfl ?_
            have h := h.2
            refine a_goto C 400 dX12_summedUp_157 (by decide) ?_
            refine a_sub [4, 5, 6, 1, 0, 7] rfl ?_
            refine tj_X12_summedUp_400 C ih _ _ _ _ _ _ h
      · have h := h.2 c27
        refine a_aload_n C 2 dX12_summedUp_87 rfl rfl ?_
        refine a_getr C 21 (r := 55) dX12_summedUp_88 (by decide) rfl rfl rfl ib_12 (by decide) bw_1043 ?_
        refine a_iload C 5 dX12_summedUp_91 rfl ?_
        refine a_iload C 1 dX12_summedUp_93 rfl ?_
        refine a_if_ne C 104 dX12_summedUp_95 (by decide) (fun c26 => ?_) (fun c26 => ?_)
        · have h := h.1 c26
          refine a_aload_n C 2 dX12_summedUp_104 rfl rfl ?_
          refine a_getr C 20 (r := 54) dX12_summedUp_105 (by decide) rfl rfl rfl ib_12 (by decide) bw_1042 ?_
          refine a_iload C 0 dX12_summedUp_108 rfl ?_
          refine b_iald C (Int32.toNatClampNeg x5) dX12_summedUp_110 (by decide) rfl h.1 rfl ?_
          have h := h.2
          refine a_i2l C dX12_summedUp_111 ?_
          refine a_sub [2, 3, 4, 5, 6, 7] rfl ?_
          refine tj_X12_summedUp_112 C ih _ _ _ _ _ _ _ _ h
        · have h := h.2 c26
          refine a_iload C 0 dX12_summedUp_98 rfl ?_
          refine a_i2l C dX12_summedUp_100 ?_
          refine a_goto C 112 dX12_summedUp_101 (by decide) ?_
          refine a_sub [2, 3, 4, 5, 6, 7] rfl ?_
          refine tj_X12_summedUp_112 C ih _ _ _ _ _ _ _ _ h
theorem np_X12_summedUp : yX12_summedUp.cls ≠ "java/lang/invoke/MethodHandle" ∧ yX12_summedUp.cls ≠ "java/lang/invoke/VarHandle" ∧ (parseMethodDescriptor yX12_summedUp.desc).map (fun d => d.parameters.length) = some 2 := by decide +kernel
set_option maxHeartbeats 4000000 in
set_option maxRecDepth 100000 in
theorem m_X12_summedUp (l : Launch) (V : VEn) {a0 : Int32} {a1 : Int32} {u : PoS} {post : Int64 → PoS → Prop} (h : wp_X12_summedUp a0 a1 u post) : KL l V yX12_summedUp cX12_summedUp 10 .long 2 [.ref (eA V 48), .int a0, .int a1] u post := by
  refine KL_of (by decide) (Nat.le_of_ble_eq_true rfl) (lv := [(0, .ref (eA V 48)), (1, .int a0), (2, .int a1)]) rfl ?_
  intro p e s m args below meth c C
  rw [wp_X12_summedUp] at h
  refine a_sipush C 681 dX12_summedUp_0 (by decide) ?_
  refine a_iload_n C 1 dX12_summedUp_3 rfl rfl ?_
  refine a_imul C dX12_summedUp_4 ?_
  refine a_iconst C 1 dX12_summedUp_5 (by decide) ?_
  refine a_iadd C dX12_summedUp_6 ?_
  refine a_iconst C 3 dX12_summedUp_7 (by decide) ?_
  refine a_iload_n C 2 dX12_summedUp_8 rfl rfl ?_
  refine a_imul C dX12_summedUp_9 ?_
  refine a_iadd C dX12_summedUp_10 ?_
  refine a_topi (fun x1 ex1 => ?_)
  have h := h x1 ex1
  refine a_istore_n C [(3, .int x1), (0, .ref (eA V 48)), (1, .int a0), (2, .int a1)] dX12_summedUp_11 rfl (by decide) rfl ?_
  refine a_sipush C 681 dX12_summedUp_12 (by decide) ?_
  refine a_iload_n C 2 dX12_summedUp_15 rfl rfl ?_
  refine a_imul C dX12_summedUp_16 ?_
  refine a_bipush C 73 dX12_summedUp_17 (by decide) ?_
  refine a_iadd C dX12_summedUp_19 ?_
  refine a_topi (fun x2 ex2 => ?_)
  have h := h x2 ex2
  refine a_istore C [(4, .int x2), (3, .int x1), (0, .ref (eA V 48)), (1, .int a0), (2, .int a1)] dX12_summedUp_20 (by decide) rfl ?_
  refine a_iconst C 0 dX12_summedUp_22 (by decide) ?_
  refine a_istore C [(5, .int 0), (4, .int x2), (3, .int x1), (0, .ref (eA V 48)), (1, .int a0), (2, .int a1)] dX12_summedUp_23 (by decide) rfl ?_
  refine a_iconst C 0 dX12_summedUp_25 (by decide) ?_
  refine a_istore C [(6, .int 0), (5, .int 0), (4, .int x2), (3, .int x1), (0, .ref (eA V 48)), (1, .int a0), (2, .int a1)] dX12_summedUp_26 (by decide) rfl ?_
  refine a_aload_n C 4 dX12_summedUp_28 rfl rfl ?_
  refine a_getr C 2 (r := 51) dX12_summedUp_29 (by decide) rfl rfl rfl ib_12 (by decide) bw_1024 ?_
  refine a_iload_n C 3 dX12_summedUp_32 rfl rfl ?_
  refine a_iconst C 1 dX12_summedUp_33 (by decide) ?_
  refine a_iadd C dX12_summedUp_34 ?_
  refine b_iald C (Int32.toNatClampNeg (x1 + 1)) dX12_summedUp_35 (by decide) rfl h.1 rfl ?_
  have h := h.2
  refine a_topi (fun x3 ex3 => ?_)
  have h := h x3 ex3
  refine a_istore C [(7, .int x3), (6, .int 0), (5, .int 0), (4, .int x2), (3, .int x1), (0, .ref (eA V 48)), (1, .int a0), (2, .int a1)] dX12_summedUp_36 (by decide) rfl ?_
  refine a_sub [5, 4, 3, 2, 1, 0] rfl ?_
  obtain ⟨n38, h⟩ := h
  refine tl_X12_summedUp_38 C n38 _ _ _ _ _ _ h

/-! RainOnTheOneModel.says(IIIII)I -/
def wl_X12_says_3 (k64 : Int32 → Int32 → Int32 → PoS → Prop) (k43 : Int32 → Int32 → Int32 → Int32 → PoS → Prop) (post : Int32 → PoS → Prop) : Nat → Int32 → Int32 → Int32 → Int32 → Int32 → Int32 → PoS → Prop
  | 0, _, _, _, _, _, _, _ => False
  | n + 1, v1, v2, v3, v4, v5, v6, u => ((v1 < 0 → k64 v3 v4 v5 u) ∧ (¬ v1 < 0 → vp_in (681 * v1) 2724 ∧ (((gI u 51 (Int32.toNatClampNeg (681 * v1))) ≤ v6 → k64 v3 v4 v5 u) ∧ (¬ (gI u 51 (Int32.toNatClampNeg (681 * v1))) ≤ v6 → vp_in (((681 * v1) + 1) + (3 * v6)) 2724 ∧ ((¬ (gI u 51 (Int32.toNatClampNeg (((681 * v1) + 1) + (3 * v6)))) = v2 → wl_X12_says_3 k64 k43 post n v1 v2 v3 v4 v5 (v6 + 1) u) ∧ ((gI u 51 (Int32.toNatClampNeg (((681 * v1) + 1) + (3 * v6)))) = v2 → k43 v1 v4 v5 v6 u))))))
def wj_X12_says_64 (post : Int32 → PoS → Prop) (v3 : Int32) (v4 : Int32) (v5 : Int32) (u : PoS) : Prop := wp_X12_held (Int32.toInt64 v3) v4 v5 u (fun (r5 : Int32) (u6 : PoS) => post r5 u6)
def wp_X12_says (a0 : Int32) (a1 : Int32) (a2 : Int32) (a3 : Int32) (a4 : Int32) (u : PoS) (post : Int32 → PoS → Prop) : Prop := (∃ n3, wl_X12_says_3 (fun (v34 : Int32) (v44 : Int32) (v54 : Int32) (u4 : PoS) => wj_X12_says_64 post v34 v44 v54 u4) (fun (v17 : Int32) (v47 : Int32) (v57 : Int32) (v67 : Int32) (u7 : PoS) => wp_X12_summedUp v17 v67 u7 (fun (r8 : Int64) (u9 : PoS) => wp_X12_held r8 v47 v57 u9 (fun (r10 : Int32) (u11 : PoS) => post r10 u11))) post n3 a0 a1 a2 a3 a4 0 u)
set_option maxHeartbeats 4000000 in
set_option maxRecDepth 100000 in
theorem tl_X12_says_3 {p : Program} {l : Launch} {e : Env} {s : State} {m : MethodId} {args : Array Value} {below : List Frame} {meth : Method} {c : Code} {V : VEn} {k64 : Int32 → Int32 → Int32 → PoS → Prop} {k43 : Int32 → Int32 → Int32 → Int32 → PoS → Prop} {post : Int32 → PoS → Prop} (C : CxS p s m args meth c V cX12_says 7 RX12 (some .int)) (hk64 : ∀ (v3 : Int32) (v4 : Int32) (v5 : Int32) (u : PoS), k64 v3 v4 v5 u → AtS p l e (Rm 3) s m args below meth c V 7 (QI V below args s post) 64 [(3, .int v3), (4, .int v4), (5, .int v5)] [] u) (hk43 : ∀ (v1 : Int32) (v4 : Int32) (v5 : Int32) (v6 : Int32) (u : PoS), k43 v1 v4 v5 v6 u → AtS p l e (Rm 3) s m args below meth c V 7 (QI V below args s post) 43 [(0, .ref (eA V 48)), (1, .int v1), (4, .int v4), (5, .int v5), (6, .int v6)] [] u) : ∀ (n : Nat) (v1 : Int32) (v2 : Int32) (v3 : Int32) (v4 : Int32) (v5 : Int32) (v6 : Int32) (u : PoS), wl_X12_says_3 k64 k43 post n v1 v2 v3 v4 v5 v6 u → AtS p l e (Rm 3) s m args below meth c V 7 (QI V below args s post) 3 [(0, .ref (eA V 48)), (1, .int v1), (2, .int v2), (3, .int v3), (4, .int v4), (5, .int v5), (6, .int v6)] [] u := by
  intro n
  induction n with
  | zero => intro v1 v2 v3 v4 v5 v6 u h; exact h.elim
  | succ n ih =>
    intro v1 v2 v3 v4 v5 v6 u h
    rw [wl_X12_says_3] at h
    refine a_iload_n C 1 dX12_says_3 rfl rfl ?_
    refine a_if_lt C 64 dX12_says_4 (by decide) (fun c3 => ?_) (fun c3 => ?_)
    · have h := h.1 c3
      refine a_sub [3, 4, 5] rfl ?_
      exact hk64 _ _ _ _ h
    · have h := h.2 c3
      refine a_iload C 6 dX12_says_7 rfl ?_
      refine a_aload_n C 0 dX12_says_9 rfl rfl ?_
      refine a_getr C 2 (r := 51) dX12_says_10 (by decide) rfl rfl rfl ib_12 (by decide) bw_1024 ?_
      refine a_sipush C 681 dX12_says_13 (by decide) ?_
      refine a_iload_n C 1 dX12_says_16 rfl rfl ?_
      refine a_imul C dX12_says_17 ?_
      refine b_iald C (Int32.toNatClampNeg (681 * v1)) dX12_says_18 (by decide) rfl h.1 rfl ?_
      have h := h.2
      refine a_icmp_ge C 64 dX12_says_19 (by decide) (fun c2 => ?_) (fun c2 => ?_)
      · have h := h.1 c2
        refine a_sub [3, 4, 5] rfl ?_
        exact hk64 _ _ _ _ h
      · have h := h.2 c2
        refine a_aload_n C 0 dX12_says_22 rfl rfl ?_
        refine a_getr C 2 (r := 51) dX12_says_23 (by decide) rfl rfl rfl ib_12 (by decide) bw_1024 ?_
        refine a_sipush C 681 dX12_says_26 (by decide) ?_
        refine a_iload_n C 1 dX12_says_29 rfl rfl ?_
        refine a_imul C dX12_says_30 ?_
        refine a_iconst C 1 dX12_says_31 (by decide) ?_
        refine a_iadd C dX12_says_32 ?_
        refine a_iconst C 3 dX12_says_33 (by decide) ?_
        refine a_iload C 6 dX12_says_34 rfl ?_
        refine a_imul C dX12_says_36 ?_
        refine a_iadd C dX12_says_37 ?_
        refine b_iald C (Int32.toNatClampNeg (((681 * v1) + 1) + (3 * v6))) dX12_says_38 (by decide) rfl h.1 rfl ?_
        have h := h.2
        refine a_iload_n C 2 dX12_says_39 rfl rfl ?_
        refine a_icmp_ne C 58 dX12_says_40 (by decide) (fun c1 => ?_) (fun c1 => ?_)
        · have h := h.1 c1
          refine a_iinc C (v6 + 1) 6 [(6, .int (v6 + 1)), (0, .ref (eA V 48)), (1, .int v1), (2, .int v2), (3, .int v3), (4, .int v4), (5, .int v5)] dX12_says_58 rfl (congrArg (fun z => v6 + z) (show Int32.ofInt 1 = 1 by decide)) (by decide) rfl ?_
          refine a_goto C 3 dX12_says_61 (by decide) ?_
          refine a_sub [1, 2, 3, 4, 5, 6, 0] rfl ?_
          exact ih _ _ _ _ _ _ _ h
        · have h := h.2 c1
          refine a_sub [0, 1, 4, 5, 6] rfl ?_
          exact hk43 _ _ _ _ _ h
set_option maxHeartbeats 4000000 in
set_option maxRecDepth 100000 in
theorem tj_X12_says_64 {p : Program} {l : Launch} {e : Env} {s : State} {m : MethodId} {args : Array Value} {below : List Frame} {meth : Method} {c : Code} {V : VEn} {post : Int32 → PoS → Prop} (C : CxS p s m args meth c V cX12_says 7 RX12 (some .int)) (v3 : Int32) (v4 : Int32) (v5 : Int32) (u : PoS) (h : wj_X12_says_64 post v3 v4 v5 u) : AtS p l e (Rm 3) s m args below meth c V 7 (QI V below args s post) 64 [(3, .int v3), (4, .int v4), (5, .int v5)] [] u := by
  rw [wj_X12_says_64] at h
  refine a_iload_n C 0 dX12_says_64 rfl rfl ?_
  refine a_i2l C dX12_says_65 ?_
  refine a_iload C 1 dX12_says_66 rfl ?_
  refine a_iload C 2 dX12_says_68 rfl ?_
  refine a_callSi C dX12_says_70 (m_X12_held l V h) bw_1448 bw_1449 bw_123 bw_1450 np_X12_held rfl rfl (by decide) (Nat.le_of_ble_eq_true rfl) (fun r5 u6 h => ?_)
  exact a_iret C dX12_says_73 h
theorem np_X12_says : yX12_says.cls ≠ "java/lang/invoke/MethodHandle" ∧ yX12_says.cls ≠ "java/lang/invoke/VarHandle" ∧ (parseMethodDescriptor yX12_says.desc).map (fun d => d.parameters.length) = some 5 := by decide +kernel
set_option maxHeartbeats 4000000 in
set_option maxRecDepth 100000 in
theorem m_X12_says (l : Launch) (V : VEn) {a0 : Int32} {a1 : Int32} {a2 : Int32} {a3 : Int32} {a4 : Int32} {u : PoS} {post : Int32 → PoS → Prop} (h : wp_X12_says a0 a1 a2 a3 a4 u post) : KI l V yX12_says cX12_says 7 .int 3 [.ref (eA V 48), .int a0, .int a1, .int a2, .int a3, .int a4] u post := by
  refine KI_of (by decide) (Nat.le_of_ble_eq_true rfl) (lv := [(0, .ref (eA V 48)), (1, .int a0), (2, .int a1), (3, .int a2), (4, .int a3), (5, .int a4)]) rfl ?_
  intro p e s m args below meth c C
  rw [wp_X12_says] at h
  refine a_iconst C 0 dX12_says_0 (by decide) ?_
  refine a_istore C [(6, .int 0), (0, .ref (eA V 48)), (1, .int a0), (2, .int a1), (3, .int a2), (4, .int a3), (5, .int a4)] dX12_says_1 (by decide) rfl ?_
  refine a_sub [1, 2, 3, 4, 5, 6, 0] rfl ?_
  obtain ⟨n3, h⟩ := h
  refine tl_X12_says_3 C (fun v34 v44 v54 u4 h => ?_) (fun v17 v47 v57 v67 u7 h => ?_) n3 _ _ _ _ _ _ _ h
  · refine tj_X12_says_64 C _ _ _ _ h
  · refine a_aload_n C 0 dX12_says_43 rfl rfl ?_
    refine a_iload_n C 1 dX12_says_44 rfl rfl ?_
    refine a_iload C 4 dX12_says_45 rfl ?_
    refine a_callVl C dX12_says_47 (m_X12_summedUp l V h) bw_1421 bw_1423 bw_84 bw_123 bw_1424 (by decide) rfl rfl np_X12_summedUp rfl rfl (by decide) (Nat.le_of_ble_eq_true rfl) (fun r8 u9 h => ?_)
    refine a_iload C 2 dX12_says_50 rfl ?_
    refine a_iload C 3 dX12_says_52 rfl ?_
    refine a_callSi C dX12_says_54 (m_X12_held l V h) bw_1448 bw_1449 bw_123 bw_1450 np_X12_held rfl rfl (by decide) (Nat.le_of_ble_eq_true rfl) (fun r10 u11 h => ?_)
    exact a_iret C dX12_says_57 h

/-! RainOnTheOneModel.layFar(II)V -/
def wl_X12_layFar_2 (k21 : Int32 → Int32 → PoS → Prop) (post : PoS → Prop) : Nat → Int32 → Int32 → Int32 → PoS → Prop
  | 0, _, _, _, _ => False
  | n + 1, v1, v2, v3, u => ((30 ≤ v3 → k21 v1 v2 u) ∧ (¬ 30 ≤ v3 → vp_in v3 30 ∧ wl_X12_layFar_2 k21 post n v1 v2 (v3 + 1) (pI u 57 (Int32.toNatClampNeg v3) (-1))))
def wj_X12_layFar_75 (k50 : Int32 → Int32 → Int32 → Int32 → Int32 → PoS → Prop) (post : PoS → Prop) (v2 : Int32) (v3 : Int32) (v4 : Int32) (v5 : Int32) (v6 : Int32) (u : PoS) : Prop := k50 v2 v3 v4 v5 (v6 + 1) u
def wl_X12_layFar_50 (k81 : Int32 → Int32 → Int32 → Int32 → PoS → Prop) (post : PoS → Prop) : Nat → Int32 → Int32 → Int32 → Int32 → Int32 → PoS → Prop
  | 0, _, _, _, _, _, _ => False
  | n + 1, v2, v3, v4, v5, v6, u => ((30 ≤ v6 → k81 v2 v3 v4 v5 u) ∧ (¬ 30 ≤ v6 → wp_X12_has v3 v6 u (fun (r5 : Int32) (u6 : PoS) => ((r5 = 0 → wj_X12_layFar_75 (wl_X12_layFar_50 k81 post n) post v2 v3 v4 v5 v6 u6) ∧ (¬ r5 = 0 → vp_in v6 30 ∧ wj_X12_layFar_75 (wl_X12_layFar_50 k81 post n) post v2 v3 v4 v5 v6 (pI u6 57 (Int32.toNatClampNeg v6) v5))))))
def wl_X12_layFar_43 (post : PoS → Prop) : Nat → Int32 → Int32 → Int32 → Int32 → PoS → Prop
  | 0, _, _, _, _, _ => False
  | n + 1, v2, v3, v4, v5, u => ((v3 = 0 → post u) ∧ (¬ v3 = 0 → (∃ n50, wl_X12_layFar_50 (fun (v29 : Int32) (v39 : Int32) (v49 : Int32) (v59 : Int32) (u9 : PoS) => wp_X12_aside v39 u9 (fun (r10 : Int32) (u11 : PoS) => ∀ x12 : Int32, x12 = ((r10 &&& v29) &&& (v49 ^^^ (-1))) → ∀ x13 : Int32, x13 = (v49 ||| x12) → wl_X12_layFar_43 post n v29 x12 x13 (v59 + 1) u11)) post n50 v2 v3 v4 v5 0 u)))
def wj_X12_layFar_36 (post : PoS → Prop) (v2 : Int32) (s0 : Int32) (u : PoS) : Prop := (∃ n43, wl_X12_layFar_43 post n43 v2 s0 s0 0 u)
def wp_X12_layFar (a0 : Int32) (a1 : Int32) (u : PoS) (post : PoS → Prop) : Prop := (∃ n2, wl_X12_layFar_2 (fun (v12 : Int32) (v22 : Int32) (u2 : PoS) => wp_X12_has v22 v12 u2 (fun (r3 : Int32) (u4 : PoS) => ((r3 = 0 → wj_X12_layFar_36 post v22 0 u4) ∧ (¬ r3 = 0 → wj_X12_layFar_36 post v22 (1 <<< (v12 &&& 31)) u4)))) post n2 a0 a1 0 u)
set_option maxHeartbeats 4000000 in
set_option maxRecDepth 100000 in
theorem tl_X12_layFar_2 {p : Program} {l : Launch} {e : Env} {s : State} {m : MethodId} {args : Array Value} {below : List Frame} {meth : Method} {c : Code} {V : VEn} {k21 : Int32 → Int32 → PoS → Prop} {post : PoS → Prop} (C : CxS p s m args meth c V cX12_layFar 7 RX12 none) (hk21 : ∀ (v1 : Int32) (v2 : Int32) (u : PoS), k21 v1 v2 u → AtS p l e (Rm 1) s m args below meth c V 7 (QV V below args s post) 21 [(0, .ref (eA V 48)), (1, .int v1), (2, .int v2)] [] u) : ∀ (n : Nat) (v1 : Int32) (v2 : Int32) (v3 : Int32) (u : PoS), wl_X12_layFar_2 k21 post n v1 v2 v3 u → AtS p l e (Rm 1) s m args below meth c V 7 (QV V below args s post) 2 [(0, .ref (eA V 48)), (1, .int v1), (2, .int v2), (3, .int v3)] [] u := by
  intro n
  induction n with
  | zero => intro v1 v2 v3 u h; exact h.elim
  | succ n ih =>
    intro v1 v2 v3 u h
    rw [wl_X12_layFar_2] at h
    refine a_iload_n C 3 dX12_layFar_2 rfl rfl ?_
    refine a_bipush C 30 dX12_layFar_3 (by decide) ?_
    refine a_icmp_ge C 21 dX12_layFar_5 (by decide) (fun c1 => ?_) (fun c1 => ?_)
    · have h := h.1 c1
      refine a_sub [0, 1, 2] rfl ?_
      exact hk21 _ _ _ h
    · have h := h.2 c1
      refine a_aload_n C 0 dX12_layFar_8 rfl rfl ?_
      refine a_getr C 23 (r := 57) dX12_layFar_9 (by decide) rfl rfl rfl ib_12 (by decide) bw_1045 ?_
      refine a_iload_n C 3 dX12_layFar_12 rfl rfl ?_
      refine a_iconst C (-1) dX12_layFar_13 (by decide) ?_
      refine b_iast C (Int32.toNatClampNeg v3) dX12_layFar_14 (by decide) rfl h.1 rfl ?_
      have h := h.2
      refine a_iinc C (v3 + 1) 3 [(3, .int (v3 + 1)), (0, .ref (eA V 48)), (1, .int v1), (2, .int v2)] dX12_layFar_15 rfl (congrArg (fun z => v3 + z) (show Int32.ofInt 1 = 1 by decide)) (by decide) rfl ?_
      refine a_goto C 2 dX12_layFar_18 (by decide) ?_
      refine a_sub [1, 2, 3, 0] rfl ?_
      exact ih _ _ _ _ h
set_option maxHeartbeats 4000000 in
set_option maxRecDepth 100000 in
theorem tj_X12_layFar_75 {p : Program} {l : Launch} {e : Env} {s : State} {m : MethodId} {args : Array Value} {below : List Frame} {meth : Method} {c : Code} {V : VEn} {k50 : Int32 → Int32 → Int32 → Int32 → Int32 → PoS → Prop} {post : PoS → Prop} (C : CxS p s m args meth c V cX12_layFar 7 RX12 none) (hk50 : ∀ (v2 : Int32) (v3 : Int32) (v4 : Int32) (v5 : Int32) (v6 : Int32) (u : PoS), k50 v2 v3 v4 v5 v6 u → AtS p l e (Rm 1) s m args below meth c V 7 (QV V below args s post) 50 [(0, .ref (eA V 48)), (2, .int v2), (3, .int v3), (4, .int v4), (5, .int v5), (6, .int v6)] [] u) (v2 : Int32) (v3 : Int32) (v4 : Int32) (v5 : Int32) (v6 : Int32) (u : PoS) (h : wj_X12_layFar_75 k50 post v2 v3 v4 v5 v6 u) : AtS p l e (Rm 1) s m args below meth c V 7 (QV V below args s post) 75 [(0, .ref (eA V 48)), (2, .int v2), (3, .int v3), (4, .int v4), (5, .int v5), (6, .int v6)] [] u := by
  rw [wj_X12_layFar_75] at h
  refine a_iinc C (v6 + 1) 5 [(6, .int (v6 + 1)), (0, .ref (eA V 48)), (2, .int v2), (3, .int v3), (4, .int v4), (5, .int v5)] dX12_layFar_75 rfl (congrArg (fun z => v6 + z) (show Int32.ofInt 1 = 1 by decide)) (by decide) rfl ?_
  refine a_goto C 50 dX12_layFar_78 (by decide) ?_
  refine a_sub [1, 2, 3, 4, 5, 0] rfl ?_
  exact hk50 _ _ _ _ _ _ h
set_option maxHeartbeats 4000000 in
set_option maxRecDepth 100000 in
theorem tl_X12_layFar_50 {p : Program} {l : Launch} {e : Env} {s : State} {m : MethodId} {args : Array Value} {below : List Frame} {meth : Method} {c : Code} {V : VEn} {k81 : Int32 → Int32 → Int32 → Int32 → PoS → Prop} {post : PoS → Prop} (C : CxS p s m args meth c V cX12_layFar 7 RX12 none) (hk81 : ∀ (v2 : Int32) (v3 : Int32) (v4 : Int32) (v5 : Int32) (u : PoS), k81 v2 v3 v4 v5 u → AtS p l e (Rm 1) s m args below meth c V 7 (QV V below args s post) 81 [(0, .ref (eA V 48)), (2, .int v2), (3, .int v3), (4, .int v4), (5, .int v5)] [] u) : ∀ (n : Nat) (v2 : Int32) (v3 : Int32) (v4 : Int32) (v5 : Int32) (v6 : Int32) (u : PoS), wl_X12_layFar_50 k81 post n v2 v3 v4 v5 v6 u → AtS p l e (Rm 1) s m args below meth c V 7 (QV V below args s post) 50 [(0, .ref (eA V 48)), (2, .int v2), (3, .int v3), (4, .int v4), (5, .int v5), (6, .int v6)] [] u := by
  intro n
  induction n with
  | zero => intro v2 v3 v4 v5 v6 u h; exact h.elim
  | succ n ih =>
    intro v2 v3 v4 v5 v6 u h
    rw [wl_X12_layFar_50] at h
    refine a_iload C 5 dX12_layFar_50 rfl ?_
    refine a_bipush C 30 dX12_layFar_52 (by decide) ?_
    refine a_icmp_ge C 81 dX12_layFar_54 (by decide) (fun c8 => ?_) (fun c8 => ?_)
    · have h := h.1 c8
      refine a_sub [0, 1, 2, 3, 4] rfl ?_
      exact hk81 _ _ _ _ _ h
    · have h := h.2 c8
      refine a_iload_n C 2 dX12_layFar_57 rfl rfl ?_
      refine a_iload C 5 dX12_layFar_58 rfl ?_
      refine a_callSi C dX12_layFar_60 (m_X12_has l V h) bw_1240 bw_1241 bw_123 bw_1242 np_X12_has rfl rfl (by decide) (Nat.le_of_ble_eq_true rfl) (fun r5 u6 h => ?_)
      refine a_if_eq C 75 dX12_layFar_63 (by decide) (fun c7 => ?_) (fun c7 => ?_)
      · have h := h.1 c7
        refine tj_X12_layFar_75 C ih _ _ _ _ _ _ h
      · have h := h.2 c7
        refine a_aload_n C 0 dX12_layFar_66 rfl rfl ?_
        refine a_getr C 23 (r := 57) dX12_layFar_67 (by decide) rfl rfl rfl ib_12 (by decide) bw_1045 ?_
        refine a_iload C 5 dX12_layFar_70 rfl ?_
        refine a_iload C 4 dX12_layFar_72 rfl ?_
        refine b_iast C (Int32.toNatClampNeg v6) dX12_layFar_74 (by decide) rfl h.1 rfl ?_
        have h := h.2
        refine tj_X12_layFar_75 C ih _ _ _ _ _ _ h
set_option maxHeartbeats 4000000 in
set_option maxRecDepth 100000 in
theorem tl_X12_layFar_43 {p : Program} {l : Launch} {e : Env} {s : State} {m : MethodId} {args : Array Value} {below : List Frame} {meth : Method} {c : Code} {V : VEn} {post : PoS → Prop} (C : CxS p s m args meth c V cX12_layFar 7 RX12 none) : ∀ (n : Nat) (v2 : Int32) (v3 : Int32) (v4 : Int32) (v5 : Int32) (u : PoS), wl_X12_layFar_43 post n v2 v3 v4 v5 u → AtS p l e (Rm 1) s m args below meth c V 7 (QV V below args s post) 43 [(0, .ref (eA V 48)), (2, .int v2), (3, .int v3), (4, .int v4), (5, .int v5)] [] u := by
  intro n
  induction n with
  | zero => intro v2 v3 v4 v5 u h; exact h.elim
  | succ n ih =>
    intro v2 v3 v4 v5 u h
    rw [wl_X12_layFar_43] at h
    refine a_iload_n C 2 dX12_layFar_43 rfl rfl ?_
    refine a_if_eq C 105 dX12_layFar_44 (by decide) (fun c14 => ?_) (fun c14 => ?_)
    · have h := h.1 c14
      exact a_vret C dX12_layFar_105 h
    · have h := h.2 c14
      refine a_iconst C 0 dX12_layFar_47 (by decide) ?_
      refine a_istore C [(6, .int 0), (0, .ref (eA V 48)), (2, .int v2), (3, .int v3), (4, .int v4), (5, .int v5)] dX12_layFar_48 (by decide) rfl ?_
      refine a_sub [1, 2, 3, 4, 5, 0] rfl ?_
      obtain ⟨n50, h⟩ := h
      refine tl_X12_layFar_50 C (fun v29 v39 v49 v59 u9 h => ?_) n50 _ _ _ _ _ _ h
      refine a_iload_n C 2 dX12_layFar_81 rfl rfl ?_
      refine a_callSi C dX12_layFar_82 (m_X12_aside l V h) bw_1403 bw_1404 bw_123 bw_1405 np_X12_aside rfl rfl (by decide) (Nat.le_of_ble_eq_true rfl) (fun r10 u11 h => ?_)
      refine a_iload_n C 1 dX12_layFar_85 rfl rfl ?_
      refine a_iand C dX12_layFar_86 ?_
      refine a_iload C 3 dX12_layFar_87 rfl ?_
      refine a_iconst C (-1) dX12_layFar_89 (by decide) ?_
      refine a_ixor C dX12_layFar_90 ?_
      refine a_iand C dX12_layFar_91 ?_
      refine a_topi (fun x12 ex12 => ?_)
      have h := h x12 ex12
      refine a_istore_n C [(3, .int x12), (0, .ref (eA V 48)), (2, .int v29), (4, .int v49), (5, .int v59)] dX12_layFar_92 rfl (by decide) rfl ?_
      refine a_iload C 3 dX12_layFar_93 rfl ?_
      refine a_iload_n C 0 dX12_layFar_95 rfl rfl ?_
      refine a_ior C dX12_layFar_96 ?_
      refine a_topi (fun x13 ex13 => ?_)
      have h := h x13 ex13
      refine a_istore C [(4, .int x13), (3, .int x12), (0, .ref (eA V 48)), (2, .int v29), (5, .int v59)] dX12_layFar_97 (by decide) rfl ?_
      refine a_iinc C (v59 + 1) 4 [(5, .int (v59 + 1)), (4, .int x13), (3, .int x12), (0, .ref (eA V 48)), (2, .int v29)] dX12_layFar_99 rfl (congrArg (fun z => v59 + z) (show Int32.ofInt 1 = 1 by decide)) (by decide) rfl ?_
      refine a_goto C 43 dX12_layFar_102 (by decide) ?_
      refine a_sub [3, 4, 2, 1, 0] rfl ?_
      exact ih _ _ _ _ _ h
set_option maxHeartbeats 4000000 in
set_option maxRecDepth 100000 in
theorem tj_X12_layFar_36 {p : Program} {l : Launch} {e : Env} {s : State} {m : MethodId} {args : Array Value} {below : List Frame} {meth : Method} {c : Code} {V : VEn} {post : PoS → Prop} (C : CxS p s m args meth c V cX12_layFar 7 RX12 none) (v2 : Int32) (s0 : Int32) (u : PoS) (h : wj_X12_layFar_36 post v2 s0 u) : AtS p l e (Rm 1) s m args below meth c V 7 (QV V below args s post) 36 [(0, .ref (eA V 48)), (2, .int v2)] [.int s0] u := by
  rw [wj_X12_layFar_36] at h
  refine a_istore_n C [(3, .int s0), (0, .ref (eA V 48)), (2, .int v2)] dX12_layFar_36 rfl (by decide) rfl ?_
  refine a_iload_n C 0 dX12_layFar_37 rfl rfl ?_
  refine a_istore C [(4, .int s0), (3, .int s0), (0, .ref (eA V 48)), (2, .int v2)] dX12_layFar_38 (by decide) rfl ?_
  refine a_iconst C 0 dX12_layFar_40 (by decide) ?_
  refine a_istore C [(5, .int 0), (4, .int s0), (3, .int s0), (0, .ref (eA V 48)), (2, .int v2)] dX12_layFar_41 (by decide) rfl ?_
  refine a_sub [3, 4, 2, 1, 0] rfl ?_
  obtain ⟨n43, h⟩ := h
  refine tl_X12_layFar_43 C n43 _ _ _ _ _ h
theorem np_X12_layFar : yX12_layFar.cls ≠ "java/lang/invoke/MethodHandle" ∧ yX12_layFar.cls ≠ "java/lang/invoke/VarHandle" ∧ (parseMethodDescriptor yX12_layFar.desc).map (fun d => d.parameters.length) = some 2 := by decide +kernel
set_option maxHeartbeats 4000000 in
set_option maxRecDepth 100000 in
theorem m_X12_layFar (l : Launch) (V : VEn) {a0 : Int32} {a1 : Int32} {u : PoS} {post : PoS → Prop} (h : wp_X12_layFar a0 a1 u post) : KV l V yX12_layFar cX12_layFar 7 1 [.ref (eA V 48), .int a0, .int a1] u post := by
  refine KV_of (by decide) (Nat.le_of_ble_eq_true rfl) (lv := [(0, .ref (eA V 48)), (1, .int a0), (2, .int a1)]) rfl ?_
  intro p e s m args below meth c C
  rw [wp_X12_layFar] at h
  refine a_iconst C 0 dX12_layFar_0 (by decide) ?_
  refine a_istore_n C [(3, .int 0), (0, .ref (eA V 48)), (1, .int a0), (2, .int a1)] dX12_layFar_1 rfl (by decide) rfl ?_
  refine a_sub [1, 2, 3, 0] rfl ?_
  obtain ⟨n2, h⟩ := h
  refine tl_X12_layFar_2 C (fun v12 v22 u2 h => ?_) n2 _ _ _ _ h
  refine a_iload_n C 2 dX12_layFar_21 rfl rfl ?_
  refine a_iload_n C 1 dX12_layFar_22 rfl rfl ?_
  refine a_callSi C dX12_layFar_23 (m_X12_has l V h) bw_1240 bw_1241 bw_123 bw_1242 np_X12_has rfl rfl (by decide) (Nat.le_of_ble_eq_true rfl) (fun r3 u4 h => ?_)
  refine a_if_eq C 35 dX12_layFar_26 (by decide) (fun c15 => ?_) (fun c15 => ?_)
  · have h := h.1 c15
    refine a_iconst C 0 dX12_layFar_35 (by decide) ?_
    refine a_sub [0, 2] rfl ?_
    refine tj_X12_layFar_36 C _ _ _ h
  · have h := h.2 c15
    refine a_iconst C 1 dX12_layFar_29 (by decide) ?_
    refine a_iload_n C 1 dX12_layFar_30 rfl rfl ?_
    refine a_ishl C dX12_layFar_31 ?_
    refine a_goto C 36 dX12_layFar_32 (by decide) ?_
    refine a_sub [0, 2] rfl ?_
    refine tj_X12_layFar_36 C _ _ _ h

/-! RainOnTheOneModel.stepsOf(II)I -/
def wp_X12_stepsOf (a0 : Int32) (a1 : Int32) (u : PoS) (post : Int32 → PoS → Prop) : Prop := wp_X12_free u (fun (r1 : Int32) (u2 : PoS) => wp_X12_layFar a0 r1 u2 (fun (u4 : PoS) => vp_in a1 30 ∧ post (gI u4 57 (Int32.toNatClampNeg a1)) u4))
theorem np_X12_stepsOf : yX12_stepsOf.cls ≠ "java/lang/invoke/MethodHandle" ∧ yX12_stepsOf.cls ≠ "java/lang/invoke/VarHandle" ∧ (parseMethodDescriptor yX12_stepsOf.desc).map (fun d => d.parameters.length) = some 2 := by decide +kernel
set_option maxHeartbeats 4000000 in
set_option maxRecDepth 100000 in
theorem m_X12_stepsOf (l : Launch) (V : VEn) {a0 : Int32} {a1 : Int32} {u : PoS} {post : Int32 → PoS → Prop} (h : wp_X12_stepsOf a0 a1 u post) : KI l V yX12_stepsOf cX12_stepsOf 3 .int 4 [.ref (eA V 48), .int a0, .int a1] u post := by
  refine KI_of (by decide) (Nat.le_of_ble_eq_true rfl) (lv := [(0, .ref (eA V 48)), (1, .int a0), (2, .int a1)]) rfl ?_
  intro p e s m args below meth c C
  rw [wp_X12_stepsOf] at h
  refine a_aload_n C 0 dX12_stepsOf_0 rfl rfl ?_
  refine a_iload_n C 1 dX12_stepsOf_1 rfl rfl ?_
  refine a_aload_n C 0 dX12_stepsOf_2 rfl rfl ?_
  refine a_callVi C dX12_stepsOf_3 (m_X12_free l V h) bw_1395 bw_1397 bw_79 bw_123 bw_1398 (by decide) rfl rfl np_X12_free rfl rfl (by decide) (Nat.le_of_ble_eq_true rfl) (fun r1 u2 h => ?_)
  refine a_callVv C dX12_stepsOf_6 (m_X12_layFar l V h) bw_1399 bw_1401 bw_80 bw_123 bw_1402 (by decide) rfl rfl np_X12_layFar rfl rfl (by decide) (Nat.le_of_ble_eq_true rfl) (fun u4 h => ?_)
  refine a_aload_n C 0 dX12_stepsOf_9 rfl rfl ?_
  refine a_getr C 23 (r := 57) dX12_stepsOf_10 (by decide) rfl rfl rfl ib_12 (by decide) bw_1045 ?_
  refine a_iload_n C 2 dX12_stepsOf_13 rfl rfl ?_
  refine b_iald C (Int32.toNatClampNeg a1) dX12_stepsOf_14 (by decide) rfl h.1 rfl ?_
  have h := h.2
  exact a_iret C dX12_stepsOf_15 h

/-! RainOnTheOneModel.name(I)V -/
def wp_X12_name (a0 : Int32) (u : PoS) (post : PoS → Prop) : Prop := wp_X12_get a0 0 u (fun (r1 : Int32) (u2 : PoS) => wp_X12_get a0 2 (pI (pI u2 54 0 (gI u2 49 6)) 54 1 a0) (fun (r3 : Int32) (u4 : PoS) => wp_X12_get a0 3 (pI u4 54 2 r3) (fun (r5 : Int32) (u6 : PoS) => vp_in (70 + r1) 3703 ∧ vp_in (40 + r1) 3703 ∧ post (pI (pI (pI (pI u6 54 3 r5) 54 4 r1) 54 5 (gI (pI (pI u6 54 3 r5) 54 4 r1) 49 (Int32.toNatClampNeg (70 + r1)))) 54 6 (gI (pI (pI (pI u6 54 3 r5) 54 4 r1) 54 5 (gI (pI (pI u6 54 3 r5) 54 4 r1) 49 (Int32.toNatClampNeg (70 + r1)))) 49 (Int32.toNatClampNeg (40 + r1)))))))
theorem np_X12_name : yX12_name.cls ≠ "java/lang/invoke/MethodHandle" ∧ yX12_name.cls ≠ "java/lang/invoke/VarHandle" ∧ (parseMethodDescriptor yX12_name.desc).map (fun d => d.parameters.length) = some 1 := by decide +kernel
set_option maxHeartbeats 4000000 in
set_option maxRecDepth 100000 in
theorem m_X12_name (l : Launch) (V : VEn) {a0 : Int32} {u : PoS} {post : PoS → Prop} (h : wp_X12_name a0 u post) : KV l V yX12_name cX12_name 3 1 [.ref (eA V 48), .int a0] u post := by
  refine KV_of (by decide) (Nat.le_of_ble_eq_true rfl) (lv := [(0, .ref (eA V 48)), (1, .int a0)]) rfl ?_
  intro p e s m args below meth c C
  rw [wp_X12_name] at h
  refine a_aload_n C 0 dX12_name_0 rfl rfl ?_
  refine a_iload_n C 1 dX12_name_1 rfl rfl ?_
  refine a_iconst C 0 dX12_name_2 (by decide) ?_
  refine a_callVi C dX12_name_3 (m_X12_get l V h) bw_1158 bw_1160 bw_42 bw_123 bw_1161 (by decide) rfl rfl np_X12_get rfl rfl (by decide) (Nat.le_of_ble_eq_true rfl) (fun r1 u2 h => ?_)
  refine a_istore_n C [(2, .int r1), (0, .ref (eA V 48)), (1, .int a0)] dX12_name_6 rfl (by decide) rfl ?_
  refine a_aload_n C 1 dX12_name_7 rfl rfl ?_
  refine a_getr C 20 (r := 54) dX12_name_8 (by decide) rfl rfl rfl ib_12 (by decide) bw_1042 ?_
  refine a_iconst C 0 dX12_name_11 (by decide) ?_
  refine a_aload_n C 1 dX12_name_12 rfl rfl ?_
  refine a_getr C 0 (r := 49) dX12_name_13 (by decide) rfl rfl rfl ib_12 (by decide) bw_1022 ?_
  refine a_bipush C 6 dX12_name_16 (by decide) ?_
  refine b_iald C 6 dX12_name_18 (by decide) rfl (vp_lit (by decide)) (by decide) ?_
  refine b_iast C 0 dX12_name_19 (by decide) rfl (vp_lit (by decide)) (by decide) ?_
  refine a_aload_n C 1 dX12_name_20 rfl rfl ?_
  refine a_getr C 20 (r := 54) dX12_name_21 (by decide) rfl rfl rfl ib_12 (by decide) bw_1042 ?_
  refine a_iconst C 1 dX12_name_24 (by decide) ?_
  refine a_iload_n C 2 dX12_name_25 rfl rfl ?_
  refine b_iast C 1 dX12_name_26 (by decide) rfl (vp_lit (by decide)) (by decide) ?_
  refine a_aload_n C 1 dX12_name_27 rfl rfl ?_
  refine a_getr C 20 (r := 54) dX12_name_28 (by decide) rfl rfl rfl ib_12 (by decide) bw_1042 ?_
  refine a_iconst C 2 dX12_name_31 (by decide) ?_
  refine a_aload_n C 1 dX12_name_32 rfl rfl ?_
  refine a_iload_n C 2 dX12_name_33 rfl rfl ?_
  refine a_iconst C 2 dX12_name_34 (by decide) ?_
  refine a_callVi C dX12_name_35 (m_X12_get l V h) bw_1158 bw_1160 bw_42 bw_123 bw_1161 (by decide) rfl rfl np_X12_get rfl rfl (by decide) (Nat.le_of_ble_eq_true rfl) (fun r3 u4 h => ?_)
  refine b_iast C 2 dX12_name_38 (by decide) rfl (vp_lit (by decide)) (by decide) ?_
  refine a_aload_n C 1 dX12_name_39 rfl rfl ?_
  refine a_getr C 20 (r := 54) dX12_name_40 (by decide) rfl rfl rfl ib_12 (by decide) bw_1042 ?_
  refine a_iconst C 3 dX12_name_43 (by decide) ?_
  refine a_aload_n C 1 dX12_name_44 rfl rfl ?_
  refine a_iload_n C 2 dX12_name_45 rfl rfl ?_
  refine a_iconst C 3 dX12_name_46 (by decide) ?_
  refine a_callVi C dX12_name_47 (m_X12_get l V h) bw_1158 bw_1160 bw_42 bw_123 bw_1161 (by decide) rfl rfl np_X12_get rfl rfl (by decide) (Nat.le_of_ble_eq_true rfl) (fun r5 u6 h => ?_)
  refine b_iast C 3 dX12_name_50 (by decide) rfl (vp_lit (by decide)) (by decide) ?_
  refine a_aload_n C 1 dX12_name_51 rfl rfl ?_
  refine a_getr C 20 (r := 54) dX12_name_52 (by decide) rfl rfl rfl ib_12 (by decide) bw_1042 ?_
  refine a_iconst C 4 dX12_name_55 (by decide) ?_
  refine a_iload_n C 0 dX12_name_56 rfl rfl ?_
  refine b_iast C 4 dX12_name_57 (by decide) rfl (vp_lit (by decide)) (by decide) ?_
  refine a_aload_n C 1 dX12_name_58 rfl rfl ?_
  refine a_getr C 20 (r := 54) dX12_name_59 (by decide) rfl rfl rfl ib_12 (by decide) bw_1042 ?_
  refine a_iconst C 5 dX12_name_62 (by decide) ?_
  refine a_aload_n C 1 dX12_name_63 rfl rfl ?_
  refine a_getr C 0 (r := 49) dX12_name_64 (by decide) rfl rfl rfl ib_12 (by decide) bw_1022 ?_
  refine a_bipush C 70 dX12_name_67 (by decide) ?_
  refine a_iload_n C 0 dX12_name_69 rfl rfl ?_
  refine a_iadd C dX12_name_70 ?_
  refine b_iald C (Int32.toNatClampNeg (70 + r1)) dX12_name_71 (by decide) rfl h.1 rfl ?_
  have h := h.2
  refine b_iast C 5 dX12_name_72 (by decide) rfl (vp_lit (by decide)) (by decide) ?_
  refine a_aload_n C 1 dX12_name_73 rfl rfl ?_
  refine a_getr C 20 (r := 54) dX12_name_74 (by decide) rfl rfl rfl ib_12 (by decide) bw_1042 ?_
  refine a_bipush C 6 dX12_name_77 (by decide) ?_
  refine a_aload_n C 1 dX12_name_79 rfl rfl ?_
  refine a_getr C 0 (r := 49) dX12_name_80 (by decide) rfl rfl rfl ib_12 (by decide) bw_1022 ?_
  refine a_bipush C 40 dX12_name_83 (by decide) ?_
  refine a_iload_n C 0 dX12_name_85 rfl rfl ?_
  refine a_iadd C dX12_name_86 ?_
  refine b_iald C (Int32.toNatClampNeg (40 + r1)) dX12_name_87 (by decide) rfl h.1 rfl ?_
  have h := h.2
  refine b_iast C 6 dX12_name_88 (by decide) rfl (vp_lit (by decide)) (by decide) ?_
  exact a_vret C dX12_name_89 h

/-! RainOnTheOneModel.wantsOf(II)I -/
def wj_X12_wantsOf_40 (post : Int32 → PoS → Prop) (v1 : Int32) (s0 : Int32) (s1 : Int32) (u : PoS) : Prop := vp_in s1 8 ∧ wp_X12_says v1 0 (99 - (gI (pI u 54 (Int32.toNatClampNeg s1) s0) 54 7)) (-999) 999 (pI u 54 (Int32.toNatClampNeg s1) s0) (fun (r7 : Int32) (u8 : PoS) => post r7 u8)
def wp_X12_wantsOf (a0 : Int32) (a1 : Int32) (u : PoS) (post : Int32 → PoS → Prop) : Prop := wp_X12_get a1 0 u (fun (r1 : Int32) (u2 : PoS) => wp_X12_stepsOf (gI u 49 7) r1 u2 (fun (r3 : Int32) (u4 : PoS) => wp_X12_name a1 u4 (fun (u6 : PoS) => ((¬ r3 = (-1) → wj_X12_wantsOf_40 post a0 r3 7 u6) ∧ (r3 = (-1) → wj_X12_wantsOf_40 post a0 99 7 u6)))))
set_option maxHeartbeats 4000000 in
set_option maxRecDepth 100000 in
theorem tj_X12_wantsOf_40 {p : Program} {l : Launch} {e : Env} {s : State} {m : MethodId} {args : Array Value} {below : List Frame} {meth : Method} {c : Code} {V : VEn} {post : Int32 → PoS → Prop} (C : CxS p s m args meth c V cX12_wantsOf 4 RX12 (some .int)) (v1 : Int32) (s0 : Int32) (s1 : Int32) (u : PoS) (h : wj_X12_wantsOf_40 post v1 s0 s1 u) : AtS p l e (Rm 5) s m args below meth c V 4 (QI V below args s post) 40 [(0, .ref (eA V 48)), (1, .int v1)] [.int s0, .int s1, .ref (eA V 54)] u := by
  rw [wj_X12_wantsOf_40] at h
  refine b_iast C (Int32.toNatClampNeg s1) dX12_wantsOf_40 (by decide) rfl h.1 rfl ?_
  have h := h.2
  refine a_aload_n C 0 dX12_wantsOf_41 rfl rfl ?_
  refine a_iload_n C 1 dX12_wantsOf_42 rfl rfl ?_
  refine a_iconst C 0 dX12_wantsOf_43 (by decide) ?_
  refine a_bipush C 99 dX12_wantsOf_44 (by decide) ?_
  refine a_aload_n C 0 dX12_wantsOf_46 rfl rfl ?_
  refine a_getr C 20 (r := 54) dX12_wantsOf_47 (by decide) rfl rfl rfl ib_12 (by decide) bw_1042 ?_
  refine a_bipush C 7 dX12_wantsOf_50 (by decide) ?_
  refine b_iald C 7 dX12_wantsOf_52 (by decide) rfl (vp_lit (by decide)) (by decide) ?_
  refine a_isub C dX12_wantsOf_53 ?_
  refine a_sipush C (-999) dX12_wantsOf_54 (by decide) ?_
  refine a_sipush C 999 dX12_wantsOf_57 (by decide) ?_
  refine a_callVi C dX12_wantsOf_60 (m_X12_says l V h) bw_1417 bw_1419 bw_83 bw_123 bw_1420 (by decide) rfl rfl np_X12_says rfl rfl (by decide) (Nat.le_of_ble_eq_true rfl) (fun r7 u8 h => ?_)
  exact a_iret C dX12_wantsOf_63 h
theorem np_X12_wantsOf : yX12_wantsOf.cls ≠ "java/lang/invoke/MethodHandle" ∧ yX12_wantsOf.cls ≠ "java/lang/invoke/VarHandle" ∧ (parseMethodDescriptor yX12_wantsOf.desc).map (fun d => d.parameters.length) = some 2 := by decide +kernel
set_option maxHeartbeats 4000000 in
set_option maxRecDepth 100000 in
theorem m_X12_wantsOf (l : Launch) (V : VEn) {a0 : Int32} {a1 : Int32} {u : PoS} {post : Int32 → PoS → Prop} (h : wp_X12_wantsOf a0 a1 u post) : KI l V yX12_wantsOf cX12_wantsOf 4 .int 5 [.ref (eA V 48), .int a0, .int a1] u post := by
  refine KI_of (by decide) (Nat.le_of_ble_eq_true rfl) (lv := [(0, .ref (eA V 48)), (1, .int a0), (2, .int a1)]) rfl ?_
  intro p e s m args below meth c C
  rw [wp_X12_wantsOf] at h
  refine a_aload_n C 0 dX12_wantsOf_0 rfl rfl ?_
  refine a_aload_n C 0 dX12_wantsOf_1 rfl rfl ?_
  refine a_getr C 0 (r := 49) dX12_wantsOf_2 (by decide) rfl rfl rfl ib_12 (by decide) bw_1022 ?_
  refine a_bipush C 7 dX12_wantsOf_5 (by decide) ?_
  refine b_iald C 7 dX12_wantsOf_7 (by decide) rfl (vp_lit (by decide)) (by decide) ?_
  refine a_aload_n C 0 dX12_wantsOf_8 rfl rfl ?_
  refine a_iload_n C 2 dX12_wantsOf_9 rfl rfl ?_
  refine a_iconst C 0 dX12_wantsOf_10 (by decide) ?_
  refine a_callVi C dX12_wantsOf_11 (m_X12_get l V h) bw_1158 bw_1160 bw_42 bw_123 bw_1161 (by decide) rfl rfl np_X12_get rfl rfl (by decide) (Nat.le_of_ble_eq_true rfl) (fun r1 u2 h => ?_)
  refine a_callVi C dX12_wantsOf_14 (m_X12_stepsOf l V h) bw_1391 bw_1393 bw_78 bw_123 bw_1394 (by decide) rfl rfl np_X12_stepsOf rfl rfl (by decide) (Nat.le_of_ble_eq_true rfl) (fun r3 u4 h => ?_)
  refine a_istore_n C [(3, .int r3), (0, .ref (eA V 48)), (1, .int a0), (2, .int a1)] dX12_wantsOf_17 rfl (by decide) rfl ?_
  refine a_aload_n C 1 dX12_wantsOf_18 rfl rfl ?_
  refine a_iload_n C 3 dX12_wantsOf_19 rfl rfl ?_
  refine a_callVv C dX12_wantsOf_20 (m_X12_name l V h) bw_1413 bw_1415 bw_82 bw_123 bw_1416 (by decide) rfl rfl np_X12_name rfl rfl (by decide) (Nat.le_of_ble_eq_true rfl) (fun u6 h => ?_)
  refine a_aload_n C 1 dX12_wantsOf_23 rfl rfl ?_
  refine a_getr C 20 (r := 54) dX12_wantsOf_24 (by decide) rfl rfl rfl ib_12 (by decide) bw_1042 ?_
  refine a_bipush C 7 dX12_wantsOf_27 (by decide) ?_
  refine a_iload_n C 0 dX12_wantsOf_29 rfl rfl ?_
  refine a_iconst C (-1) dX12_wantsOf_30 (by decide) ?_
  refine a_icmp_ne C 39 dX12_wantsOf_31 (by decide) (fun c9 => ?_) (fun c9 => ?_)
  · have h := h.1 c9
    refine a_iload_n C 0 dX12_wantsOf_39 rfl rfl ?_
    refine a_sub [1, 2] rfl ?_
    refine tj_X12_wantsOf_40 C _ _ _ _ h
  · have h := h.2 c9
    refine a_bipush C 99 dX12_wantsOf_34 (by decide) ?_
    refine a_goto C 40 dX12_wantsOf_36 (by decide) ?_
    refine a_sub [1, 2] rfl ?_
    refine tj_X12_wantsOf_40 C _ _ _ _ h

/-! RainOnTheOneModel.poursOf(I)I -/
def wp_X12_poursOf (a0 : Int32) (u : PoS) (post : Int32 → PoS → Prop) : Prop := wp_X12_name a0 u (fun (u2 : PoS) => wp_X12_says (gI u2 49 2) 1 3 0 9 u2 (fun (r3 : Int32) (u4 : PoS) => post r3 u4))
theorem np_X12_poursOf : yX12_poursOf.cls ≠ "java/lang/invoke/MethodHandle" ∧ yX12_poursOf.cls ≠ "java/lang/invoke/VarHandle" ∧ (parseMethodDescriptor yX12_poursOf.desc).map (fun d => d.parameters.length) = some 1 := by decide +kernel
set_option maxHeartbeats 4000000 in
set_option maxRecDepth 100000 in
theorem m_X12_poursOf (l : Launch) (V : VEn) {a0 : Int32} {u : PoS} {post : Int32 → PoS → Prop} (h : wp_X12_poursOf a0 u post) : KI l V yX12_poursOf cX12_poursOf 2 .int 4 [.ref (eA V 48), .int a0] u post := by
  refine KI_of (by decide) (Nat.le_of_ble_eq_true rfl) (lv := [(0, .ref (eA V 48)), (1, .int a0)]) rfl ?_
  intro p e s m args below meth c C
  rw [wp_X12_poursOf] at h
  refine a_aload_n C 0 dX12_poursOf_0 rfl rfl ?_
  refine a_iload_n C 1 dX12_poursOf_1 rfl rfl ?_
  refine a_callVv C dX12_poursOf_2 (m_X12_name l V h) bw_1413 bw_1415 bw_82 bw_123 bw_1416 (by decide) rfl rfl np_X12_name rfl rfl (by decide) (Nat.le_of_ble_eq_true rfl) (fun u2 h => ?_)
  refine a_aload_n C 0 dX12_poursOf_5 rfl rfl ?_
  refine a_aload_n C 0 dX12_poursOf_6 rfl rfl ?_
  refine a_getr C 0 (r := 49) dX12_poursOf_7 (by decide) rfl rfl rfl ib_12 (by decide) bw_1022 ?_
  refine a_iconst C 2 dX12_poursOf_10 (by decide) ?_
  refine b_iald C 2 dX12_poursOf_11 (by decide) rfl (vp_lit (by decide)) (by decide) ?_
  refine a_iconst C 1 dX12_poursOf_12 (by decide) ?_
  refine a_iconst C 3 dX12_poursOf_13 (by decide) ?_
  refine a_iconst C 0 dX12_poursOf_14 (by decide) ?_
  refine a_bipush C 9 dX12_poursOf_15 (by decide) ?_
  refine a_callVi C dX12_poursOf_17 (m_X12_says l V h) bw_1417 bw_1419 bw_83 bw_123 bw_1420 (by decide) rfl rfl np_X12_says rfl rfl (by decide) (Nat.le_of_ble_eq_true rfl) (fun r3 u4 h => ?_)
  exact a_iret C dX12_poursOf_20 h

/-! RainOnTheOneModel.goesFor()I -/
def wj_X12_goesFor_81 (k6 : Int32 → Int32 → Int32 → PoS → Prop) (post : Int32 → PoS → Prop) (v1 : Int32) (v2 : Int32) (v3 : Int32) (u : PoS) : Prop := k6 v1 v2 (v3 + 1) u
def wj_X12_goesFor_76 (k6 : Int32 → Int32 → Int32 → PoS → Prop) (post : Int32 → PoS → Prop) (v3 : Int32) (v4 : Int32) (u : PoS) : Prop := wj_X12_goesFor_81 k6 post v3 v4 v3 u
def wl_X12_goesFor_6 (post : Int32 → PoS → Prop) : Nat → Int32 → Int32 → Int32 → PoS → Prop
  | 0, _, _, _, _ => False
  | n + 1, v1, v2, v3, u => (((gI u 49 0) ≤ v3 → post v1 u) ∧ (¬ (gI u 49 0) ≤ v3 → wp_X12_get v3 1 u (fun (r1 : Int32) (u2 : PoS) => ((r1 = 0 → wj_X12_goesFor_81 (wl_X12_goesFor_6 post n) post v1 v2 v3 u2) ∧ (¬ r1 = 0 → wp_X12_get v3 0 u2 (fun (r3 : Int32) (u4 : PoS) => wp_X12_stepsOf (gI u2 49 7) r3 u4 (fun (r5 : Int32) (u6 : PoS) => ((¬ r5 = (-1) → wp_X12_wantsOf (gI u6 49 2) v3 u6 (fun (r7 : Int32) (u8 : PoS) => ((v1 = (-1) → wj_X12_goesFor_76 (wl_X12_goesFor_6 post n) post v3 r7 u8) ∧ (¬ v1 = (-1) → ((v2 < r7 → wj_X12_goesFor_76 (wl_X12_goesFor_6 post n) post v3 r7 u8) ∧ (¬ v2 < r7 → wj_X12_goesFor_81 (wl_X12_goesFor_6 post n) post v1 v2 v3 u8)))))) ∧ (r5 = (-1) → wj_X12_goesFor_81 (wl_X12_goesFor_6 post n) post v1 v2 v3 u6)))))))))
def wp_X12_goesFor (u : PoS) (post : Int32 → PoS → Prop) : Prop := (∃ n6, wl_X12_goesFor_6 post n6 (-1) 0 0 u)
set_option maxHeartbeats 4000000 in
set_option maxRecDepth 100000 in
theorem tj_X12_goesFor_81 {p : Program} {l : Launch} {e : Env} {s : State} {m : MethodId} {args : Array Value} {below : List Frame} {meth : Method} {c : Code} {V : VEn} {k6 : Int32 → Int32 → Int32 → PoS → Prop} {post : Int32 → PoS → Prop} (C : CxS p s m args meth c V cX12_goesFor 5 RX12 (some .int)) (hk6 : ∀ (v1 : Int32) (v2 : Int32) (v3 : Int32) (u : PoS), k6 v1 v2 v3 u → AtS p l e (Rm 6) s m args below meth c V 5 (QI V below args s post) 6 [(0, .ref (eA V 48)), (1, .int v1), (2, .int v2), (3, .int v3)] [] u) (v1 : Int32) (v2 : Int32) (v3 : Int32) (u : PoS) (h : wj_X12_goesFor_81 k6 post v1 v2 v3 u) : AtS p l e (Rm 6) s m args below meth c V 5 (QI V below args s post) 81 [(0, .ref (eA V 48)), (1, .int v1), (2, .int v2), (3, .int v3)] [] u := by
  rw [wj_X12_goesFor_81] at h
  refine a_iinc C (v3 + 1) 3 [(3, .int (v3 + 1)), (0, .ref (eA V 48)), (1, .int v1), (2, .int v2)] dX12_goesFor_81 rfl (congrArg (fun z => v3 + z) (show Int32.ofInt 1 = 1 by decide)) (by decide) rfl ?_
  refine a_goto C 6 dX12_goesFor_84 (by decide) ?_
  refine a_sub [1, 2, 3, 0] rfl ?_
  exact hk6 _ _ _ _ h
set_option maxHeartbeats 4000000 in
set_option maxRecDepth 100000 in
theorem tj_X12_goesFor_76 {p : Program} {l : Launch} {e : Env} {s : State} {m : MethodId} {args : Array Value} {below : List Frame} {meth : Method} {c : Code} {V : VEn} {k6 : Int32 → Int32 → Int32 → PoS → Prop} {post : Int32 → PoS → Prop} (C : CxS p s m args meth c V cX12_goesFor 5 RX12 (some .int)) (hk6 : ∀ (v1 : Int32) (v2 : Int32) (v3 : Int32) (u : PoS), k6 v1 v2 v3 u → AtS p l e (Rm 6) s m args below meth c V 5 (QI V below args s post) 6 [(0, .ref (eA V 48)), (1, .int v1), (2, .int v2), (3, .int v3)] [] u) (v3 : Int32) (v4 : Int32) (u : PoS) (h : wj_X12_goesFor_76 k6 post v3 v4 u) : AtS p l e (Rm 6) s m args below meth c V 5 (QI V below args s post) 76 [(0, .ref (eA V 48)), (3, .int v3), (4, .int v4)] [] u := by
  rw [wj_X12_goesFor_76] at h
  refine a_iload C 2 dX12_goesFor_76 rfl ?_
  refine a_istore_n C [(2, .int v4), (0, .ref (eA V 48)), (3, .int v3), (4, .int v4)] dX12_goesFor_78 rfl (by decide) rfl ?_
  refine a_iload_n C 2 dX12_goesFor_79 rfl rfl ?_
  refine a_istore_n C [(1, .int v3), (2, .int v4), (0, .ref (eA V 48)), (3, .int v3), (4, .int v4)] dX12_goesFor_80 rfl (by decide) rfl ?_
  refine a_sub [2, 0, 1, 3] rfl ?_
  refine tj_X12_goesFor_81 C hk6 _ _ _ _ h
set_option maxHeartbeats 4000000 in
set_option maxRecDepth 100000 in
theorem tl_X12_goesFor_6 {p : Program} {l : Launch} {e : Env} {s : State} {m : MethodId} {args : Array Value} {below : List Frame} {meth : Method} {c : Code} {V : VEn} {post : Int32 → PoS → Prop} (C : CxS p s m args meth c V cX12_goesFor 5 RX12 (some .int)) : ∀ (n : Nat) (v1 : Int32) (v2 : Int32) (v3 : Int32) (u : PoS), wl_X12_goesFor_6 post n v1 v2 v3 u → AtS p l e (Rm 6) s m args below meth c V 5 (QI V below args s post) 6 [(0, .ref (eA V 48)), (1, .int v1), (2, .int v2), (3, .int v3)] [] u := by
  intro n
  induction n with
  | zero => intro v1 v2 v3 u h; exact h.elim
  | succ n ih =>
    intro v1 v2 v3 u h
    rw [wl_X12_goesFor_6] at h
    refine a_iload_n C 3 dX12_goesFor_6 rfl rfl ?_
    refine a_aload_n C 0 dX12_goesFor_7 rfl rfl ?_
    refine a_getr C 0 (r := 49) dX12_goesFor_8 (by decide) rfl rfl rfl ib_12 (by decide) bw_1022 ?_
    refine a_iconst C 0 dX12_goesFor_11 (by decide) ?_
    refine b_iald C 0 dX12_goesFor_12 (by decide) rfl (vp_lit (by decide)) (by decide) ?_
    refine a_icmp_ge C 87 dX12_goesFor_13 (by decide) (fun c13 => ?_) (fun c13 => ?_)
    · have h := h.1 c13
      refine a_iload_n C 1 dX12_goesFor_87 rfl rfl ?_
      exact a_iret C dX12_goesFor_88 h
    · have h := h.2 c13
      refine a_aload_n C 0 dX12_goesFor_16 rfl rfl ?_
      refine a_iload_n C 3 dX12_goesFor_17 rfl rfl ?_
      refine a_iconst C 1 dX12_goesFor_18 (by decide) ?_
      refine a_callVi C dX12_goesFor_19 (m_X12_get l V h) bw_1158 bw_1160 bw_42 bw_123 bw_1161 (by decide) rfl rfl np_X12_get rfl rfl (by decide) (Nat.le_of_ble_eq_true rfl) (fun r1 u2 h => ?_)
      refine a_if_eq C 81 dX12_goesFor_22 (by decide) (fun c12 => ?_) (fun c12 => ?_)
      · have h := h.1 c12
        refine tj_X12_goesFor_81 C ih _ _ _ _ h
      · have h := h.2 c12
        refine a_aload_n C 0 dX12_goesFor_25 rfl rfl ?_
        refine a_aload_n C 0 dX12_goesFor_26 rfl rfl ?_
        refine a_getr C 0 (r := 49) dX12_goesFor_27 (by decide) rfl rfl rfl ib_12 (by decide) bw_1022 ?_
        refine a_bipush C 7 dX12_goesFor_30 (by decide) ?_
        refine b_iald C 7 dX12_goesFor_32 (by decide) rfl (vp_lit (by decide)) (by decide) ?_
        refine a_aload_n C 0 dX12_goesFor_33 rfl rfl ?_
        refine a_iload_n C 3 dX12_goesFor_34 rfl rfl ?_
        refine a_iconst C 0 dX12_goesFor_35 (by decide) ?_
        refine a_callVi C dX12_goesFor_36 (m_X12_get l V h) bw_1158 bw_1160 bw_42 bw_123 bw_1161 (by decide) rfl rfl np_X12_get rfl rfl (by decide) (Nat.le_of_ble_eq_true rfl) (fun r3 u4 h => ?_)
        refine a_callVi C dX12_goesFor_39 (m_X12_stepsOf l V h) bw_1391 bw_1393 bw_78 bw_123 bw_1394 (by decide) rfl rfl np_X12_stepsOf rfl rfl (by decide) (Nat.le_of_ble_eq_true rfl) (fun r5 u6 h => ?_)
        refine a_iconst C (-1) dX12_goesFor_42 (by decide) ?_
        refine a_icmp_ne C 49 dX12_goesFor_43 (by decide) (fun c11 => ?_) (fun c11 => ?_)
        · have h := h.1 c11
          refine a_aload_n C 0 dX12_goesFor_49 rfl rfl ?_
          refine a_aload_n C 0 dX12_goesFor_50 rfl rfl ?_
          refine a_getr C 0 (r := 49) dX12_goesFor_51 (by decide) rfl rfl rfl ib_12 (by decide) bw_1022 ?_
          refine a_iconst C 2 dX12_goesFor_54 (by decide) ?_
          refine b_iald C 2 dX12_goesFor_55 (by decide) rfl (vp_lit (by decide)) (by decide) ?_
          refine a_iload_n C 3 dX12_goesFor_56 rfl rfl ?_
          refine a_callVi C dX12_goesFor_57 (m_X12_wantsOf l V h) bw_1409 bw_1411 bw_81 bw_123 bw_1412 (by decide) rfl rfl np_X12_wantsOf rfl rfl (by decide) (Nat.le_of_ble_eq_true rfl) (fun r7 u8 h => ?_)
          refine a_istore C [(4, .int r7), (0, .ref (eA V 48)), (1, .int v1), (2, .int v2), (3, .int v3)] dX12_goesFor_60 (by decide) rfl ?_
          refine a_iload_n C 2 dX12_goesFor_62 rfl rfl ?_
          refine a_iconst C (-1) dX12_goesFor_63 (by decide) ?_
          refine a_icmp_eq C 76 dX12_goesFor_64 (by decide) (fun c10 => ?_) (fun c10 => ?_)
          · have h := h.1 c10
            refine a_sub [1, 4, 0] rfl ?_
            refine tj_X12_goesFor_76 C ih _ _ _ h
          · have h := h.2 c10
            refine a_iload C 0 dX12_goesFor_67 rfl ?_
            refine a_iload_n C 3 dX12_goesFor_69 rfl rfl ?_
            refine a_icmp_gt C 76 dX12_goesFor_70 (by decide) (fun c9 => ?_) (fun c9 => ?_)
            · have h := h.1 c9
              refine a_sub [1, 4, 0] rfl ?_
              refine tj_X12_goesFor_76 C ih _ _ _ h
            · have h := h.2 c9
              refine a_goto C 81 dX12_goesFor_73 (by decide) ?_
              refine a_sub [1, 2, 3, 4] rfl ?_
              refine tj_X12_goesFor_81 C ih _ _ _ _ h
        · have h := h.2 c11
          refine a_goto C 81 dX12_goesFor_46 (by decide) ?_
          refine tj_X12_goesFor_81 C ih _ _ _ _ h
theorem np_X12_goesFor : yX12_goesFor.cls ≠ "java/lang/invoke/MethodHandle" ∧ yX12_goesFor.cls ≠ "java/lang/invoke/VarHandle" ∧ (parseMethodDescriptor yX12_goesFor.desc).map (fun d => d.parameters.length) = some 0 := by decide +kernel
set_option maxHeartbeats 4000000 in
set_option maxRecDepth 100000 in
theorem m_X12_goesFor (l : Launch) (V : VEn) {u : PoS} {post : Int32 → PoS → Prop} (h : wp_X12_goesFor  u post) : KI l V yX12_goesFor cX12_goesFor 5 .int 6 [.ref (eA V 48)] u post := by
  refine KI_of (by decide) (Nat.le_of_ble_eq_true rfl) (lv := [(0, .ref (eA V 48))]) rfl ?_
  intro p e s m args below meth c C
  rw [wp_X12_goesFor] at h
  refine a_iconst C (-1) dX12_goesFor_0 (by decide) ?_
  refine a_istore_n C [(1, .int (-1)), (0, .ref (eA V 48))] dX12_goesFor_1 rfl (by decide) rfl ?_
  refine a_iconst C 0 dX12_goesFor_2 (by decide) ?_
  refine a_istore_n C [(2, .int 0), (1, .int (-1)), (0, .ref (eA V 48))] dX12_goesFor_3 rfl (by decide) rfl ?_
  refine a_iconst C 0 dX12_goesFor_4 (by decide) ?_
  refine a_istore_n C [(3, .int 0), (2, .int 0), (1, .int (-1)), (0, .ref (eA V 48))] dX12_goesFor_5 rfl (by decide) rfl ?_
  refine a_sub [3, 2, 1, 0] rfl ?_
  obtain ⟨n6, h⟩ := h
  refine tl_X12_goesFor_6 C n6 _ _ _ _ h

/-! RainOnTheOneModel.write(II)V -/
def wj_X12_write_67 (post : PoS → Prop) (v1 : Int32) (v2 : Int32) (u : PoS) : Prop := vp_in (3643 + (2 * (gI u 49 9))) 3703 ∧ wp_X12_get v1 0 (pI u 49 (Int32.toNatClampNeg (3643 + (2 * (gI u 49 9)))) (gI u 49 6)) (fun (r1 : Int32) (u2 : PoS) => vp_in ((3643 + (2 * (gI (pI u 49 (Int32.toNatClampNeg (3643 + (2 * (gI u 49 9)))) (gI u 49 6)) 49 9))) + 1) 3703 ∧ post (pI (pI u2 49 (Int32.toNatClampNeg ((3643 + (2 * (gI (pI u 49 (Int32.toNatClampNeg (3643 + (2 * (gI u 49 9)))) (gI u 49 6)) 49 9))) + 1)) ((((v1 * 30) + r1) * 100) + v2)) 49 9 ((gI (pI u2 49 (Int32.toNatClampNeg ((3643 + (2 * (gI (pI u 49 (Int32.toNatClampNeg (3643 + (2 * (gI u 49 9)))) (gI u 49 6)) 49 9))) + 1)) ((((v1 * 30) + r1) * 100) + v2)) 49 9) + 1)))
def wl_X12_write_22 (k56 : Int32 → Int32 → PoS → Prop) (post : PoS → Prop) : Nat → Int32 → Int32 → Int32 → PoS → Prop
  | 0, _, _, _, _ => False
  | n + 1, v1, v2, v3, u => ((60 ≤ v3 → k56 v1 v2 u) ∧ (¬ 60 ≤ v3 → vp_in (3643 + v3) 3703 ∧ vp_in ((3643 + v3) - 2) 3703 ∧ wl_X12_write_22 k56 post n v1 v2 (v3 + 1) (pI u 49 (Int32.toNatClampNeg ((3643 + v3) - 2)) (gI u 49 (Int32.toNatClampNeg (3643 + v3))))))
def wp_X12_write (a0 : Int32) (a1 : Int32) (u : PoS) (post : PoS → Prop) : Prop := ((¬ (gI u 48 24) = 0 → ((¬ (gI u 49 9) = 30 → wj_X12_write_67 post a0 a1 u) ∧ ((gI u 49 9) = 30 → (∃ n22, wl_X12_write_22 (fun (v14 : Int32) (v24 : Int32) (u4 : PoS) => wj_X12_write_67 post v14 v24 (pI u4 49 9 ((gI u4 49 9) - 1))) post n22 a0 a1 2 u)))) ∧ ((gI u 48 24) = 0 → post u))
set_option maxHeartbeats 4000000 in
set_option maxRecDepth 100000 in
theorem tj_X12_write_67 {p : Program} {l : Launch} {e : Env} {s : State} {m : MethodId} {args : Array Value} {below : List Frame} {meth : Method} {c : Code} {V : VEn} {post : PoS → Prop} (C : CxS p s m args meth c V cX12_write 4 RX12 none) (v1 : Int32) (v2 : Int32) (u : PoS) (h : wj_X12_write_67 post v1 v2 u) : AtS p l e (Rm 1) s m args below meth c V 4 (QV V below args s post) 67 [(0, .ref (eA V 48)), (1, .int v1), (2, .int v2)] [] u := by
  rw [wj_X12_write_67] at h
  refine a_aload_n C 0 dX12_write_67 rfl rfl ?_
  refine a_getr C 0 (r := 49) dX12_write_68 (by decide) rfl rfl rfl ib_12 (by decide) bw_1022 ?_
  refine a_sipush C 3643 dX12_write_71 (by decide) ?_
  refine a_iconst C 2 dX12_write_74 (by decide) ?_
  refine a_aload_n C 0 dX12_write_75 rfl rfl ?_
  refine a_getr C 0 (r := 49) dX12_write_76 (by decide) rfl rfl rfl ib_12 (by decide) bw_1022 ?_
  refine a_bipush C 9 dX12_write_79 (by decide) ?_
  refine b_iald C 9 dX12_write_81 (by decide) rfl (vp_lit (by decide)) (by decide) ?_
  refine a_imul C dX12_write_82 ?_
  refine a_iadd C dX12_write_83 ?_
  refine a_aload_n C 0 dX12_write_84 rfl rfl ?_
  refine a_getr C 0 (r := 49) dX12_write_85 (by decide) rfl rfl rfl ib_12 (by decide) bw_1022 ?_
  refine a_bipush C 6 dX12_write_88 (by decide) ?_
  refine b_iald C 6 dX12_write_90 (by decide) rfl (vp_lit (by decide)) (by decide) ?_
  refine b_iast C (Int32.toNatClampNeg (3643 + (2 * (gI u 49 9)))) dX12_write_91 (by decide) rfl h.1 rfl ?_
  have h := h.2
  refine a_aload_n C 0 dX12_write_92 rfl rfl ?_
  refine a_getr C 0 (r := 49) dX12_write_93 (by decide) rfl rfl rfl ib_12 (by decide) bw_1022 ?_
  refine a_sipush C 3643 dX12_write_96 (by decide) ?_
  refine a_iconst C 2 dX12_write_99 (by decide) ?_
  refine a_aload_n C 0 dX12_write_100 rfl rfl ?_
  refine a_getr C 0 (r := 49) dX12_write_101 (by decide) rfl rfl rfl ib_12 (by decide) bw_1022 ?_
  refine a_bipush C 9 dX12_write_104 (by decide) ?_
  refine b_iald C 9 dX12_write_106 (by decide) rfl (vp_lit (by decide)) (by decide) ?_
  refine a_imul C dX12_write_107 ?_
  refine a_iadd C dX12_write_108 ?_
  refine a_iconst C 1 dX12_write_109 (by decide) ?_
  refine a_iadd C dX12_write_110 ?_
  refine a_iload_n C 1 dX12_write_111 rfl rfl ?_
  refine a_bipush C 30 dX12_write_112 (by decide) ?_
  refine a_imul C dX12_write_114 ?_
  refine a_aload_n C 0 dX12_write_115 rfl rfl ?_
  refine a_iload_n C 1 dX12_write_116 rfl rfl ?_
  refine a_iconst C 0 dX12_write_117 (by decide) ?_
  refine a_callVi C dX12_write_118 (m_X12_get l V h) bw_1158 bw_1160 bw_42 bw_123 bw_1161 (by decide) rfl rfl np_X12_get rfl rfl (by decide) (Nat.le_of_ble_eq_true rfl) (fun r1 u2 h => ?_)
  refine a_iadd C dX12_write_121 ?_
  refine a_bipush C 100 dX12_write_122 (by decide) ?_
  refine a_imul C dX12_write_124 ?_
  refine a_iload_n C 2 dX12_write_125 rfl rfl ?_
  refine a_iadd C dX12_write_126 ?_
  refine b_iast C (Int32.toNatClampNeg ((3643 + (2 * (gI (pI u 49 (Int32.toNatClampNeg (3643 + (2 * (gI u 49 9)))) (gI u 49 6)) 49 9))) + 1)) dX12_write_127 (by decide) rfl h.1 rfl ?_
  have h := h.2
  refine a_aload_n C 0 dX12_write_128 rfl rfl ?_
  refine a_getr C 0 (r := 49) dX12_write_129 (by decide) rfl rfl rfl ib_12 (by decide) bw_1022 ?_
  refine a_bipush C 9 dX12_write_132 (by decide) ?_
  refine a_dup2 C dX12_write_134 rfl rfl ?_
  refine b_iald C 9 dX12_write_135 (by decide) rfl (vp_lit (by decide)) (by decide) ?_
  refine a_iconst C 1 dX12_write_136 (by decide) ?_
  refine a_iadd C dX12_write_137 ?_
  refine b_iast C 9 dX12_write_138 (by decide) rfl (vp_lit (by decide)) (by decide) ?_
  exact a_vret C dX12_write_139 h
set_option maxHeartbeats 4000000 in
set_option maxRecDepth 100000 in
theorem tl_X12_write_22 {p : Program} {l : Launch} {e : Env} {s : State} {m : MethodId} {args : Array Value} {below : List Frame} {meth : Method} {c : Code} {V : VEn} {k56 : Int32 → Int32 → PoS → Prop} {post : PoS → Prop} (C : CxS p s m args meth c V cX12_write 4 RX12 none) (hk56 : ∀ (v1 : Int32) (v2 : Int32) (u : PoS), k56 v1 v2 u → AtS p l e (Rm 1) s m args below meth c V 4 (QV V below args s post) 56 [(0, .ref (eA V 48)), (1, .int v1), (2, .int v2)] [] u) : ∀ (n : Nat) (v1 : Int32) (v2 : Int32) (v3 : Int32) (u : PoS), wl_X12_write_22 k56 post n v1 v2 v3 u → AtS p l e (Rm 1) s m args below meth c V 4 (QV V below args s post) 22 [(0, .ref (eA V 48)), (1, .int v1), (2, .int v2), (3, .int v3)] [] u := by
  intro n
  induction n with
  | zero => intro v1 v2 v3 u h; exact h.elim
  | succ n ih =>
    intro v1 v2 v3 u h
    rw [wl_X12_write_22] at h
    refine a_iload_n C 3 dX12_write_22 rfl rfl ?_
    refine a_bipush C 60 dX12_write_23 (by decide) ?_
    refine a_icmp_ge C 56 dX12_write_25 (by decide) (fun c3 => ?_) (fun c3 => ?_)
    · have h := h.1 c3
      refine a_sub [0, 1, 2] rfl ?_
      exact hk56 _ _ _ h
    · have h := h.2 c3
      refine a_aload_n C 0 dX12_write_28 rfl rfl ?_
      refine a_getr C 0 (r := 49) dX12_write_29 (by decide) rfl rfl rfl ib_12 (by decide) bw_1022 ?_
      refine a_sipush C 3643 dX12_write_32 (by decide) ?_
      refine a_iload_n C 3 dX12_write_35 rfl rfl ?_
      refine a_iadd C dX12_write_36 ?_
      refine a_iconst C 2 dX12_write_37 (by decide) ?_
      refine a_isub C dX12_write_38 ?_
      refine a_aload_n C 0 dX12_write_39 rfl rfl ?_
      refine a_getr C 0 (r := 49) dX12_write_40 (by decide) rfl rfl rfl ib_12 (by decide) bw_1022 ?_
      refine a_sipush C 3643 dX12_write_43 (by decide) ?_
      refine a_iload_n C 3 dX12_write_46 rfl rfl ?_
      refine a_iadd C dX12_write_47 ?_
      refine b_iald C (Int32.toNatClampNeg (3643 + v3)) dX12_write_48 (by decide) rfl h.1 rfl ?_
      have h := h.2
      refine b_iast C (Int32.toNatClampNeg ((3643 + v3) - 2)) dX12_write_49 (by decide) rfl h.1 rfl ?_
      have h := h.2
      refine a_iinc C (v3 + 1) 3 [(3, .int (v3 + 1)), (0, .ref (eA V 48)), (1, .int v1), (2, .int v2)] dX12_write_50 rfl (congrArg (fun z => v3 + z) (show Int32.ofInt 1 = 1 by decide)) (by decide) rfl ?_
      refine a_goto C 22 dX12_write_53 (by decide) ?_
      refine a_sub [1, 2, 3, 0] rfl ?_
      exact ih _ _ _ _ h
theorem np_X12_write : yX12_write.cls ≠ "java/lang/invoke/MethodHandle" ∧ yX12_write.cls ≠ "java/lang/invoke/VarHandle" ∧ (parseMethodDescriptor yX12_write.desc).map (fun d => d.parameters.length) = some 2 := by decide +kernel
set_option maxHeartbeats 4000000 in
set_option maxRecDepth 100000 in
theorem m_X12_write (l : Launch) (V : VEn) {a0 : Int32} {a1 : Int32} {u : PoS} {post : PoS → Prop} (h : wp_X12_write a0 a1 u post) : KV l V yX12_write cX12_write 4 1 [.ref (eA V 48), .int a0, .int a1] u post := by
  refine KV_of (by decide) (Nat.le_of_ble_eq_true rfl) (lv := [(0, .ref (eA V 48)), (1, .int a0), (2, .int a1)]) rfl ?_
  intro p e s m args below meth c C
  rw [wp_X12_write] at h
  refine a_aload_n C 0 dX12_write_0 rfl rfl ?_
  refine a_geti C 24 dX12_write_1 (by decide) rfl rfl rfl ib_12 (by decide) bw_1046 ?_
  refine a_if_ne C 8 dX12_write_4 (by decide) (fun c6 => ?_) (fun c6 => ?_)
  · have h := h.1 c6
    refine a_aload_n C 0 dX12_write_8 rfl rfl ?_
    refine a_getr C 0 (r := 49) dX12_write_9 (by decide) rfl rfl rfl ib_12 (by decide) bw_1022 ?_
    refine a_bipush C 9 dX12_write_12 (by decide) ?_
    refine b_iald C 9 dX12_write_14 (by decide) rfl (vp_lit (by decide)) (by decide) ?_
    refine a_bipush C 30 dX12_write_15 (by decide) ?_
    refine a_icmp_ne C 67 dX12_write_17 (by decide) (fun c5 => ?_) (fun c5 => ?_)
    · have h := h.1 c5
      refine tj_X12_write_67 C _ _ _ h
    · have h := h.2 c5
      refine a_iconst C 2 dX12_write_20 (by decide) ?_
      refine a_istore_n C [(3, .int 2), (0, .ref (eA V 48)), (1, .int a0), (2, .int a1)] dX12_write_21 rfl (by decide) rfl ?_
      refine a_sub [1, 2, 3, 0] rfl ?_
      obtain ⟨n22, h⟩ := h
      refine tl_X12_write_22 C (fun v14 v24 u4 h => ?_) n22 _ _ _ _ h
      refine a_aload_n C 0 dX12_write_56 rfl rfl ?_
      refine a_getr C 0 (r := 49) dX12_write_57 (by decide) rfl rfl rfl ib_12 (by decide) bw_1022 ?_
      refine a_bipush C 9 dX12_write_60 (by decide) ?_
      refine a_dup2 C dX12_write_62 rfl rfl ?_
      refine b_iald C 9 dX12_write_63 (by decide) rfl (vp_lit (by decide)) (by decide) ?_
      refine a_iconst C 1 dX12_write_64 (by decide) ?_
      refine a_isub C dX12_write_65 ?_
      refine b_iast C 9 dX12_write_66 (by decide) rfl (vp_lit (by decide)) (by decide) ?_
      refine tj_X12_write_67 C _ _ _ h
  · have h := h.2 c6
    exact a_vret C dX12_write_7 h

/-! RainOnTheOneModel.anew()V -/
def wp_X12_anew (u : PoS) (post : PoS → Prop) : Prop := post (pI u 49 8 (Int64.toInt32 (lrem (((Int32.toInt64 (gI u 49 8)) * 487) + 373) 30671)))
theorem np_X12_anew : yX12_anew.cls ≠ "java/lang/invoke/MethodHandle" ∧ yX12_anew.cls ≠ "java/lang/invoke/VarHandle" ∧ (parseMethodDescriptor yX12_anew.desc).map (fun d => d.parameters.length) = some 0 := by decide +kernel
set_option maxHeartbeats 4000000 in
set_option maxRecDepth 100000 in
theorem m_X12_anew (l : Launch) (V : VEn) {u : PoS} {post : PoS → Prop} (h : wp_X12_anew  u post) : KV l V yX12_anew cX12_anew 1 0 [.ref (eA V 48)] u post := by
  refine KV_of (by decide) (Nat.le_of_ble_eq_true rfl) (lv := [(0, .ref (eA V 48))]) rfl ?_
  intro p e s m args below meth c C
  rw [wp_X12_anew] at h
  refine a_aload_n C 0 dX12_anew_0 rfl rfl ?_
  refine a_getr C 0 (r := 49) dX12_anew_1 (by decide) rfl rfl rfl ib_12 (by decide) bw_1022 ?_
  refine a_bipush C 8 dX12_anew_4 (by decide) ?_
  refine a_aload_n C 0 dX12_anew_6 rfl rfl ?_
  refine a_getr C 0 (r := 49) dX12_anew_7 (by decide) rfl rfl rfl ib_12 (by decide) bw_1022 ?_
  refine a_bipush C 8 dX12_anew_10 (by decide) ?_
  refine b_iald C 8 dX12_anew_12 (by decide) rfl (vp_lit (by decide)) (by decide) ?_
  refine a_i2l C dX12_anew_13 ?_
  refine a_ldc2 C dX12_anew_14 bw_1372 ?_
  refine a_lmul C dX12_anew_17 ?_
  refine a_ldc2 C dX12_anew_18 bw_1373 ?_
  refine a_ladd C dX12_anew_21 ?_
  refine a_ldc2 C dX12_anew_22 bw_1374 ?_
  refine b_lrem C dX12_anew_25 (by decide) ?_
  refine a_l2i C dX12_anew_26 ?_
  refine b_iast C 8 dX12_anew_27 (by decide) rfl (vp_lit (by decide)) (by decide) ?_
  exact a_vret C dX12_anew_28 h

/-! RainOnTheOneModel.drawnBy(I)I -/
def wp_X12_drawnBy (a0 : Int32) (u : PoS) (post : Int32 → PoS → Prop) : Prop := ¬ a0 = 0 ∧ ∀ x1 : Int32, x1 = (irem (gI u 49 8) a0) → wp_X12_anew u (fun (u3 : PoS) => post x1 u3)
theorem np_X12_drawnBy : yX12_drawnBy.cls ≠ "java/lang/invoke/MethodHandle" ∧ yX12_drawnBy.cls ≠ "java/lang/invoke/VarHandle" ∧ (parseMethodDescriptor yX12_drawnBy.desc).map (fun d => d.parameters.length) = some 1 := by decide +kernel
set_option maxHeartbeats 4000000 in
set_option maxRecDepth 100000 in
theorem m_X12_drawnBy (l : Launch) (V : VEn) {a0 : Int32} {u : PoS} {post : Int32 → PoS → Prop} (h : wp_X12_drawnBy a0 u post) : KI l V yX12_drawnBy cX12_drawnBy 3 .int 1 [.ref (eA V 48), .int a0] u post := by
  refine KI_of (by decide) (Nat.le_of_ble_eq_true rfl) (lv := [(0, .ref (eA V 48)), (1, .int a0)]) rfl ?_
  intro p e s m args below meth c C
  rw [wp_X12_drawnBy] at h
  refine a_aload_n C 0 dX12_drawnBy_0 rfl rfl ?_
  refine a_getr C 0 (r := 49) dX12_drawnBy_1 (by decide) rfl rfl rfl ib_12 (by decide) bw_1022 ?_
  refine a_bipush C 8 dX12_drawnBy_4 (by decide) ?_
  refine b_iald C 8 dX12_drawnBy_6 (by decide) rfl (vp_lit (by decide)) (by decide) ?_
  refine a_iload_n C 1 dX12_drawnBy_7 rfl rfl ?_
  refine b_irem C dX12_drawnBy_8 h.1 ?_
  have h := h.2
  refine a_topi (fun x1 ex1 => ?_)
  have h := h x1 ex1
  refine a_istore_n C [(2, .int x1), (0, .ref (eA V 48)), (1, .int a0)] dX12_drawnBy_9 rfl (by decide) rfl ?_
  refine a_aload_n C 1 dX12_drawnBy_10 rfl rfl ?_
  refine a_callVv C dX12_drawnBy_11 (m_X12_anew l V h) bw_1368 bw_1370 bw_74 bw_123 bw_1371 (by decide) rfl rfl np_X12_anew rfl rfl (by decide) (Nat.le_of_ble_eq_true rfl) (fun u3 h => ?_)
  refine a_iload_n C 0 dX12_drawnBy_14 rfl rfl ?_
  exact a_iret C dX12_drawnBy_15 h

/-! RainOnTheOneModel.rain(I)V -/
def wp_X12_rain (a0 : Int32) (u : PoS) (post : PoS → Prop) : Prop := wp_X12_get a0 0 u (fun (r1 : Int32) (u2 : PoS) => wp_X12_poursOf a0 u2 (fun (r3 : Int32) (u4 : PoS) => vp_in (40 + r1) 3703 ∧ wp_X12_held (Int32.toInt64 r3) 0 (99 - (gI u4 49 (Int32.toNatClampNeg (40 + r1)))) u4 (fun (r5 : Int32) (u6 : PoS) => vp_in (40 + r1) 3703 ∧ vp_in (40 + r1) 3703 ∧ wp_X12_get a0 2 (pI u6 49 (Int32.toNatClampNeg (40 + r1)) ((gI u6 49 (Int32.toNatClampNeg (40 + r1))) + r5)) (fun (r7 : Int32) (u8 : PoS) => wp_X12_held (Int32.toInt64 (r7 + 3)) 0 99 u8 (fun (r9 : Int32) (u10 : PoS) => wp_X12_put a0 2 r9 u10 (fun (u12 : PoS) => wp_X12_get a0 3 u12 (fun (r13 : Int32) (u14 : PoS) => wp_X12_held (Int32.toInt64 (r13 + 1)) 0 999 u14 (fun (r15 : Int32) (u16 : PoS) => wp_X12_put a0 3 r15 u16 (fun (u18 : PoS) => wp_X12_write a0 r5 (pI u18 48 25 ((gI u18 48 25) + 1)) (fun (u20 : PoS) => post u20))))))))))
theorem np_X12_rain : yX12_rain.cls ≠ "java/lang/invoke/MethodHandle" ∧ yX12_rain.cls ≠ "java/lang/invoke/VarHandle" ∧ (parseMethodDescriptor yX12_rain.desc).map (fun d => d.parameters.length) = some 1 := by decide +kernel
set_option maxHeartbeats 4000000 in
set_option maxRecDepth 100000 in
theorem m_X12_rain (l : Launch) (V : VEn) {a0 : Int32} {u : PoS} {post : PoS → Prop} (h : wp_X12_rain a0 u post) : KV l V yX12_rain cX12_rain 4 5 [.ref (eA V 48), .int a0] u post := by
  refine KV_of (by decide) (Nat.le_of_ble_eq_true rfl) (lv := [(0, .ref (eA V 48)), (1, .int a0)]) rfl ?_
  intro p e s m args below meth c C
  rw [wp_X12_rain] at h
  refine a_aload_n C 0 dX12_rain_0 rfl rfl ?_
  refine a_iload_n C 1 dX12_rain_1 rfl rfl ?_
  refine a_iconst C 0 dX12_rain_2 (by decide) ?_
  refine a_callVi C dX12_rain_3 (m_X12_get l V h) bw_1158 bw_1160 bw_42 bw_123 bw_1161 (by decide) rfl rfl np_X12_get rfl rfl (by decide) (Nat.le_of_ble_eq_true rfl) (fun r1 u2 h => ?_)
  refine a_istore_n C [(2, .int r1), (0, .ref (eA V 48)), (1, .int a0)] dX12_rain_6 rfl (by decide) rfl ?_
  refine a_aload_n C 1 dX12_rain_7 rfl rfl ?_
  refine a_iload_n C 2 dX12_rain_8 rfl rfl ?_
  refine a_callVi C dX12_rain_9 (m_X12_poursOf l V h) bw_1455 bw_1457 bw_87 bw_123 bw_1458 (by decide) rfl rfl np_X12_poursOf rfl rfl (by decide) (Nat.le_of_ble_eq_true rfl) (fun r3 u4 h => ?_)
  refine a_i2l C dX12_rain_12 ?_
  refine a_iconst C 0 dX12_rain_13 (by decide) ?_
  refine a_bipush C 99 dX12_rain_14 (by decide) ?_
  refine a_aload_n C 1 dX12_rain_16 rfl rfl ?_
  refine a_getr C 0 (r := 49) dX12_rain_17 (by decide) rfl rfl rfl ib_12 (by decide) bw_1022 ?_
  refine a_bipush C 40 dX12_rain_20 (by decide) ?_
  refine a_iload_n C 0 dX12_rain_22 rfl rfl ?_
  refine a_iadd C dX12_rain_23 ?_
  refine b_iald C (Int32.toNatClampNeg (40 + r1)) dX12_rain_24 (by decide) rfl h.1 rfl ?_
  have h := h.2
  refine a_isub C dX12_rain_25 ?_
  refine a_callSi C dX12_rain_26 (m_X12_held l V h) bw_1448 bw_1449 bw_123 bw_1450 np_X12_held rfl rfl (by decide) (Nat.le_of_ble_eq_true rfl) (fun r5 u6 h => ?_)
  refine a_istore_n C [(3, .int r5), (2, .int r1), (0, .ref (eA V 48)), (1, .int a0)] dX12_rain_29 rfl (by decide) rfl ?_
  refine a_aload_n C 2 dX12_rain_30 rfl rfl ?_
  refine a_getr C 0 (r := 49) dX12_rain_31 (by decide) rfl rfl rfl ib_12 (by decide) bw_1022 ?_
  refine a_bipush C 40 dX12_rain_34 (by decide) ?_
  refine a_iload_n C 1 dX12_rain_36 rfl rfl ?_
  refine a_iadd C dX12_rain_37 ?_
  refine a_dup2 C dX12_rain_38 rfl rfl ?_
  refine b_iald C (Int32.toNatClampNeg (40 + r1)) dX12_rain_39 (by decide) rfl h.1 rfl ?_
  have h := h.2
  refine a_iload_n C 0 dX12_rain_40 rfl rfl ?_
  refine a_iadd C dX12_rain_41 ?_
  refine b_iast C (Int32.toNatClampNeg (40 + r1)) dX12_rain_42 (by decide) rfl h.1 rfl ?_
  have h := h.2
  refine a_aload_n C 2 dX12_rain_43 rfl rfl ?_
  refine a_iload_n C 3 dX12_rain_44 rfl rfl ?_
  refine a_iconst C 2 dX12_rain_45 (by decide) ?_
  refine a_aload_n C 2 dX12_rain_46 rfl rfl ?_
  refine a_iload_n C 3 dX12_rain_47 rfl rfl ?_
  refine a_iconst C 2 dX12_rain_48 (by decide) ?_
  refine a_callVi C dX12_rain_49 (m_X12_get l V h) bw_1158 bw_1160 bw_42 bw_123 bw_1161 (by decide) rfl rfl np_X12_get rfl rfl (by decide) (Nat.le_of_ble_eq_true rfl) (fun r7 u8 h => ?_)
  refine a_iconst C 3 dX12_rain_52 (by decide) ?_
  refine a_iadd C dX12_rain_53 ?_
  refine a_i2l C dX12_rain_54 ?_
  refine a_iconst C 0 dX12_rain_55 (by decide) ?_
  refine a_bipush C 99 dX12_rain_56 (by decide) ?_
  refine a_callSi C dX12_rain_58 (m_X12_held l V h) bw_1448 bw_1449 bw_123 bw_1450 np_X12_held rfl rfl (by decide) (Nat.le_of_ble_eq_true rfl) (fun r9 u10 h => ?_)
  refine a_callVv C dX12_rain_61 (m_X12_put l V h) bw_1150 bw_1152 bw_40 bw_123 bw_1153 (by decide) rfl rfl np_X12_put rfl rfl (by decide) (Nat.le_of_ble_eq_true rfl) (fun u12 h => ?_)
  refine a_aload_n C 2 dX12_rain_64 rfl rfl ?_
  refine a_iload_n C 3 dX12_rain_65 rfl rfl ?_
  refine a_iconst C 3 dX12_rain_66 (by decide) ?_
  refine a_aload_n C 2 dX12_rain_67 rfl rfl ?_
  refine a_iload_n C 3 dX12_rain_68 rfl rfl ?_
  refine a_iconst C 3 dX12_rain_69 (by decide) ?_
  refine a_callVi C dX12_rain_70 (m_X12_get l V h) bw_1158 bw_1160 bw_42 bw_123 bw_1161 (by decide) rfl rfl np_X12_get rfl rfl (by decide) (Nat.le_of_ble_eq_true rfl) (fun r13 u14 h => ?_)
  refine a_iconst C 1 dX12_rain_73 (by decide) ?_
  refine a_iadd C dX12_rain_74 ?_
  refine a_i2l C dX12_rain_75 ?_
  refine a_iconst C 0 dX12_rain_76 (by decide) ?_
  refine a_sipush C 999 dX12_rain_77 (by decide) ?_
  refine a_callSi C dX12_rain_80 (m_X12_held l V h) bw_1448 bw_1449 bw_123 bw_1450 np_X12_held rfl rfl (by decide) (Nat.le_of_ble_eq_true rfl) (fun r15 u16 h => ?_)
  refine a_callVv C dX12_rain_83 (m_X12_put l V h) bw_1150 bw_1152 bw_40 bw_123 bw_1153 (by decide) rfl rfl np_X12_put rfl rfl (by decide) (Nat.le_of_ble_eq_true rfl) (fun u18 h => ?_)
  refine a_aload_n C 2 dX12_rain_86 rfl rfl ?_
  refine a_dup C dX12_rain_87 rfl ?_
  refine a_geti C 25 dX12_rain_88 (by decide) rfl rfl rfl ib_12 (by decide) bw_1047 ?_
  refine a_iconst C 1 dX12_rain_91 (by decide) ?_
  refine a_iadd C dX12_rain_92 ?_
  refine a_puti C (ty := .int) 25 dX12_rain_93 (by decide) rfl rfl rfl ib_12 (by decide) bw_1047 tyX12 tyX12_ok nmX12 rfl (by decide +kernel) rfl rfl ?_
  refine a_aload_n C 2 dX12_rain_96 rfl rfl ?_
  refine a_iload_n C 3 dX12_rain_97 rfl rfl ?_
  refine a_iload_n C 0 dX12_rain_98 rfl rfl ?_
  refine a_callVv C dX12_rain_99 (m_X12_write l V h) bw_1459 bw_1461 bw_88 bw_123 bw_1462 (by decide) rfl rfl np_X12_write rfl rfl (by decide) (Nat.le_of_ble_eq_true rfl) (fun u20 h => ?_)
  exact a_vret C dX12_rain_102 h

/-! RainOnTheOneModel.nextTo(II)I -/
def wj_X12_nextTo_39 (k11 : Int32 → Int32 → PoS → Prop) (post : Int32 → PoS → Prop) (v1 : Int32) (v3 : Int32) (u : PoS) : Prop := k11 v1 (v3 + 1) u
def wl_X12_nextTo_11 (post : Int32 → PoS → Prop) : Nat → Int32 → Int32 → PoS → Prop
  | 0, _, _, _ => False
  | n + 1, v1, v3, u => wp_X12_beside v1 u (fun (r5 : Int32) (u6 : PoS) => wp_X12_has r5 v3 u6 (fun (r7 : Int32) (u8 : PoS) => ((r7 = 0 → wj_X12_nextTo_39 (wl_X12_nextTo_11 post n) post v1 v3 u8) ∧ (¬ r7 = 0 → vp_in v3 30 ∧ vp_in v1 30 ∧ (((gI u8 57 (Int32.toNatClampNeg v3)) = ((gI u8 57 (Int32.toNatClampNeg v1)) - 1) → post v3 u8) ∧ (¬ (gI u8 57 (Int32.toNatClampNeg v3)) = ((gI u8 57 (Int32.toNatClampNeg v1)) - 1) → wj_X12_nextTo_39 (wl_X12_nextTo_11 post n) post v1 v3 u8))))))
def wp_X12_nextTo (a0 : Int32) (a1 : Int32) (u : PoS) (post : Int32 → PoS → Prop) : Prop := wp_X12_free u (fun (r1 : Int32) (u2 : PoS) => wp_X12_layFar a1 r1 u2 (fun (u4 : PoS) => (∃ n11, wl_X12_nextTo_11 post n11 a0 0 u4)))
set_option maxHeartbeats 4000000 in
set_option maxRecDepth 100000 in
theorem tj_X12_nextTo_39 {p : Program} {l : Launch} {e : Env} {s : State} {m : MethodId} {args : Array Value} {below : List Frame} {meth : Method} {c : Code} {V : VEn} {k11 : Int32 → Int32 → PoS → Prop} {post : Int32 → PoS → Prop} (C : CxS p s m args meth c V cX12_nextTo 4 RX12 (some .int)) (hk11 : ∀ (v1 : Int32) (v3 : Int32) (u : PoS), k11 v1 v3 u → AtS p l e (Rm 4) s m args below meth c V 4 (QI V below args s post) 11 [(0, .ref (eA V 48)), (1, .int v1), (3, .int v3)] [] u) (v1 : Int32) (v3 : Int32) (u : PoS) (h : wj_X12_nextTo_39 k11 post v1 v3 u) : AtS p l e (Rm 4) s m args below meth c V 4 (QI V below args s post) 39 [(0, .ref (eA V 48)), (1, .int v1), (3, .int v3)] [] u := by
  rw [wj_X12_nextTo_39] at h
  refine a_iinc C (v3 + 1) 2 [(3, .int (v3 + 1)), (0, .ref (eA V 48)), (1, .int v1)] dX12_nextTo_39 rfl (congrArg (fun z => v3 + z) (show Int32.ofInt 1 = 1 by decide)) (by decide) rfl ?_
  refine a_goto C 11 dX12_nextTo_42 (by decide) ?_
  refine a_sub [1, 2, 0] rfl ?_
  exact hk11 _ _ _ h
set_option maxHeartbeats 4000000 in
set_option maxRecDepth 100000 in
theorem tl_X12_nextTo_11 {p : Program} {l : Launch} {e : Env} {s : State} {m : MethodId} {args : Array Value} {below : List Frame} {meth : Method} {c : Code} {V : VEn} {post : Int32 → PoS → Prop} (C : CxS p s m args meth c V cX12_nextTo 4 RX12 (some .int)) : ∀ (n : Nat) (v1 : Int32) (v3 : Int32) (u : PoS), wl_X12_nextTo_11 post n v1 v3 u → AtS p l e (Rm 4) s m args below meth c V 4 (QI V below args s post) 11 [(0, .ref (eA V 48)), (1, .int v1), (3, .int v3)] [] u := by
  intro n
  induction n with
  | zero => intro v1 v3 u h; exact h.elim
  | succ n ih =>
    intro v1 v3 u h
    rw [wl_X12_nextTo_11] at h
    refine a_iload_n C 1 dX12_nextTo_11 rfl rfl ?_
    refine a_callSi C dX12_nextTo_12 (m_X12_beside l V h) bw_1346 bw_1347 bw_123 bw_1348 np_X12_beside rfl rfl (by decide) (Nat.le_of_ble_eq_true rfl) (fun r5 u6 h => ?_)
    refine a_iload_n C 2 dX12_nextTo_15 rfl rfl ?_
    refine a_callSi C dX12_nextTo_16 (m_X12_has l V h) bw_1240 bw_1241 bw_123 bw_1242 np_X12_has rfl rfl (by decide) (Nat.le_of_ble_eq_true rfl) (fun r7 u8 h => ?_)
    refine a_if_eq C 39 dX12_nextTo_19 (by decide) (fun c10 => ?_) (fun c10 => ?_)
    · have h := h.1 c10
      refine tj_X12_nextTo_39 C ih _ _ _ h
    · have h := h.2 c10
      refine a_aload_n C 0 dX12_nextTo_22 rfl rfl ?_
      refine a_getr C 23 (r := 57) dX12_nextTo_23 (by decide) rfl rfl rfl ib_12 (by decide) bw_1045 ?_
      refine a_iload_n C 2 dX12_nextTo_26 rfl rfl ?_
      refine b_iald C (Int32.toNatClampNeg v3) dX12_nextTo_27 (by decide) rfl h.1 rfl ?_
      have h := h.2
      refine a_aload_n C 0 dX12_nextTo_28 rfl rfl ?_
      refine a_getr C 23 (r := 57) dX12_nextTo_29 (by decide) rfl rfl rfl ib_12 (by decide) bw_1045 ?_
      refine a_iload_n C 1 dX12_nextTo_32 rfl rfl ?_
      refine b_iald C (Int32.toNatClampNeg v1) dX12_nextTo_33 (by decide) rfl h.1 rfl ?_
      have h := h.2
      refine a_iconst C 1 dX12_nextTo_34 (by decide) ?_
      refine a_isub C dX12_nextTo_35 ?_
      refine a_icmp_eq C 45 dX12_nextTo_36 (by decide) (fun c9 => ?_) (fun c9 => ?_)
      · have h := h.1 c9
        refine a_iload_n C 2 dX12_nextTo_45 rfl rfl ?_
        exact a_iret C dX12_nextTo_46 h
      · have h := h.2 c9
        refine tj_X12_nextTo_39 C ih _ _ _ h
theorem np_X12_nextTo : yX12_nextTo.cls ≠ "java/lang/invoke/MethodHandle" ∧ yX12_nextTo.cls ≠ "java/lang/invoke/VarHandle" ∧ (parseMethodDescriptor yX12_nextTo.desc).map (fun d => d.parameters.length) = some 2 := by decide +kernel
set_option maxHeartbeats 4000000 in
set_option maxRecDepth 100000 in
theorem m_X12_nextTo (l : Launch) (V : VEn) {a0 : Int32} {a1 : Int32} {u : PoS} {post : Int32 → PoS → Prop} (h : wp_X12_nextTo a0 a1 u post) : KI l V yX12_nextTo cX12_nextTo 4 .int 4 [.ref (eA V 48), .int a0, .int a1] u post := by
  refine KI_of (by decide) (Nat.le_of_ble_eq_true rfl) (lv := [(0, .ref (eA V 48)), (1, .int a0), (2, .int a1)]) rfl ?_
  intro p e s m args below meth c C
  rw [wp_X12_nextTo] at h
  refine a_aload_n C 0 dX12_nextTo_0 rfl rfl ?_
  refine a_iload_n C 2 dX12_nextTo_1 rfl rfl ?_
  refine a_aload_n C 0 dX12_nextTo_2 rfl rfl ?_
  refine a_callVi C dX12_nextTo_3 (m_X12_free l V h) bw_1395 bw_1397 bw_79 bw_123 bw_1398 (by decide) rfl rfl np_X12_free rfl rfl (by decide) (Nat.le_of_ble_eq_true rfl) (fun r1 u2 h => ?_)
  refine a_callVv C dX12_nextTo_6 (m_X12_layFar l V h) bw_1399 bw_1401 bw_80 bw_123 bw_1402 (by decide) rfl rfl np_X12_layFar rfl rfl (by decide) (Nat.le_of_ble_eq_true rfl) (fun u4 h => ?_)
  refine a_iconst C 0 dX12_nextTo_9 (by decide) ?_
  refine a_istore_n C [(3, .int 0), (0, .ref (eA V 48)), (1, .int a0), (2, .int a1)] dX12_nextTo_10 rfl (by decide) rfl ?_
  refine a_sub [1, 2, 0] rfl ?_
  obtain ⟨n11, h⟩ := h
  refine tl_X12_nextTo_11 C n11 _ _ _ h

/-! RainOnTheOneModel.goOn(I)V -/
def wp_X12_goOn (a0 : Int32) (u : PoS) (post : PoS → Prop) : Prop := ((a0 = (-1) → wp_X12_drawnBy 4 u (fun (r1 : Int32) (u2 : PoS) => wp_X12_sideOf (gI u 49 7) r1 u2 (fun (r3 : Int32) (u4 : PoS) => wp_X12_isFree r3 u4 (fun (r5 : Int32) (u6 : PoS) => ((r5 = 0 → post u6) ∧ (¬ r5 = 0 → post (pI u6 49 7 r3))))))) ∧ (¬ a0 = (-1) → wp_X12_get a0 0 u (fun (r8 : Int32) (u9 : PoS) => wp_X12_nextTo (gI u 49 7) r8 u9 (fun (r10 : Int32) (u11 : PoS) => post (pI u11 49 7 r10)))))
theorem np_X12_goOn : yX12_goOn.cls ≠ "java/lang/invoke/MethodHandle" ∧ yX12_goOn.cls ≠ "java/lang/invoke/VarHandle" ∧ (parseMethodDescriptor yX12_goOn.desc).map (fun d => d.parameters.length) = some 1 := by decide +kernel
set_option maxHeartbeats 4000000 in
set_option maxRecDepth 100000 in
theorem m_X12_goOn (l : Launch) (V : VEn) {a0 : Int32} {u : PoS} {post : PoS → Prop} (h : wp_X12_goOn a0 u post) : KV l V yX12_goOn cX12_goOn 3 5 [.ref (eA V 48), .int a0] u post := by
  refine KV_of (by decide) (Nat.le_of_ble_eq_true rfl) (lv := [(0, .ref (eA V 48)), (1, .int a0)]) rfl ?_
  intro p e s m args below meth c C
  rw [wp_X12_goOn] at h
  refine a_iload_n C 1 dX12_goOn_0 rfl rfl ?_
  refine a_iconst C (-1) dX12_goOn_1 (by decide) ?_
  refine a_icmp_eq C 30 dX12_goOn_2 (by decide) (fun c12 => ?_) (fun c12 => ?_)
  · have h := h.1 c12
    refine a_aload_n C 0 dX12_goOn_30 rfl rfl ?_
    refine a_getr C 0 (r := 49) dX12_goOn_31 (by decide) rfl rfl rfl ib_12 (by decide) bw_1022 ?_
    refine a_bipush C 7 dX12_goOn_34 (by decide) ?_
    refine b_iald C 7 dX12_goOn_36 (by decide) rfl (vp_lit (by decide)) (by decide) ?_
    refine a_aload_n C 0 dX12_goOn_37 rfl rfl ?_
    refine a_iconst C 4 dX12_goOn_38 (by decide) ?_
    refine a_callVi C dX12_goOn_39 (m_X12_drawnBy l V h) bw_1364 bw_1366 bw_73 bw_123 bw_1367 (by decide) rfl rfl np_X12_drawnBy rfl rfl (by decide) (Nat.le_of_ble_eq_true rfl) (fun r1 u2 h => ?_)
    refine a_callSi C dX12_goOn_42 (m_X12_sideOf l V h) bw_1349 bw_1350 bw_123 bw_1351 np_X12_sideOf rfl rfl (by decide) (Nat.le_of_ble_eq_true rfl) (fun r3 u4 h => ?_)
    refine a_istore_n C [(2, .int r3), (0, .ref (eA V 48)), (1, .int a0)] dX12_goOn_45 rfl (by decide) rfl ?_
    refine a_aload_n C 1 dX12_goOn_46 rfl rfl ?_
    refine a_iload_n C 0 dX12_goOn_47 rfl rfl ?_
    refine a_callVi C dX12_goOn_48 (m_X12_isFree l V h) bw_1140 bw_1142 bw_39 bw_123 bw_1143 (by decide) rfl rfl np_X12_isFree rfl rfl (by decide) (Nat.le_of_ble_eq_true rfl) (fun r5 u6 h => ?_)
    refine a_if_eq C 62 dX12_goOn_51 (by decide) (fun c7 => ?_) (fun c7 => ?_)
    · have h := h.1 c7
      exact a_vret C dX12_goOn_62 h
    · have h := h.2 c7
      refine a_aload_n C 1 dX12_goOn_54 rfl rfl ?_
      refine a_getr C 0 (r := 49) dX12_goOn_55 (by decide) rfl rfl rfl ib_12 (by decide) bw_1022 ?_
      refine a_bipush C 7 dX12_goOn_58 (by decide) ?_
      refine a_iload_n C 0 dX12_goOn_60 rfl rfl ?_
      refine b_iast C 7 dX12_goOn_61 (by decide) rfl (vp_lit (by decide)) (by decide) ?_
      exact a_vret C dX12_goOn_62 h
  · have h := h.2 c12
    refine a_aload_n C 0 dX12_goOn_5 rfl rfl ?_
    refine a_getr C 0 (r := 49) dX12_goOn_6 (by decide) rfl rfl rfl ib_12 (by decide) bw_1022 ?_
    refine a_bipush C 7 dX12_goOn_9 (by decide) ?_
    refine a_aload_n C 0 dX12_goOn_11 rfl rfl ?_
    refine a_aload_n C 0 dX12_goOn_12 rfl rfl ?_
    refine a_getr C 0 (r := 49) dX12_goOn_13 (by decide) rfl rfl rfl ib_12 (by decide) bw_1022 ?_
    refine a_bipush C 7 dX12_goOn_16 (by decide) ?_
    refine b_iald C 7 dX12_goOn_18 (by decide) rfl (vp_lit (by decide)) (by decide) ?_
    refine a_aload_n C 0 dX12_goOn_19 rfl rfl ?_
    refine a_iload_n C 1 dX12_goOn_20 rfl rfl ?_
    refine a_iconst C 0 dX12_goOn_21 (by decide) ?_
    refine a_callVi C dX12_goOn_22 (m_X12_get l V h) bw_1158 bw_1160 bw_42 bw_123 bw_1161 (by decide) rfl rfl np_X12_get rfl rfl (by decide) (Nat.le_of_ble_eq_true rfl) (fun r8 u9 h => ?_)
    refine a_callVi C dX12_goOn_25 (m_X12_nextTo l V h) bw_1467 bw_1469 bw_90 bw_123 bw_1470 (by decide) rfl rfl np_X12_nextTo rfl rfl (by decide) (Nat.le_of_ble_eq_true rfl) (fun r10 u11 h => ?_)
    refine b_iast C 7 dX12_goOn_28 (by decide) rfl (vp_lit (by decide)) (by decide) ?_
    exact a_vret C dX12_goOn_29 h

/-! RainOnTheOneModel.pass()V -/
def wj_X12_pass_91 (k51 : Int32 → Int32 → Int32 → PoS → Prop) (post : PoS → Prop) (v1 : Int32) (v2 : Int32) (v3 : Int32) (u : PoS) : Prop := k51 v1 v2 (v3 + 1) u
def wj_X12_pass_70 (k51 : Int32 → Int32 → Int32 → PoS → Prop) (post : PoS → Prop) (v1 : Int32) (v2 : Int32) (v3 : Int32) (u : PoS) : Prop := wp_X12_get v3 2 u (fun (r5 : Int32) (u6 : PoS) => wp_X12_held (Int32.toInt64 (r5 - 1)) 0 99 u6 (fun (r7 : Int32) (u8 : PoS) => wp_X12_put v3 2 r7 u8 (fun (u10 : PoS) => wj_X12_pass_91 k51 post v1 v2 v3 u10)))
def wl_X12_pass_51 (k97 : PoS → Prop) (post : PoS → Prop) : Nat → Int32 → Int32 → Int32 → PoS → Prop
  | 0, _, _, _, _ => False
  | n + 1, v1, v2, v3, u => (((gI u 49 0) ≤ v3 → k97  u) ∧ (¬ (gI u 49 0) ≤ v3 → ((v2 = 0 → wj_X12_pass_70 (wl_X12_pass_51 k97 post n) post v1 v2 v3 u) ∧ (¬ v2 = 0 → ((v3 = v1 → wj_X12_pass_91 (wl_X12_pass_51 k97 post n) post v1 v2 v3 u) ∧ (¬ v3 = v1 → wj_X12_pass_70 (wl_X12_pass_51 k97 post n) post v1 v2 v3 u))))))
def wj_X12_pass_49 (post : PoS → Prop) (v1 : Int32) (v2 : Int32) (u : PoS) : Prop := (∃ n51, wl_X12_pass_51 (fun (u14 : PoS) => post (pI u14 49 6 ((gI u14 49 6) + 1))) post n51 v1 v2 0 u)
def wj_X12_pass_31 (post : PoS → Prop) (v1 : Int32) (s0 : Int32) (u : PoS) : Prop := ((s0 = 0 → wp_X12_goOn v1 u (fun (u4 : PoS) => wj_X12_pass_49 post v1 s0 u4)) ∧ (¬ s0 = 0 → wp_X12_rain v1 u (fun (u16 : PoS) => wj_X12_pass_49 post v1 s0 u16)))
def wj_X12_pass_30 (post : PoS → Prop) (v1 : Int32) (u : PoS) : Prop := wj_X12_pass_31 post v1 0 u
def wp_X12_pass (u : PoS) (post : PoS → Prop) : Prop := wp_X12_goesFor u (fun (r1 : Int32) (u2 : PoS) => ((r1 = (-1) → wj_X12_pass_30 post r1 u2) ∧ (¬ r1 = (-1) → wp_X12_get r1 0 u2 (fun (r18 : Int32) (u19 : PoS) => ((¬ r18 = (gI u19 49 7) → wj_X12_pass_30 post r1 u19) ∧ (r18 = (gI u19 49 7) → wj_X12_pass_31 post r1 1 u19))))))
set_option maxHeartbeats 4000000 in
set_option maxRecDepth 100000 in
theorem tj_X12_pass_91 {p : Program} {l : Launch} {e : Env} {s : State} {m : MethodId} {args : Array Value} {below : List Frame} {meth : Method} {c : Code} {V : VEn} {k51 : Int32 → Int32 → Int32 → PoS → Prop} {post : PoS → Prop} (C : CxS p s m args meth c V cX12_pass 4 RX12 none) (hk51 : ∀ (v1 : Int32) (v2 : Int32) (v3 : Int32) (u : PoS), k51 v1 v2 v3 u → AtS p l e (Rm 7) s m args below meth c V 4 (QV V below args s post) 51 [(0, .ref (eA V 48)), (1, .int v1), (2, .int v2), (3, .int v3)] [] u) (v1 : Int32) (v2 : Int32) (v3 : Int32) (u : PoS) (h : wj_X12_pass_91 k51 post v1 v2 v3 u) : AtS p l e (Rm 7) s m args below meth c V 4 (QV V below args s post) 91 [(0, .ref (eA V 48)), (1, .int v1), (2, .int v2), (3, .int v3)] [] u := by
  rw [wj_X12_pass_91] at h
  refine a_iinc C (v3 + 1) 3 [(3, .int (v3 + 1)), (0, .ref (eA V 48)), (1, .int v1), (2, .int v2)] dX12_pass_91 rfl (congrArg (fun z => v3 + z) (show Int32.ofInt 1 = 1 by decide)) (by decide) rfl ?_
  refine a_goto C 51 dX12_pass_94 (by decide) ?_
  refine a_sub [1, 2, 3, 0] rfl ?_
  exact hk51 _ _ _ _ h
set_option maxHeartbeats 4000000 in
set_option maxRecDepth 100000 in
theorem tj_X12_pass_70 {p : Program} {l : Launch} {e : Env} {s : State} {m : MethodId} {args : Array Value} {below : List Frame} {meth : Method} {c : Code} {V : VEn} {k51 : Int32 → Int32 → Int32 → PoS → Prop} {post : PoS → Prop} (C : CxS p s m args meth c V cX12_pass 4 RX12 none) (hk51 : ∀ (v1 : Int32) (v2 : Int32) (v3 : Int32) (u : PoS), k51 v1 v2 v3 u → AtS p l e (Rm 7) s m args below meth c V 4 (QV V below args s post) 51 [(0, .ref (eA V 48)), (1, .int v1), (2, .int v2), (3, .int v3)] [] u) (v1 : Int32) (v2 : Int32) (v3 : Int32) (u : PoS) (h : wj_X12_pass_70 k51 post v1 v2 v3 u) : AtS p l e (Rm 7) s m args below meth c V 4 (QV V below args s post) 70 [(0, .ref (eA V 48)), (1, .int v1), (2, .int v2), (3, .int v3)] [] u := by
  rw [wj_X12_pass_70] at h
  refine a_aload_n C 0 dX12_pass_70 rfl rfl ?_
  refine a_iload_n C 3 dX12_pass_71 rfl rfl ?_
  refine a_iconst C 2 dX12_pass_72 (by decide) ?_
  refine a_aload_n C 0 dX12_pass_73 rfl rfl ?_
  refine a_iload_n C 3 dX12_pass_74 rfl rfl ?_
  refine a_iconst C 2 dX12_pass_75 (by decide) ?_
  refine a_callVi C dX12_pass_76 (m_X12_get l V h) bw_1158 bw_1160 bw_42 bw_123 bw_1161 (by decide) rfl rfl np_X12_get rfl rfl (by decide) (Nat.le_of_ble_eq_true rfl) (fun r5 u6 h => ?_)
  refine a_iconst C 1 dX12_pass_79 (by decide) ?_
  refine a_isub C dX12_pass_80 ?_
  refine a_i2l C dX12_pass_81 ?_
  refine a_iconst C 0 dX12_pass_82 (by decide) ?_
  refine a_bipush C 99 dX12_pass_83 (by decide) ?_
  refine a_callSi C dX12_pass_85 (m_X12_held l V h) bw_1448 bw_1449 bw_123 bw_1450 np_X12_held rfl rfl (by decide) (Nat.le_of_ble_eq_true rfl) (fun r7 u8 h => ?_)
  refine a_callVv C dX12_pass_88 (m_X12_put l V h) bw_1150 bw_1152 bw_40 bw_123 bw_1153 (by decide) rfl rfl np_X12_put rfl rfl (by decide) (Nat.le_of_ble_eq_true rfl) (fun u10 h => ?_)
  refine tj_X12_pass_91 C hk51 _ _ _ _ h
set_option maxHeartbeats 4000000 in
set_option maxRecDepth 100000 in
theorem tl_X12_pass_51 {p : Program} {l : Launch} {e : Env} {s : State} {m : MethodId} {args : Array Value} {below : List Frame} {meth : Method} {c : Code} {V : VEn} {k97 : PoS → Prop} {post : PoS → Prop} (C : CxS p s m args meth c V cX12_pass 4 RX12 none) (hk97 : ∀ (u : PoS), k97  u → AtS p l e (Rm 7) s m args below meth c V 4 (QV V below args s post) 97 [(0, .ref (eA V 48))] [] u) : ∀ (n : Nat) (v1 : Int32) (v2 : Int32) (v3 : Int32) (u : PoS), wl_X12_pass_51 k97 post n v1 v2 v3 u → AtS p l e (Rm 7) s m args below meth c V 4 (QV V below args s post) 51 [(0, .ref (eA V 48)), (1, .int v1), (2, .int v2), (3, .int v3)] [] u := by
  intro n
  induction n with
  | zero => intro v1 v2 v3 u h; exact h.elim
  | succ n ih =>
    intro v1 v2 v3 u h
    rw [wl_X12_pass_51] at h
    refine a_iload_n C 3 dX12_pass_51 rfl rfl ?_
    refine a_aload_n C 0 dX12_pass_52 rfl rfl ?_
    refine a_getr C 0 (r := 49) dX12_pass_53 (by decide) rfl rfl rfl ib_12 (by decide) bw_1022 ?_
    refine a_iconst C 0 dX12_pass_56 (by decide) ?_
    refine b_iald C 0 dX12_pass_57 (by decide) rfl (vp_lit (by decide)) (by decide) ?_
    refine a_icmp_ge C 97 dX12_pass_58 (by decide) (fun c13 => ?_) (fun c13 => ?_)
    · have h := h.1 c13
      refine a_sub [0] rfl ?_
      exact hk97 _ h
    · have h := h.2 c13
      refine a_iload_n C 2 dX12_pass_61 rfl rfl ?_
      refine a_if_eq C 70 dX12_pass_62 (by decide) (fun c12 => ?_) (fun c12 => ?_)
      · have h := h.1 c12
        refine tj_X12_pass_70 C ih _ _ _ _ h
      · have h := h.2 c12
        refine a_iload_n C 3 dX12_pass_65 rfl rfl ?_
        refine a_iload_n C 1 dX12_pass_66 rfl rfl ?_
        refine a_icmp_eq C 91 dX12_pass_67 (by decide) (fun c11 => ?_) (fun c11 => ?_)
        · have h := h.1 c11
          refine tj_X12_pass_91 C ih _ _ _ _ h
        · have h := h.2 c11
          refine tj_X12_pass_70 C ih _ _ _ _ h
set_option maxHeartbeats 4000000 in
set_option maxRecDepth 100000 in
theorem tj_X12_pass_49 {p : Program} {l : Launch} {e : Env} {s : State} {m : MethodId} {args : Array Value} {below : List Frame} {meth : Method} {c : Code} {V : VEn} {post : PoS → Prop} (C : CxS p s m args meth c V cX12_pass 4 RX12 none) (v1 : Int32) (v2 : Int32) (u : PoS) (h : wj_X12_pass_49 post v1 v2 u) : AtS p l e (Rm 7) s m args below meth c V 4 (QV V below args s post) 49 [(0, .ref (eA V 48)), (1, .int v1), (2, .int v2)] [] u := by
  rw [wj_X12_pass_49] at h
  refine a_iconst C 0 dX12_pass_49 (by decide) ?_
  refine a_istore_n C [(3, .int 0), (0, .ref (eA V 48)), (1, .int v1), (2, .int v2)] dX12_pass_50 rfl (by decide) rfl ?_
  refine a_sub [1, 2, 3, 0] rfl ?_
  obtain ⟨n51, h⟩ := h
  refine tl_X12_pass_51 C (fun u14 h => ?_) n51 _ _ _ _ h
  refine a_aload_n C 0 dX12_pass_97 rfl rfl ?_
  refine a_getr C 0 (r := 49) dX12_pass_98 (by decide) rfl rfl rfl ib_12 (by decide) bw_1022 ?_
  refine a_bipush C 6 dX12_pass_101 (by decide) ?_
  refine a_dup2 C dX12_pass_103 rfl rfl ?_
  refine b_iald C 6 dX12_pass_104 (by decide) rfl (vp_lit (by decide)) (by decide) ?_
  refine a_iconst C 1 dX12_pass_105 (by decide) ?_
  refine a_iadd C dX12_pass_106 ?_
  refine b_iast C 6 dX12_pass_107 (by decide) rfl (vp_lit (by decide)) (by decide) ?_
  exact a_vret C dX12_pass_108 h
set_option maxHeartbeats 4000000 in
set_option maxRecDepth 100000 in
theorem tj_X12_pass_31 {p : Program} {l : Launch} {e : Env} {s : State} {m : MethodId} {args : Array Value} {below : List Frame} {meth : Method} {c : Code} {V : VEn} {post : PoS → Prop} (C : CxS p s m args meth c V cX12_pass 4 RX12 none) (v1 : Int32) (s0 : Int32) (u : PoS) (h : wj_X12_pass_31 post v1 s0 u) : AtS p l e (Rm 7) s m args below meth c V 4 (QV V below args s post) 31 [(0, .ref (eA V 48)), (1, .int v1)] [.int s0] u := by
  rw [wj_X12_pass_31] at h
  refine a_istore_n C [(2, .int s0), (0, .ref (eA V 48)), (1, .int v1)] dX12_pass_31 rfl (by decide) rfl ?_
  refine a_iload_n C 0 dX12_pass_32 rfl rfl ?_
  refine a_if_eq C 44 dX12_pass_33 (by decide) (fun c17 => ?_) (fun c17 => ?_)
  · have h := h.1 c17
    refine a_aload_n C 1 dX12_pass_44 rfl rfl ?_
    refine a_iload_n C 2 dX12_pass_45 rfl rfl ?_
    refine a_callVv C dX12_pass_46 (m_X12_goOn l V h) bw_1463 bw_1465 bw_89 bw_123 bw_1466 (by decide) rfl rfl np_X12_goOn rfl rfl (by decide) (Nat.le_of_ble_eq_true rfl) (fun u4 h => ?_)
    refine a_sub [1, 2, 0] rfl ?_
    refine tj_X12_pass_49 C _ _ _ h
  · have h := h.2 c17
    refine a_aload_n C 1 dX12_pass_36 rfl rfl ?_
    refine a_iload_n C 2 dX12_pass_37 rfl rfl ?_
    refine a_callVv C dX12_pass_38 (m_X12_rain l V h) bw_1451 bw_1453 bw_86 bw_123 bw_1454 (by decide) rfl rfl np_X12_rain rfl rfl (by decide) (Nat.le_of_ble_eq_true rfl) (fun u16 h => ?_)
    refine a_goto C 49 dX12_pass_41 (by decide) ?_
    refine a_sub [1, 2, 0] rfl ?_
    refine tj_X12_pass_49 C _ _ _ h
set_option maxHeartbeats 4000000 in
set_option maxRecDepth 100000 in
theorem tj_X12_pass_30 {p : Program} {l : Launch} {e : Env} {s : State} {m : MethodId} {args : Array Value} {below : List Frame} {meth : Method} {c : Code} {V : VEn} {post : PoS → Prop} (C : CxS p s m args meth c V cX12_pass 4 RX12 none) (v1 : Int32) (u : PoS) (h : wj_X12_pass_30 post v1 u) : AtS p l e (Rm 7) s m args below meth c V 4 (QV V below args s post) 30 [(0, .ref (eA V 48)), (1, .int v1)] [] u := by
  rw [wj_X12_pass_30] at h
  refine a_iconst C 0 dX12_pass_30 (by decide) ?_
  refine tj_X12_pass_31 C _ _ _ h
theorem np_X12_pass : yX12_pass.cls ≠ "java/lang/invoke/MethodHandle" ∧ yX12_pass.cls ≠ "java/lang/invoke/VarHandle" ∧ (parseMethodDescriptor yX12_pass.desc).map (fun d => d.parameters.length) = some 0 := by decide +kernel
set_option maxHeartbeats 4000000 in
set_option maxRecDepth 100000 in
theorem m_X12_pass (l : Launch) (V : VEn) {u : PoS} {post : PoS → Prop} (h : wp_X12_pass  u post) : KV l V yX12_pass cX12_pass 4 7 [.ref (eA V 48)] u post := by
  refine KV_of (by decide) (Nat.le_of_ble_eq_true rfl) (lv := [(0, .ref (eA V 48))]) rfl ?_
  intro p e s m args below meth c C
  rw [wp_X12_pass] at h
  refine a_aload_n C 0 dX12_pass_0 rfl rfl ?_
  refine a_callVi C dX12_pass_1 (m_X12_goesFor l V h) bw_1387 bw_1389 bw_77 bw_123 bw_1390 (by decide) rfl rfl np_X12_goesFor rfl rfl (by decide) (Nat.le_of_ble_eq_true rfl) (fun r1 u2 h => ?_)
  refine a_istore_n C [(1, .int r1), (0, .ref (eA V 48))] dX12_pass_4 rfl (by decide) rfl ?_
  refine a_iload_n C 0 dX12_pass_5 rfl rfl ?_
  refine a_iconst C (-1) dX12_pass_6 (by decide) ?_
  refine a_icmp_eq C 30 dX12_pass_7 (by decide) (fun c21 => ?_) (fun c21 => ?_)
  · have h := h.1 c21
    refine a_sub [1, 0] rfl ?_
    refine tj_X12_pass_30 C _ _ h
  · have h := h.2 c21
    refine a_aload_n C 1 dX12_pass_10 rfl rfl ?_
    refine a_iload_n C 0 dX12_pass_11 rfl rfl ?_
    refine a_iconst C 0 dX12_pass_12 (by decide) ?_
    refine a_callVi C dX12_pass_13 (m_X12_get l V h) bw_1158 bw_1160 bw_42 bw_123 bw_1161 (by decide) rfl rfl np_X12_get rfl rfl (by decide) (Nat.le_of_ble_eq_true rfl) (fun r18 u19 h => ?_)
    refine a_aload_n C 1 dX12_pass_16 rfl rfl ?_
    refine a_getr C 0 (r := 49) dX12_pass_17 (by decide) rfl rfl rfl ib_12 (by decide) bw_1022 ?_
    refine a_bipush C 7 dX12_pass_20 (by decide) ?_
    refine b_iald C 7 dX12_pass_22 (by decide) rfl (vp_lit (by decide)) (by decide) ?_
    refine a_icmp_ne C 30 dX12_pass_23 (by decide) (fun c20 => ?_) (fun c20 => ?_)
    · have h := h.1 c20
      refine a_sub [1, 0] rfl ?_
      refine tj_X12_pass_30 C _ _ h
    · have h := h.2 c20
      refine a_iconst C 1 dX12_pass_26 (by decide) ?_
      refine a_goto C 31 dX12_pass_27 (by decide) ?_
      refine a_sub [1, 0] rfl ?_
      refine tj_X12_pass_31 C _ _ _ h

/-! RainOnTheOneModel.keep()V -/
def wl_X12_keep_84 (k114 : Int32 → PoS → Prop) (post : PoS → Prop) : Nat → Int32 → Int32 → PoS → Prop
  | 0, _, _, _ => False
  | n + 1, v1, v2, u => ((4 ≤ v2 → k114 v1 u) ∧ (¬ 4 ≤ v2 → vp_in (6 + v2) 3703 ∧ vp_in ((v1 + 1) + v2) 3703 ∧ wl_X12_keep_84 k114 post n v1 (v2 + 1) (pI u 49 (Int32.toNatClampNeg ((v1 + 1) + v2)) (gI u 49 (Int32.toNatClampNeg (6 + v2))))))
def wl_X12_keep_123 (k154 : Int32 → Int32 → PoS → Prop) (post : PoS → Prop) : Nat → Int32 → Int32 → Int32 → PoS → Prop
  | 0, _, _, _, _ => False
  | n + 1, v1, v2, v3, u => ((4 ≤ v3 → k154 v1 v2 u) ∧ (¬ 4 ≤ v3 → wp_X12_get v2 v3 u (fun (r4 : Int32) (u5 : PoS) => vp_in (((v1 + 5) + (4 * v2)) + v3) 3703 ∧ wl_X12_keep_123 k154 post n v1 v2 (v3 + 1) (pI u5 49 (Int32.toNatClampNeg (((v1 + 5) + (4 * v2)) + v3)) r4))))
def wl_X12_keep_116 (k160 : Int32 → PoS → Prop) (post : PoS → Prop) : Nat → Int32 → Int32 → PoS → Prop
  | 0, _, _, _ => False
  | n + 1, v1, v2, u => ((5 ≤ v2 → k160 v1 u) ∧ (¬ 5 ≤ v2 → (∃ n123, wl_X12_keep_123 (fun (v17 : Int32) (v27 : Int32) (u7 : PoS) => wl_X12_keep_116 k160 post n v17 (v27 + 1) u7) post n123 v1 v2 0 u)))
def wl_X12_keep_162 (k194 : Int32 → PoS → Prop) (post : PoS → Prop) : Nat → Int32 → Int32 → PoS → Prop
  | 0, _, _, _ => False
  | n + 1, v1, v2, u => ((30 ≤ v2 → k194 v1 u) ∧ (¬ 30 ≤ v2 → vp_in (40 + v2) 3703 ∧ vp_in ((v1 + 25) + v2) 3703 ∧ wl_X12_keep_162 k194 post n v1 (v2 + 1) (pI u 49 (Int32.toNatClampNeg ((v1 + 25) + v2)) (gI u 49 (Int32.toNatClampNeg (40 + v2))))))
def wl_X12_keep_196 (k229 : PoS → Prop) (post : PoS → Prop) : Nat → Int32 → Int32 → PoS → Prop
  | 0, _, _, _ => False
  | n + 1, v1, v2, u => ((60 ≤ v2 → k229  u) ∧ (¬ 60 ≤ v2 → vp_in (3643 + v2) 3703 ∧ vp_in ((v1 + 55) + v2) 3703 ∧ wl_X12_keep_196 k229 post n v1 (v2 + 1) (pI u 49 (Int32.toNatClampNeg ((v1 + 55) + v2)) (gI u 49 (Int32.toNatClampNeg (3643 + v2))))))
def wj_X12_keep_56 (post : PoS → Prop) (u : PoS) : Prop := ∀ x1 : Int32, x1 = (193 + (115 * (gI u 49 3))) → vp_in x1 3703 ∧ (∃ n84, wl_X12_keep_84 (fun (v13 : Int32) (u3 : PoS) => (∃ n116, wl_X12_keep_116 (fun (v19 : Int32) (u9 : PoS) => (∃ n162, wl_X12_keep_162 (fun (v111 : Int32) (u11 : PoS) => (∃ n196, wl_X12_keep_196 (fun (u13 : PoS) => post (pI u13 49 3 ((gI u13 49 3) + 1))) post n196 v111 0 u11)) post n162 v19 0 u9)) post n116 v13 0 u3)) post n84 x1 0 (pI u 49 (Int32.toNatClampNeg x1) (gI u 49 0)))
def wl_X12_keep_13 (k46 : PoS → Prop) (post : PoS → Prop) : Nat → Int32 → PoS → Prop
  | 0, _, _ => False
  | n + 1, v1, u => ((3335 ≤ v1 → k46  u) ∧ (¬ 3335 ≤ v1 → vp_in (308 + v1) 3703 ∧ vp_in (193 + v1) 3703 ∧ wl_X12_keep_13 k46 post n (v1 + 1) (pI u 49 (Int32.toNatClampNeg (193 + v1)) (gI u 49 (Int32.toNatClampNeg (308 + v1))))))
def wp_X12_keep (u : PoS) (post : PoS → Prop) : Prop := ((¬ (gI u 49 3) = 30 → wj_X12_keep_56 post  u) ∧ ((gI u 49 3) = 30 → (∃ n13, wl_X12_keep_13 (fun (u15 : PoS) => wj_X12_keep_56 post  (pI u15 49 3 ((gI u15 49 3) - 1))) post n13 0 u)))
set_option maxHeartbeats 4000000 in
set_option maxRecDepth 100000 in
theorem tl_X12_keep_84 {p : Program} {l : Launch} {e : Env} {s : State} {m : MethodId} {args : Array Value} {below : List Frame} {meth : Method} {c : Code} {V : VEn} {k114 : Int32 → PoS → Prop} {post : PoS → Prop} (C : CxS p s m args meth c V cX12_keep 4 RX12 none) (hk114 : ∀ (v1 : Int32) (u : PoS), k114 v1 u → AtS p l e (Rm 1) s m args below meth c V 4 (QV V below args s post) 114 [(0, .ref (eA V 48)), (1, .int v1)] [] u) : ∀ (n : Nat) (v1 : Int32) (v2 : Int32) (u : PoS), wl_X12_keep_84 k114 post n v1 v2 u → AtS p l e (Rm 1) s m args below meth c V 4 (QV V below args s post) 84 [(0, .ref (eA V 48)), (1, .int v1), (2, .int v2)] [] u := by
  intro n
  induction n with
  | zero => intro v1 v2 u h; exact h.elim
  | succ n ih =>
    intro v1 v2 u h
    rw [wl_X12_keep_84] at h
    refine a_iload_n C 2 dX12_keep_84 rfl rfl ?_
    refine a_iconst C 4 dX12_keep_85 (by decide) ?_
    refine a_icmp_ge C 114 dX12_keep_86 (by decide) (fun c2 => ?_) (fun c2 => ?_)
    · have h := h.1 c2
      refine a_sub [0, 1] rfl ?_
      exact hk114 _ _ h
    · have h := h.2 c2
      refine a_aload_n C 0 dX12_keep_89 rfl rfl ?_
      refine a_getr C 0 (r := 49) dX12_keep_90 (by decide) rfl rfl rfl ib_12 (by decide) bw_1022 ?_
      refine a_iload_n C 1 dX12_keep_93 rfl rfl ?_
      refine a_iconst C 1 dX12_keep_94 (by decide) ?_
      refine a_iadd C dX12_keep_95 ?_
      refine a_iload_n C 2 dX12_keep_96 rfl rfl ?_
      refine a_iadd C dX12_keep_97 ?_
      refine a_aload_n C 0 dX12_keep_98 rfl rfl ?_
      refine a_getr C 0 (r := 49) dX12_keep_99 (by decide) rfl rfl rfl ib_12 (by decide) bw_1022 ?_
      refine a_bipush C 6 dX12_keep_102 (by decide) ?_
      refine a_iload_n C 2 dX12_keep_104 rfl rfl ?_
      refine a_iadd C dX12_keep_105 ?_
      refine b_iald C (Int32.toNatClampNeg (6 + v2)) dX12_keep_106 (by decide) rfl h.1 rfl ?_
      have h := h.2
      refine b_iast C (Int32.toNatClampNeg ((v1 + 1) + v2)) dX12_keep_107 (by decide) rfl h.1 rfl ?_
      have h := h.2
      refine a_iinc C (v2 + 1) 2 [(2, .int (v2 + 1)), (0, .ref (eA V 48)), (1, .int v1)] dX12_keep_108 rfl (congrArg (fun z => v2 + z) (show Int32.ofInt 1 = 1 by decide)) (by decide) rfl ?_
      refine a_goto C 84 dX12_keep_111 (by decide) ?_
      refine a_sub [1, 2, 0] rfl ?_
      exact ih _ _ _ h
set_option maxHeartbeats 4000000 in
set_option maxRecDepth 100000 in
theorem tl_X12_keep_123 {p : Program} {l : Launch} {e : Env} {s : State} {m : MethodId} {args : Array Value} {below : List Frame} {meth : Method} {c : Code} {V : VEn} {k154 : Int32 → Int32 → PoS → Prop} {post : PoS → Prop} (C : CxS p s m args meth c V cX12_keep 4 RX12 none) (hk154 : ∀ (v1 : Int32) (v2 : Int32) (u : PoS), k154 v1 v2 u → AtS p l e (Rm 1) s m args below meth c V 4 (QV V below args s post) 154 [(0, .ref (eA V 48)), (1, .int v1), (2, .int v2)] [] u) : ∀ (n : Nat) (v1 : Int32) (v2 : Int32) (v3 : Int32) (u : PoS), wl_X12_keep_123 k154 post n v1 v2 v3 u → AtS p l e (Rm 1) s m args below meth c V 4 (QV V below args s post) 123 [(0, .ref (eA V 48)), (1, .int v1), (2, .int v2), (3, .int v3)] [] u := by
  intro n
  induction n with
  | zero => intro v1 v2 v3 u h; exact h.elim
  | succ n ih =>
    intro v1 v2 v3 u h
    rw [wl_X12_keep_123] at h
    refine a_iload_n C 3 dX12_keep_123 rfl rfl ?_
    refine a_iconst C 4 dX12_keep_124 (by decide) ?_
    refine a_icmp_ge C 154 dX12_keep_125 (by decide) (fun c6 => ?_) (fun c6 => ?_)
    · have h := h.1 c6
      refine a_sub [0, 1, 2] rfl ?_
      exact hk154 _ _ _ h
    · have h := h.2 c6
      refine a_aload_n C 0 dX12_keep_128 rfl rfl ?_
      refine a_getr C 0 (r := 49) dX12_keep_129 (by decide) rfl rfl rfl ib_12 (by decide) bw_1022 ?_
      refine a_iload_n C 1 dX12_keep_132 rfl rfl ?_
      refine a_iconst C 5 dX12_keep_133 (by decide) ?_
      refine a_iadd C dX12_keep_134 ?_
      refine a_iconst C 4 dX12_keep_135 (by decide) ?_
      refine a_iload_n C 2 dX12_keep_136 rfl rfl ?_
      refine a_imul C dX12_keep_137 ?_
      refine a_iadd C dX12_keep_138 ?_
      refine a_iload_n C 3 dX12_keep_139 rfl rfl ?_
      refine a_iadd C dX12_keep_140 ?_
      refine a_aload_n C 0 dX12_keep_141 rfl rfl ?_
      refine a_iload_n C 2 dX12_keep_142 rfl rfl ?_
      refine a_iload_n C 3 dX12_keep_143 rfl rfl ?_
      refine a_callVi C dX12_keep_144 (m_X12_get l V h) bw_1158 bw_1160 bw_42 bw_123 bw_1161 (by decide) rfl rfl np_X12_get rfl rfl (by decide) (Nat.le_of_ble_eq_true rfl) (fun r4 u5 h => ?_)
      refine b_iast C (Int32.toNatClampNeg (((v1 + 5) + (4 * v2)) + v3)) dX12_keep_147 (by decide) rfl h.1 rfl ?_
      have h := h.2
      refine a_iinc C (v3 + 1) 3 [(3, .int (v3 + 1)), (0, .ref (eA V 48)), (1, .int v1), (2, .int v2)] dX12_keep_148 rfl (congrArg (fun z => v3 + z) (show Int32.ofInt 1 = 1 by decide)) (by decide) rfl ?_
      refine a_goto C 123 dX12_keep_151 (by decide) ?_
      refine a_sub [1, 2, 3, 0] rfl ?_
      exact ih _ _ _ _ h
set_option maxHeartbeats 4000000 in
set_option maxRecDepth 100000 in
theorem tl_X12_keep_116 {p : Program} {l : Launch} {e : Env} {s : State} {m : MethodId} {args : Array Value} {below : List Frame} {meth : Method} {c : Code} {V : VEn} {k160 : Int32 → PoS → Prop} {post : PoS → Prop} (C : CxS p s m args meth c V cX12_keep 4 RX12 none) (hk160 : ∀ (v1 : Int32) (u : PoS), k160 v1 u → AtS p l e (Rm 1) s m args below meth c V 4 (QV V below args s post) 160 [(0, .ref (eA V 48)), (1, .int v1)] [] u) : ∀ (n : Nat) (v1 : Int32) (v2 : Int32) (u : PoS), wl_X12_keep_116 k160 post n v1 v2 u → AtS p l e (Rm 1) s m args below meth c V 4 (QV V below args s post) 116 [(0, .ref (eA V 48)), (1, .int v1), (2, .int v2)] [] u := by
  intro n
  induction n with
  | zero => intro v1 v2 u h; exact h.elim
  | succ n ih =>
    intro v1 v2 u h
    rw [wl_X12_keep_116] at h
    refine a_iload_n C 2 dX12_keep_116 rfl rfl ?_
    refine a_iconst C 5 dX12_keep_117 (by decide) ?_
    refine a_icmp_ge C 160 dX12_keep_118 (by decide) (fun c8 => ?_) (fun c8 => ?_)
    · have h := h.1 c8
      refine a_sub [0, 1] rfl ?_
      exact hk160 _ _ h
    · have h := h.2 c8
      refine a_iconst C 0 dX12_keep_121 (by decide) ?_
      refine a_istore_n C [(3, .int 0), (0, .ref (eA V 48)), (1, .int v1), (2, .int v2)] dX12_keep_122 rfl (by decide) rfl ?_
      refine a_sub [1, 2, 3, 0] rfl ?_
      obtain ⟨n123, h⟩ := h
      refine tl_X12_keep_123 C (fun v17 v27 u7 h => ?_) n123 _ _ _ _ h
      refine a_iinc C (v27 + 1) 2 [(2, .int (v27 + 1)), (0, .ref (eA V 48)), (1, .int v17)] dX12_keep_154 rfl (congrArg (fun z => v27 + z) (show Int32.ofInt 1 = 1 by decide)) (by decide) rfl ?_
      refine a_goto C 116 dX12_keep_157 (by decide) ?_
      refine a_sub [1, 2, 0] rfl ?_
      exact ih _ _ _ h
set_option maxHeartbeats 4000000 in
set_option maxRecDepth 100000 in
theorem tl_X12_keep_162 {p : Program} {l : Launch} {e : Env} {s : State} {m : MethodId} {args : Array Value} {below : List Frame} {meth : Method} {c : Code} {V : VEn} {k194 : Int32 → PoS → Prop} {post : PoS → Prop} (C : CxS p s m args meth c V cX12_keep 4 RX12 none) (hk194 : ∀ (v1 : Int32) (u : PoS), k194 v1 u → AtS p l e (Rm 1) s m args below meth c V 4 (QV V below args s post) 194 [(0, .ref (eA V 48)), (1, .int v1)] [] u) : ∀ (n : Nat) (v1 : Int32) (v2 : Int32) (u : PoS), wl_X12_keep_162 k194 post n v1 v2 u → AtS p l e (Rm 1) s m args below meth c V 4 (QV V below args s post) 162 [(0, .ref (eA V 48)), (1, .int v1), (2, .int v2)] [] u := by
  intro n
  induction n with
  | zero => intro v1 v2 u h; exact h.elim
  | succ n ih =>
    intro v1 v2 u h
    rw [wl_X12_keep_162] at h
    refine a_iload_n C 2 dX12_keep_162 rfl rfl ?_
    refine a_bipush C 30 dX12_keep_163 (by decide) ?_
    refine a_icmp_ge C 194 dX12_keep_165 (by decide) (fun c10 => ?_) (fun c10 => ?_)
    · have h := h.1 c10
      refine a_sub [0, 1] rfl ?_
      exact hk194 _ _ h
    · have h := h.2 c10
      refine a_aload_n C 0 dX12_keep_168 rfl rfl ?_
      refine a_getr C 0 (r := 49) dX12_keep_169 (by decide) rfl rfl rfl ib_12 (by decide) bw_1022 ?_
      refine a_iload_n C 1 dX12_keep_172 rfl rfl ?_
      refine a_bipush C 25 dX12_keep_173 (by decide) ?_
      refine a_iadd C dX12_keep_175 ?_
      refine a_iload_n C 2 dX12_keep_176 rfl rfl ?_
      refine a_iadd C dX12_keep_177 ?_
      refine a_aload_n C 0 dX12_keep_178 rfl rfl ?_
      refine a_getr C 0 (r := 49) dX12_keep_179 (by decide) rfl rfl rfl ib_12 (by decide) bw_1022 ?_
      refine a_bipush C 40 dX12_keep_182 (by decide) ?_
      refine a_iload_n C 2 dX12_keep_184 rfl rfl ?_
      refine a_iadd C dX12_keep_185 ?_
      refine b_iald C (Int32.toNatClampNeg (40 + v2)) dX12_keep_186 (by decide) rfl h.1 rfl ?_
      have h := h.2
      refine b_iast C (Int32.toNatClampNeg ((v1 + 25) + v2)) dX12_keep_187 (by decide) rfl h.1 rfl ?_
      have h := h.2
      refine a_iinc C (v2 + 1) 2 [(2, .int (v2 + 1)), (0, .ref (eA V 48)), (1, .int v1)] dX12_keep_188 rfl (congrArg (fun z => v2 + z) (show Int32.ofInt 1 = 1 by decide)) (by decide) rfl ?_
      refine a_goto C 162 dX12_keep_191 (by decide) ?_
      refine a_sub [1, 2, 0] rfl ?_
      exact ih _ _ _ h
set_option maxHeartbeats 4000000 in
set_option maxRecDepth 100000 in
theorem tl_X12_keep_196 {p : Program} {l : Launch} {e : Env} {s : State} {m : MethodId} {args : Array Value} {below : List Frame} {meth : Method} {c : Code} {V : VEn} {k229 : PoS → Prop} {post : PoS → Prop} (C : CxS p s m args meth c V cX12_keep 4 RX12 none) (hk229 : ∀ (u : PoS), k229  u → AtS p l e (Rm 1) s m args below meth c V 4 (QV V below args s post) 229 [(0, .ref (eA V 48))] [] u) : ∀ (n : Nat) (v1 : Int32) (v2 : Int32) (u : PoS), wl_X12_keep_196 k229 post n v1 v2 u → AtS p l e (Rm 1) s m args below meth c V 4 (QV V below args s post) 196 [(0, .ref (eA V 48)), (1, .int v1), (2, .int v2)] [] u := by
  intro n
  induction n with
  | zero => intro v1 v2 u h; exact h.elim
  | succ n ih =>
    intro v1 v2 u h
    rw [wl_X12_keep_196] at h
    refine a_iload_n C 2 dX12_keep_196 rfl rfl ?_
    refine a_bipush C 60 dX12_keep_197 (by decide) ?_
    refine a_icmp_ge C 229 dX12_keep_199 (by decide) (fun c12 => ?_) (fun c12 => ?_)
    · have h := h.1 c12
      refine a_sub [0] rfl ?_
      exact hk229 _ h
    · have h := h.2 c12
      refine a_aload_n C 0 dX12_keep_202 rfl rfl ?_
      refine a_getr C 0 (r := 49) dX12_keep_203 (by decide) rfl rfl rfl ib_12 (by decide) bw_1022 ?_
      refine a_iload_n C 1 dX12_keep_206 rfl rfl ?_
      refine a_bipush C 55 dX12_keep_207 (by decide) ?_
      refine a_iadd C dX12_keep_209 ?_
      refine a_iload_n C 2 dX12_keep_210 rfl rfl ?_
      refine a_iadd C dX12_keep_211 ?_
      refine a_aload_n C 0 dX12_keep_212 rfl rfl ?_
      refine a_getr C 0 (r := 49) dX12_keep_213 (by decide) rfl rfl rfl ib_12 (by decide) bw_1022 ?_
      refine a_sipush C 3643 dX12_keep_216 (by decide) ?_
      refine a_iload_n C 2 dX12_keep_219 rfl rfl ?_
      refine a_iadd C dX12_keep_220 ?_
      refine b_iald C (Int32.toNatClampNeg (3643 + v2)) dX12_keep_221 (by decide) rfl h.1 rfl ?_
      have h := h.2
      refine b_iast C (Int32.toNatClampNeg ((v1 + 55) + v2)) dX12_keep_222 (by decide) rfl h.1 rfl ?_
      have h := h.2
      refine a_iinc C (v2 + 1) 2 [(2, .int (v2 + 1)), (0, .ref (eA V 48)), (1, .int v1)] dX12_keep_223 rfl (congrArg (fun z => v2 + z) (show Int32.ofInt 1 = 1 by decide)) (by decide) rfl ?_
      refine a_goto C 196 dX12_keep_226 (by decide) ?_
      refine a_sub [1, 2, 0] rfl ?_
      exact ih _ _ _ h
set_option maxHeartbeats 4000000 in
set_option maxRecDepth 100000 in
theorem tj_X12_keep_56 {p : Program} {l : Launch} {e : Env} {s : State} {m : MethodId} {args : Array Value} {below : List Frame} {meth : Method} {c : Code} {V : VEn} {post : PoS → Prop} (C : CxS p s m args meth c V cX12_keep 4 RX12 none) (u : PoS) (h : wj_X12_keep_56 post  u) : AtS p l e (Rm 1) s m args below meth c V 4 (QV V below args s post) 56 [(0, .ref (eA V 48))] [] u := by
  rw [wj_X12_keep_56] at h
  refine a_sipush C 193 dX12_keep_56 (by decide) ?_
  refine a_bipush C 115 dX12_keep_59 (by decide) ?_
  refine a_aload_n C 0 dX12_keep_61 rfl rfl ?_
  refine a_getr C 0 (r := 49) dX12_keep_62 (by decide) rfl rfl rfl ib_12 (by decide) bw_1022 ?_
  refine a_iconst C 3 dX12_keep_65 (by decide) ?_
  refine b_iald C 3 dX12_keep_66 (by decide) rfl (vp_lit (by decide)) (by decide) ?_
  refine a_imul C dX12_keep_67 ?_
  refine a_iadd C dX12_keep_68 ?_
  refine a_topi (fun x1 ex1 => ?_)
  have h := h x1 ex1
  refine a_istore_n C [(1, .int x1), (0, .ref (eA V 48))] dX12_keep_69 rfl (by decide) rfl ?_
  refine a_aload_n C 1 dX12_keep_70 rfl rfl ?_
  refine a_getr C 0 (r := 49) dX12_keep_71 (by decide) rfl rfl rfl ib_12 (by decide) bw_1022 ?_
  refine a_iload_n C 0 dX12_keep_74 rfl rfl ?_
  refine a_aload_n C 1 dX12_keep_75 rfl rfl ?_
  refine a_getr C 0 (r := 49) dX12_keep_76 (by decide) rfl rfl rfl ib_12 (by decide) bw_1022 ?_
  refine a_iconst C 0 dX12_keep_79 (by decide) ?_
  refine b_iald C 0 dX12_keep_80 (by decide) rfl (vp_lit (by decide)) (by decide) ?_
  refine b_iast C (Int32.toNatClampNeg x1) dX12_keep_81 (by decide) rfl h.1 rfl ?_
  have h := h.2
  refine a_iconst C 0 dX12_keep_82 (by decide) ?_
  refine a_istore_n C [(2, .int 0), (1, .int x1), (0, .ref (eA V 48))] dX12_keep_83 rfl (by decide) rfl ?_
  refine a_sub [2, 1, 0] rfl ?_
  obtain ⟨n84, h⟩ := h
  refine tl_X12_keep_84 C (fun v13 u3 h => ?_) n84 _ _ _ h
  refine a_iconst C 0 dX12_keep_114 (by decide) ?_
  refine a_istore_n C [(2, .int 0), (0, .ref (eA V 48)), (1, .int v13)] dX12_keep_115 rfl (by decide) rfl ?_
  refine a_sub [1, 2, 0] rfl ?_
  obtain ⟨n116, h⟩ := h
  refine tl_X12_keep_116 C (fun v19 u9 h => ?_) n116 _ _ _ h
  refine a_iconst C 0 dX12_keep_160 (by decide) ?_
  refine a_istore_n C [(2, .int 0), (0, .ref (eA V 48)), (1, .int v19)] dX12_keep_161 rfl (by decide) rfl ?_
  refine a_sub [1, 2, 0] rfl ?_
  obtain ⟨n162, h⟩ := h
  refine tl_X12_keep_162 C (fun v111 u11 h => ?_) n162 _ _ _ h
  refine a_iconst C 0 dX12_keep_194 (by decide) ?_
  refine a_istore_n C [(2, .int 0), (0, .ref (eA V 48)), (1, .int v111)] dX12_keep_195 rfl (by decide) rfl ?_
  refine a_sub [1, 2, 0] rfl ?_
  obtain ⟨n196, h⟩ := h
  refine tl_X12_keep_196 C (fun u13 h => ?_) n196 _ _ _ h
  refine a_aload_n C 0 dX12_keep_229 rfl rfl ?_
  refine a_getr C 0 (r := 49) dX12_keep_230 (by decide) rfl rfl rfl ib_12 (by decide) bw_1022 ?_
  refine a_iconst C 3 dX12_keep_233 (by decide) ?_
  refine a_dup2 C dX12_keep_234 rfl rfl ?_
  refine b_iald C 3 dX12_keep_235 (by decide) rfl (vp_lit (by decide)) (by decide) ?_
  refine a_iconst C 1 dX12_keep_236 (by decide) ?_
  refine a_iadd C dX12_keep_237 ?_
  refine b_iast C 3 dX12_keep_238 (by decide) rfl (vp_lit (by decide)) (by decide) ?_
  exact a_vret C dX12_keep_239 h
set_option maxHeartbeats 4000000 in
set_option maxRecDepth 100000 in
theorem tl_X12_keep_13 {p : Program} {l : Launch} {e : Env} {s : State} {m : MethodId} {args : Array Value} {below : List Frame} {meth : Method} {c : Code} {V : VEn} {k46 : PoS → Prop} {post : PoS → Prop} (C : CxS p s m args meth c V cX12_keep 4 RX12 none) (hk46 : ∀ (u : PoS), k46  u → AtS p l e (Rm 1) s m args below meth c V 4 (QV V below args s post) 46 [(0, .ref (eA V 48))] [] u) : ∀ (n : Nat) (v1 : Int32) (u : PoS), wl_X12_keep_13 k46 post n v1 u → AtS p l e (Rm 1) s m args below meth c V 4 (QV V below args s post) 13 [(0, .ref (eA V 48)), (1, .int v1)] [] u := by
  intro n
  induction n with
  | zero => intro v1 u h; exact h.elim
  | succ n ih =>
    intro v1 u h
    rw [wl_X12_keep_13] at h
    refine a_iload_n C 1 dX12_keep_13 rfl rfl ?_
    refine a_sipush C 3335 dX12_keep_14 (by decide) ?_
    refine a_icmp_ge C 46 dX12_keep_17 (by decide) (fun c14 => ?_) (fun c14 => ?_)
    · have h := h.1 c14
      refine a_sub [0] rfl ?_
      exact hk46 _ h
    · have h := h.2 c14
      refine a_aload_n C 0 dX12_keep_20 rfl rfl ?_
      refine a_getr C 0 (r := 49) dX12_keep_21 (by decide) rfl rfl rfl ib_12 (by decide) bw_1022 ?_
      refine a_sipush C 193 dX12_keep_24 (by decide) ?_
      refine a_iload_n C 1 dX12_keep_27 rfl rfl ?_
      refine a_iadd C dX12_keep_28 ?_
      refine a_aload_n C 0 dX12_keep_29 rfl rfl ?_
      refine a_getr C 0 (r := 49) dX12_keep_30 (by decide) rfl rfl rfl ib_12 (by decide) bw_1022 ?_
      refine a_sipush C 308 dX12_keep_33 (by decide) ?_
      refine a_iload_n C 1 dX12_keep_36 rfl rfl ?_
      refine a_iadd C dX12_keep_37 ?_
      refine b_iald C (Int32.toNatClampNeg (308 + v1)) dX12_keep_38 (by decide) rfl h.1 rfl ?_
      have h := h.2
      refine b_iast C (Int32.toNatClampNeg (193 + v1)) dX12_keep_39 (by decide) rfl h.1 rfl ?_
      have h := h.2
      refine a_iinc C (v1 + 1) 1 [(1, .int (v1 + 1)), (0, .ref (eA V 48))] dX12_keep_40 rfl (congrArg (fun z => v1 + z) (show Int32.ofInt 1 = 1 by decide)) (by decide) rfl ?_
      refine a_goto C 13 dX12_keep_43 (by decide) ?_
      refine a_sub [1, 0] rfl ?_
      exact ih _ _ h
theorem np_X12_keep : yX12_keep.cls ≠ "java/lang/invoke/MethodHandle" ∧ yX12_keep.cls ≠ "java/lang/invoke/VarHandle" ∧ (parseMethodDescriptor yX12_keep.desc).map (fun d => d.parameters.length) = some 0 := by decide +kernel
set_option maxHeartbeats 4000000 in
set_option maxRecDepth 100000 in
theorem m_X12_keep (l : Launch) (V : VEn) {u : PoS} {post : PoS → Prop} (h : wp_X12_keep  u post) : KV l V yX12_keep cX12_keep 4 1 [.ref (eA V 48)] u post := by
  refine KV_of (by decide) (Nat.le_of_ble_eq_true rfl) (lv := [(0, .ref (eA V 48))]) rfl ?_
  intro p e s m args below meth c C
  rw [wp_X12_keep] at h
  refine a_aload_n C 0 dX12_keep_0 rfl rfl ?_
  refine a_getr C 0 (r := 49) dX12_keep_1 (by decide) rfl rfl rfl ib_12 (by decide) bw_1022 ?_
  refine a_iconst C 3 dX12_keep_4 (by decide) ?_
  refine b_iald C 3 dX12_keep_5 (by decide) rfl (vp_lit (by decide)) (by decide) ?_
  refine a_bipush C 30 dX12_keep_6 (by decide) ?_
  refine a_icmp_ne C 56 dX12_keep_8 (by decide) (fun c16 => ?_) (fun c16 => ?_)
  · have h := h.1 c16
    refine tj_X12_keep_56 C _ h
  · have h := h.2 c16
    refine a_iconst C 0 dX12_keep_11 (by decide) ?_
    refine a_istore_n C [(1, .int 0), (0, .ref (eA V 48))] dX12_keep_12 rfl (by decide) rfl ?_
    refine a_sub [1, 0] rfl ?_
    obtain ⟨n13, h⟩ := h
    refine tl_X12_keep_13 C (fun u15 h => ?_) n13 _ _ h
    refine a_aload_n C 0 dX12_keep_46 rfl rfl ?_
    refine a_getr C 0 (r := 49) dX12_keep_47 (by decide) rfl rfl rfl ib_12 (by decide) bw_1022 ?_
    refine a_iconst C 3 dX12_keep_50 (by decide) ?_
    refine a_dup2 C dX12_keep_51 rfl rfl ?_
    refine b_iald C 3 dX12_keep_52 (by decide) rfl (vp_lit (by decide)) (by decide) ?_
    refine a_iconst C 1 dX12_keep_53 (by decide) ?_
    refine a_isub C dX12_keep_54 ?_
    refine b_iast C 3 dX12_keep_55 (by decide) rfl (vp_lit (by decide)) (by decide) ?_
    refine tj_X12_keep_56 C _ h
