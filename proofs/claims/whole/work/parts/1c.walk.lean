/-! RainOnTheOne$Tour.plan(III)Z -/
def wp_X10_plan (a0 : Int32) (a1 : Int32) (a2 : Int32) (u : PoS) (post : Int32 → PoS → Prop) : Prop := wp_J6_bitCount_0f7a4 a1 u (fun (r1 : Int32) (u2 : PoS) => ∀ z3 : PoS, z3 = pI u2 35 3 r1 → ∀ z4 : PoS, z4 = pI z3 35 4 a2 → ∀ z5 : PoS, z5 = pI z4 35 0 1000000 → wp_X10_extend 8 0 a0 a1 0 z5 (fun (u7 : PoS) => ((1000000 ≤ (gI u7 35 0) → post 0 u7) ∧ (¬ 1000000 ≤ (gI u7 35 0) → post 1 u7))))
theorem np_X10_plan : yX10_plan.cls ≠ "java/lang/invoke/MethodHandle" ∧ yX10_plan.cls ≠ "java/lang/invoke/VarHandle" ∧ (parseMethodDescriptor yX10_plan.desc).map (fun d => d.parameters.length) = some 3 := by decide +kernel
set_option maxHeartbeats 4000000 in
set_option maxRecDepth 100000 in
theorem m_X10_plan (l : Launch) (V : VEn) {a0 : Int32} {a1 : Int32} {a2 : Int32} {u : PoS} {post : Int32 → PoS → Prop} (h : wp_X10_plan a0 a1 a2 u post) : KI l V yX10_plan cX10_plan 4 .boolean 10 [.ref (eA V 35), .int a0, .int a1, .int a2] u post := by
  refine KI_of (by decide) (Nat.le_of_ble_eq_true rfl) (lv := [(0, .ref (eA V 35)), (1, .int a0), (2, .int a1), (3, .int a2)]) rfl ?_
  intro p e s m args below meth c C
  rw [wp_X10_plan] at h
  refine a_aload_n C 0 dX10_plan_0 rfl rfl ?_
  refine a_iload_n C 2 dX10_plan_1 rfl rfl ?_
  refine a_callSi C dX10_plan_2 (m_J6_bitCount_0f7a4 l V h) bw_867 bw_739 bw_131 bw_740 np_J6_bitCount_0f7a4 rfl rfl (by decide) (Nat.le_of_ble_eq_true rfl) ⟨Nat.zero_le _, Nat.zero_le _⟩ (fun r1 u2 h => ?_)
  refine a_puti C (ty := .int) 3 dX10_plan_5 (by decide) rfl rfl rfl ib_10 (by decide) bw_173 tyX10 tyX10_ok nmX10 rfl (by decide +kernel) rfl rfl ?_
  refine a_topu (fun z3 ez3 => ?_)
  have h := h z3 ez3
  refine a_aload_n C 0 dX10_plan_8 rfl rfl ?_
  refine a_iload_n C 3 dX10_plan_9 rfl rfl ?_
  refine a_puti C (ty := .int) 4 dX10_plan_10 (by decide) rfl rfl rfl ib_10 (by decide) bw_174 tyX10 tyX10_ok nmX10 rfl (by decide +kernel) rfl rfl ?_
  refine a_topu (fun z4 ez4 => ?_)
  have h := h z4 ez4
  refine a_aload_n C 0 dX10_plan_13 rfl rfl ?_
  refine a_ldc C dX10_plan_14 bw_868 ?_
  refine a_puti C (ty := .int) 0 dX10_plan_16 (by decide) rfl rfl rfl ib_10 (by decide) bw_168 tyX10 tyX10_ok nmX10 rfl (by decide +kernel) rfl rfl ?_
  refine a_topu (fun z5 ez5 => ?_)
  have h := h z5 ez5
  refine a_aload_n C 0 dX10_plan_19 rfl rfl ?_
  refine a_iconst C 0 dX10_plan_20 (by decide) ?_
  refine a_iload_n C 1 dX10_plan_21 rfl rfl ?_
  refine a_iload_n C 2 dX10_plan_22 rfl rfl ?_
  refine a_iconst C 0 dX10_plan_23 (by decide) ?_
  refine a_callVv C dX10_plan_24 (m_X10_extend l V 8 _ _ _ _ _ _ h) bw_869 bw_871 bw_30 bw_114 bw_872 (by decide) rfl rfl np_X10_extend rfl rfl (by decide) (Nat.le_of_ble_eq_true rfl) ⟨Nat.zero_le _, Nat.zero_le _⟩ (fun u7 h => ?_)
  refine a_aload_n C 0 dX10_plan_27 rfl rfl ?_
  refine a_geti C 0 dX10_plan_28 (by decide) rfl rfl rfl ib_10 (by decide) bw_168 ?_
  refine a_ldc C dX10_plan_31 bw_868 ?_
  refine a_icmp_ge C 40 dX10_plan_33 (by decide) (fun c8 => ?_) (fun c8 => ?_)
  · have h := h.1 c8
    refine a_iconst C 0 dX10_plan_40 (by decide) ?_
    exact a_zret C rfl dX10_plan_41 h
  · have h := h.2 c8
    refine a_iconst C 1 dX10_plan_36 (by decide) ?_
    refine a_goto C 41 dX10_plan_37 (by decide) ?_
    exact a_zret C rfl dX10_plan_41 h

/-! RainOnTheOne.person(IZ)I -/
def wj_X11_person_51 (post : Int32 → PoS → Prop) (v3 : Int32) (s0 : Int32) (s1 : Int32) (u : PoS) : Prop := vp_in s1 2735 ∧ ∀ z5 : PoS, z5 = pI u 3 (Int32.toNatClampNeg s1) s0 → vp_in (10 + v3) 2735 ∧ ∀ z6 : PoS, z6 = pI z5 3 (Int32.toNatClampNeg (10 + v3)) 0 → vp_in (15 + v3) 2735 ∧ ∀ z7 : PoS, z7 = pI z6 3 (Int32.toNatClampNeg (15 + v3)) 0 → ∀ z8 : PoS, z8 = pI z7 3 84 (v3 + 1) → post v3 z8
def wp_X11_person (a0 : Int32) (a1 : Int32) (u : PoS) (post : Int32 → PoS → Prop) : Prop := ∀ x1 : Int32, x1 = (gI u 3 84) → wp_X8_isOpen 0 a0 u (fun (r2 : Int32) (u3 : PoS) => ((r2 = 0 → post (-1) u3) ∧ (¬ r2 = 0 → ((x1 < 5 → vp_in (0 + x1) 2735 ∧ ∀ z4 : PoS, z4 = pI u3 3 (Int32.toNatClampNeg (0 + x1)) a0 → ((a1 = 0 → wj_X11_person_51 post x1 0 (5 + x1) z4) ∧ (¬ a1 = 0 → wj_X11_person_51 post x1 1 (5 + x1) z4))) ∧ (¬ x1 < 5 → post (-1) u3)))))
set_option maxHeartbeats 4000000 in
set_option maxRecDepth 100000 in
theorem tj_X11_person_51 {p : Program} {l : Launch} {e : Env} {s : State} {m : MethodId} {args : Array Value} {below : List Frame} {meth : Method} {c : Code} {V : VEn} {post : Int32 → PoS → Prop} (C : CxS p s m args meth c V cX11_person 4 RX11 (some .int)) (v3 : Int32) (s0 : Int32) (s1 : Int32) (u : PoS) (h : wj_X11_person_51 post v3 s0 s1 u) : AtS p l e (Rm 2) s m args below meth c V 4 0 0 (QI V below args s post) 51 [(0, .ref (eA V 0)), (3, .int v3)] [.int s0, .int s1, .ref (eA V 3)] u := by
  rw [wj_X11_person_51] at h
  refine b_iast C (Int32.toNatClampNeg s1) dX11_person_51 (by decide) rfl h.1 rfl ?_
  have h := h.2
  refine a_topu (fun z5 ez5 => ?_)
  have h := h z5 ez5
  refine a_aload_n C 0 dX11_person_52 rfl rfl ?_
  refine a_getr C 2 (r := 3) dX11_person_53 (by decide) rfl rfl rfl ib_11 (by decide) bw_351 ?_
  refine a_bipush C 10 dX11_person_56 (by decide) ?_
  refine a_iload_n C 1 dX11_person_58 rfl rfl ?_
  refine a_iadd C dX11_person_59 ?_
  refine a_iconst C 0 dX11_person_60 (by decide) ?_
  refine b_iast C (Int32.toNatClampNeg (10 + v3)) dX11_person_61 (by decide) rfl h.1 rfl ?_
  have h := h.2
  refine a_topu (fun z6 ez6 => ?_)
  have h := h z6 ez6
  refine a_aload_n C 0 dX11_person_62 rfl rfl ?_
  refine a_getr C 2 (r := 3) dX11_person_63 (by decide) rfl rfl rfl ib_11 (by decide) bw_351 ?_
  refine a_bipush C 15 dX11_person_66 (by decide) ?_
  refine a_iload_n C 1 dX11_person_68 rfl rfl ?_
  refine a_iadd C dX11_person_69 ?_
  refine a_iconst C 0 dX11_person_70 (by decide) ?_
  refine b_iast C (Int32.toNatClampNeg (15 + v3)) dX11_person_71 (by decide) rfl h.1 rfl ?_
  have h := h.2
  refine a_topu (fun z7 ez7 => ?_)
  have h := h z7 ez7
  refine a_aload_n C 0 dX11_person_72 rfl rfl ?_
  refine a_getr C 2 (r := 3) dX11_person_73 (by decide) rfl rfl rfl ib_11 (by decide) bw_351 ?_
  refine a_bipush C 84 dX11_person_76 (by decide) ?_
  refine a_iload_n C 1 dX11_person_78 rfl rfl ?_
  refine a_iconst C 1 dX11_person_79 (by decide) ?_
  refine a_iadd C dX11_person_80 ?_
  refine b_iast C 84 dX11_person_81 (by decide) rfl (vp_lit (by decide)) (by decide) ?_
  refine a_topu (fun z8 ez8 => ?_)
  have h := h z8 ez8
  refine a_iload_n C 1 dX11_person_82 rfl rfl ?_
  exact a_iret C dX11_person_83 h
theorem np_X11_person : yX11_person.cls ≠ "java/lang/invoke/MethodHandle" ∧ yX11_person.cls ≠ "java/lang/invoke/VarHandle" ∧ (parseMethodDescriptor yX11_person.desc).map (fun d => d.parameters.length) = some 2 := by decide +kernel
set_option maxHeartbeats 4000000 in
set_option maxRecDepth 100000 in
theorem m_X11_person (l : Launch) (V : VEn) {a0 : Int32} {a1 : Int32} {u : PoS} {post : Int32 → PoS → Prop} (h : wp_X11_person a0 a1 u post) : KI l V yX11_person cX11_person 4 .int 2 [.ref (eA V 0), .int a0, .int a1] u post := by
  refine KI_of (by decide) (Nat.le_of_ble_eq_true rfl) (lv := [(0, .ref (eA V 0)), (1, .int a0), (2, .int a1)]) rfl ?_
  intro p e s m args below meth c C
  rw [wp_X11_person] at h
  refine a_aload_n C 0 dX11_person_0 rfl rfl ?_
  refine a_getr C 2 (r := 3) dX11_person_1 (by decide) rfl rfl rfl ib_11 (by decide) bw_351 ?_
  refine a_bipush C 84 dX11_person_4 (by decide) ?_
  refine b_iald C 84 dX11_person_6 (by decide) rfl (vp_lit (by decide)) (by decide) ?_
  refine a_topi (fun x1 ex1 => ?_)
  have h := h x1 ex1
  refine a_istore_n C [(3, .int x1), (0, .ref (eA V 0)), (1, .int a0), (2, .int a1)] dX11_person_7 rfl (by decide) rfl ?_
  refine a_aload_n C 1 dX11_person_8 rfl rfl ?_
  refine a_getr C 0 (r := 1) dX11_person_9 (by decide) rfl rfl rfl ib_11 (by decide) bw_349 ?_
  refine a_iload_n C 2 dX11_person_12 rfl rfl ?_
  refine a_callVi C dX11_person_13 (m_X8_isOpen l V (by decide) h) bw_393 bw_394 bw_395 bw_120 bw_396 (by decide) rfl rfl np_X8_isOpen rfl rfl (by decide) (Nat.le_of_ble_eq_true rfl) ⟨Nat.zero_le _, Nat.zero_le _⟩ (fun r2 u3 h => ?_)
  refine a_if_eq C 24 dX11_person_16 (by decide) (fun c11 => ?_) (fun c11 => ?_)
  · have h := h.1 c11
    refine a_iconst C (-1) dX11_person_24 (by decide) ?_
    exact a_iret C dX11_person_25 h
  · have h := h.2 c11
    refine a_iload_n C 0 dX11_person_19 rfl rfl ?_
    refine a_iconst C 5 dX11_person_20 (by decide) ?_
    refine a_icmp_lt C 26 dX11_person_21 (by decide) (fun c10 => ?_) (fun c10 => ?_)
    · have h := h.1 c10
      refine a_aload_n C 1 dX11_person_26 rfl rfl ?_
      refine a_getr C 2 (r := 3) dX11_person_27 (by decide) rfl rfl rfl ib_11 (by decide) bw_351 ?_
      refine a_iconst C 0 dX11_person_30 (by decide) ?_
      refine a_iload_n C 0 dX11_person_31 rfl rfl ?_
      refine a_iadd C dX11_person_32 ?_
      refine a_iload_n C 2 dX11_person_33 rfl rfl ?_
      refine b_iast C (Int32.toNatClampNeg (0 + x1)) dX11_person_34 (by decide) rfl h.1 rfl ?_
      have h := h.2
      refine a_topu (fun z4 ez4 => ?_)
      have h := h z4 ez4
      refine a_aload_n C 1 dX11_person_35 rfl rfl ?_
      refine a_getr C 2 (r := 3) dX11_person_36 (by decide) rfl rfl rfl ib_11 (by decide) bw_351 ?_
      refine a_iconst C 5 dX11_person_39 (by decide) ?_
      refine a_iload_n C 0 dX11_person_40 rfl rfl ?_
      refine a_iadd C dX11_person_41 ?_
      refine a_iload_n C 3 dX11_person_42 rfl rfl ?_
      refine a_if_eq C 50 dX11_person_43 (by decide) (fun c9 => ?_) (fun c9 => ?_)
      · have h := h.1 c9
        refine a_iconst C 0 dX11_person_50 (by decide) ?_
        refine a_sub [1, 0] rfl ?_
        refine tj_X11_person_51 C _ _ _ _ h
      · have h := h.2 c9
        refine a_iconst C 1 dX11_person_46 (by decide) ?_
        refine a_goto C 51 dX11_person_47 (by decide) ?_
        refine a_sub [1, 0] rfl ?_
        refine tj_X11_person_51 C _ _ _ _ h
    · have h := h.2 c10
      refine a_iconst C (-1) dX11_person_24 (by decide) ?_
      exact a_iret C dX11_person_25 h

/-! RainOnTheOne.field(II)Z -/
def wp_X11_field (a0 : Int32) (a1 : Int32) (u : PoS) (post : Int32 → PoS → Prop) : Prop := wp_X11_isCell a0 u (fun (r1 : Int32) (u2 : PoS) => ((r1 = 0 → post 0 u2) ∧ (¬ r1 = 0 → wp_X11_isWithin a1 0 99 u2 (fun (r3 : Int32) (u4 : PoS) => ((¬ r3 = 0 → vp_in (86 + a0) 2735 ∧ ∀ z5 : PoS, z5 = pI u4 3 (Int32.toNatClampNeg (86 + a0)) a1 → post 1 z5) ∧ (r3 = 0 → post 0 u4))))))
theorem np_X11_field : yX11_field.cls ≠ "java/lang/invoke/MethodHandle" ∧ yX11_field.cls ≠ "java/lang/invoke/VarHandle" ∧ (parseMethodDescriptor yX11_field.desc).map (fun d => d.parameters.length) = some 2 := by decide +kernel
set_option maxHeartbeats 4000000 in
set_option maxRecDepth 100000 in
theorem m_X11_field (l : Launch) (V : VEn) {a0 : Int32} {a1 : Int32} {u : PoS} {post : Int32 → PoS → Prop} (h : wp_X11_field a0 a1 u post) : KI l V yX11_field cX11_field 3 .boolean 1 [.ref (eA V 0), .int a0, .int a1] u post := by
  refine KI_of (by decide) (Nat.le_of_ble_eq_true rfl) (lv := [(0, .ref (eA V 0)), (1, .int a0), (2, .int a1)]) rfl ?_
  intro p e s m args below meth c C
  rw [wp_X11_field] at h
  refine a_iload_n C 1 dX11_field_0 rfl rfl ?_
  refine a_callSi C dX11_field_1 (m_X11_isCell l V h) bw_404 bw_398 bw_112 bw_399 np_X11_isCell rfl rfl (by decide) (Nat.le_of_ble_eq_true rfl) ⟨Nat.zero_le _, Nat.zero_le _⟩ (fun r1 u2 h => ?_)
  refine a_if_eq C 17 dX11_field_4 (by decide) (fun c7 => ?_) (fun c7 => ?_)
  · have h := h.1 c7
    refine a_iconst C 0 dX11_field_17 (by decide) ?_
    exact a_zret C rfl dX11_field_18 h
  · have h := h.2 c7
    refine a_iload_n C 2 dX11_field_7 rfl rfl ?_
    refine a_iconst C 0 dX11_field_8 (by decide) ?_
    refine a_bipush C 99 dX11_field_9 (by decide) ?_
    refine a_callSi C dX11_field_11 (m_X11_isWithin l V h) bw_405 bw_406 bw_112 bw_407 np_X11_isWithin rfl rfl (by decide) (Nat.le_of_ble_eq_true rfl) ⟨Nat.zero_le _, Nat.zero_le _⟩ (fun r3 u4 h => ?_)
    refine a_if_ne C 19 dX11_field_14 (by decide) (fun c6 => ?_) (fun c6 => ?_)
    · have h := h.1 c6
      refine a_aload_n C 0 dX11_field_19 rfl rfl ?_
      refine a_getr C 2 (r := 3) dX11_field_20 (by decide) rfl rfl rfl ib_11 (by decide) bw_351 ?_
      refine a_bipush C 86 dX11_field_23 (by decide) ?_
      refine a_iload_n C 1 dX11_field_25 rfl rfl ?_
      refine a_iadd C dX11_field_26 ?_
      refine a_iload_n C 2 dX11_field_27 rfl rfl ?_
      refine b_iast C (Int32.toNatClampNeg (86 + a0)) dX11_field_28 (by decide) rfl h.1 rfl ?_
      have h := h.2
      refine a_topu (fun z5 ez5 => ?_)
      have h := h z5 ez5
      refine a_iconst C 1 dX11_field_29 (by decide) ?_
      exact a_zret C rfl dX11_field_30 h
    · have h := h.2 c6
      refine a_iconst C 0 dX11_field_17 (by decide) ?_
      exact a_zret C rfl dX11_field_18 h

/-! RainOnTheOne.shed(IZ)Z -/
def wp_X11_shed (a0 : Int32) (a1 : Int32) (u : PoS) (post : Int32 → PoS → Prop) : Prop := wp_X11_isCell a0 u (fun (r1 : Int32) (u2 : PoS) => ((r1 = 0 → post 0 u2) ∧ (¬ r1 = 0 → wp_X8_isOpen 0 a0 u2 (fun (r3 : Int32) (u4 : PoS) => ((¬ a1 = r3 → post 0 u4) ∧ (a1 = r3 → (((gI u4 3 50) = a0 → post 0 u4) ∧ (¬ (gI u4 3 50) = a0 → wp_X8_peopleIn 0 a0 u4 (fun (r5 : Int32) (u6 : PoS) => ((r5 = 0 → ∀ z7 : PoS, z7 = pI u6 3 85 ((gI u6 3 85) ^^^ (1 <<< (a0 &&& 31))) → post 1 z7) ∧ (¬ r5 = 0 → post 0 u6)))))))))))
theorem np_X11_shed : yX11_shed.cls ≠ "java/lang/invoke/MethodHandle" ∧ yX11_shed.cls ≠ "java/lang/invoke/VarHandle" ∧ (parseMethodDescriptor yX11_shed.desc).map (fun d => d.parameters.length) = some 2 := by decide +kernel
set_option maxHeartbeats 4000000 in
set_option maxRecDepth 100000 in
theorem m_X11_shed (l : Launch) (V : VEn) {a0 : Int32} {a1 : Int32} {u : PoS} {post : Int32 → PoS → Prop} (h : wp_X11_shed a0 a1 u post) : KI l V yX11_shed cX11_shed 3 .boolean 2 [.ref (eA V 0), .int a0, .int a1] u post := by
  refine KI_of (by decide) (Nat.le_of_ble_eq_true rfl) (lv := [(0, .ref (eA V 0)), (1, .int a0), (2, .int a1)]) rfl ?_
  intro p e s m args below meth c C
  rw [wp_X11_shed] at h
  refine a_iload_n C 1 dX11_shed_0 rfl rfl ?_
  refine a_callSi C dX11_shed_1 (m_X11_isCell l V h) bw_404 bw_398 bw_112 bw_399 np_X11_isCell rfl rfl (by decide) (Nat.le_of_ble_eq_true rfl) ⟨Nat.zero_le _, Nat.zero_le _⟩ (fun r1 u2 h => ?_)
  refine a_if_eq C 41 dX11_shed_4 (by decide) (fun c11 => ?_) (fun c11 => ?_)
  · have h := h.1 c11
    refine a_iconst C 0 dX11_shed_41 (by decide) ?_
    exact a_zret C rfl dX11_shed_42 h
  · have h := h.2 c11
    refine a_iload_n C 2 dX11_shed_7 rfl rfl ?_
    refine a_aload_n C 0 dX11_shed_8 rfl rfl ?_
    refine a_getr C 0 (r := 1) dX11_shed_9 (by decide) rfl rfl rfl ib_11 (by decide) bw_349 ?_
    refine a_iload_n C 1 dX11_shed_12 rfl rfl ?_
    refine a_callVi C dX11_shed_13 (m_X8_isOpen l V (by decide) h) bw_393 bw_394 bw_395 bw_120 bw_396 (by decide) rfl rfl np_X8_isOpen rfl rfl (by decide) (Nat.le_of_ble_eq_true rfl) ⟨Nat.zero_le _, Nat.zero_le _⟩ (fun r3 u4 h => ?_)
    refine a_icmp_ne C 41 dX11_shed_16 (by decide) (fun c10 => ?_) (fun c10 => ?_)
    · have h := h.1 c10
      refine a_iconst C 0 dX11_shed_41 (by decide) ?_
      exact a_zret C rfl dX11_shed_42 h
    · have h := h.2 c10
      refine a_aload_n C 0 dX11_shed_19 rfl rfl ?_
      refine a_getr C 2 (r := 3) dX11_shed_20 (by decide) rfl rfl rfl ib_11 (by decide) bw_351 ?_
      refine a_bipush C 50 dX11_shed_23 (by decide) ?_
      refine b_iald C 50 dX11_shed_25 (by decide) rfl (vp_lit (by decide)) (by decide) ?_
      refine a_iload_n C 1 dX11_shed_26 rfl rfl ?_
      refine a_icmp_eq C 41 dX11_shed_27 (by decide) (fun c9 => ?_) (fun c9 => ?_)
      · have h := h.1 c9
        refine a_iconst C 0 dX11_shed_41 (by decide) ?_
        exact a_zret C rfl dX11_shed_42 h
      · have h := h.2 c9
        refine a_aload_n C 0 dX11_shed_30 rfl rfl ?_
        refine a_getr C 0 (r := 1) dX11_shed_31 (by decide) rfl rfl rfl ib_11 (by decide) bw_349 ?_
        refine a_iload_n C 1 dX11_shed_34 rfl rfl ?_
        refine a_callVi C dX11_shed_35 (m_X8_peopleIn l V (by decide) h) bw_412 bw_413 bw_414 bw_120 bw_415 (by decide) rfl rfl np_X8_peopleIn rfl rfl (by decide) (Nat.le_of_ble_eq_true rfl) ⟨Nat.zero_le _, Nat.zero_le _⟩ (fun r5 u6 h => ?_)
        refine a_if_eq C 43 dX11_shed_38 (by decide) (fun c8 => ?_) (fun c8 => ?_)
        · have h := h.1 c8
          refine a_aload_n C 0 dX11_shed_43 rfl rfl ?_
          refine a_getr C 2 (r := 3) dX11_shed_44 (by decide) rfl rfl rfl ib_11 (by decide) bw_351 ?_
          refine a_bipush C 85 dX11_shed_47 (by decide) ?_
          refine a_dup2 C dX11_shed_49 rfl rfl ?_
          refine b_iald C 85 dX11_shed_50 (by decide) rfl (vp_lit (by decide)) (by decide) ?_
          refine a_iconst C 1 dX11_shed_51 (by decide) ?_
          refine a_iload_n C 1 dX11_shed_52 rfl rfl ?_
          refine a_ishl C dX11_shed_53 ?_
          refine a_ixor C dX11_shed_54 ?_
          refine b_iast C 85 dX11_shed_55 (by decide) rfl (vp_lit (by decide)) (by decide) ?_
          refine a_topu (fun z7 ez7 => ?_)
          have h := h z7 ez7
          refine a_iconst C 1 dX11_shed_56 (by decide) ?_
          exact a_zret C rfl dX11_shed_57 h
        · have h := h.2 c8
          refine a_iconst C 0 dX11_shed_41 (by decide) ?_
          exact a_zret C rfl dX11_shed_42 h

/-! RainOnTheOne.takeBytes(I)V -/
def wl_X11_takeBytes_3 (post : PoS → Prop) : Nat → Int32 → Int32 → PoS → Prop
  | 0, _, _, _ => False
  | n + 1, v1, v2, u => ((v2 < 0 → post u) ∧ (¬ v2 < 0 → ((300 ≤ (gI u 0 7) → post u) ∧ (¬ 300 ≤ (gI u 0 7) → vp_in (gI u 0 7) 300 ∧ ∀ z1 : PoS, z1 = pI u 31 (Int32.toNatClampNeg (gI u 0 7)) ((ushr v1 v2) &&& 255) → ∀ z2 : PoS, z2 = pI z1 0 7 ((gI z1 0 7) + 1) → wl_X11_takeBytes_3 post n v1 (v2 + (-8)) z2))))
def wp_X11_takeBytes (a0 : Int32) (u : PoS) (post : PoS → Prop) : Prop := (∃ n3, wl_X11_takeBytes_3 post n3 a0 24 u)
set_option maxHeartbeats 4000000 in
set_option maxRecDepth 100000 in
theorem tl_X11_takeBytes_3 {p : Program} {l : Launch} {e : Env} {s : State} {m : MethodId} {args : Array Value} {below : List Frame} {meth : Method} {c : Code} {V : VEn} {post : PoS → Prop} (C : CxS p s m args meth c V cX11_takeBytes 3 RX11 none) : ∀ (n : Nat) (v1 : Int32) (v2 : Int32) (u : PoS), wl_X11_takeBytes_3 post n v1 v2 u → AtS p l e (Rm 0) s m args below meth c V 3 0 0 (QV V below args s post) 3 [(0, .ref (eA V 0)), (1, .int v1), (2, .int v2)] [] u := by
  intro n
  induction n with
  | zero => intro v1 v2 u h; exact h.elim
  | succ n ih =>
    intro v1 v2 u h
    rw [wl_X11_takeBytes_3] at h
    refine a_iload_n C 2 dX11_takeBytes_3 rfl rfl ?_
    refine a_if_lt C 49 dX11_takeBytes_4 (by decide) (fun c4 => ?_) (fun c4 => ?_)
    · have h := h.1 c4
      exact a_vret C dX11_takeBytes_49 h
    · have h := h.2 c4
      refine a_aload_n C 0 dX11_takeBytes_7 rfl rfl ?_
      refine a_geti C 7 dX11_takeBytes_8 (by decide) rfl rfl rfl ib_11 (by decide) bw_356 ?_
      refine a_sipush C 300 dX11_takeBytes_11 (by decide) ?_
      refine a_icmp_ge C 49 dX11_takeBytes_14 (by decide) (fun c3 => ?_) (fun c3 => ?_)
      · have h := h.1 c3
        exact a_vret C dX11_takeBytes_49 h
      · have h := h.2 c3
        refine a_aload_n C 0 dX11_takeBytes_17 rfl rfl ?_
        refine a_getr C 6 (r := 31) dX11_takeBytes_18 (by decide) rfl rfl rfl ib_11 (by decide) bw_355 ?_
        refine a_aload_n C 0 dX11_takeBytes_21 rfl rfl ?_
        refine a_geti C 7 dX11_takeBytes_22 (by decide) rfl rfl rfl ib_11 (by decide) bw_356 ?_
        refine a_iload_n C 1 dX11_takeBytes_25 rfl rfl ?_
        refine a_iload_n C 2 dX11_takeBytes_26 rfl rfl ?_
        refine b_iushr C dX11_takeBytes_27 ?_
        refine a_sipush C 255 dX11_takeBytes_28 (by decide) ?_
        refine a_iand C dX11_takeBytes_31 ?_
        refine b_iast C (Int32.toNatClampNeg (gI u 0 7)) dX11_takeBytes_32 (by decide) rfl h.1 rfl ?_
        have h := h.2
        refine a_topu (fun z1 ez1 => ?_)
        have h := h z1 ez1
        refine a_aload_n C 0 dX11_takeBytes_33 rfl rfl ?_
        refine a_dup C dX11_takeBytes_34 rfl ?_
        refine a_geti C 7 dX11_takeBytes_35 (by decide) rfl rfl rfl ib_11 (by decide) bw_356 ?_
        refine a_iconst C 1 dX11_takeBytes_38 (by decide) ?_
        refine a_iadd C dX11_takeBytes_39 ?_
        refine a_puti C (ty := .int) 7 dX11_takeBytes_40 (by decide) rfl rfl rfl ib_11 (by decide) bw_356 tyX11 tyX11_ok nmX11 rfl (by decide +kernel) rfl rfl ?_
        refine a_topu (fun z2 ez2 => ?_)
        have h := h z2 ez2
        refine a_iinc C (v2 + (-8)) 2 [(2, .int (v2 + (-8))), (0, .ref (eA V 0)), (1, .int v1)] dX11_takeBytes_43 rfl (congrArg (fun z => v2 + z) (show Int32.ofInt (-8) = (-8) by decide)) (by decide) rfl ?_
        refine a_goto C 3 dX11_takeBytes_46 (by decide) ?_
        refine a_sub [1, 2, 0] rfl ?_
        exact ih _ _ _ h
theorem np_X11_takeBytes : yX11_takeBytes.cls ≠ "java/lang/invoke/MethodHandle" ∧ yX11_takeBytes.cls ≠ "java/lang/invoke/VarHandle" ∧ (parseMethodDescriptor yX11_takeBytes.desc).map (fun d => d.parameters.length) = some 1 := by decide +kernel
set_option maxHeartbeats 4000000 in
set_option maxRecDepth 100000 in
theorem m_X11_takeBytes (l : Launch) (V : VEn) {a0 : Int32} {u : PoS} {post : PoS → Prop} (h : wp_X11_takeBytes a0 u post) : KV l V yX11_takeBytes cX11_takeBytes 3 0 [.ref (eA V 0), .int a0] u post := by
  refine KV_of (by decide) (Nat.le_of_ble_eq_true rfl) (lv := [(0, .ref (eA V 0)), (1, .int a0)]) rfl ?_
  intro p e s m args below meth c C
  rw [wp_X11_takeBytes] at h
  refine a_bipush C 24 dX11_takeBytes_0 (by decide) ?_
  refine a_istore_n C [(2, .int 24), (0, .ref (eA V 0)), (1, .int a0)] dX11_takeBytes_2 rfl (by decide) rfl ?_
  refine a_sub [1, 2, 0] rfl ?_
  obtain ⟨n3, h⟩ := h
  refine tl_X11_takeBytes_3 C n3 _ _ _ h

/-! RainOnTheOne.feed(IIIII)I -/
def wp_X11_feed (a0 : Int32) (a1 : Int32) (a2 : Int32) (a3 : Int32) (a4 : Int32) (u : PoS) (post : Int32 → PoS → Prop) : Prop := ((((gI u 0 7) + 20) ≤ 300 → wp_X11_takeBytes a0 u (fun (u2 : PoS) => wp_X11_takeBytes a1 u2 (fun (u4 : PoS) => wp_X11_takeBytes a2 u4 (fun (u6 : PoS) => wp_X11_takeBytes a3 u6 (fun (u8 : PoS) => wp_X11_takeBytes a4 u8 (fun (u10 : PoS) => post (gI u10 0 7) u10)))))) ∧ (¬ ((gI u 0 7) + 20) ≤ 300 → post (-1) u))
theorem np_X11_feed : yX11_feed.cls ≠ "java/lang/invoke/MethodHandle" ∧ yX11_feed.cls ≠ "java/lang/invoke/VarHandle" ∧ (parseMethodDescriptor yX11_feed.desc).map (fun d => d.parameters.length) = some 5 := by decide +kernel
set_option maxHeartbeats 4000000 in
set_option maxRecDepth 100000 in
theorem m_X11_feed (l : Launch) (V : VEn) {a0 : Int32} {a1 : Int32} {a2 : Int32} {a3 : Int32} {a4 : Int32} {u : PoS} {post : Int32 → PoS → Prop} (h : wp_X11_feed a0 a1 a2 a3 a4 u post) : KI l V yX11_feed cX11_feed 6 .int 1 [.ref (eA V 0), .int a0, .int a1, .int a2, .int a3, .int a4] u post := by
  refine KI_of (by decide) (Nat.le_of_ble_eq_true rfl) (lv := [(0, .ref (eA V 0)), (1, .int a0), (2, .int a1), (3, .int a2), (4, .int a3), (5, .int a4)]) rfl ?_
  intro p e s m args below meth c C
  rw [wp_X11_feed] at h
  refine a_aload_n C 0 dX11_feed_0 rfl rfl ?_
  refine a_geti C 7 dX11_feed_1 (by decide) rfl rfl rfl ib_11 (by decide) bw_356 ?_
  refine a_bipush C 20 dX11_feed_4 (by decide) ?_
  refine a_iadd C dX11_feed_6 ?_
  refine a_sipush C 300 dX11_feed_7 (by decide) ?_
  refine a_icmp_le C 15 dX11_feed_10 (by decide) (fun c11 => ?_) (fun c11 => ?_)
  · have h := h.1 c11
    refine a_aload_n C 0 dX11_feed_15 rfl rfl ?_
    refine a_iload_n C 1 dX11_feed_16 rfl rfl ?_
    refine a_callVv C dX11_feed_17 (m_X11_takeBytes l V h) bw_420 bw_422 bw_0 bw_112 bw_423 (by decide) rfl rfl np_X11_takeBytes rfl rfl (by decide) (Nat.le_of_ble_eq_true rfl) ⟨Nat.zero_le _, Nat.zero_le _⟩ (fun u2 h => ?_)
    refine a_aload_n C 0 dX11_feed_20 rfl rfl ?_
    refine a_iload_n C 2 dX11_feed_21 rfl rfl ?_
    refine a_callVv C dX11_feed_22 (m_X11_takeBytes l V h) bw_420 bw_422 bw_0 bw_112 bw_423 (by decide) rfl rfl np_X11_takeBytes rfl rfl (by decide) (Nat.le_of_ble_eq_true rfl) ⟨Nat.zero_le _, Nat.zero_le _⟩ (fun u4 h => ?_)
    refine a_aload_n C 0 dX11_feed_25 rfl rfl ?_
    refine a_iload_n C 3 dX11_feed_26 rfl rfl ?_
    refine a_callVv C dX11_feed_27 (m_X11_takeBytes l V h) bw_420 bw_422 bw_0 bw_112 bw_423 (by decide) rfl rfl np_X11_takeBytes rfl rfl (by decide) (Nat.le_of_ble_eq_true rfl) ⟨Nat.zero_le _, Nat.zero_le _⟩ (fun u6 h => ?_)
    refine a_aload_n C 0 dX11_feed_30 rfl rfl ?_
    refine a_iload C 4 dX11_feed_31 rfl ?_
    refine a_callVv C dX11_feed_33 (m_X11_takeBytes l V h) bw_420 bw_422 bw_0 bw_112 bw_423 (by decide) rfl rfl np_X11_takeBytes rfl rfl (by decide) (Nat.le_of_ble_eq_true rfl) ⟨Nat.zero_le _, Nat.zero_le _⟩ (fun u8 h => ?_)
    refine a_aload_n C 0 dX11_feed_36 rfl rfl ?_
    refine a_iload C 5 dX11_feed_37 rfl ?_
    refine a_callVv C dX11_feed_39 (m_X11_takeBytes l V h) bw_420 bw_422 bw_0 bw_112 bw_423 (by decide) rfl rfl np_X11_takeBytes rfl rfl (by decide) (Nat.le_of_ble_eq_true rfl) ⟨Nat.zero_le _, Nat.zero_le _⟩ (fun u10 h => ?_)
    refine a_aload_n C 0 dX11_feed_42 rfl rfl ?_
    refine a_geti C 7 dX11_feed_43 (by decide) rfl rfl rfl ib_11 (by decide) bw_356 ?_
    exact a_iret C dX11_feed_46 h
  · have h := h.2 c11
    refine a_iconst C (-1) dX11_feed_13 (by decide) ?_
    exact a_iret C dX11_feed_14 h

/-! RainOnTheOne.end(I)I -/
def wp_X11_end (a0 : Int32) (u : PoS) (post : Int32 → PoS → Prop) : Prop := wp_X11_isWithin a0 0 (gI u 0 7) u (fun (r1 : Int32) (u2 : PoS) => ((¬ r1 = 0 → ∀ z3 : PoS, z3 = pI u2 0 7 a0 → post a0 z3) ∧ (r1 = 0 → post (-1) u2)))
theorem np_X11_end : yX11_end.cls ≠ "java/lang/invoke/MethodHandle" ∧ yX11_end.cls ≠ "java/lang/invoke/VarHandle" ∧ (parseMethodDescriptor yX11_end.desc).map (fun d => d.parameters.length) = some 1 := by decide +kernel
set_option maxHeartbeats 4000000 in
set_option maxRecDepth 100000 in
theorem m_X11_end (l : Launch) (V : VEn) {a0 : Int32} {u : PoS} {post : Int32 → PoS → Prop} (h : wp_X11_end a0 u post) : KI l V yX11_end cX11_end 2 .int 1 [.ref (eA V 0), .int a0] u post := by
  refine KI_of (by decide) (Nat.le_of_ble_eq_true rfl) (lv := [(0, .ref (eA V 0)), (1, .int a0)]) rfl ?_
  intro p e s m args below meth c C
  rw [wp_X11_end] at h
  refine a_iload_n C 1 dX11_end_0 rfl rfl ?_
  refine a_iconst C 0 dX11_end_1 (by decide) ?_
  refine a_aload_n C 0 dX11_end_2 rfl rfl ?_
  refine a_geti C 7 dX11_end_3 (by decide) rfl rfl rfl ib_11 (by decide) bw_356 ?_
  refine a_callSi C dX11_end_6 (m_X11_isWithin l V h) bw_405 bw_406 bw_112 bw_407 np_X11_isWithin rfl rfl (by decide) (Nat.le_of_ble_eq_true rfl) ⟨Nat.zero_le _, Nat.zero_le _⟩ (fun r1 u2 h => ?_)
  refine a_if_ne C 14 dX11_end_9 (by decide) (fun c4 => ?_) (fun c4 => ?_)
  · have h := h.1 c4
    refine a_aload_n C 0 dX11_end_14 rfl rfl ?_
    refine a_iload_n C 1 dX11_end_15 rfl rfl ?_
    refine a_puti C (ty := .int) 7 dX11_end_16 (by decide) rfl rfl rfl ib_11 (by decide) bw_356 tyX11 tyX11_ok nmX11 rfl (by decide +kernel) rfl rfl ?_
    refine a_topu (fun z3 ez3 => ?_)
    have h := h z3 ez3
    refine a_iload_n C 1 dX11_end_19 rfl rfl ?_
    exact a_iret C dX11_end_20 h
  · have h := h.2 c4
    refine a_iconst C (-1) dX11_end_12 (by decide) ?_
    exact a_iret C dX11_end_13 h

/-! RainOnTheOne.fault(I)I -/
def wp_X11_fault (a0 : Int32) (u : PoS) (post : Int32 → PoS → Prop) : Prop := (((gI u 0 8) = 0 → post (-1) u) ∧ (¬ (gI u 0 8) = 0 → wp_X11_isWithin a0 0 1 u (fun (r1 : Int32) (u2 : PoS) => ((¬ r1 = 0 → ((¬ a0 = 0 → post (gI u2 27 1) u2) ∧ (a0 = 0 → post (gI u2 27 0) u2))) ∧ (r1 = 0 → post (-1) u2)))))
theorem np_X11_fault : yX11_fault.cls ≠ "java/lang/invoke/MethodHandle" ∧ yX11_fault.cls ≠ "java/lang/invoke/VarHandle" ∧ (parseMethodDescriptor yX11_fault.desc).map (fun d => d.parameters.length) = some 1 := by decide +kernel
set_option maxHeartbeats 4000000 in
set_option maxRecDepth 100000 in
theorem m_X11_fault (l : Launch) (V : VEn) {a0 : Int32} {u : PoS} {post : Int32 → PoS → Prop} (h : wp_X11_fault a0 u post) : KI l V yX11_fault cX11_fault 2 .int 1 [.ref (eA V 0), .int a0] u post := by
  refine KI_of (by decide) (Nat.le_of_ble_eq_true rfl) (lv := [(0, .ref (eA V 0)), (1, .int a0)]) rfl ?_
  intro p e s m args below meth c C
  rw [wp_X11_fault] at h
  refine a_aload_n C 0 dX11_fault_0 rfl rfl ?_
  refine a_geti C 8 dX11_fault_1 (by decide) rfl rfl rfl ib_11 (by decide) bw_357 ?_
  refine a_if_eq C 16 dX11_fault_4 (by decide) (fun c5 => ?_) (fun c5 => ?_)
  · have h := h.1 c5
    refine a_iconst C (-1) dX11_fault_16 (by decide) ?_
    exact a_iret C dX11_fault_17 h
  · have h := h.2 c5
    refine a_iload_n C 1 dX11_fault_7 rfl rfl ?_
    refine a_iconst C 0 dX11_fault_8 (by decide) ?_
    refine a_iconst C 1 dX11_fault_9 (by decide) ?_
    refine a_callSi C dX11_fault_10 (m_X11_isWithin l V h) bw_405 bw_406 bw_112 bw_407 np_X11_isWithin rfl rfl (by decide) (Nat.le_of_ble_eq_true rfl) ⟨Nat.zero_le _, Nat.zero_le _⟩ (fun r1 u2 h => ?_)
    refine a_if_ne C 18 dX11_fault_13 (by decide) (fun c4 => ?_) (fun c4 => ?_)
    · have h := h.1 c4
      refine a_iload_n C 1 dX11_fault_18 rfl rfl ?_
      refine a_if_ne C 32 dX11_fault_19 (by decide) (fun c3 => ?_) (fun c3 => ?_)
      · have h := h.1 c3
        refine a_aload_n C 0 dX11_fault_32 rfl rfl ?_
        refine a_getr C 5 (r := 27) dX11_fault_33 (by decide) rfl rfl rfl ib_11 (by decide) bw_354 ?_
        refine a_geti C 1 dX11_fault_36 (by decide) rfl rfl rfl ib_6 (by decide) bw_293 ?_
        exact a_iret C dX11_fault_39 h
      · have h := h.2 c3
        refine a_aload_n C 0 dX11_fault_22 rfl rfl ?_
        refine a_getr C 5 (r := 27) dX11_fault_23 (by decide) rfl rfl rfl ib_11 (by decide) bw_354 ?_
        refine a_geti C 0 dX11_fault_26 (by decide) rfl rfl rfl ib_6 (by decide) bw_291 ?_
        refine a_goto C 39 dX11_fault_29 (by decide) ?_
        exact a_iret C dX11_fault_39 h
    · have h := h.2 c4
      refine a_iconst C (-1) dX11_fault_16 (by decide) ?_
      exact a_iret C dX11_fault_17 h

/-! RainOnTheOne.isText(I)Z -/
def wp_X11_isText (a0 : Int32) (u : PoS) (post : Int32 → PoS → Prop) : Prop := ((a0 < 0 → post 0 u) ∧ (¬ a0 < 0 → (((gI u 3 117) ≤ a0 → post 0 u) ∧ (¬ (gI u 3 117) ≤ a0 → post 1 u))))
theorem np_X11_isText : yX11_isText.cls ≠ "java/lang/invoke/MethodHandle" ∧ yX11_isText.cls ≠ "java/lang/invoke/VarHandle" ∧ (parseMethodDescriptor yX11_isText.desc).map (fun d => d.parameters.length) = some 1 := by decide +kernel
set_option maxHeartbeats 4000000 in
set_option maxRecDepth 100000 in
theorem m_X11_isText (l : Launch) (V : VEn) {a0 : Int32} {u : PoS} {post : Int32 → PoS → Prop} (h : wp_X11_isText a0 u post) : KI l V yX11_isText cX11_isText 2 .boolean 0 [.ref (eA V 0), .int a0] u post := by
  refine KI_of (by decide) (Nat.le_of_ble_eq_true rfl) (lv := [(0, .ref (eA V 0)), (1, .int a0)]) rfl ?_
  intro p e s m args below meth c C
  rw [wp_X11_isText] at h
  refine a_iload_n C 1 dX11_isText_0 rfl rfl ?_
  refine a_if_lt C 19 dX11_isText_1 (by decide) (fun c2 => ?_) (fun c2 => ?_)
  · have h := h.1 c2
    refine a_iconst C 0 dX11_isText_19 (by decide) ?_
    exact a_zret C rfl dX11_isText_20 h
  · have h := h.2 c2
    refine a_iload_n C 1 dX11_isText_4 rfl rfl ?_
    refine a_aload_n C 0 dX11_isText_5 rfl rfl ?_
    refine a_getr C 2 (r := 3) dX11_isText_6 (by decide) rfl rfl rfl ib_11 (by decide) bw_351 ?_
    refine a_bipush C 117 dX11_isText_9 (by decide) ?_
    refine b_iald C 117 dX11_isText_11 (by decide) rfl (vp_lit (by decide)) (by decide) ?_
    refine a_icmp_ge C 19 dX11_isText_12 (by decide) (fun c1 => ?_) (fun c1 => ?_)
    · have h := h.1 c1
      refine a_iconst C 0 dX11_isText_19 (by decide) ?_
      exact a_zret C rfl dX11_isText_20 h
    · have h := h.2 c1
      refine a_iconst C 1 dX11_isText_15 (by decide) ?_
      refine a_goto C 20 dX11_isText_16 (by decide) ?_
      exact a_zret C rfl dX11_isText_20 h

/-! RainOnTheOne.by(I)Z -/
def wj_X11_by_15 (post : Int32 → PoS → Prop) (v1 : Int32) (u : PoS) : Prop := ∀ z1 : PoS, z1 = pI u 3 116 v1 → post 1 z1
def wp_X11_by (a0 : Int32) (u : PoS) (post : Int32 → PoS → Prop) : Prop := ((a0 = (-1) → wj_X11_by_15 post a0 u) ∧ (¬ a0 = (-1) → wp_X11_isText a0 u (fun (r2 : Int32) (u3 : PoS) => ((¬ r2 = 0 → wj_X11_by_15 post a0 u3) ∧ (r2 = 0 → post 0 u3)))))
set_option maxHeartbeats 4000000 in
set_option maxRecDepth 100000 in
theorem tj_X11_by_15 {p : Program} {l : Launch} {e : Env} {s : State} {m : MethodId} {args : Array Value} {below : List Frame} {meth : Method} {c : Code} {V : VEn} {post : Int32 → PoS → Prop} (C : CxS p s m args meth c V cX11_by 2 RX11 (some .boolean)) (v1 : Int32) (u : PoS) (h : wj_X11_by_15 post v1 u) : AtS p l e (Rm 1) s m args below meth c V 2 0 0 (QI V below args s post) 15 [(0, .ref (eA V 0)), (1, .int v1)] [] u := by
  rw [wj_X11_by_15] at h
  refine a_aload_n C 0 dX11_by_15 rfl rfl ?_
  refine a_getr C 2 (r := 3) dX11_by_16 (by decide) rfl rfl rfl ib_11 (by decide) bw_351 ?_
  refine a_bipush C 116 dX11_by_19 (by decide) ?_
  refine a_iload_n C 1 dX11_by_21 rfl rfl ?_
  refine b_iast C 116 dX11_by_22 (by decide) rfl (vp_lit (by decide)) (by decide) ?_
  refine a_topu (fun z1 ez1 => ?_)
  have h := h z1 ez1
  refine a_iconst C 1 dX11_by_23 (by decide) ?_
  exact a_zret C rfl dX11_by_24 h
theorem np_X11_by : yX11_by.cls ≠ "java/lang/invoke/MethodHandle" ∧ yX11_by.cls ≠ "java/lang/invoke/VarHandle" ∧ (parseMethodDescriptor yX11_by.desc).map (fun d => d.parameters.length) = some 1 := by decide +kernel
set_option maxHeartbeats 4000000 in
set_option maxRecDepth 100000 in
theorem m_X11_by (l : Launch) (V : VEn) {a0 : Int32} {u : PoS} {post : Int32 → PoS → Prop} (h : wp_X11_by a0 u post) : KI l V yX11_by cX11_by 2 .boolean 1 [.ref (eA V 0), .int a0] u post := by
  refine KI_of (by decide) (Nat.le_of_ble_eq_true rfl) (lv := [(0, .ref (eA V 0)), (1, .int a0)]) rfl ?_
  intro p e s m args below meth c C
  rw [wp_X11_by] at h
  refine a_iload_n C 1 dX11_by_0 rfl rfl ?_
  refine a_iconst C (-1) dX11_by_1 (by decide) ?_
  refine a_icmp_eq C 15 dX11_by_2 (by decide) (fun c5 => ?_) (fun c5 => ?_)
  · have h := h.1 c5
    refine tj_X11_by_15 C _ _ h
  · have h := h.2 c5
    refine a_aload_n C 0 dX11_by_5 rfl rfl ?_
    refine a_iload_n C 1 dX11_by_6 rfl rfl ?_
    refine a_callVi C dX11_by_7 (m_X11_isText l V h) bw_618 bw_620 bw_20 bw_112 bw_621 (by decide) rfl rfl np_X11_isText rfl rfl (by decide) (Nat.le_of_ble_eq_true rfl) ⟨Nat.zero_le _, Nat.zero_le _⟩ (fun r2 u3 h => ?_)
    refine a_if_ne C 15 dX11_by_10 (by decide) (fun c4 => ?_) (fun c4 => ?_)
    · have h := h.1 c4
      refine tj_X11_by_15 C _ _ h
    · have h := h.2 c4
      refine a_iconst C 0 dX11_by_13 (by decide) ?_
      exact a_zret C rfl dX11_by_14 h

/-! RainOnTheOne.isPerson(I)Z -/
def wp_X11_isPerson (a0 : Int32) (u : PoS) (post : Int32 → PoS → Prop) : Prop := ((a0 < 0 → post 0 u) ∧ (¬ a0 < 0 → (((gI u 3 84) ≤ a0 → post 0 u) ∧ (¬ (gI u 3 84) ≤ a0 → post 1 u))))
theorem np_X11_isPerson : yX11_isPerson.cls ≠ "java/lang/invoke/MethodHandle" ∧ yX11_isPerson.cls ≠ "java/lang/invoke/VarHandle" ∧ (parseMethodDescriptor yX11_isPerson.desc).map (fun d => d.parameters.length) = some 1 := by decide +kernel
set_option maxHeartbeats 4000000 in
set_option maxRecDepth 100000 in
theorem m_X11_isPerson (l : Launch) (V : VEn) {a0 : Int32} {u : PoS} {post : Int32 → PoS → Prop} (h : wp_X11_isPerson a0 u post) : KI l V yX11_isPerson cX11_isPerson 2 .boolean 0 [.ref (eA V 0), .int a0] u post := by
  refine KI_of (by decide) (Nat.le_of_ble_eq_true rfl) (lv := [(0, .ref (eA V 0)), (1, .int a0)]) rfl ?_
  intro p e s m args below meth c C
  rw [wp_X11_isPerson] at h
  refine a_iload_n C 1 dX11_isPerson_0 rfl rfl ?_
  refine a_if_lt C 19 dX11_isPerson_1 (by decide) (fun c2 => ?_) (fun c2 => ?_)
  · have h := h.1 c2
    refine a_iconst C 0 dX11_isPerson_19 (by decide) ?_
    exact a_zret C rfl dX11_isPerson_20 h
  · have h := h.2 c2
    refine a_iload_n C 1 dX11_isPerson_4 rfl rfl ?_
    refine a_aload_n C 0 dX11_isPerson_5 rfl rfl ?_
    refine a_getr C 2 (r := 3) dX11_isPerson_6 (by decide) rfl rfl rfl ib_11 (by decide) bw_351 ?_
    refine a_bipush C 84 dX11_isPerson_9 (by decide) ?_
    refine b_iald C 84 dX11_isPerson_11 (by decide) rfl (vp_lit (by decide)) (by decide) ?_
    refine a_icmp_ge C 19 dX11_isPerson_12 (by decide) (fun c1 => ?_) (fun c1 => ?_)
    · have h := h.1 c1
      refine a_iconst C 0 dX11_isPerson_19 (by decide) ?_
      exact a_zret C rfl dX11_isPerson_20 h
    · have h := h.2 c1
      refine a_iconst C 1 dX11_isPerson_15 (by decide) ?_
      refine a_goto C 20 dX11_isPerson_16 (by decide) ?_
      exact a_zret C rfl dX11_isPerson_20 h

/-! RainOnTheOne.remember()V -/
def wp_X11_remember (u : PoS) (post : PoS → Prop) : Prop := ∀ x1 : Int32, x1 = (irem ((gI u 3 184) + (gI u 3 183)) 30) → (¬ (0 : Int32) < 0 ∧ ¬ (185 + (x1 * 85)) < 0 ∧ ¬ (85 : Int32) < 0 ∧ Int32.toNatClampNeg 0 + Int32.toNatClampNeg 85 ≤ 2735 ∧ Int32.toNatClampNeg (185 + (x1 * 85)) + Int32.toNatClampNeg 85 ≤ 2735) ∧ ∀ z2 : PoS, z2 = cI u 3 3 (Int32.toNatClampNeg 0) (Int32.toNatClampNeg (185 + (x1 * 85))) (Int32.toNatClampNeg 85) → ((30 ≤ (gI z2 3 183) → ∀ z3 : PoS, z3 = pI z2 3 184 (irem ((gI z2 3 184) + 1) 30) → post z3) ∧ (¬ 30 ≤ (gI z2 3 183) → ∀ z4 : PoS, z4 = pI z2 3 183 ((gI z2 3 183) + 1) → post z4))
theorem np_X11_remember : yX11_remember.cls ≠ "java/lang/invoke/MethodHandle" ∧ yX11_remember.cls ≠ "java/lang/invoke/VarHandle" ∧ (parseMethodDescriptor yX11_remember.desc).map (fun d => d.parameters.length) = some 0 := by decide +kernel
set_option maxHeartbeats 4000000 in
set_option maxRecDepth 100000 in
theorem m_X11_remember (l : Launch) (V : VEn) {u : PoS} {post : PoS → Prop} (h : wp_X11_remember  u post) : KV l V yX11_remember cX11_remember 2 1 [.ref (eA V 0)] u post := by
  refine KV_of (by decide) (Nat.le_of_ble_eq_true rfl) (lv := [(0, .ref (eA V 0))]) rfl ?_
  intro p e s m args below meth c C
  rw [wp_X11_remember] at h
  refine a_aload_n C 0 dX11_remember_0 rfl rfl ?_
  refine a_getr C 2 (r := 3) dX11_remember_1 (by decide) rfl rfl rfl ib_11 (by decide) bw_351 ?_
  refine a_sipush C 184 dX11_remember_4 (by decide) ?_
  refine b_iald C 184 dX11_remember_7 (by decide) rfl (vp_lit (by decide)) (by decide) ?_
  refine a_aload_n C 0 dX11_remember_8 rfl rfl ?_
  refine a_getr C 2 (r := 3) dX11_remember_9 (by decide) rfl rfl rfl ib_11 (by decide) bw_351 ?_
  refine a_sipush C 183 dX11_remember_12 (by decide) ?_
  refine b_iald C 183 dX11_remember_15 (by decide) rfl (vp_lit (by decide)) (by decide) ?_
  refine a_iadd C dX11_remember_16 ?_
  refine a_bipush C 30 dX11_remember_17 (by decide) ?_
  refine b_irem C dX11_remember_19 (by decide) ?_
  refine a_topi (fun x1 ex1 => ?_)
  have h := h x1 ex1
  refine a_istore_n C [(1, .int x1), (0, .ref (eA V 0))] dX11_remember_20 rfl (by decide) rfl ?_
  refine a_aload_n C 1 dX11_remember_21 rfl rfl ?_
  refine a_getr C 2 (r := 3) dX11_remember_22 (by decide) rfl rfl rfl ib_11 (by decide) bw_351 ?_
  refine a_iconst C 0 dX11_remember_25 (by decide) ?_
  refine a_aload_n C 1 dX11_remember_26 rfl rfl ?_
  refine a_getr C 2 (r := 3) dX11_remember_27 (by decide) rfl rfl rfl ib_11 (by decide) bw_351 ?_
  refine a_sipush C 185 dX11_remember_30 (by decide) ?_
  refine a_iload_n C 0 dX11_remember_33 rfl rfl ?_
  refine a_bipush C 85 dX11_remember_34 (by decide) ?_
  refine a_imul C dX11_remember_36 ?_
  refine a_iadd C dX11_remember_37 ?_
  refine a_bipush C 85 dX11_remember_38 (by decide) ?_
  obtain ⟨⟨q1, q2, q3, q4, q5⟩, h⟩ := h
  refine a_copy C dX11_remember_40 bw_346 bw_348 bw_347 bw_122 (by decide) (by decide) rfl rfl q1 q2 q3 q4 q5 (by decide) (Nat.le_of_ble_eq_true rfl) ?_
  refine a_topu (fun z2 ez2 => ?_)
  have h := h z2 ez2
  refine a_aload_n C 1 dX11_remember_43 rfl rfl ?_
  refine a_getr C 2 (r := 3) dX11_remember_44 (by decide) rfl rfl rfl ib_11 (by decide) bw_351 ?_
  refine a_sipush C 183 dX11_remember_47 (by decide) ?_
  refine b_iald C 183 dX11_remember_50 (by decide) rfl (vp_lit (by decide)) (by decide) ?_
  refine a_bipush C 30 dX11_remember_51 (by decide) ?_
  refine a_icmp_ge C 71 dX11_remember_53 (by decide) (fun c5 => ?_) (fun c5 => ?_)
  · have h := h.1 c5
    refine a_aload_n C 1 dX11_remember_71 rfl rfl ?_
    refine a_getr C 2 (r := 3) dX11_remember_72 (by decide) rfl rfl rfl ib_11 (by decide) bw_351 ?_
    refine a_sipush C 184 dX11_remember_75 (by decide) ?_
    refine a_aload_n C 1 dX11_remember_78 rfl rfl ?_
    refine a_getr C 2 (r := 3) dX11_remember_79 (by decide) rfl rfl rfl ib_11 (by decide) bw_351 ?_
    refine a_sipush C 184 dX11_remember_82 (by decide) ?_
    refine b_iald C 184 dX11_remember_85 (by decide) rfl (vp_lit (by decide)) (by decide) ?_
    refine a_iconst C 1 dX11_remember_86 (by decide) ?_
    refine a_iadd C dX11_remember_87 ?_
    refine a_bipush C 30 dX11_remember_88 (by decide) ?_
    refine b_irem C dX11_remember_90 (by decide) ?_
    refine b_iast C 184 dX11_remember_91 (by decide) rfl (vp_lit (by decide)) (by decide) ?_
    refine a_topu (fun z3 ez3 => ?_)
    have h := h z3 ez3
    exact a_vret C dX11_remember_92 h
  · have h := h.2 c5
    refine a_aload_n C 1 dX11_remember_56 rfl rfl ?_
    refine a_getr C 2 (r := 3) dX11_remember_57 (by decide) rfl rfl rfl ib_11 (by decide) bw_351 ?_
    refine a_sipush C 183 dX11_remember_60 (by decide) ?_
    refine a_dup2 C dX11_remember_63 rfl rfl ?_
    refine b_iald C 183 dX11_remember_64 (by decide) rfl (vp_lit (by decide)) (by decide) ?_
    refine a_iconst C 1 dX11_remember_65 (by decide) ?_
    refine a_iadd C dX11_remember_66 ?_
    refine b_iast C 183 dX11_remember_67 (by decide) rfl (vp_lit (by decide)) (by decide) ?_
    refine a_topu (fun z4 ez4 => ?_)
    have h := h z4 ez4
    refine a_goto C 92 dX11_remember_68 (by decide) ?_
    exact a_vret C dX11_remember_92 h

/-! RainOnTheOne.walk(II)Z -/
def wp_X11_walk (a0 : Int32) (a1 : Int32) (u : PoS) (post : Int32 → PoS → Prop) : Prop := wp_X11_isPerson a0 u (fun (r1 : Int32) (u2 : PoS) => ((r1 = 0 → post 0 u2) ∧ (¬ r1 = 0 → wp_X8_canWalk 0 a0 a1 u2 (fun (r3 : Int32) (u4 : PoS) => ((¬ r3 = 0 → wp_X11_remember u4 (fun (u6 : PoS) => vp_in (0 + a0) 2735 ∧ ∀ z7 : PoS, z7 = pI u6 3 (Int32.toNatClampNeg (0 + a0)) a1 → post 1 z7)) ∧ (r3 = 0 → post 0 u4))))))
theorem np_X11_walk : yX11_walk.cls ≠ "java/lang/invoke/MethodHandle" ∧ yX11_walk.cls ≠ "java/lang/invoke/VarHandle" ∧ (parseMethodDescriptor yX11_walk.desc).map (fun d => d.parameters.length) = some 2 := by decide +kernel
set_option maxHeartbeats 4000000 in
set_option maxRecDepth 100000 in
theorem m_X11_walk (l : Launch) (V : VEn) {a0 : Int32} {a1 : Int32} {u : PoS} {post : Int32 → PoS → Prop} (h : wp_X11_walk a0 a1 u post) : KI l V yX11_walk cX11_walk 3 .boolean 3 [.ref (eA V 0), .int a0, .int a1] u post := by
  refine KI_of (by decide) (Nat.le_of_ble_eq_true rfl) (lv := [(0, .ref (eA V 0)), (1, .int a0), (2, .int a1)]) rfl ?_
  intro p e s m args below meth c C
  rw [wp_X11_walk] at h
  refine a_aload_n C 0 dX11_walk_0 rfl rfl ?_
  refine a_iload_n C 1 dX11_walk_1 rfl rfl ?_
  refine a_callVi C dX11_walk_2 (m_X11_isPerson l V h) bw_626 bw_628 bw_21 bw_112 bw_629 (by decide) rfl rfl np_X11_isPerson rfl rfl (by decide) (Nat.le_of_ble_eq_true rfl) ⟨Nat.zero_le _, Nat.zero_le _⟩ (fun r1 u2 h => ?_)
  refine a_if_eq C 20 dX11_walk_5 (by decide) (fun c9 => ?_) (fun c9 => ?_)
  · have h := h.1 c9
    refine a_iconst C 0 dX11_walk_20 (by decide) ?_
    exact a_zret C rfl dX11_walk_21 h
  · have h := h.2 c9
    refine a_aload_n C 0 dX11_walk_8 rfl rfl ?_
    refine a_getr C 0 (r := 1) dX11_walk_9 (by decide) rfl rfl rfl ib_11 (by decide) bw_349 ?_
    refine a_iload_n C 1 dX11_walk_12 rfl rfl ?_
    refine a_iload_n C 2 dX11_walk_13 rfl rfl ?_
    refine a_callVi C dX11_walk_14 (m_X8_canWalk l V (by decide) h) bw_630 bw_631 bw_632 bw_120 bw_633 (by decide) rfl rfl np_X8_canWalk rfl rfl (by decide) (Nat.le_of_ble_eq_true rfl) ⟨Nat.zero_le _, Nat.zero_le _⟩ (fun r3 u4 h => ?_)
    refine a_if_ne C 22 dX11_walk_17 (by decide) (fun c8 => ?_) (fun c8 => ?_)
    · have h := h.1 c8
      refine a_aload_n C 0 dX11_walk_22 rfl rfl ?_
      refine a_callVv C dX11_walk_23 (m_X11_remember l V h) bw_644 bw_646 bw_22 bw_112 bw_647 (by decide) rfl rfl np_X11_remember rfl rfl (by decide) (Nat.le_of_ble_eq_true rfl) ⟨Nat.zero_le _, Nat.zero_le _⟩ (fun u6 h => ?_)
      refine a_aload_n C 0 dX11_walk_26 rfl rfl ?_
      refine a_getr C 2 (r := 3) dX11_walk_27 (by decide) rfl rfl rfl ib_11 (by decide) bw_351 ?_
      refine a_iconst C 0 dX11_walk_30 (by decide) ?_
      refine a_iload_n C 1 dX11_walk_31 rfl rfl ?_
      refine a_iadd C dX11_walk_32 ?_
      refine a_iload_n C 2 dX11_walk_33 rfl rfl ?_
      refine b_iast C (Int32.toNatClampNeg (0 + a0)) dX11_walk_34 (by decide) rfl h.1 rfl ?_
      have h := h.2
      refine a_topu (fun z7 ez7 => ?_)
      have h := h z7 ez7
      refine a_iconst C 1 dX11_walk_35 (by decide) ?_
      exact a_zret C rfl dX11_walk_36 h
    · have h := h.2 c8
      refine a_iconst C 0 dX11_walk_20 (by decide) ?_
      exact a_zret C rfl dX11_walk_21 h

/-! RainOnTheOne.hat(IZ)Z -/
def wj_X11_hat_9 (post : Int32 → PoS → Prop) (v1 : Int32) (s0 : Int32) (u : PoS) : Prop := wp_X11_isPerson v1 u (fun (r1 : Int32) (u2 : PoS) => ((r1 = 0 → post 0 u2) ∧ (¬ r1 = 0 → vp_in (5 + v1) 2735 ∧ ((¬ (gI u2 3 (Int32.toNatClampNeg (5 + v1))) = s0 → wp_X11_remember u2 (fun (u4 : PoS) => vp_in (5 + v1) 2735 ∧ ∀ z5 : PoS, z5 = pI u4 3 (Int32.toNatClampNeg (5 + v1)) s0 → post 1 z5)) ∧ ((gI u2 3 (Int32.toNatClampNeg (5 + v1))) = s0 → post 0 u2)))))
def wp_X11_hat (a0 : Int32) (a1 : Int32) (u : PoS) (post : Int32 → PoS → Prop) : Prop := ((a1 = 0 → wj_X11_hat_9 post a0 0 u) ∧ (¬ a1 = 0 → wj_X11_hat_9 post a0 1 u))
set_option maxHeartbeats 4000000 in
set_option maxRecDepth 100000 in
theorem tj_X11_hat_9 {p : Program} {l : Launch} {e : Env} {s : State} {m : MethodId} {args : Array Value} {below : List Frame} {meth : Method} {c : Code} {V : VEn} {post : Int32 → PoS → Prop} (C : CxS p s m args meth c V cX11_hat 4 RX11 (some .boolean)) (v1 : Int32) (s0 : Int32) (u : PoS) (h : wj_X11_hat_9 post v1 s0 u) : AtS p l e (Rm 2) s m args below meth c V 4 0 0 (QI V below args s post) 9 [(0, .ref (eA V 0)), (1, .int v1)] [.int s0] u := by
  rw [wj_X11_hat_9] at h
  refine a_istore_n C [(3, .int s0), (0, .ref (eA V 0)), (1, .int v1)] dX11_hat_9 rfl (by decide) rfl ?_
  refine a_aload_n C 1 dX11_hat_10 rfl rfl ?_
  refine a_iload_n C 2 dX11_hat_11 rfl rfl ?_
  refine a_callVi C dX11_hat_12 (m_X11_isPerson l V h) bw_626 bw_628 bw_21 bw_112 bw_629 (by decide) rfl rfl np_X11_isPerson rfl rfl (by decide) (Nat.le_of_ble_eq_true rfl) ⟨Nat.zero_le _, Nat.zero_le _⟩ (fun r1 u2 h => ?_)
  refine a_if_eq C 30 dX11_hat_15 (by decide) (fun c7 => ?_) (fun c7 => ?_)
  · have h := h.1 c7
    refine a_iconst C 0 dX11_hat_30 (by decide) ?_
    exact a_zret C rfl dX11_hat_31 h
  · have h := h.2 c7
    refine a_aload_n C 1 dX11_hat_18 rfl rfl ?_
    refine a_getr C 2 (r := 3) dX11_hat_19 (by decide) rfl rfl rfl ib_11 (by decide) bw_351 ?_
    refine a_iconst C 5 dX11_hat_22 (by decide) ?_
    refine a_iload_n C 2 dX11_hat_23 rfl rfl ?_
    refine a_iadd C dX11_hat_24 ?_
    refine b_iald C (Int32.toNatClampNeg (5 + v1)) dX11_hat_25 (by decide) rfl h.1 rfl ?_
    have h := h.2
    refine a_iload_n C 0 dX11_hat_26 rfl rfl ?_
    refine a_icmp_ne C 32 dX11_hat_27 (by decide) (fun c6 => ?_) (fun c6 => ?_)
    · have h := h.1 c6
      refine a_aload_n C 1 dX11_hat_32 rfl rfl ?_
      refine a_callVv C dX11_hat_33 (m_X11_remember l V h) bw_644 bw_646 bw_22 bw_112 bw_647 (by decide) rfl rfl np_X11_remember rfl rfl (by decide) (Nat.le_of_ble_eq_true rfl) ⟨Nat.zero_le _, Nat.zero_le _⟩ (fun u4 h => ?_)
      refine a_aload_n C 1 dX11_hat_36 rfl rfl ?_
      refine a_getr C 2 (r := 3) dX11_hat_37 (by decide) rfl rfl rfl ib_11 (by decide) bw_351 ?_
      refine a_iconst C 5 dX11_hat_40 (by decide) ?_
      refine a_iload_n C 2 dX11_hat_41 rfl rfl ?_
      refine a_iadd C dX11_hat_42 ?_
      refine a_iload_n C 0 dX11_hat_43 rfl rfl ?_
      refine b_iast C (Int32.toNatClampNeg (5 + v1)) dX11_hat_44 (by decide) rfl h.1 rfl ?_
      have h := h.2
      refine a_topu (fun z5 ez5 => ?_)
      have h := h z5 ez5
      refine a_iconst C 1 dX11_hat_45 (by decide) ?_
      exact a_zret C rfl dX11_hat_46 h
    · have h := h.2 c6
      refine a_iconst C 0 dX11_hat_30 (by decide) ?_
      exact a_zret C rfl dX11_hat_31 h
theorem np_X11_hat : yX11_hat.cls ≠ "java/lang/invoke/MethodHandle" ∧ yX11_hat.cls ≠ "java/lang/invoke/VarHandle" ∧ (parseMethodDescriptor yX11_hat.desc).map (fun d => d.parameters.length) = some 2 := by decide +kernel
set_option maxHeartbeats 4000000 in
set_option maxRecDepth 100000 in
theorem m_X11_hat (l : Launch) (V : VEn) {a0 : Int32} {a1 : Int32} {u : PoS} {post : Int32 → PoS → Prop} (h : wp_X11_hat a0 a1 u post) : KI l V yX11_hat cX11_hat 4 .boolean 2 [.ref (eA V 0), .int a0, .int a1] u post := by
  refine KI_of (by decide) (Nat.le_of_ble_eq_true rfl) (lv := [(0, .ref (eA V 0)), (1, .int a0), (2, .int a1)]) rfl ?_
  intro p e s m args below meth c C
  rw [wp_X11_hat] at h
  refine a_iload_n C 2 dX11_hat_0 rfl rfl ?_
  refine a_if_eq C 8 dX11_hat_1 (by decide) (fun c8 => ?_) (fun c8 => ?_)
  · have h := h.1 c8
    refine a_iconst C 0 dX11_hat_8 (by decide) ?_
    refine a_sub [0, 1] rfl ?_
    refine tj_X11_hat_9 C _ _ _ h
  · have h := h.2 c8
    refine a_iconst C 1 dX11_hat_4 (by decide) ?_
    refine a_goto C 9 dX11_hat_5 (by decide) ?_
    refine a_sub [0, 1] rfl ?_
    refine tj_X11_hat_9 C _ _ _ h

/-! RainOnTheOne.draw()I -/
def wj_X11_draw_52 (k30 : Int32 → Int32 → Int32 → PoS → Prop) (post : Int32 → PoS → Prop) (v1 : Int32) (v2 : Int32) (v3 : Int32) (s0 : Int32) (s1 : Int32) (u : PoS) : Prop := vp_in s1 2735 ∧ ∀ z7 : PoS, z7 = pI u 3 (Int32.toNatClampNeg s1) s0 → k30 v1 v2 (v3 + 1) z7
def wl_X11_draw_30 (post : Int32 → PoS → Prop) : Nat → Int32 → Int32 → Int32 → PoS → Prop
  | 0, _, _, _, _ => False
  | n + 1, v1, v2, v3, u => ((v1 ≤ v3 → post v2 u) ∧ (¬ v1 ≤ v3 → ((¬ v3 = v2 → wj_X11_draw_52 (wl_X11_draw_30 post n) post v1 v2 v3 0 (5 + v3) u) ∧ (v3 = v2 → wj_X11_draw_52 (wl_X11_draw_30 post n) post v1 v2 v3 1 (5 + v3) u))))
def wp_X11_draw (u : PoS) (post : Int32 → PoS → Prop) : Prop := ∀ x1 : Int32, x1 = (gI u 3 84) → ((0 < x1 → wp_X11_remember u (fun (u3 : PoS) => wp_X8_nextX 0 u3 (fun (r4 : Int32) (u5 : PoS) => ¬ x1 = 0 ∧ ∀ x6 : Int32, x6 = (irem r4 x1) → (∃ n30, wl_X11_draw_30 post n30 x1 x6 0 u5)))) ∧ (¬ 0 < x1 → post (-1) u))
set_option maxHeartbeats 4000000 in
set_option maxRecDepth 100000 in
theorem tj_X11_draw_52 {p : Program} {l : Launch} {e : Env} {s : State} {m : MethodId} {args : Array Value} {below : List Frame} {meth : Method} {c : Code} {V : VEn} {k30 : Int32 → Int32 → Int32 → PoS → Prop} {post : Int32 → PoS → Prop} (C : CxS p s m args meth c V cX11_draw 4 RX11 (some .int)) (hk30 : ∀ (v1 : Int32) (v2 : Int32) (v3 : Int32) (u : PoS), k30 v1 v2 v3 u → AtS p l e (Rm 2) s m args below meth c V 4 0 0 (QI V below args s post) 30 [(0, .ref (eA V 0)), (1, .int v1), (2, .int v2), (3, .int v3)] [] u) (v1 : Int32) (v2 : Int32) (v3 : Int32) (s0 : Int32) (s1 : Int32) (u : PoS) (h : wj_X11_draw_52 k30 post v1 v2 v3 s0 s1 u) : AtS p l e (Rm 2) s m args below meth c V 4 0 0 (QI V below args s post) 52 [(0, .ref (eA V 0)), (1, .int v1), (2, .int v2), (3, .int v3)] [.int s0, .int s1, .ref (eA V 3)] u := by
  rw [wj_X11_draw_52] at h
  refine b_iast C (Int32.toNatClampNeg s1) dX11_draw_52 (by decide) rfl h.1 rfl ?_
  have h := h.2
  refine a_topu (fun z7 ez7 => ?_)
  have h := h z7 ez7
  refine a_iinc C (v3 + 1) 3 [(3, .int (v3 + 1)), (0, .ref (eA V 0)), (1, .int v1), (2, .int v2)] dX11_draw_53 rfl (congrArg (fun z => v3 + z) (show Int32.ofInt 1 = 1 by decide)) (by decide) rfl ?_
  refine a_goto C 30 dX11_draw_56 (by decide) ?_
  refine a_sub [1, 2, 3, 0] rfl ?_
  exact hk30 _ _ _ _ h
set_option maxHeartbeats 4000000 in
set_option maxRecDepth 100000 in
theorem tl_X11_draw_30 {p : Program} {l : Launch} {e : Env} {s : State} {m : MethodId} {args : Array Value} {below : List Frame} {meth : Method} {c : Code} {V : VEn} {post : Int32 → PoS → Prop} (C : CxS p s m args meth c V cX11_draw 4 RX11 (some .int)) : ∀ (n : Nat) (v1 : Int32) (v2 : Int32) (v3 : Int32) (u : PoS), wl_X11_draw_30 post n v1 v2 v3 u → AtS p l e (Rm 2) s m args below meth c V 4 0 0 (QI V below args s post) 30 [(0, .ref (eA V 0)), (1, .int v1), (2, .int v2), (3, .int v3)] [] u := by
  intro n
  induction n with
  | zero => intro v1 v2 v3 u h; exact h.elim
  | succ n ih =>
    intro v1 v2 v3 u h
    rw [wl_X11_draw_30] at h
    refine a_iload_n C 3 dX11_draw_30 rfl rfl ?_
    refine a_iload_n C 1 dX11_draw_31 rfl rfl ?_
    refine a_icmp_ge C 59 dX11_draw_32 (by decide) (fun c9 => ?_) (fun c9 => ?_)
    · have h := h.1 c9
      refine a_iload_n C 2 dX11_draw_59 rfl rfl ?_
      exact a_iret C dX11_draw_60 h
    · have h := h.2 c9
      refine a_aload_n C 0 dX11_draw_35 rfl rfl ?_
      refine a_getr C 2 (r := 3) dX11_draw_36 (by decide) rfl rfl rfl ib_11 (by decide) bw_351 ?_
      refine a_iconst C 5 dX11_draw_39 (by decide) ?_
      refine a_iload_n C 3 dX11_draw_40 rfl rfl ?_
      refine a_iadd C dX11_draw_41 ?_
      refine a_iload_n C 3 dX11_draw_42 rfl rfl ?_
      refine a_iload_n C 2 dX11_draw_43 rfl rfl ?_
      refine a_icmp_ne C 51 dX11_draw_44 (by decide) (fun c8 => ?_) (fun c8 => ?_)
      · have h := h.1 c8
        refine a_iconst C 0 dX11_draw_51 (by decide) ?_
        refine tj_X11_draw_52 C ih _ _ _ _ _ _ h
      · have h := h.2 c8
        refine a_iconst C 1 dX11_draw_47 (by decide) ?_
        refine a_goto C 52 dX11_draw_48 (by decide) ?_
        refine tj_X11_draw_52 C ih _ _ _ _ _ _ h
theorem np_X11_draw : yX11_draw.cls ≠ "java/lang/invoke/MethodHandle" ∧ yX11_draw.cls ≠ "java/lang/invoke/VarHandle" ∧ (parseMethodDescriptor yX11_draw.desc).map (fun d => d.parameters.length) = some 0 := by decide +kernel
set_option maxHeartbeats 4000000 in
set_option maxRecDepth 100000 in
theorem m_X11_draw (l : Launch) (V : VEn) {u : PoS} {post : Int32 → PoS → Prop} (h : wp_X11_draw  u post) : KI l V yX11_draw cX11_draw 4 .int 2 [.ref (eA V 0)] u post := by
  refine KI_of (by decide) (Nat.le_of_ble_eq_true rfl) (lv := [(0, .ref (eA V 0))]) rfl ?_
  intro p e s m args below meth c C
  rw [wp_X11_draw] at h
  refine a_aload_n C 0 dX11_draw_0 rfl rfl ?_
  refine a_getr C 2 (r := 3) dX11_draw_1 (by decide) rfl rfl rfl ib_11 (by decide) bw_351 ?_
  refine a_bipush C 84 dX11_draw_4 (by decide) ?_
  refine b_iald C 84 dX11_draw_6 (by decide) rfl (vp_lit (by decide)) (by decide) ?_
  refine a_topi (fun x1 ex1 => ?_)
  have h := h x1 ex1
  refine a_istore_n C [(1, .int x1), (0, .ref (eA V 0))] dX11_draw_7 rfl (by decide) rfl ?_
  refine a_iload_n C 0 dX11_draw_8 rfl rfl ?_
  refine a_if_gt C 14 dX11_draw_9 (by decide) (fun c10 => ?_) (fun c10 => ?_)
  · have h := h.1 c10
    refine a_aload_n C 1 dX11_draw_14 rfl rfl ?_
    refine a_callVv C dX11_draw_15 (m_X11_remember l V h) bw_644 bw_646 bw_22 bw_112 bw_647 (by decide) rfl rfl np_X11_remember rfl rfl (by decide) (Nat.le_of_ble_eq_true rfl) ⟨Nat.zero_le _, Nat.zero_le _⟩ (fun u3 h => ?_)
    refine a_aload_n C 1 dX11_draw_18 rfl rfl ?_
    refine a_getr C 0 (r := 1) dX11_draw_19 (by decide) rfl rfl rfl ib_11 (by decide) bw_349 ?_
    refine a_callVi C dX11_draw_22 (m_X8_nextX l V (by decide) h) bw_656 bw_657 bw_658 bw_120 bw_659 (by decide) rfl rfl np_X8_nextX rfl rfl (by decide) (Nat.le_of_ble_eq_true rfl) ⟨Nat.zero_le _, Nat.zero_le _⟩ (fun r4 u5 h => ?_)
    refine a_iload_n C 0 dX11_draw_25 rfl rfl ?_
    refine b_irem C dX11_draw_26 h.1 ?_
    have h := h.2
    refine a_topi (fun x6 ex6 => ?_)
    have h := h x6 ex6
    refine a_istore_n C [(2, .int x6), (1, .int x1), (0, .ref (eA V 0))] dX11_draw_27 rfl (by decide) rfl ?_
    refine a_iconst C 0 dX11_draw_28 (by decide) ?_
    refine a_istore_n C [(3, .int 0), (2, .int x6), (1, .int x1), (0, .ref (eA V 0))] dX11_draw_29 rfl (by decide) rfl ?_
    refine a_sub [3, 2, 1, 0] rfl ?_
    obtain ⟨n30, h⟩ := h
    refine tl_X11_draw_30 C n30 _ _ _ _ h
  · have h := h.2 c10
    refine a_iconst C (-1) dX11_draw_12 (by decide) ?_
    exact a_iret C dX11_draw_13 h

/-! RainOnTheOne.pass(I)I -/
def wj_X11_pass_37 (k4 : Int32 → Int32 → Int32 → PoS → Prop) (post : Int32 → PoS → Prop) (v1 : Int32) (v2 : Int32) (v3 : Int32) (u : PoS) : Prop := k4 v1 v2 (v3 + 1) u
def wl_X11_pass_4 (post : Int32 → PoS → Prop) : Nat → Int32 → Int32 → Int32 → PoS → Prop
  | 0, _, _, _, _ => False
  | n + 1, v1, v2, v3, u => ((v1 ≤ v3 → post v2 u) ∧ (¬ v1 ≤ v3 → wp_X8_canPass 0 u (fun (r1 : Int32) (u2 : PoS) => ((r1 = 0 → post v2 u2) ∧ (¬ r1 = 0 → wp_X11_remember u2 (fun (u4 : PoS) => wp_X8_passOne 0 u4 (fun (r5 : Int32) (u6 : PoS) => ((r5 = (-1) → wj_X11_pass_37 (wl_X11_pass_4 post n) post v1 v2 v3 u6) ∧ (¬ r5 = (-1) → wj_X11_pass_37 (wl_X11_pass_4 post n) post v1 (v2 + 1) v3 u6)))))))))
def wp_X11_pass (a0 : Int32) (u : PoS) (post : Int32 → PoS → Prop) : Prop := (∃ n4, wl_X11_pass_4 post n4 a0 0 0 u)
set_option maxHeartbeats 4000000 in
set_option maxRecDepth 100000 in
theorem tj_X11_pass_37 {p : Program} {l : Launch} {e : Env} {s : State} {m : MethodId} {args : Array Value} {below : List Frame} {meth : Method} {c : Code} {V : VEn} {k4 : Int32 → Int32 → Int32 → PoS → Prop} {post : Int32 → PoS → Prop} (C : CxS p s m args meth c V cX11_pass 4 RX11 (some .int)) (hk4 : ∀ (v1 : Int32) (v2 : Int32) (v3 : Int32) (u : PoS), k4 v1 v2 v3 u → AtS p l e (Rm 5) s m args below meth c V 4 0 0 (QI V below args s post) 4 [(0, .ref (eA V 0)), (1, .int v1), (2, .int v2), (3, .int v3)] [] u) (v1 : Int32) (v2 : Int32) (v3 : Int32) (u : PoS) (h : wj_X11_pass_37 k4 post v1 v2 v3 u) : AtS p l e (Rm 5) s m args below meth c V 4 0 0 (QI V below args s post) 37 [(0, .ref (eA V 0)), (1, .int v1), (2, .int v2), (3, .int v3)] [] u := by
  rw [wj_X11_pass_37] at h
  refine a_iinc C (v3 + 1) 3 [(3, .int (v3 + 1)), (0, .ref (eA V 0)), (1, .int v1), (2, .int v2)] dX11_pass_37 rfl (congrArg (fun z => v3 + z) (show Int32.ofInt 1 = 1 by decide)) (by decide) rfl ?_
  refine a_goto C 4 dX11_pass_40 (by decide) ?_
  refine a_sub [1, 2, 3, 0] rfl ?_
  exact hk4 _ _ _ _ h
set_option maxHeartbeats 4000000 in
set_option maxRecDepth 100000 in
theorem tl_X11_pass_4 {p : Program} {l : Launch} {e : Env} {s : State} {m : MethodId} {args : Array Value} {below : List Frame} {meth : Method} {c : Code} {V : VEn} {post : Int32 → PoS → Prop} (C : CxS p s m args meth c V cX11_pass 4 RX11 (some .int)) : ∀ (n : Nat) (v1 : Int32) (v2 : Int32) (v3 : Int32) (u : PoS), wl_X11_pass_4 post n v1 v2 v3 u → AtS p l e (Rm 5) s m args below meth c V 4 0 0 (QI V below args s post) 4 [(0, .ref (eA V 0)), (1, .int v1), (2, .int v2), (3, .int v3)] [] u := by
  intro n
  induction n with
  | zero => intro v1 v2 v3 u h; exact h.elim
  | succ n ih =>
    intro v1 v2 v3 u h
    rw [wl_X11_pass_4] at h
    refine a_iload_n C 3 dX11_pass_4 rfl rfl ?_
    refine a_iload_n C 1 dX11_pass_5 rfl rfl ?_
    refine a_icmp_ge C 43 dX11_pass_6 (by decide) (fun c9 => ?_) (fun c9 => ?_)
    · have h := h.1 c9
      refine a_iload_n C 2 dX11_pass_43 rfl rfl ?_
      exact a_iret C dX11_pass_44 h
    · have h := h.2 c9
      refine a_aload_n C 0 dX11_pass_9 rfl rfl ?_
      refine a_getr C 0 (r := 1) dX11_pass_10 (by decide) rfl rfl rfl ib_11 (by decide) bw_349 ?_
      refine a_callVi C dX11_pass_13 (m_X8_canPass l V (by decide) h) bw_668 bw_669 bw_670 bw_120 bw_671 (by decide) rfl rfl np_X8_canPass rfl rfl (by decide) (Nat.le_of_ble_eq_true rfl) ⟨Nat.zero_le _, Nat.zero_le _⟩ (fun r1 u2 h => ?_)
      refine a_if_eq C 43 dX11_pass_16 (by decide) (fun c8 => ?_) (fun c8 => ?_)
      · have h := h.1 c8
        refine a_iload_n C 2 dX11_pass_43 rfl rfl ?_
        exact a_iret C dX11_pass_44 h
      · have h := h.2 c8
        refine a_aload_n C 0 dX11_pass_19 rfl rfl ?_
        refine a_callVv C dX11_pass_20 (m_X11_remember l V h) bw_644 bw_646 bw_22 bw_112 bw_647 (by decide) rfl rfl np_X11_remember rfl rfl (by decide) (Nat.le_of_ble_eq_true rfl) ⟨Nat.zero_le _, Nat.zero_le _⟩ (fun u4 h => ?_)
        refine a_aload_n C 0 dX11_pass_23 rfl rfl ?_
        refine a_getr C 0 (r := 1) dX11_pass_24 (by decide) rfl rfl rfl ib_11 (by decide) bw_349 ?_
        refine a_callVi C dX11_pass_27 (m_X8_passOne l V (by decide) h) bw_672 bw_673 bw_674 bw_120 bw_675 (by decide) rfl rfl np_X8_passOne rfl rfl (by decide) (Nat.le_of_ble_eq_true rfl) ⟨Nat.zero_le _, Nat.zero_le _⟩ (fun r5 u6 h => ?_)
        refine a_iconst C (-1) dX11_pass_30 (by decide) ?_
        refine a_icmp_eq C 37 dX11_pass_31 (by decide) (fun c7 => ?_) (fun c7 => ?_)
        · have h := h.1 c7
          refine tj_X11_pass_37 C ih _ _ _ _ h
        · have h := h.2 c7
          refine a_iinc C (v2 + 1) 2 [(2, .int (v2 + 1)), (0, .ref (eA V 0)), (1, .int v1), (3, .int v3)] dX11_pass_34 rfl (congrArg (fun z => v2 + z) (show Int32.ofInt 1 = 1 by decide)) (by decide) rfl ?_
          refine a_sub [1, 2, 0, 3] rfl ?_
          refine tj_X11_pass_37 C ih _ _ _ _ h
theorem np_X11_pass : yX11_pass.cls ≠ "java/lang/invoke/MethodHandle" ∧ yX11_pass.cls ≠ "java/lang/invoke/VarHandle" ∧ (parseMethodDescriptor yX11_pass.desc).map (fun d => d.parameters.length) = some 1 := by decide +kernel
set_option maxHeartbeats 4000000 in
set_option maxRecDepth 100000 in
theorem m_X11_pass (l : Launch) (V : VEn) {a0 : Int32} {u : PoS} {post : Int32 → PoS → Prop} (h : wp_X11_pass a0 u post) : KI l V yX11_pass cX11_pass 4 .int 5 [.ref (eA V 0), .int a0] u post := by
  refine KI_of (by decide) (Nat.le_of_ble_eq_true rfl) (lv := [(0, .ref (eA V 0)), (1, .int a0)]) rfl ?_
  intro p e s m args below meth c C
  rw [wp_X11_pass] at h
  refine a_iconst C 0 dX11_pass_0 (by decide) ?_
  refine a_istore_n C [(2, .int 0), (0, .ref (eA V 0)), (1, .int a0)] dX11_pass_1 rfl (by decide) rfl ?_
  refine a_iconst C 0 dX11_pass_2 (by decide) ?_
  refine a_istore_n C [(3, .int 0), (2, .int 0), (0, .ref (eA V 0)), (1, .int a0)] dX11_pass_3 rfl (by decide) rfl ?_
  refine a_sub [2, 3, 1, 0] rfl ?_
  obtain ⟨n4, h⟩ := h
  refine tl_X11_pass_4 C n4 _ _ _ _ h

/-! RainOnTheOne.minute(I)I -/
def wp_X11_minute (a0 : Int32) (u : PoS) (post : Int32 → PoS → Prop) : Prop := wp_X11_isWithin a0 1 60 u (fun (r1 : Int32) (u2 : PoS) => ((r1 = 0 → post (-1) u2) ∧ (¬ r1 = 0 → ((((gI u2 3 51) + a0) ≤ 9999 → wp_X11_pass a0 u2 (fun (r3 : Int32) (u4 : PoS) => post r3 u4)) ∧ (¬ ((gI u2 3 51) + a0) ≤ 9999 → post (-1) u2)))))
theorem np_X11_minute : yX11_minute.cls ≠ "java/lang/invoke/MethodHandle" ∧ yX11_minute.cls ≠ "java/lang/invoke/VarHandle" ∧ (parseMethodDescriptor yX11_minute.desc).map (fun d => d.parameters.length) = some 1 := by decide +kernel
set_option maxHeartbeats 4000000 in
set_option maxRecDepth 100000 in
theorem m_X11_minute (l : Launch) (V : VEn) {a0 : Int32} {u : PoS} {post : Int32 → PoS → Prop} (h : wp_X11_minute a0 u post) : KI l V yX11_minute cX11_minute 2 .int 6 [.ref (eA V 0), .int a0] u post := by
  refine KI_of (by decide) (Nat.le_of_ble_eq_true rfl) (lv := [(0, .ref (eA V 0)), (1, .int a0)]) rfl ?_
  intro p e s m args below meth c C
  rw [wp_X11_minute] at h
  refine a_iload_n C 1 dX11_minute_0 rfl rfl ?_
  refine a_iconst C 1 dX11_minute_1 (by decide) ?_
  refine a_bipush C 60 dX11_minute_2 (by decide) ?_
  refine a_callSi C dX11_minute_4 (m_X11_isWithin l V h) bw_405 bw_406 bw_112 bw_407 np_X11_isWithin rfl rfl (by decide) (Nat.le_of_ble_eq_true rfl) ⟨Nat.zero_le _, Nat.zero_le _⟩ (fun r1 u2 h => ?_)
  refine a_if_eq C 25 dX11_minute_7 (by decide) (fun c6 => ?_) (fun c6 => ?_)
  · have h := h.1 c6
    refine a_iconst C (-1) dX11_minute_25 (by decide) ?_
    exact a_iret C dX11_minute_26 h
  · have h := h.2 c6
    refine a_aload_n C 0 dX11_minute_10 rfl rfl ?_
    refine a_getr C 2 (r := 3) dX11_minute_11 (by decide) rfl rfl rfl ib_11 (by decide) bw_351 ?_
    refine a_bipush C 51 dX11_minute_14 (by decide) ?_
    refine b_iald C 51 dX11_minute_16 (by decide) rfl (vp_lit (by decide)) (by decide) ?_
    refine a_iload_n C 1 dX11_minute_17 rfl rfl ?_
    refine a_iadd C dX11_minute_18 ?_
    refine a_sipush C 9999 dX11_minute_19 (by decide) ?_
    refine a_icmp_le C 27 dX11_minute_22 (by decide) (fun c5 => ?_) (fun c5 => ?_)
    · have h := h.1 c5
      refine a_aload_n C 0 dX11_minute_27 rfl rfl ?_
      refine a_iload_n C 1 dX11_minute_28 rfl rfl ?_
      refine a_callVi C dX11_minute_29 (m_X11_pass l V h) bw_664 bw_666 bw_23 bw_112 bw_667 (by decide) rfl rfl np_X11_pass rfl rfl (by decide) (Nat.le_of_ble_eq_true rfl) ⟨Nat.zero_le _, Nat.zero_le _⟩ (fun r3 u4 h => ?_)
      exact a_iret C dX11_minute_32 h
    · have h := h.2 c5
      refine a_iconst C (-1) dX11_minute_25 (by decide) ?_
      exact a_iret C dX11_minute_26 h

/-! RainOnTheOne.act(III)Z -/
def wj_X11_act_133 (post : Int32 → PoS → Prop) (v2 : Int32) (s0 : Int32) (u : PoS) : Prop := wp_X11_pass v2 u (fun (r17 : Int32) (u18 : PoS) => IsB s0 ∧ post s0 u18)
def wp_X11_act (a0 : Int32) (a1 : Int32) (a2 : Int32) (u : PoS) (post : Int32 → PoS → Prop) : Prop := ((a0 = 2 → wp_X11_person a1 1 u (fun (r1 : Int32) (u2 : PoS) => ((r1 = (-1) → post 0 u2) ∧ (¬ r1 = (-1) → post 1 u2)))) ∧ (a0 = 3 → wp_X11_field a2 a1 u (fun (r4 : Int32) (u5 : PoS) => IsB r4 ∧ post r4 u5)) ∧ (a0 = 4 → wp_X11_shed a1 1 u (fun (r6 : Int32) (u7 : PoS) => IsB r6 ∧ post r6 u7)) ∧ (a0 = 5 → wp_X11_walk a1 a2 u (fun (r8 : Int32) (u9 : PoS) => IsB r8 ∧ post r8 u9)) ∧ (a0 = 6 → wp_X11_hat a1 0 u (fun (r10 : Int32) (u11 : PoS) => IsB r10 ∧ post r10 u11)) ∧ (a0 = 7 → wp_X11_hat a1 1 u (fun (r12 : Int32) (u13 : PoS) => IsB r12 ∧ post r12 u13)) ∧ (a0 = 8 → wp_X11_draw u (fun (r14 : Int32) (u15 : PoS) => ((r14 = (-1) → post 0 u15) ∧ (¬ r14 = (-1) → post 1 u15)))) ∧ (a0 = 9 → ((9999 < ((gI u 3 51) + a1) → wj_X11_act_133 post a1 0 u) ∧ (¬ 9999 < ((gI u 3 51) + a1) → wj_X11_act_133 post a1 1 u))) ∧ (¬ a0 = 2 → ¬ a0 = 3 → ¬ a0 = 4 → ¬ a0 = 5 → ¬ a0 = 6 → ¬ a0 = 7 → ¬ a0 = 8 → ¬ a0 = 9 → post 1 u))
set_option maxHeartbeats 4000000 in
set_option maxRecDepth 100000 in
theorem tj_X11_act_133 {p : Program} {l : Launch} {e : Env} {s : State} {m : MethodId} {args : Array Value} {below : List Frame} {meth : Method} {c : Code} {V : VEn} {post : Int32 → PoS → Prop} (C : CxS p s m args meth c V cX11_act 5 RX11 (some .boolean)) (v2 : Int32) (s0 : Int32) (u : PoS) (h : wj_X11_act_133 post v2 s0 u) : AtS p l e (Rm 6) s m args below meth c V 5 0 0 (QI V below args s post) 133 [(0, .ref (eA V 0)), (2, .int v2)] [.int s0] u := by
  rw [wj_X11_act_133] at h
  refine a_istore C [(4, .int s0), (0, .ref (eA V 0)), (2, .int v2)] dX11_act_133 (by decide) rfl ?_
  refine a_aload_n C 1 dX11_act_135 rfl rfl ?_
  refine a_iload_n C 2 dX11_act_136 rfl rfl ?_
  refine a_callVi C dX11_act_137 (m_X11_pass l V h) bw_664 bw_666 bw_23 bw_112 bw_667 (by decide) rfl rfl np_X11_pass rfl rfl (by decide) (Nat.le_of_ble_eq_true rfl) ⟨Nat.zero_le _, Nat.zero_le _⟩ (fun r17 u18 h => ?_)
  refine a_pop C dX11_act_140 rfl ?_
  refine a_iload C 0 dX11_act_141 rfl ?_
  exact a_zret C (isB_n h.1) dX11_act_143 h.2
theorem np_X11_act : yX11_act.cls ≠ "java/lang/invoke/MethodHandle" ∧ yX11_act.cls ≠ "java/lang/invoke/VarHandle" ∧ (parseMethodDescriptor yX11_act.desc).map (fun d => d.parameters.length) = some 3 := by decide +kernel
set_option maxHeartbeats 4000000 in
set_option maxRecDepth 100000 in
theorem m_X11_act (l : Launch) (V : VEn) {a0 : Int32} {a1 : Int32} {a2 : Int32} {u : PoS} {post : Int32 → PoS → Prop} (h : wp_X11_act a0 a1 a2 u post) : KI l V yX11_act cX11_act 5 .boolean 6 [.ref (eA V 0), .int a0, .int a1, .int a2] u post := by
  refine KI_of (by decide) (Nat.le_of_ble_eq_true rfl) (lv := [(0, .ref (eA V 0)), (1, .int a0), (2, .int a1), (3, .int a2)]) rfl ?_
  intro p e s m args below meth c C
  rw [wp_X11_act] at h
  refine a_iload_n C 1 dX11_act_0 rfl rfl ?_
  obtain ⟨hs0, hs1, hs2, hs3, hs4, hs5, hs6, hs7, hd0⟩ := h
  by_cases hq0 : a0 = 2
  · have h := hs0 hq0
    refine a_tableIn C (off := 47) 48 dX11_act_1 (by rw [hq0]; decide) (by rw [hq0]; decide) (by rw [hq0]; decide +kernel) (by decide) ?_
    refine a_aload_n C 0 dX11_act_48 rfl rfl ?_
    refine a_iload_n C 2 dX11_act_49 rfl rfl ?_
    refine a_iconst C 1 dX11_act_50 (by decide) ?_
    refine a_callVi C dX11_act_51 (m_X11_person l V h) bw_752 bw_390 bw_391 bw_112 bw_392 (by decide) rfl rfl np_X11_person rfl rfl (by decide) (Nat.le_of_ble_eq_true rfl) ⟨Nat.zero_le _, Nat.zero_le _⟩ (fun r1 u2 h => ?_)
    refine a_iconst C (-1) dX11_act_54 (by decide) ?_
    refine a_icmp_eq C 62 dX11_act_55 (by decide) (fun c3 => ?_) (fun c3 => ?_)
    · have h := h.1 c3
      refine a_iconst C 0 dX11_act_62 (by decide) ?_
      exact a_zret C rfl dX11_act_63 h
    · have h := h.2 c3
      refine a_iconst C 1 dX11_act_58 (by decide) ?_
      refine a_goto C 63 dX11_act_59 (by decide) ?_
      exact a_zret C rfl dX11_act_63 h
  by_cases hq1 : a0 = 3
  · have h := hs1 hq1
    refine a_tableIn C (off := 63) 64 dX11_act_1 (by rw [hq1]; decide) (by rw [hq1]; decide) (by rw [hq1]; decide +kernel) (by decide) ?_
    refine a_aload_n C 0 dX11_act_64 rfl rfl ?_
    refine a_iload_n C 3 dX11_act_65 rfl rfl ?_
    refine a_iload_n C 2 dX11_act_66 rfl rfl ?_
    refine a_callVi C dX11_act_67 (m_X11_field l V h) bw_753 bw_401 bw_402 bw_112 bw_403 (by decide) rfl rfl np_X11_field rfl rfl (by decide) (Nat.le_of_ble_eq_true rfl) ⟨Nat.zero_le _, Nat.zero_le _⟩ (fun r4 u5 h => ?_)
    exact a_zret C (isB_n h.1) dX11_act_70 h.2
  by_cases hq2 : a0 = 4
  · have h := hs2 hq2
    refine a_tableIn C (off := 70) 71 dX11_act_1 (by rw [hq2]; decide) (by rw [hq2]; decide) (by rw [hq2]; decide +kernel) (by decide) ?_
    refine a_aload_n C 0 dX11_act_71 rfl rfl ?_
    refine a_iload_n C 2 dX11_act_72 rfl rfl ?_
    refine a_iconst C 1 dX11_act_73 (by decide) ?_
    refine a_callVi C dX11_act_74 (m_X11_shed l V h) bw_754 bw_409 bw_410 bw_112 bw_411 (by decide) rfl rfl np_X11_shed rfl rfl (by decide) (Nat.le_of_ble_eq_true rfl) ⟨Nat.zero_le _, Nat.zero_le _⟩ (fun r6 u7 h => ?_)
    exact a_zret C (isB_n h.1) dX11_act_77 h.2
  by_cases hq3 : a0 = 5
  · have h := hs3 hq3
    refine a_tableIn C (off := 77) 78 dX11_act_1 (by rw [hq3]; decide) (by rw [hq3]; decide) (by rw [hq3]; decide +kernel) (by decide) ?_
    refine a_aload_n C 0 dX11_act_78 rfl rfl ?_
    refine a_iload_n C 2 dX11_act_79 rfl rfl ?_
    refine a_iload_n C 3 dX11_act_80 rfl rfl ?_
    refine a_callVi C dX11_act_81 (m_X11_walk l V h) bw_755 bw_623 bw_624 bw_112 bw_625 (by decide) rfl rfl np_X11_walk rfl rfl (by decide) (Nat.le_of_ble_eq_true rfl) ⟨Nat.zero_le _, Nat.zero_le _⟩ (fun r8 u9 h => ?_)
    exact a_zret C (isB_n h.1) dX11_act_84 h.2
  by_cases hq4 : a0 = 6
  · have h := hs4 hq4
    refine a_tableIn C (off := 84) 85 dX11_act_1 (by rw [hq4]; decide) (by rw [hq4]; decide) (by rw [hq4]; decide +kernel) (by decide) ?_
    refine a_aload_n C 0 dX11_act_85 rfl rfl ?_
    refine a_iload_n C 2 dX11_act_86 rfl rfl ?_
    refine a_iconst C 0 dX11_act_87 (by decide) ?_
    refine a_callVi C dX11_act_88 (m_X11_hat l V h) bw_756 bw_649 bw_650 bw_112 bw_651 (by decide) rfl rfl np_X11_hat rfl rfl (by decide) (Nat.le_of_ble_eq_true rfl) ⟨Nat.zero_le _, Nat.zero_le _⟩ (fun r10 u11 h => ?_)
    exact a_zret C (isB_n h.1) dX11_act_91 h.2
  by_cases hq5 : a0 = 7
  · have h := hs5 hq5
    refine a_tableIn C (off := 91) 92 dX11_act_1 (by rw [hq5]; decide) (by rw [hq5]; decide) (by rw [hq5]; decide +kernel) (by decide) ?_
    refine a_aload_n C 0 dX11_act_92 rfl rfl ?_
    refine a_iload_n C 2 dX11_act_93 rfl rfl ?_
    refine a_iconst C 1 dX11_act_94 (by decide) ?_
    refine a_callVi C dX11_act_95 (m_X11_hat l V h) bw_756 bw_649 bw_650 bw_112 bw_651 (by decide) rfl rfl np_X11_hat rfl rfl (by decide) (Nat.le_of_ble_eq_true rfl) ⟨Nat.zero_le _, Nat.zero_le _⟩ (fun r12 u13 h => ?_)
    exact a_zret C (isB_n h.1) dX11_act_98 h.2
  by_cases hq6 : a0 = 8
  · have h := hs6 hq6
    refine a_tableIn C (off := 98) 99 dX11_act_1 (by rw [hq6]; decide) (by rw [hq6]; decide) (by rw [hq6]; decide +kernel) (by decide) ?_
    refine a_aload_n C 0 dX11_act_99 rfl rfl ?_
    refine a_callVi C dX11_act_100 (m_X11_draw l V h) bw_757 bw_653 bw_654 bw_112 bw_655 (by decide) rfl rfl np_X11_draw rfl rfl (by decide) (Nat.le_of_ble_eq_true rfl) ⟨Nat.zero_le _, Nat.zero_le _⟩ (fun r14 u15 h => ?_)
    refine a_iconst C (-1) dX11_act_103 (by decide) ?_
    refine a_icmp_eq C 111 dX11_act_104 (by decide) (fun c16 => ?_) (fun c16 => ?_)
    · have h := h.1 c16
      refine a_iconst C 0 dX11_act_111 (by decide) ?_
      exact a_zret C rfl dX11_act_112 h
    · have h := h.2 c16
      refine a_iconst C 1 dX11_act_107 (by decide) ?_
      refine a_goto C 112 dX11_act_108 (by decide) ?_
      exact a_zret C rfl dX11_act_112 h
  by_cases hq7 : a0 = 9
  · have h := hs7 hq7
    refine a_tableIn C (off := 112) 113 dX11_act_1 (by rw [hq7]; decide) (by rw [hq7]; decide) (by rw [hq7]; decide +kernel) (by decide) ?_
    refine a_aload_n C 0 dX11_act_113 rfl rfl ?_
    refine a_getr C 2 (r := 3) dX11_act_114 (by decide) rfl rfl rfl ib_11 (by decide) bw_351 ?_
    refine a_bipush C 51 dX11_act_117 (by decide) ?_
    refine b_iald C 51 dX11_act_119 (by decide) rfl (vp_lit (by decide)) (by decide) ?_
    refine a_iload_n C 2 dX11_act_120 rfl rfl ?_
    refine a_iadd C dX11_act_121 ?_
    refine a_sipush C 9999 dX11_act_122 (by decide) ?_
    refine a_icmp_gt C 132 dX11_act_125 (by decide) (fun c19 => ?_) (fun c19 => ?_)
    · have h := h.1 c19
      refine a_iconst C 0 dX11_act_132 (by decide) ?_
      refine a_sub [0, 2] rfl ?_
      refine tj_X11_act_133 C _ _ _ h
    · have h := h.2 c19
      refine a_iconst C 1 dX11_act_128 (by decide) ?_
      refine a_goto C 133 dX11_act_129 (by decide) ?_
      refine a_sub [0, 2] rfl ?_
      refine tj_X11_act_133 C _ _ _ h
  have h := hd0 hq0 hq1 hq2 hq3 hq4 hq5 hq6 hq7
  refine a_tableOut C 144 dX11_act_1 (tsw_out 2 9 (fun q h1 h2 => by rcases (show q = 2 ∨ q = 3 ∨ q = 4 ∨ q = 5 ∨ q = 6 ∨ q = 7 ∨ q = 8 ∨ q = 9 by omega) with rfl | rfl | rfl | rfl | rfl | rfl | rfl | rfl <;> first | exact lv_neT hq0 (by decide) | exact lv_neT hq1 (by decide) | exact lv_neT hq2 (by decide) | exact lv_neT hq3 (by decide) | exact lv_neT hq4 (by decide) | exact lv_neT hq5 (by decide) | exact lv_neT hq6 (by decide) | exact lv_neT hq7 (by decide))) (by decide) ?_
  refine a_iconst C 1 dX11_act_144 (by decide) ?_
  exact a_zret C rfl dX11_act_145 h

/-! RainOnTheOne.played(I)I -/
def wl_X11_played_20 (post : Int32 → PoS → Prop) : Nat → Nat → Int32 → PoS → Prop
  | 0, _, _, _ => False
  | n + 1, v2, v3, u => (((gI u (7 + v2) 4) ≤ v3 → post (-1) u) ∧ (¬ (gI u (7 + v2) 4) ≤ v3 → ((24 ≤ v3 → post (-1) u) ∧ (¬ 24 ≤ v3 → vp_in v3 24 ∧ vp_in v3 24 ∧ vp_in v3 24 ∧ wp_X11_act (gI u (11 + 4 * v2) (Int32.toNatClampNeg v3)) (gI u (12 + 4 * v2) (Int32.toNatClampNeg v3)) (gI u (13 + 4 * v2) (Int32.toNatClampNeg v3)) u (fun (r4 : Int32) (u5 : PoS) => ((¬ r4 = 0 → wl_X11_played_20 post n v2 (v3 + 1) u5) ∧ (r4 = 0 → post v3 u5)))))))
def wp_X11_played (a0 : Int32) (u : PoS) (post : Int32 → PoS → Prop) : Prop := wp_X11_isText a0 u (fun (r1 : Int32) (u2 : PoS) => ((¬ r1 = 0 → vp_in a0 4 ∧ (∃ n20, wl_X11_played_20 post n20 (Int32.toNatClampNeg a0) 0 u2)) ∧ (r1 = 0 → post (-2) u2)))
set_option maxHeartbeats 4000000 in
set_option maxRecDepth 100000 in
theorem tl_X11_played_20 {p : Program} {l : Launch} {e : Env} {s : State} {m : MethodId} {args : Array Value} {below : List Frame} {meth : Method} {c : Code} {V : VEn} {post : Int32 → PoS → Prop} (C : CxS p s m args meth c V cX11_played 4 RX11 (some .int)) : ∀ (n : Nat) (v2 : Nat) (v3 : Int32) (hv2 : v2 < 4) (u : PoS), wl_X11_played_20 post n v2 v3 u → AtS p l e (Rm 7) s m args below meth c V 4 0 0 (QI V below args s post) 20 [(0, .ref (eA V 0)), (2, .ref (eA V (7 + v2))), (3, .int v3)] [] u := by
  intro n
  induction n with
  | zero => intro v2 v3 hv2 u h; exact h.elim
  | succ n ih =>
    intro v2 v3 hv2 u h
    rw [wl_X11_played_20] at h
    refine a_iload_n C 2 dX11_played_20 rfl rfl ?_
    refine a_aload_n C 1 dX11_played_21 rfl rfl ?_
    refine a_geti C 4 dX11_played_22 (by have := hv2; omega) (lw_obj hv2) rfl rfl ib_3 (by decide) bw_247 ?_
    refine a_icmp_ge C 67 dX11_played_25 (by decide) (fun c8 => ?_) (fun c8 => ?_)
    · have h := h.1 c8
      refine a_iconst C (-1) dX11_played_67 (by decide) ?_
      exact a_iret C dX11_played_68 h
    · have h := h.2 c8
      refine a_iload_n C 2 dX11_played_28 rfl rfl ?_
      refine a_bipush C 24 dX11_played_29 (by decide) ?_
      refine a_icmp_ge C 67 dX11_played_31 (by decide) (fun c7 => ?_) (fun c7 => ?_)
      · have h := h.1 c7
        refine a_iconst C (-1) dX11_played_67 (by decide) ?_
        exact a_iret C dX11_played_68 h
      · have h := h.2 c7
        refine a_aload_n C 0 dX11_played_34 rfl rfl ?_
        refine a_aload_n C 1 dX11_played_35 rfl rfl ?_
        refine a_getr C 0 (r := (11 + 4 * v2)) dX11_played_36 (by have := hv2; omega) (lw_obj hv2) rfl rfl ib_3 (by decide) bw_238 ?_
        refine a_iload_n C 2 dX11_played_39 rfl rfl ?_
        refine b_iald C (Int32.toNatClampNeg v3) dX11_played_40 (by have := hv2; omega) (lw_l0 hv2) h.1 rfl ?_
        have h := h.2
        refine a_aload_n C 1 dX11_played_41 rfl rfl ?_
        refine a_getr C 1 (r := (12 + 4 * v2)) dX11_played_42 (by have := hv2; omega) (lw_obj hv2) rfl rfl ib_3 (by decide) bw_240 ?_
        refine a_iload_n C 2 dX11_played_45 rfl rfl ?_
        refine b_iald C (Int32.toNatClampNeg v3) dX11_played_46 (by have := hv2; omega) (lw_l1 hv2) h.1 rfl ?_
        have h := h.2
        refine a_aload_n C 1 dX11_played_47 rfl rfl ?_
        refine a_getr C 2 (r := (13 + 4 * v2)) dX11_played_48 (by have := hv2; omega) (lw_obj hv2) rfl rfl ib_3 (by decide) bw_242 ?_
        refine a_iload_n C 2 dX11_played_51 rfl rfl ?_
        refine b_iald C (Int32.toNatClampNeg v3) dX11_played_52 (by have := hv2; omega) (lw_l2 hv2) h.1 rfl ?_
        have h := h.2
        refine a_callVi C dX11_played_53 (m_X11_act l V h) bw_748 bw_750 bw_25 bw_112 bw_751 (by decide) rfl rfl np_X11_act rfl rfl (by decide) (Nat.le_of_ble_eq_true rfl) ⟨Nat.zero_le _, Nat.zero_le _⟩ (fun r4 u5 h => ?_)
        refine a_if_ne C 61 dX11_played_56 (by decide) (fun c6 => ?_) (fun c6 => ?_)
        · have h := h.1 c6
          refine a_iinc C (v3 + 1) 2 [(3, .int (v3 + 1)), (0, .ref (eA V 0)), (2, .ref (eA V (7 + v2)))] dX11_played_61 rfl (congrArg (fun z => v3 + z) (show Int32.ofInt 1 = 1 by decide)) (by decide) rfl ?_
          refine a_goto C 20 dX11_played_64 (by decide) ?_
          refine a_sub [1, 2, 0] rfl ?_
          exact ih _ _ hv2 _ h
        · have h := h.2 c6
          refine a_iload_n C 2 dX11_played_59 rfl rfl ?_
          exact a_iret C dX11_played_60 h
theorem np_X11_played : yX11_played.cls ≠ "java/lang/invoke/MethodHandle" ∧ yX11_played.cls ≠ "java/lang/invoke/VarHandle" ∧ (parseMethodDescriptor yX11_played.desc).map (fun d => d.parameters.length) = some 1 := by decide +kernel
set_option maxHeartbeats 4000000 in
set_option maxRecDepth 100000 in
theorem m_X11_played (l : Launch) (V : VEn) {a0 : Int32} {u : PoS} {post : Int32 → PoS → Prop} (h : wp_X11_played a0 u post) : KI l V yX11_played cX11_played 4 .int 7 [.ref (eA V 0), .int a0] u post := by
  refine KI_of (by decide) (Nat.le_of_ble_eq_true rfl) (lv := [(0, .ref (eA V 0)), (1, .int a0)]) rfl ?_
  intro p e s m args below meth c C
  rw [wp_X11_played] at h
  refine a_aload_n C 0 dX11_played_0 rfl rfl ?_
  refine a_iload_n C 1 dX11_played_1 rfl rfl ?_
  refine a_callVi C dX11_played_2 (m_X11_isText l V h) bw_618 bw_620 bw_20 bw_112 bw_621 (by decide) rfl rfl np_X11_isText rfl rfl (by decide) (Nat.le_of_ble_eq_true rfl) ⟨Nat.zero_le _, Nat.zero_le _⟩ (fun r1 u2 h => ?_)
  refine a_if_ne C 11 dX11_played_5 (by decide) (fun c9 => ?_) (fun c9 => ?_)
  · have h := h.1 c9
    refine a_aload_n C 0 dX11_played_11 rfl rfl ?_
    refine a_getr C 4 (r := 6) dX11_played_12 (by decide) rfl rfl rfl ib_11 (by decide) bw_353 ?_
    refine a_iload_n C 1 dX11_played_15 rfl rfl ?_
    obtain ⟨hi3, h⟩ := h
    refine a_aald C dX11_played_16 hi3 ?_
    refine a_astore_n C [(2, .ref (eA V (7 + (Int32.toNatClampNeg a0)))), (0, .ref (eA V 0)), (1, .int a0)] dX11_played_17 rfl (by decide) rfl ?_
    refine a_iconst C 0 dX11_played_18 (by decide) ?_
    refine a_istore_n C [(3, .int 0), (2, .ref (eA V (7 + (Int32.toNatClampNeg a0)))), (0, .ref (eA V 0)), (1, .int a0)] dX11_played_19 rfl (by decide) rfl ?_
    refine a_sub [2, 1, 0] rfl ?_
    obtain ⟨n20, h⟩ := h
    refine tl_X11_played_20 C n20 _ _ (vp4 hi3) _ h
  · have h := h.2 c9
    refine a_bipush C (-2) dX11_played_8 (by decide) ?_
    exact a_iret C dX11_played_10 h

/-! RainOnTheOne.years(II)I -/
def wl_X11_years_43 (post : Int32 → PoS → Prop) : Nat → Int32 → Int32 → PoS → Prop
  | 0, _, _, _ => False
  | n + 1, v2, v3, u => ((v2 ≤ v3 → post (gI u 3 51) u) ∧ (¬ v2 ≤ v3 → wp_X8_nextX 0 u (fun (r8 : Int32) (u9 : PoS) => wp_X8_liveOn 0 r8 u9 (fun (u11 : PoS) => wl_X11_years_43 post n v2 (v3 + 1) u11))))
def wp_X11_years (a0 : Int32) (a1 : Int32) (u : PoS) (post : Int32 → PoS → Prop) : Prop := wp_X11_isWithin a0 0 9999 u (fun (r1 : Int32) (u2 : PoS) => ((r1 = 0 → post (-1) u2) ∧ (¬ r1 = 0 → wp_X11_isWithin a1 1 40 u2 (fun (r3 : Int32) (u4 : PoS) => ((¬ r3 = 0 → wp_X11_remember u4 (fun (u6 : PoS) => ∀ z7 : PoS, z7 = pI u6 3 52 ((a0 * 2) + 241) → (∃ n43, wl_X11_years_43 post n43 a1 0 z7))) ∧ (r3 = 0 → post (-1) u4))))))
set_option maxHeartbeats 4000000 in
set_option maxRecDepth 100000 in
theorem tl_X11_years_43 {p : Program} {l : Launch} {e : Env} {s : State} {m : MethodId} {args : Array Value} {below : List Frame} {meth : Method} {c : Code} {V : VEn} {post : Int32 → PoS → Prop} (C : CxS p s m args meth c V cX11_years 4 RX11 (some .int)) : ∀ (n : Nat) (v2 : Int32) (v3 : Int32) (u : PoS), wl_X11_years_43 post n v2 v3 u → AtS p l e (Rm 6) s m args below meth c V 4 0 0 (QI V below args s post) 43 [(0, .ref (eA V 0)), (2, .int v2), (3, .int v3)] [] u := by
  intro n
  induction n with
  | zero => intro v2 v3 u h; exact h.elim
  | succ n ih =>
    intro v2 v3 u h
    rw [wl_X11_years_43] at h
    refine a_iload_n C 2 dX11_years_43 rfl rfl ?_
    refine a_iload_n C 1 dX11_years_44 rfl rfl ?_
    refine a_icmp_ge C 68 dX11_years_45 (by decide) (fun c12 => ?_) (fun c12 => ?_)
    · have h := h.1 c12
      refine a_aload_n C 0 dX11_years_68 rfl rfl ?_
      refine a_getr C 2 (r := 3) dX11_years_69 (by decide) rfl rfl rfl ib_11 (by decide) bw_351 ?_
      refine a_bipush C 51 dX11_years_72 (by decide) ?_
      refine b_iald C 51 dX11_years_74 (by decide) rfl (vp_lit (by decide)) (by decide) ?_
      exact a_iret C dX11_years_75 h
    · have h := h.2 c12
      refine a_aload_n C 0 dX11_years_48 rfl rfl ?_
      refine a_getr C 0 (r := 1) dX11_years_49 (by decide) rfl rfl rfl ib_11 (by decide) bw_349 ?_
      refine a_aload_n C 0 dX11_years_52 rfl rfl ?_
      refine a_getr C 0 (r := 1) dX11_years_53 (by decide) rfl rfl rfl ib_11 (by decide) bw_349 ?_
      refine a_callVi C dX11_years_56 (m_X8_nextX l V (by decide) h) bw_656 bw_657 bw_658 bw_120 bw_659 (by decide) rfl rfl np_X8_nextX rfl rfl (by decide) (Nat.le_of_ble_eq_true rfl) ⟨Nat.zero_le _, Nat.zero_le _⟩ (fun r8 u9 h => ?_)
      refine a_callVv C dX11_years_59 (m_X8_liveOn l V (by decide) h) bw_762 bw_763 bw_764 bw_120 bw_765 (by decide) rfl rfl np_X8_liveOn rfl rfl (by decide) (Nat.le_of_ble_eq_true rfl) ⟨Nat.zero_le _, Nat.zero_le _⟩ (fun u11 h => ?_)
      refine a_iinc C (v3 + 1) 2 [(3, .int (v3 + 1)), (0, .ref (eA V 0)), (2, .int v2)] dX11_years_62 rfl (congrArg (fun z => v3 + z) (show Int32.ofInt 1 = 1 by decide)) (by decide) rfl ?_
      refine a_goto C 43 dX11_years_65 (by decide) ?_
      refine a_sub [1, 2, 0] rfl ?_
      exact ih _ _ _ h
theorem np_X11_years : yX11_years.cls ≠ "java/lang/invoke/MethodHandle" ∧ yX11_years.cls ≠ "java/lang/invoke/VarHandle" ∧ (parseMethodDescriptor yX11_years.desc).map (fun d => d.parameters.length) = some 2 := by decide +kernel
set_option maxHeartbeats 4000000 in
set_option maxRecDepth 100000 in
theorem m_X11_years (l : Launch) (V : VEn) {a0 : Int32} {a1 : Int32} {u : PoS} {post : Int32 → PoS → Prop} (h : wp_X11_years a0 a1 u post) : KI l V yX11_years cX11_years 4 .int 6 [.ref (eA V 0), .int a0, .int a1] u post := by
  refine KI_of (by decide) (Nat.le_of_ble_eq_true rfl) (lv := [(0, .ref (eA V 0)), (1, .int a0), (2, .int a1)]) rfl ?_
  intro p e s m args below meth c C
  rw [wp_X11_years] at h
  refine a_iload_n C 1 dX11_years_0 rfl rfl ?_
  refine a_iconst C 0 dX11_years_1 (by decide) ?_
  refine a_sipush C 9999 dX11_years_2 (by decide) ?_
  refine a_callSi C dX11_years_5 (m_X11_isWithin l V h) bw_405 bw_406 bw_112 bw_407 np_X11_isWithin rfl rfl (by decide) (Nat.le_of_ble_eq_true rfl) ⟨Nat.zero_le _, Nat.zero_le _⟩ (fun r1 u2 h => ?_)
  refine a_if_eq C 21 dX11_years_8 (by decide) (fun c14 => ?_) (fun c14 => ?_)
  · have h := h.1 c14
    refine a_iconst C (-1) dX11_years_21 (by decide) ?_
    exact a_iret C dX11_years_22 h
  · have h := h.2 c14
    refine a_iload_n C 2 dX11_years_11 rfl rfl ?_
    refine a_iconst C 1 dX11_years_12 (by decide) ?_
    refine a_bipush C 40 dX11_years_13 (by decide) ?_
    refine a_callSi C dX11_years_15 (m_X11_isWithin l V h) bw_405 bw_406 bw_112 bw_407 np_X11_isWithin rfl rfl (by decide) (Nat.le_of_ble_eq_true rfl) ⟨Nat.zero_le _, Nat.zero_le _⟩ (fun r3 u4 h => ?_)
    refine a_if_ne C 23 dX11_years_18 (by decide) (fun c13 => ?_) (fun c13 => ?_)
    · have h := h.1 c13
      refine a_aload_n C 0 dX11_years_23 rfl rfl ?_
      refine a_callVv C dX11_years_24 (m_X11_remember l V h) bw_644 bw_646 bw_22 bw_112 bw_647 (by decide) rfl rfl np_X11_remember rfl rfl (by decide) (Nat.le_of_ble_eq_true rfl) ⟨Nat.zero_le _, Nat.zero_le _⟩ (fun u6 h => ?_)
      refine a_aload_n C 0 dX11_years_27 rfl rfl ?_
      refine a_getr C 2 (r := 3) dX11_years_28 (by decide) rfl rfl rfl ib_11 (by decide) bw_351 ?_
      refine a_bipush C 52 dX11_years_31 (by decide) ?_
      refine a_iload_n C 1 dX11_years_33 rfl rfl ?_
      refine a_iconst C 2 dX11_years_34 (by decide) ?_
      refine a_imul C dX11_years_35 ?_
      refine a_sipush C 241 dX11_years_36 (by decide) ?_
      refine a_iadd C dX11_years_39 ?_
      refine b_iast C 52 dX11_years_40 (by decide) rfl (vp_lit (by decide)) (by decide) ?_
      refine a_topu (fun z7 ez7 => ?_)
      have h := h z7 ez7
      refine a_iconst C 0 dX11_years_41 (by decide) ?_
      refine a_istore_n C [(3, .int 0), (0, .ref (eA V 0)), (1, .int a0), (2, .int a1)] dX11_years_42 rfl (by decide) rfl ?_
      refine a_sub [1, 3, 0] rfl ?_
      obtain ⟨n43, h⟩ := h
      refine tl_X11_years_43 C n43 _ _ _ h
    · have h := h.2 c13
      refine a_iconst C (-1) dX11_years_21 (by decide) ?_
      exact a_iret C dX11_years_22 h

/-! RainOnTheOne.undo()I -/
def wl_X11_undo_48 (k141 : Int32 → Int32 → PoS → Prop) (post : Int32 → PoS → Prop) : Nat → Int32 → Int32 → Int32 → PoS → Prop
  | 0, _, _, _, _ => False
  | n + 1, v1, v2, v3, u => (((gI u 3 84) ≤ v3 → k141 v1 v2 u) ∧ (¬ (gI u 3 84) ≤ v3 → vp_in (0 + v3) 2735 ∧ vp_in ((v2 + 0) + v3) 2735 ∧ ∀ z4 : PoS, z4 = pI u 3 (Int32.toNatClampNeg ((v2 + 0) + v3)) (gI u 3 (Int32.toNatClampNeg (0 + v3))) → vp_in (5 + v3) 2735 ∧ vp_in ((v2 + 5) + v3) 2735 ∧ ∀ z5 : PoS, z5 = pI z4 3 (Int32.toNatClampNeg ((v2 + 5) + v3)) (gI z4 3 (Int32.toNatClampNeg (5 + v3))) → vp_in (10 + v3) 2735 ∧ vp_in ((v2 + 10) + v3) 2735 ∧ ∀ z6 : PoS, z6 = pI z5 3 (Int32.toNatClampNeg ((v2 + 10) + v3)) (gI z5 3 (Int32.toNatClampNeg (10 + v3))) → vp_in (15 + v3) 2735 ∧ vp_in ((v2 + 15) + v3) 2735 ∧ ∀ z7 : PoS, z7 = pI z6 3 (Int32.toNatClampNeg ((v2 + 15) + v3)) (gI z6 3 (Int32.toNatClampNeg (15 + v3))) → wl_X11_undo_48 k141 post n v1 v2 (v3 + 1) z7))
def wp_X11_undo (u : PoS) (post : Int32 → PoS → Prop) : Prop := ∀ x1 : Int32, x1 = ((gI u 3 183) - 1) → ((0 ≤ x1 → ∀ x2 : Int32, x2 = (185 + ((irem ((gI u 3 184) + x1) 30) * 85)) → vp_in (x2 + 84) 2735 ∧ ∀ x3 : Int32, x3 = (gI u 3 (Int32.toNatClampNeg (x2 + 84))) → (∃ n48, wl_X11_undo_48 (fun (v19 : Int32) (v29 : Int32) (u9 : PoS) => vp_in (v29 + 84) 2735 ∧ ∀ z10 : PoS, z10 = pI u9 3 (Int32.toNatClampNeg (v29 + 84)) (gI u9 3 84) → (¬ v29 < 0 ∧ ¬ (0 : Int32) < 0 ∧ ¬ (85 : Int32) < 0 ∧ Int32.toNatClampNeg v29 + Int32.toNatClampNeg 85 ≤ 2735 ∧ Int32.toNatClampNeg 0 + Int32.toNatClampNeg 85 ≤ 2735) ∧ ∀ z11 : PoS, z11 = cI z10 3 3 (Int32.toNatClampNeg v29) (Int32.toNatClampNeg 0) (Int32.toNatClampNeg 85) → ∀ z12 : PoS, z12 = pI z11 3 183 v19 → post v19 z12) post n48 x1 x2 x3 u)) ∧ (¬ 0 ≤ x1 → post (-1) u))
set_option maxHeartbeats 4000000 in
set_option maxRecDepth 100000 in
theorem tl_X11_undo_48 {p : Program} {l : Launch} {e : Env} {s : State} {m : MethodId} {args : Array Value} {below : List Frame} {meth : Method} {c : Code} {V : VEn} {k141 : Int32 → Int32 → PoS → Prop} {post : Int32 → PoS → Prop} (C : CxS p s m args meth c V cX11_undo 4 RX11 (some .int)) (hk141 : ∀ (v1 : Int32) (v2 : Int32) (u : PoS), k141 v1 v2 u → AtS p l e (Rm 1) s m args below meth c V 4 0 0 (QI V below args s post) 141 [(0, .ref (eA V 0)), (1, .int v1), (2, .int v2)] [] u) : ∀ (n : Nat) (v1 : Int32) (v2 : Int32) (v3 : Int32) (u : PoS), wl_X11_undo_48 k141 post n v1 v2 v3 u → AtS p l e (Rm 1) s m args below meth c V 4 0 0 (QI V below args s post) 48 [(0, .ref (eA V 0)), (1, .int v1), (2, .int v2), (3, .int v3)] [] u := by
  intro n
  induction n with
  | zero => intro v1 v2 v3 u h; exact h.elim
  | succ n ih =>
    intro v1 v2 v3 u h
    rw [wl_X11_undo_48] at h
    refine a_iload_n C 3 dX11_undo_48 rfl rfl ?_
    refine a_aload_n C 0 dX11_undo_49 rfl rfl ?_
    refine a_getr C 2 (r := 3) dX11_undo_50 (by decide) rfl rfl rfl ib_11 (by decide) bw_351 ?_
    refine a_bipush C 84 dX11_undo_53 (by decide) ?_
    refine b_iald C 84 dX11_undo_55 (by decide) rfl (vp_lit (by decide)) (by decide) ?_
    refine a_icmp_ge C 141 dX11_undo_56 (by decide) (fun c8 => ?_) (fun c8 => ?_)
    · have h := h.1 c8
      refine a_sub [0, 1, 2] rfl ?_
      exact hk141 _ _ _ h
    · have h := h.2 c8
      refine a_aload_n C 0 dX11_undo_59 rfl rfl ?_
      refine a_getr C 2 (r := 3) dX11_undo_60 (by decide) rfl rfl rfl ib_11 (by decide) bw_351 ?_
      refine a_iload_n C 2 dX11_undo_63 rfl rfl ?_
      refine a_iconst C 0 dX11_undo_64 (by decide) ?_
      refine a_iadd C dX11_undo_65 ?_
      refine a_iload_n C 3 dX11_undo_66 rfl rfl ?_
      refine a_iadd C dX11_undo_67 ?_
      refine a_aload_n C 0 dX11_undo_68 rfl rfl ?_
      refine a_getr C 2 (r := 3) dX11_undo_69 (by decide) rfl rfl rfl ib_11 (by decide) bw_351 ?_
      refine a_iconst C 0 dX11_undo_72 (by decide) ?_
      refine a_iload_n C 3 dX11_undo_73 rfl rfl ?_
      refine a_iadd C dX11_undo_74 ?_
      refine b_iald C (Int32.toNatClampNeg (0 + v3)) dX11_undo_75 (by decide) rfl h.1 rfl ?_
      have h := h.2
      refine b_iast C (Int32.toNatClampNeg ((v2 + 0) + v3)) dX11_undo_76 (by decide) rfl h.1 rfl ?_
      have h := h.2
      refine a_topu (fun z4 ez4 => ?_)
      have h := h z4 ez4
      refine a_aload_n C 0 dX11_undo_77 rfl rfl ?_
      refine a_getr C 2 (r := 3) dX11_undo_78 (by decide) rfl rfl rfl ib_11 (by decide) bw_351 ?_
      refine a_iload_n C 2 dX11_undo_81 rfl rfl ?_
      refine a_iconst C 5 dX11_undo_82 (by decide) ?_
      refine a_iadd C dX11_undo_83 ?_
      refine a_iload_n C 3 dX11_undo_84 rfl rfl ?_
      refine a_iadd C dX11_undo_85 ?_
      refine a_aload_n C 0 dX11_undo_86 rfl rfl ?_
      refine a_getr C 2 (r := 3) dX11_undo_87 (by decide) rfl rfl rfl ib_11 (by decide) bw_351 ?_
      refine a_iconst C 5 dX11_undo_90 (by decide) ?_
      refine a_iload_n C 3 dX11_undo_91 rfl rfl ?_
      refine a_iadd C dX11_undo_92 ?_
      refine b_iald C (Int32.toNatClampNeg (5 + v3)) dX11_undo_93 (by decide) rfl h.1 rfl ?_
      have h := h.2
      refine b_iast C (Int32.toNatClampNeg ((v2 + 5) + v3)) dX11_undo_94 (by decide) rfl h.1 rfl ?_
      have h := h.2
      refine a_topu (fun z5 ez5 => ?_)
      have h := h z5 ez5
      refine a_aload_n C 0 dX11_undo_95 rfl rfl ?_
      refine a_getr C 2 (r := 3) dX11_undo_96 (by decide) rfl rfl rfl ib_11 (by decide) bw_351 ?_
      refine a_iload_n C 2 dX11_undo_99 rfl rfl ?_
      refine a_bipush C 10 dX11_undo_100 (by decide) ?_
      refine a_iadd C dX11_undo_102 ?_
      refine a_iload_n C 3 dX11_undo_103 rfl rfl ?_
      refine a_iadd C dX11_undo_104 ?_
      refine a_aload_n C 0 dX11_undo_105 rfl rfl ?_
      refine a_getr C 2 (r := 3) dX11_undo_106 (by decide) rfl rfl rfl ib_11 (by decide) bw_351 ?_
      refine a_bipush C 10 dX11_undo_109 (by decide) ?_
      refine a_iload_n C 3 dX11_undo_111 rfl rfl ?_
      refine a_iadd C dX11_undo_112 ?_
      refine b_iald C (Int32.toNatClampNeg (10 + v3)) dX11_undo_113 (by decide) rfl h.1 rfl ?_
      have h := h.2
      refine b_iast C (Int32.toNatClampNeg ((v2 + 10) + v3)) dX11_undo_114 (by decide) rfl h.1 rfl ?_
      have h := h.2
      refine a_topu (fun z6 ez6 => ?_)
      have h := h z6 ez6
      refine a_aload_n C 0 dX11_undo_115 rfl rfl ?_
      refine a_getr C 2 (r := 3) dX11_undo_116 (by decide) rfl rfl rfl ib_11 (by decide) bw_351 ?_
      refine a_iload_n C 2 dX11_undo_119 rfl rfl ?_
      refine a_bipush C 15 dX11_undo_120 (by decide) ?_
      refine a_iadd C dX11_undo_122 ?_
      refine a_iload_n C 3 dX11_undo_123 rfl rfl ?_
      refine a_iadd C dX11_undo_124 ?_
      refine a_aload_n C 0 dX11_undo_125 rfl rfl ?_
      refine a_getr C 2 (r := 3) dX11_undo_126 (by decide) rfl rfl rfl ib_11 (by decide) bw_351 ?_
      refine a_bipush C 15 dX11_undo_129 (by decide) ?_
      refine a_iload_n C 3 dX11_undo_131 rfl rfl ?_
      refine a_iadd C dX11_undo_132 ?_
      refine b_iald C (Int32.toNatClampNeg (15 + v3)) dX11_undo_133 (by decide) rfl h.1 rfl ?_
      have h := h.2
      refine b_iast C (Int32.toNatClampNeg ((v2 + 15) + v3)) dX11_undo_134 (by decide) rfl h.1 rfl ?_
      have h := h.2
      refine a_topu (fun z7 ez7 => ?_)
      have h := h z7 ez7
      refine a_iinc C (v3 + 1) 3 [(3, .int (v3 + 1)), (0, .ref (eA V 0)), (1, .int v1), (2, .int v2)] dX11_undo_135 rfl (congrArg (fun z => v3 + z) (show Int32.ofInt 1 = 1 by decide)) (by decide) rfl ?_
      refine a_goto C 48 dX11_undo_138 (by decide) ?_
      refine a_sub [1, 2, 3, 0] rfl ?_
      exact ih _ _ _ _ h
theorem np_X11_undo : yX11_undo.cls ≠ "java/lang/invoke/MethodHandle" ∧ yX11_undo.cls ≠ "java/lang/invoke/VarHandle" ∧ (parseMethodDescriptor yX11_undo.desc).map (fun d => d.parameters.length) = some 0 := by decide +kernel
set_option maxHeartbeats 4000000 in
set_option maxRecDepth 100000 in
theorem m_X11_undo (l : Launch) (V : VEn) {u : PoS} {post : Int32 → PoS → Prop} (h : wp_X11_undo  u post) : KI l V yX11_undo cX11_undo 4 .int 1 [.ref (eA V 0)] u post := by
  refine KI_of (by decide) (Nat.le_of_ble_eq_true rfl) (lv := [(0, .ref (eA V 0))]) rfl ?_
  intro p e s m args below meth c C
  rw [wp_X11_undo] at h
  refine a_aload_n C 0 dX11_undo_0 rfl rfl ?_
  refine a_getr C 2 (r := 3) dX11_undo_1 (by decide) rfl rfl rfl ib_11 (by decide) bw_351 ?_
  refine a_sipush C 183 dX11_undo_4 (by decide) ?_
  refine b_iald C 183 dX11_undo_7 (by decide) rfl (vp_lit (by decide)) (by decide) ?_
  refine a_iconst C 1 dX11_undo_8 (by decide) ?_
  refine a_isub C dX11_undo_9 ?_
  refine a_topi (fun x1 ex1 => ?_)
  have h := h x1 ex1
  refine a_istore_n C [(1, .int x1), (0, .ref (eA V 0))] dX11_undo_10 rfl (by decide) rfl ?_
  refine a_iload_n C 0 dX11_undo_11 rfl rfl ?_
  refine a_if_ge C 17 dX11_undo_12 (by decide) (fun c13 => ?_) (fun c13 => ?_)
  · have h := h.1 c13
    refine a_sipush C 185 dX11_undo_17 (by decide) ?_
    refine a_aload_n C 1 dX11_undo_20 rfl rfl ?_
    refine a_getr C 2 (r := 3) dX11_undo_21 (by decide) rfl rfl rfl ib_11 (by decide) bw_351 ?_
    refine a_sipush C 184 dX11_undo_24 (by decide) ?_
    refine b_iald C 184 dX11_undo_27 (by decide) rfl (vp_lit (by decide)) (by decide) ?_
    refine a_iload_n C 0 dX11_undo_28 rfl rfl ?_
    refine a_iadd C dX11_undo_29 ?_
    refine a_bipush C 30 dX11_undo_30 (by decide) ?_
    refine b_irem C dX11_undo_32 (by decide) ?_
    refine a_bipush C 85 dX11_undo_33 (by decide) ?_
    refine a_imul C dX11_undo_35 ?_
    refine a_iadd C dX11_undo_36 ?_
    refine a_topi (fun x2 ex2 => ?_)
    have h := h x2 ex2
    refine a_istore_n C [(2, .int x2), (1, .int x1), (0, .ref (eA V 0))] dX11_undo_37 rfl (by decide) rfl ?_
    refine a_aload_n C 2 dX11_undo_38 rfl rfl ?_
    refine a_getr C 2 (r := 3) dX11_undo_39 (by decide) rfl rfl rfl ib_11 (by decide) bw_351 ?_
    refine a_iload_n C 0 dX11_undo_42 rfl rfl ?_
    refine a_bipush C 84 dX11_undo_43 (by decide) ?_
    refine a_iadd C dX11_undo_45 ?_
    refine b_iald C (Int32.toNatClampNeg (x2 + 84)) dX11_undo_46 (by decide) rfl h.1 rfl ?_
    have h := h.2
    refine a_topi (fun x3 ex3 => ?_)
    have h := h x3 ex3
    refine a_istore_n C [(3, .int x3), (2, .int x2), (1, .int x1), (0, .ref (eA V 0))] dX11_undo_47 rfl (by decide) rfl ?_
    refine a_sub [3, 2, 1, 0] rfl ?_
    obtain ⟨n48, h⟩ := h
    refine tl_X11_undo_48 C (fun v19 v29 u9 h => ?_) n48 _ _ _ _ h
    refine a_aload_n C 0 dX11_undo_141 rfl rfl ?_
    refine a_getr C 2 (r := 3) dX11_undo_142 (by decide) rfl rfl rfl ib_11 (by decide) bw_351 ?_
    refine a_iload_n C 2 dX11_undo_145 rfl rfl ?_
    refine a_bipush C 84 dX11_undo_146 (by decide) ?_
    refine a_iadd C dX11_undo_148 ?_
    refine a_aload_n C 0 dX11_undo_149 rfl rfl ?_
    refine a_getr C 2 (r := 3) dX11_undo_150 (by decide) rfl rfl rfl ib_11 (by decide) bw_351 ?_
    refine a_bipush C 84 dX11_undo_153 (by decide) ?_
    refine b_iald C 84 dX11_undo_155 (by decide) rfl (vp_lit (by decide)) (by decide) ?_
    refine b_iast C (Int32.toNatClampNeg (v29 + 84)) dX11_undo_156 (by decide) rfl h.1 rfl ?_
    have h := h.2
    refine a_topu (fun z10 ez10 => ?_)
    have h := h z10 ez10
    refine a_aload_n C 0 dX11_undo_157 rfl rfl ?_
    refine a_getr C 2 (r := 3) dX11_undo_158 (by decide) rfl rfl rfl ib_11 (by decide) bw_351 ?_
    refine a_iload_n C 2 dX11_undo_161 rfl rfl ?_
    refine a_aload_n C 0 dX11_undo_162 rfl rfl ?_
    refine a_getr C 2 (r := 3) dX11_undo_163 (by decide) rfl rfl rfl ib_11 (by decide) bw_351 ?_
    refine a_iconst C 0 dX11_undo_166 (by decide) ?_
    refine a_bipush C 85 dX11_undo_167 (by decide) ?_
    obtain ⟨⟨q1, q2, q3, q4, q5⟩, h⟩ := h
    refine a_copy C dX11_undo_169 bw_346 bw_348 bw_347 bw_122 (by decide) (by decide) rfl rfl q1 q2 q3 q4 q5 (by decide) (Nat.le_of_ble_eq_true rfl) ?_
    refine a_topu (fun z11 ez11 => ?_)
    have h := h z11 ez11
    refine a_aload_n C 0 dX11_undo_172 rfl rfl ?_
    refine a_getr C 2 (r := 3) dX11_undo_173 (by decide) rfl rfl rfl ib_11 (by decide) bw_351 ?_
    refine a_sipush C 183 dX11_undo_176 (by decide) ?_
    refine a_iload_n C 1 dX11_undo_179 rfl rfl ?_
    refine b_iast C 183 dX11_undo_180 (by decide) rfl (vp_lit (by decide)) (by decide) ?_
    refine a_topu (fun z12 ez12 => ?_)
    have h := h z12 ez12
    refine a_iload_n C 1 dX11_undo_181 rfl rfl ?_
    exact a_iret C dX11_undo_182 h
  · have h := h.2 c13
    refine a_iconst C (-1) dX11_undo_15 (by decide) ?_
    exact a_iret C dX11_undo_16 h

/-! RainOnTheOne.of(II)I -/
def wp_X11_of (a0 : Int32) (a1 : Int32) (u : PoS) (post : Int32 → PoS → Prop) : Prop := wp_X11_isPerson a0 u (fun (r1 : Int32) (u2 : PoS) => ((¬ r1 = 0 → ((a1 = 0 → vp_in (0 + a0) 2735 ∧ post (gI u2 3 (Int32.toNatClampNeg (0 + a0))) u2) ∧ (a1 = 1 → vp_in (5 + a0) 2735 ∧ post (gI u2 3 (Int32.toNatClampNeg (5 + a0))) u2) ∧ (a1 = 2 → vp_in (10 + a0) 2735 ∧ post (gI u2 3 (Int32.toNatClampNeg (10 + a0))) u2) ∧ (a1 = 3 → vp_in (15 + a0) 2735 ∧ post (gI u2 3 (Int32.toNatClampNeg (15 + a0))) u2) ∧ (a1 = 4 → wp_X8_stepsTo 0 a0 u2 (fun (r3 : Int32) (u4 : PoS) => wp_X8_wantsBy 0 (gI u2 3 116) a0 r3 u4 (fun (r5 : Int32) (u6 : PoS) => post r5 u6))) ∧ (a1 = 5 → wp_X8_poursOn 0 a0 u2 (fun (r7 : Int32) (u8 : PoS) => post r7 u8)) ∧ (¬ a1 = 0 → ¬ a1 = 1 → ¬ a1 = 2 → ¬ a1 = 3 → ¬ a1 = 4 → ¬ a1 = 5 → post (-1) u2))) ∧ (r1 = 0 → post (-1) u2)))
theorem np_X11_of : yX11_of.cls ≠ "java/lang/invoke/MethodHandle" ∧ yX11_of.cls ≠ "java/lang/invoke/VarHandle" ∧ (parseMethodDescriptor yX11_of.desc).map (fun d => d.parameters.length) = some 2 := by decide +kernel
set_option maxHeartbeats 4000000 in
set_option maxRecDepth 100000 in
theorem m_X11_of (l : Launch) (V : VEn) {a0 : Int32} {a1 : Int32} {u : PoS} {post : Int32 → PoS → Prop} (h : wp_X11_of a0 a1 u post) : KI l V yX11_of cX11_of 3 .int 3 [.ref (eA V 0), .int a0, .int a1] u post := by
  refine KI_of (by decide) (Nat.le_of_ble_eq_true rfl) (lv := [(0, .ref (eA V 0)), (1, .int a0), (2, .int a1)]) rfl ?_
  intro p e s m args below meth c C
  rw [wp_X11_of] at h
  refine a_aload_n C 0 dX11_of_0 rfl rfl ?_
  refine a_iload_n C 1 dX11_of_1 rfl rfl ?_
  refine a_callVi C dX11_of_2 (m_X11_isPerson l V h) bw_626 bw_628 bw_21 bw_112 bw_629 (by decide) rfl rfl np_X11_isPerson rfl rfl (by decide) (Nat.le_of_ble_eq_true rfl) ⟨Nat.zero_le _, Nat.zero_le _⟩ (fun r1 u2 h => ?_)
  refine a_if_ne C 10 dX11_of_5 (by decide) (fun c9 => ?_) (fun c9 => ?_)
  · have h := h.1 c9
    refine a_iload_n C 2 dX11_of_10 rfl rfl ?_
    obtain ⟨hs0, hs1, hs2, hs3, hs4, hs5, hd0⟩ := h
    by_cases hq0 : a1 = 0
    · have h := hs0 hq0
      refine a_tableIn C (off := 37) 48 dX11_of_11 (by rw [hq0]; decide) (by rw [hq0]; decide) (by rw [hq0]; decide +kernel) (by decide) ?_
      refine a_aload_n C 0 dX11_of_48 rfl rfl ?_
      refine a_getr C 2 (r := 3) dX11_of_49 (by decide) rfl rfl rfl ib_11 (by decide) bw_351 ?_
      refine a_iconst C 0 dX11_of_52 (by decide) ?_
      refine a_iload_n C 1 dX11_of_53 rfl rfl ?_
      refine a_iadd C dX11_of_54 ?_
      refine b_iald C (Int32.toNatClampNeg (0 + a0)) dX11_of_55 (by decide) rfl h.1 rfl ?_
      have h := h.2
      exact a_iret C dX11_of_56 h
    by_cases hq1 : a1 = 1
    · have h := hs1 hq1
      refine a_tableIn C (off := 46) 57 dX11_of_11 (by rw [hq1]; decide) (by rw [hq1]; decide) (by rw [hq1]; decide +kernel) (by decide) ?_
      refine a_aload_n C 0 dX11_of_57 rfl rfl ?_
      refine a_getr C 2 (r := 3) dX11_of_58 (by decide) rfl rfl rfl ib_11 (by decide) bw_351 ?_
      refine a_iconst C 5 dX11_of_61 (by decide) ?_
      refine a_iload_n C 1 dX11_of_62 rfl rfl ?_
      refine a_iadd C dX11_of_63 ?_
      refine b_iald C (Int32.toNatClampNeg (5 + a0)) dX11_of_64 (by decide) rfl h.1 rfl ?_
      have h := h.2
      exact a_iret C dX11_of_65 h
    by_cases hq2 : a1 = 2
    · have h := hs2 hq2
      refine a_tableIn C (off := 55) 66 dX11_of_11 (by rw [hq2]; decide) (by rw [hq2]; decide) (by rw [hq2]; decide +kernel) (by decide) ?_
      refine a_aload_n C 0 dX11_of_66 rfl rfl ?_
      refine a_getr C 2 (r := 3) dX11_of_67 (by decide) rfl rfl rfl ib_11 (by decide) bw_351 ?_
      refine a_bipush C 10 dX11_of_70 (by decide) ?_
      refine a_iload_n C 1 dX11_of_72 rfl rfl ?_
      refine a_iadd C dX11_of_73 ?_
      refine b_iald C (Int32.toNatClampNeg (10 + a0)) dX11_of_74 (by decide) rfl h.1 rfl ?_
      have h := h.2
      exact a_iret C dX11_of_75 h
    by_cases hq3 : a1 = 3
    · have h := hs3 hq3
      refine a_tableIn C (off := 65) 76 dX11_of_11 (by rw [hq3]; decide) (by rw [hq3]; decide) (by rw [hq3]; decide +kernel) (by decide) ?_
      refine a_aload_n C 0 dX11_of_76 rfl rfl ?_
      refine a_getr C 2 (r := 3) dX11_of_77 (by decide) rfl rfl rfl ib_11 (by decide) bw_351 ?_
      refine a_bipush C 15 dX11_of_80 (by decide) ?_
      refine a_iload_n C 1 dX11_of_82 rfl rfl ?_
      refine a_iadd C dX11_of_83 ?_
      refine b_iald C (Int32.toNatClampNeg (15 + a0)) dX11_of_84 (by decide) rfl h.1 rfl ?_
      have h := h.2
      exact a_iret C dX11_of_85 h
    by_cases hq4 : a1 = 4
    · have h := hs4 hq4
      refine a_tableIn C (off := 75) 86 dX11_of_11 (by rw [hq4]; decide) (by rw [hq4]; decide) (by rw [hq4]; decide +kernel) (by decide) ?_
      refine a_aload_n C 0 dX11_of_86 rfl rfl ?_
      refine a_getr C 0 (r := 1) dX11_of_87 (by decide) rfl rfl rfl ib_11 (by decide) bw_349 ?_
      refine a_aload_n C 0 dX11_of_90 rfl rfl ?_
      refine a_getr C 2 (r := 3) dX11_of_91 (by decide) rfl rfl rfl ib_11 (by decide) bw_351 ?_
      refine a_bipush C 116 dX11_of_94 (by decide) ?_
      refine b_iald C 116 dX11_of_96 (by decide) rfl (vp_lit (by decide)) (by decide) ?_
      refine a_iload_n C 1 dX11_of_97 rfl rfl ?_
      refine a_aload_n C 0 dX11_of_98 rfl rfl ?_
      refine a_getr C 0 (r := 1) dX11_of_99 (by decide) rfl rfl rfl ib_11 (by decide) bw_349 ?_
      refine a_iload_n C 1 dX11_of_102 rfl rfl ?_
      refine a_callVi C dX11_of_103 (m_X8_stepsTo l V (by decide) h) bw_776 bw_777 bw_778 bw_120 bw_779 (by decide) rfl rfl np_X8_stepsTo rfl rfl (by decide) (Nat.le_of_ble_eq_true rfl) ⟨Nat.zero_le _, Nat.zero_le _⟩ (fun r3 u4 h => ?_)
      refine a_callVi C dX11_of_106 (m_X8_wantsBy l V (by decide) h) bw_780 bw_691 bw_692 bw_120 bw_693 (by decide) rfl rfl np_X8_wantsBy rfl rfl (by decide) (Nat.le_of_ble_eq_true rfl) ⟨Nat.zero_le _, Nat.zero_le _⟩ (fun r5 u6 h => ?_)
      exact a_iret C dX11_of_109 h
    by_cases hq5 : a1 = 5
    · have h := hs5 hq5
      refine a_tableIn C (off := 99) 110 dX11_of_11 (by rw [hq5]; decide) (by rw [hq5]; decide) (by rw [hq5]; decide +kernel) (by decide) ?_
      refine a_aload_n C 0 dX11_of_110 rfl rfl ?_
      refine a_getr C 0 (r := 1) dX11_of_111 (by decide) rfl rfl rfl ib_11 (by decide) bw_349 ?_
      refine a_iload_n C 1 dX11_of_114 rfl rfl ?_
      refine a_callVi C dX11_of_115 (m_X8_poursOn l V (by decide) h) bw_781 bw_725 bw_726 bw_120 bw_727 (by decide) rfl rfl np_X8_poursOn rfl rfl (by decide) (Nat.le_of_ble_eq_true rfl) ⟨Nat.zero_le _, Nat.zero_le _⟩ (fun r7 u8 h => ?_)
      exact a_iret C dX11_of_118 h
    have h := hd0 hq0 hq1 hq2 hq3 hq4 hq5
    refine a_tableOut C 119 dX11_of_11 (tsw_out 0 5 (fun q h1 h2 => by rcases (show q = 0 ∨ q = 1 ∨ q = 2 ∨ q = 3 ∨ q = 4 ∨ q = 5 by omega) with rfl | rfl | rfl | rfl | rfl | rfl <;> first | exact lv_neT hq0 (by decide) | exact lv_neT hq1 (by decide) | exact lv_neT hq2 (by decide) | exact lv_neT hq3 (by decide) | exact lv_neT hq4 (by decide) | exact lv_neT hq5 (by decide))) (by decide) ?_
    refine a_iconst C (-1) dX11_of_119 (by decide) ?_
    exact a_iret C dX11_of_120 h
  · have h := h.2 c9
    refine a_iconst C (-1) dX11_of_8 (by decide) ?_
    exact a_iret C dX11_of_9 h

/-! RainOnTheOne.ofCell(II)I -/
def wp_X11_ofCell (a0 : Int32) (a1 : Int32) (u : PoS) (post : Int32 → PoS → Prop) : Prop := wp_X11_isCell a0 u (fun (r1 : Int32) (u2 : PoS) => ((¬ r1 = 0 → ((a1 = 0 → vp_in (86 + a0) 2735 ∧ post (gI u2 3 (Int32.toNatClampNeg (86 + a0))) u2) ∧ (a1 = 1 → vp_in (20 + a0) 2735 ∧ post (gI u2 3 (Int32.toNatClampNeg (20 + a0))) u2) ∧ (a1 = 2 → wp_X8_isOpen 0 a0 u2 (fun (r3 : Int32) (u4 : PoS) => ((r3 = 0 → post 1 u4) ∧ (¬ r3 = 0 → post 0 u4)))) ∧ (a1 = 3 → wp_X8_peopleIn 0 a0 u2 (fun (r6 : Int32) (u7 : PoS) => post r6 u7)) ∧ (¬ a1 = 0 → ¬ a1 = 1 → ¬ a1 = 2 → ¬ a1 = 3 → post (-1) u2))) ∧ (r1 = 0 → post (-1) u2)))
theorem np_X11_ofCell : yX11_ofCell.cls ≠ "java/lang/invoke/MethodHandle" ∧ yX11_ofCell.cls ≠ "java/lang/invoke/VarHandle" ∧ (parseMethodDescriptor yX11_ofCell.desc).map (fun d => d.parameters.length) = some 2 := by decide +kernel
set_option maxHeartbeats 4000000 in
set_option maxRecDepth 100000 in
theorem m_X11_ofCell (l : Launch) (V : VEn) {a0 : Int32} {a1 : Int32} {u : PoS} {post : Int32 → PoS → Prop} (h : wp_X11_ofCell a0 a1 u post) : KI l V yX11_ofCell cX11_ofCell 3 .int 2 [.ref (eA V 0), .int a0, .int a1] u post := by
  refine KI_of (by decide) (Nat.le_of_ble_eq_true rfl) (lv := [(0, .ref (eA V 0)), (1, .int a0), (2, .int a1)]) rfl ?_
  intro p e s m args below meth c C
  rw [wp_X11_ofCell] at h
  refine a_iload_n C 1 dX11_ofCell_0 rfl rfl ?_
  refine a_callSi C dX11_ofCell_1 (m_X11_isCell l V h) bw_404 bw_398 bw_112 bw_399 np_X11_isCell rfl rfl (by decide) (Nat.le_of_ble_eq_true rfl) ⟨Nat.zero_le _, Nat.zero_le _⟩ (fun r1 u2 h => ?_)
  refine a_if_ne C 9 dX11_ofCell_4 (by decide) (fun c8 => ?_) (fun c8 => ?_)
  · have h := h.1 c8
    refine a_iload_n C 2 dX11_ofCell_9 rfl rfl ?_
    obtain ⟨hs0, hs1, hs2, hs3, hd0⟩ := h
    by_cases hq0 : a1 = 0
    · have h := hs0 hq0
      refine a_tableIn C (off := 30) 40 dX11_ofCell_10 (by rw [hq0]; decide) (by rw [hq0]; decide) (by rw [hq0]; decide +kernel) (by decide) ?_
      refine a_aload_n C 0 dX11_ofCell_40 rfl rfl ?_
      refine a_getr C 2 (r := 3) dX11_ofCell_41 (by decide) rfl rfl rfl ib_11 (by decide) bw_351 ?_
      refine a_bipush C 86 dX11_ofCell_44 (by decide) ?_
      refine a_iload_n C 1 dX11_ofCell_46 rfl rfl ?_
      refine a_iadd C dX11_ofCell_47 ?_
      refine b_iald C (Int32.toNatClampNeg (86 + a0)) dX11_ofCell_48 (by decide) rfl h.1 rfl ?_
      have h := h.2
      exact a_iret C dX11_ofCell_49 h
    by_cases hq1 : a1 = 1
    · have h := hs1 hq1
      refine a_tableIn C (off := 40) 50 dX11_ofCell_10 (by rw [hq1]; decide) (by rw [hq1]; decide) (by rw [hq1]; decide +kernel) (by decide) ?_
      refine a_aload_n C 0 dX11_ofCell_50 rfl rfl ?_
      refine a_getr C 2 (r := 3) dX11_ofCell_51 (by decide) rfl rfl rfl ib_11 (by decide) bw_351 ?_
      refine a_bipush C 20 dX11_ofCell_54 (by decide) ?_
      refine a_iload_n C 1 dX11_ofCell_56 rfl rfl ?_
      refine a_iadd C dX11_ofCell_57 ?_
      refine b_iald C (Int32.toNatClampNeg (20 + a0)) dX11_ofCell_58 (by decide) rfl h.1 rfl ?_
      have h := h.2
      exact a_iret C dX11_ofCell_59 h
    by_cases hq2 : a1 = 2
    · have h := hs2 hq2
      refine a_tableIn C (off := 50) 60 dX11_ofCell_10 (by rw [hq2]; decide) (by rw [hq2]; decide) (by rw [hq2]; decide +kernel) (by decide) ?_
      refine a_aload_n C 0 dX11_ofCell_60 rfl rfl ?_
      refine a_getr C 0 (r := 1) dX11_ofCell_61 (by decide) rfl rfl rfl ib_11 (by decide) bw_349 ?_
      refine a_iload_n C 1 dX11_ofCell_64 rfl rfl ?_
      refine a_callVi C dX11_ofCell_65 (m_X8_isOpen l V (by decide) h) bw_393 bw_394 bw_395 bw_120 bw_396 (by decide) rfl rfl np_X8_isOpen rfl rfl (by decide) (Nat.le_of_ble_eq_true rfl) ⟨Nat.zero_le _, Nat.zero_le _⟩ (fun r3 u4 h => ?_)
      refine a_if_eq C 75 dX11_ofCell_68 (by decide) (fun c5 => ?_) (fun c5 => ?_)
      · have h := h.1 c5
        refine a_iconst C 1 dX11_ofCell_75 (by decide) ?_
        exact a_iret C dX11_ofCell_76 h
      · have h := h.2 c5
        refine a_iconst C 0 dX11_ofCell_71 (by decide) ?_
        refine a_goto C 76 dX11_ofCell_72 (by decide) ?_
        exact a_iret C dX11_ofCell_76 h
    by_cases hq3 : a1 = 3
    · have h := hs3 hq3
      refine a_tableIn C (off := 67) 77 dX11_ofCell_10 (by rw [hq3]; decide) (by rw [hq3]; decide) (by rw [hq3]; decide +kernel) (by decide) ?_
      refine a_aload_n C 0 dX11_ofCell_77 rfl rfl ?_
      refine a_getr C 0 (r := 1) dX11_ofCell_78 (by decide) rfl rfl rfl ib_11 (by decide) bw_349 ?_
      refine a_iload_n C 1 dX11_ofCell_81 rfl rfl ?_
      refine a_callVi C dX11_ofCell_82 (m_X8_peopleIn l V (by decide) h) bw_412 bw_413 bw_414 bw_120 bw_415 (by decide) rfl rfl np_X8_peopleIn rfl rfl (by decide) (Nat.le_of_ble_eq_true rfl) ⟨Nat.zero_le _, Nat.zero_le _⟩ (fun r6 u7 h => ?_)
      exact a_iret C dX11_ofCell_85 h
    have h := hd0 hq0 hq1 hq2 hq3
    refine a_tableOut C 86 dX11_ofCell_10 (tsw_out 0 3 (fun q h1 h2 => by rcases (show q = 0 ∨ q = 1 ∨ q = 2 ∨ q = 3 by omega) with rfl | rfl | rfl | rfl <;> first | exact lv_neT hq0 (by decide) | exact lv_neT hq1 (by decide) | exact lv_neT hq2 (by decide) | exact lv_neT hq3 (by decide))) (by decide) ?_
    refine a_iconst C (-1) dX11_ofCell_86 (by decide) ?_
    exact a_iret C dX11_ofCell_87 h
  · have h := h.2 c8
    refine a_iconst C (-1) dX11_ofCell_7 (by decide) ?_
    exact a_iret C dX11_ofCell_8 h

/-! RainOnTheOne.is(I)I -/
def wp_X11_is (a0 : Int32) (u : PoS) (post : Int32 → PoS → Prop) : Prop := ((a0 = 0 → post (gI u 3 51) u) ∧ (a0 = 1 → post (gI u 3 50) u) ∧ (a0 = 2 → post (gI u 3 52) u) ∧ (a0 = 3 → wp_X8_goal 0 u (fun (r1 : Int32) (u2 : PoS) => post r1 u2)) ∧ (¬ a0 = 0 → ¬ a0 = 1 → ¬ a0 = 2 → ¬ a0 = 3 → post (-2) u))
theorem np_X11_is : yX11_is.cls ≠ "java/lang/invoke/MethodHandle" ∧ yX11_is.cls ≠ "java/lang/invoke/VarHandle" ∧ (parseMethodDescriptor yX11_is.desc).map (fun d => d.parameters.length) = some 1 := by decide +kernel
set_option maxHeartbeats 4000000 in
set_option maxRecDepth 100000 in
theorem m_X11_is (l : Launch) (V : VEn) {a0 : Int32} {u : PoS} {post : Int32 → PoS → Prop} (h : wp_X11_is a0 u post) : KI l V yX11_is cX11_is 2 .int 4 [.ref (eA V 0), .int a0] u post := by
  refine KI_of (by decide) (Nat.le_of_ble_eq_true rfl) (lv := [(0, .ref (eA V 0)), (1, .int a0)]) rfl ?_
  intro p e s m args below meth c C
  rw [wp_X11_is] at h
  refine a_iload_n C 1 dX11_is_0 rfl rfl ?_
  obtain ⟨hs0, hs1, hs2, hs3, hd0⟩ := h
  by_cases hq0 : a0 = 0
  · have h := hs0 hq0
    refine a_tableIn C (off := 31) 32 dX11_is_1 (by rw [hq0]; decide) (by rw [hq0]; decide) (by rw [hq0]; decide +kernel) (by decide) ?_
    refine a_aload_n C 0 dX11_is_32 rfl rfl ?_
    refine a_getr C 2 (r := 3) dX11_is_33 (by decide) rfl rfl rfl ib_11 (by decide) bw_351 ?_
    refine a_bipush C 51 dX11_is_36 (by decide) ?_
    refine b_iald C 51 dX11_is_38 (by decide) rfl (vp_lit (by decide)) (by decide) ?_
    exact a_iret C dX11_is_39 h
  by_cases hq1 : a0 = 1
  · have h := hs1 hq1
    refine a_tableIn C (off := 39) 40 dX11_is_1 (by rw [hq1]; decide) (by rw [hq1]; decide) (by rw [hq1]; decide +kernel) (by decide) ?_
    refine a_aload_n C 0 dX11_is_40 rfl rfl ?_
    refine a_getr C 2 (r := 3) dX11_is_41 (by decide) rfl rfl rfl ib_11 (by decide) bw_351 ?_
    refine a_bipush C 50 dX11_is_44 (by decide) ?_
    refine b_iald C 50 dX11_is_46 (by decide) rfl (vp_lit (by decide)) (by decide) ?_
    exact a_iret C dX11_is_47 h
  by_cases hq2 : a0 = 2
  · have h := hs2 hq2
    refine a_tableIn C (off := 47) 48 dX11_is_1 (by rw [hq2]; decide) (by rw [hq2]; decide) (by rw [hq2]; decide +kernel) (by decide) ?_
    refine a_aload_n C 0 dX11_is_48 rfl rfl ?_
    refine a_getr C 2 (r := 3) dX11_is_49 (by decide) rfl rfl rfl ib_11 (by decide) bw_351 ?_
    refine a_bipush C 52 dX11_is_52 (by decide) ?_
    refine b_iald C 52 dX11_is_54 (by decide) rfl (vp_lit (by decide)) (by decide) ?_
    exact a_iret C dX11_is_55 h
  by_cases hq3 : a0 = 3
  · have h := hs3 hq3
    refine a_tableIn C (off := 55) 56 dX11_is_1 (by rw [hq3]; decide) (by rw [hq3]; decide) (by rw [hq3]; decide +kernel) (by decide) ?_
    refine a_aload_n C 0 dX11_is_56 rfl rfl ?_
    refine a_getr C 0 (r := 1) dX11_is_57 (by decide) rfl rfl rfl ib_11 (by decide) bw_349 ?_
    refine a_callVi C dX11_is_60 (m_X8_goal l V (by decide) h) bw_790 bw_677 bw_678 bw_120 bw_679 (by decide) rfl rfl np_X8_goal rfl rfl (by decide) (Nat.le_of_ble_eq_true rfl) ⟨Nat.zero_le _, Nat.zero_le _⟩ (fun r1 u2 h => ?_)
    exact a_iret C dX11_is_63 h
  have h := hd0 hq0 hq1 hq2 hq3
  refine a_tableOut C 64 dX11_is_1 (tsw_out 0 3 (fun q h1 h2 => by rcases (show q = 0 ∨ q = 1 ∨ q = 2 ∨ q = 3 by omega) with rfl | rfl | rfl | rfl <;> first | exact lv_neT hq0 (by decide) | exact lv_neT hq1 (by decide) | exact lv_neT hq2 (by decide) | exact lv_neT hq3 (by decide))) (by decide) ?_
  refine a_bipush C (-2) dX11_is_64 (by decide) ?_
  exact a_iret C dX11_is_66 h

/-! RainOnTheOne.book(II)I -/
def wp_X11_book (a0 : Int32) (a1 : Int32) (u : PoS) (post : Int32 → PoS → Prop) : Prop := ((¬ a0 = (-1) → wp_X11_isWithin a0 0 ((gI u 3 53) - 1) u (fun (r1 : Int32) (u2 : PoS) => ((¬ r1 = 0 → vp_in (54 + a0) 2735 ∧ ∀ x3 : Int32, x3 = (gI u2 3 (Int32.toNatClampNeg (54 + a0))) → ((a1 = 0 → wp_X5_minuteIn x3 u2 (fun (r4 : Int32) (u5 : PoS) => post r4 u5)) ∧ (a1 = 1 → wp_X5_personIn x3 u2 (fun (r6 : Int32) (u7 : PoS) => post r6 u7)) ∧ (a1 = 2 → wp_X5_cellIn x3 u2 (fun (r8 : Int32) (u9 : PoS) => post r8 u9)) ∧ (a1 = 3 → wp_X5_waterIn x3 u2 (fun (r10 : Int32) (u11 : PoS) => post r10 u11)) ∧ (¬ a1 = 0 → ¬ a1 = 1 → ¬ a1 = 2 → ¬ a1 = 3 → post (-2) u2))) ∧ (r1 = 0 → post (-2) u2)))) ∧ (a0 = (-1) → post (gI u 3 53) u))
theorem np_X11_book : yX11_book.cls ≠ "java/lang/invoke/MethodHandle" ∧ yX11_book.cls ≠ "java/lang/invoke/VarHandle" ∧ (parseMethodDescriptor yX11_book.desc).map (fun d => d.parameters.length) = some 2 := by decide +kernel
set_option maxHeartbeats 4000000 in
set_option maxRecDepth 100000 in
theorem m_X11_book (l : Launch) (V : VEn) {a0 : Int32} {a1 : Int32} {u : PoS} {post : Int32 → PoS → Prop} (h : wp_X11_book a0 a1 u post) : KI l V yX11_book cX11_book 4 .int 1 [.ref (eA V 0), .int a0, .int a1] u post := by
  refine KI_of (by decide) (Nat.le_of_ble_eq_true rfl) (lv := [(0, .ref (eA V 0)), (1, .int a0), (2, .int a1)]) rfl ?_
  intro p e s m args below meth c C
  rw [wp_X11_book] at h
  refine a_iload_n C 1 dX11_book_0 rfl rfl ?_
  refine a_iconst C (-1) dX11_book_1 (by decide) ?_
  refine a_icmp_ne C 13 dX11_book_2 (by decide) (fun c13 => ?_) (fun c13 => ?_)
  · have h := h.1 c13
    refine a_iload_n C 1 dX11_book_13 rfl rfl ?_
    refine a_iconst C 0 dX11_book_14 (by decide) ?_
    refine a_aload_n C 0 dX11_book_15 rfl rfl ?_
    refine a_getr C 2 (r := 3) dX11_book_16 (by decide) rfl rfl rfl ib_11 (by decide) bw_351 ?_
    refine a_bipush C 53 dX11_book_19 (by decide) ?_
    refine b_iald C 53 dX11_book_21 (by decide) rfl (vp_lit (by decide)) (by decide) ?_
    refine a_iconst C 1 dX11_book_22 (by decide) ?_
    refine a_isub C dX11_book_23 ?_
    refine a_callSi C dX11_book_24 (m_X11_isWithin l V h) bw_405 bw_406 bw_112 bw_407 np_X11_isWithin rfl rfl (by decide) (Nat.le_of_ble_eq_true rfl) ⟨Nat.zero_le _, Nat.zero_le _⟩ (fun r1 u2 h => ?_)
    refine a_if_ne C 33 dX11_book_27 (by decide) (fun c12 => ?_) (fun c12 => ?_)
    · have h := h.1 c12
      refine a_aload_n C 0 dX11_book_33 rfl rfl ?_
      refine a_getr C 2 (r := 3) dX11_book_34 (by decide) rfl rfl rfl ib_11 (by decide) bw_351 ?_
      refine a_bipush C 54 dX11_book_37 (by decide) ?_
      refine a_iload_n C 1 dX11_book_39 rfl rfl ?_
      refine a_iadd C dX11_book_40 ?_
      refine b_iald C (Int32.toNatClampNeg (54 + a0)) dX11_book_41 (by decide) rfl h.1 rfl ?_
      have h := h.2
      refine a_topi (fun x3 ex3 => ?_)
      have h := h x3 ex3
      refine a_istore_n C [(3, .int x3), (0, .ref (eA V 0)), (1, .int a0), (2, .int a1)] dX11_book_42 rfl (by decide) rfl ?_
      refine a_iload_n C 3 dX11_book_43 rfl rfl ?_
      obtain ⟨hs0, hs1, hs2, hs3, hd0⟩ := h
      by_cases hq0 : a1 = 0
      · have h := hs0 hq0
        refine a_tableIn C (off := 32) 76 dX11_book_44 (by rw [hq0]; decide) (by rw [hq0]; decide) (by rw [hq0]; decide +kernel) (by decide) ?_
        refine a_iload_n C 0 dX11_book_76 rfl rfl ?_
        refine a_callSi C dX11_book_77 (m_X5_minuteIn l V h) bw_795 bw_796 bw_130 bw_797 np_X5_minuteIn rfl rfl (by decide) (Nat.le_of_ble_eq_true rfl) ⟨Nat.zero_le _, Nat.zero_le _⟩ (fun r4 u5 h => ?_)
        exact a_iret C dX11_book_80 h
      by_cases hq1 : a1 = 1
      · have h := hs1 hq1
        refine a_tableIn C (off := 37) 81 dX11_book_44 (by rw [hq1]; decide) (by rw [hq1]; decide) (by rw [hq1]; decide +kernel) (by decide) ?_
        refine a_iload_n C 0 dX11_book_81 rfl rfl ?_
        refine a_callSi C dX11_book_82 (m_X5_personIn l V h) bw_798 bw_799 bw_130 bw_800 np_X5_personIn rfl rfl (by decide) (Nat.le_of_ble_eq_true rfl) ⟨Nat.zero_le _, Nat.zero_le _⟩ (fun r6 u7 h => ?_)
        exact a_iret C dX11_book_85 h
      by_cases hq2 : a1 = 2
      · have h := hs2 hq2
        refine a_tableIn C (off := 42) 86 dX11_book_44 (by rw [hq2]; decide) (by rw [hq2]; decide) (by rw [hq2]; decide +kernel) (by decide) ?_
        refine a_iload_n C 0 dX11_book_86 rfl rfl ?_
        refine a_callSi C dX11_book_87 (m_X5_cellIn l V h) bw_801 bw_802 bw_130 bw_803 np_X5_cellIn rfl rfl (by decide) (Nat.le_of_ble_eq_true rfl) ⟨Nat.zero_le _, Nat.zero_le _⟩ (fun r8 u9 h => ?_)
        exact a_iret C dX11_book_90 h
      by_cases hq3 : a1 = 3
      · have h := hs3 hq3
        refine a_tableIn C (off := 47) 91 dX11_book_44 (by rw [hq3]; decide) (by rw [hq3]; decide) (by rw [hq3]; decide +kernel) (by decide) ?_
        refine a_iload_n C 0 dX11_book_91 rfl rfl ?_
        refine a_callSi C dX11_book_92 (m_X5_waterIn l V h) bw_804 bw_805 bw_130 bw_806 np_X5_waterIn rfl rfl (by decide) (Nat.le_of_ble_eq_true rfl) ⟨Nat.zero_le _, Nat.zero_le _⟩ (fun r10 u11 h => ?_)
        exact a_iret C dX11_book_95 h
      have h := hd0 hq0 hq1 hq2 hq3
      refine a_tableOut C 96 dX11_book_44 (tsw_out 0 3 (fun q h1 h2 => by rcases (show q = 0 ∨ q = 1 ∨ q = 2 ∨ q = 3 by omega) with rfl | rfl | rfl | rfl <;> first | exact lv_neT hq0 (by decide) | exact lv_neT hq1 (by decide) | exact lv_neT hq2 (by decide) | exact lv_neT hq3 (by decide))) (by decide) ?_
      refine a_bipush C (-2) dX11_book_96 (by decide) ?_
      exact a_iret C dX11_book_98 h
    · have h := h.2 c12
      refine a_bipush C (-2) dX11_book_30 (by decide) ?_
      exact a_iret C dX11_book_32 h
  · have h := h.2 c13
    refine a_aload_n C 0 dX11_book_5 rfl rfl ?_
    refine a_getr C 2 (r := 3) dX11_book_6 (by decide) rfl rfl rfl ib_11 (by decide) bw_351 ?_
    refine a_bipush C 53 dX11_book_9 (by decide) ?_
    refine b_iald C 53 dX11_book_11 (by decide) rfl (vp_lit (by decide)) (by decide) ?_
    exact a_iret C dX11_book_12 h

/-! RainOnTheOne.foretold(III)I -/
def wl_X11_foretold_74 (k104 : Int32 → Int32 → PoS → Prop) (post : Int32 → PoS → Prop) : Nat → Int32 → Int32 → Int32 → Int32 → PoS → Prop
  | 0, _, _, _, _, _ => False
  | n + 1, v1, v2, v3, v5, u => ((v1 ≤ v5 → k104 v2 v3 u) ∧ (¬ v1 ≤ v5 → wp_X8_canPass 1 u (fun (r4 : Int32) (u5 : PoS) => ((r4 = 0 → k104 v2 v3 u5) ∧ (¬ r4 = 0 → wp_X8_passOne 1 u5 (fun (r6 : Int32) (u7 : PoS) => wl_X11_foretold_74 k104 post n v1 v2 v3 (v5 + 1) u7))))))
def wj_X11_foretold_104 (post : Int32 → PoS → Prop) (v2 : Int32) (v3 : Int32) (u : PoS) : Prop := ((¬ v2 = 0 → ((¬ v2 = 1 → vp_in (20 + v3) 117 ∧ post (gI u 4 (Int32.toNatClampNeg (20 + v3))) u) ∧ (v2 = 1 → vp_in (10 + v3) 117 ∧ post (gI u 4 (Int32.toNatClampNeg (10 + v3))) u))) ∧ (v2 = 0 → post (gI u 4 50) u))
def wj_X11_foretold_34 (post : Int32 → PoS → Prop) (v1 : Int32) (v2 : Int32) (v3 : Int32) (s0 : Int32) (u : PoS) : Prop := ((s0 = 0 → post (-1) u) ∧ (¬ s0 = 0 → wp_X11_isWithin v1 1 60 u (fun (r1 : Int32) (u2 : PoS) => ((¬ r1 = 0 → (¬ (0 : Int32) < 0 ∧ ¬ (0 : Int32) < 0 ∧ ¬ (117 : Int32) < 0 ∧ Int32.toNatClampNeg 0 + Int32.toNatClampNeg 117 ≤ 2735 ∧ Int32.toNatClampNeg 0 + Int32.toNatClampNeg 117 ≤ 117) ∧ ∀ z3 : PoS, z3 = cI u2 3 4 (Int32.toNatClampNeg 0) (Int32.toNatClampNeg 0) (Int32.toNatClampNeg 117) → (∃ n74, wl_X11_foretold_74 (fun (v210 : Int32) (v310 : Int32) (u10 : PoS) => wj_X11_foretold_104 post v210 v310 u10) post n74 v1 v2 v3 0 z3)) ∧ (r1 = 0 → post (-1) u2)))))
def wj_X11_foretold_29 (post : Int32 → PoS → Prop) (v1 : Int32) (v2 : Int32) (v3 : Int32) (u : PoS) : Prop := wj_X11_foretold_34 post v1 v2 v3 1 u
def wj_X11_foretold_33 (post : Int32 → PoS → Prop) (v1 : Int32) (v2 : Int32) (v3 : Int32) (u : PoS) : Prop := wj_X11_foretold_34 post v1 v2 v3 0 u
def wj_X11_foretold_17 (post : Int32 → PoS → Prop) (v1 : Int32) (v2 : Int32) (v3 : Int32) (u : PoS) : Prop := ((¬ v2 = 2 → wj_X11_foretold_33 post v1 v2 v3 u) ∧ (v2 = 2 → wp_X11_isCell v3 u (fun (r15 : Int32) (u16 : PoS) => ((r15 = 0 → wj_X11_foretold_33 post v1 v2 v3 u16) ∧ (¬ r15 = 0 → wj_X11_foretold_29 post v1 v2 v3 u16)))))
def wp_X11_foretold (a0 : Int32) (a1 : Int32) (a2 : Int32) (u : PoS) (post : Int32 → PoS → Prop) : Prop := ((a1 = 0 → wj_X11_foretold_29 post a0 a1 a2 u) ∧ (¬ a1 = 0 → ((¬ a1 = 1 → wj_X11_foretold_17 post a0 a1 a2 u) ∧ (a1 = 1 → wp_X11_isPerson a2 u (fun (r19 : Int32) (u20 : PoS) => ((¬ r19 = 0 → wj_X11_foretold_29 post a0 a1 a2 u20) ∧ (r19 = 0 → wj_X11_foretold_17 post a0 a1 a2 u20)))))))
set_option maxHeartbeats 4000000 in
set_option maxRecDepth 100000 in
theorem tl_X11_foretold_74 {p : Program} {l : Launch} {e : Env} {s : State} {m : MethodId} {args : Array Value} {below : List Frame} {meth : Method} {c : Code} {V : VEn} {k104 : Int32 → Int32 → PoS → Prop} {post : Int32 → PoS → Prop} (C : CxS p s m args meth c V cX11_foretold 6 RX11 (some .int)) (hk104 : ∀ (v2 : Int32) (v3 : Int32) (u : PoS), k104 v2 v3 u → AtS p l e (Rm 5) s m args below meth c V 6 0 0 (QI V below args s post) 104 [(0, .ref (eA V 0)), (2, .int v2), (3, .int v3)] [] u) : ∀ (n : Nat) (v1 : Int32) (v2 : Int32) (v3 : Int32) (v5 : Int32) (u : PoS), wl_X11_foretold_74 k104 post n v1 v2 v3 v5 u → AtS p l e (Rm 5) s m args below meth c V 6 0 0 (QI V below args s post) 74 [(0, .ref (eA V 0)), (1, .int v1), (2, .int v2), (3, .int v3), (5, .int v5)] [] u := by
  intro n
  induction n with
  | zero => intro v1 v2 v3 v5 u h; exact h.elim
  | succ n ih =>
    intro v1 v2 v3 v5 u h
    rw [wl_X11_foretold_74] at h
    refine a_iload C 4 dX11_foretold_74 rfl ?_
    refine a_iload_n C 1 dX11_foretold_76 rfl rfl ?_
    refine a_icmp_ge C 104 dX11_foretold_77 (by decide) (fun c9 => ?_) (fun c9 => ?_)
    · have h := h.1 c9
      refine a_sub [0, 2, 3] rfl ?_
      exact hk104 _ _ _ h
    · have h := h.2 c9
      refine a_aload_n C 0 dX11_foretold_80 rfl rfl ?_
      refine a_getr C 1 (r := 2) dX11_foretold_81 (by decide) rfl rfl rfl ib_11 (by decide) bw_350 ?_
      refine a_callVi C dX11_foretold_84 (m_X8_canPass l V (by decide) h) bw_668 bw_669 bw_670 bw_120 bw_671 (by decide) rfl rfl np_X8_canPass rfl rfl (by decide) (Nat.le_of_ble_eq_true rfl) ⟨Nat.zero_le _, Nat.zero_le _⟩ (fun r4 u5 h => ?_)
      refine a_if_eq C 104 dX11_foretold_87 (by decide) (fun c8 => ?_) (fun c8 => ?_)
      · have h := h.1 c8
        refine a_sub [0, 2, 3] rfl ?_
        exact hk104 _ _ _ h
      · have h := h.2 c8
        refine a_aload_n C 0 dX11_foretold_90 rfl rfl ?_
        refine a_getr C 1 (r := 2) dX11_foretold_91 (by decide) rfl rfl rfl ib_11 (by decide) bw_350 ?_
        refine a_callVi C dX11_foretold_94 (m_X8_passOne l V (by decide) h) bw_672 bw_673 bw_674 bw_120 bw_675 (by decide) rfl rfl np_X8_passOne rfl rfl (by decide) (Nat.le_of_ble_eq_true rfl) ⟨Nat.zero_le _, Nat.zero_le _⟩ (fun r6 u7 h => ?_)
        refine a_pop C dX11_foretold_97 rfl ?_
        refine a_iinc C (v5 + 1) 4 [(5, .int (v5 + 1)), (0, .ref (eA V 0)), (1, .int v1), (2, .int v2), (3, .int v3)] dX11_foretold_98 rfl (congrArg (fun z => v5 + z) (show Int32.ofInt 1 = 1 by decide)) (by decide) rfl ?_
        refine a_goto C 74 dX11_foretold_101 (by decide) ?_
        refine a_sub [1, 2, 3, 4, 0] rfl ?_
        exact ih _ _ _ _ _ h
set_option maxHeartbeats 4000000 in
set_option maxRecDepth 100000 in
theorem tj_X11_foretold_104 {p : Program} {l : Launch} {e : Env} {s : State} {m : MethodId} {args : Array Value} {below : List Frame} {meth : Method} {c : Code} {V : VEn} {post : Int32 → PoS → Prop} (C : CxS p s m args meth c V cX11_foretold 6 RX11 (some .int)) (v2 : Int32) (v3 : Int32) (u : PoS) (h : wj_X11_foretold_104 post v2 v3 u) : AtS p l e (Rm 5) s m args below meth c V 6 0 0 (QI V below args s post) 104 [(0, .ref (eA V 0)), (2, .int v2), (3, .int v3)] [] u := by
  rw [wj_X11_foretold_104] at h
  refine a_iload_n C 1 dX11_foretold_104 rfl rfl ?_
  refine a_if_ne C 119 dX11_foretold_105 (by decide) (fun c12 => ?_) (fun c12 => ?_)
  · have h := h.1 c12
    refine a_iload_n C 1 dX11_foretold_119 rfl rfl ?_
    refine a_iconst C 1 dX11_foretold_120 (by decide) ?_
    refine a_icmp_ne C 139 dX11_foretold_121 (by decide) (fun c11 => ?_) (fun c11 => ?_)
    · have h := h.1 c11
      refine a_aload_n C 0 dX11_foretold_139 rfl rfl ?_
      refine a_getr C 1 (r := 2) dX11_foretold_140 (by decide) rfl rfl rfl ib_11 (by decide) bw_350 ?_
      refine a_getr C 0 (r := 4) dX11_foretold_143 (by decide) rfl rfl rfl ib_8 (by decide) bw_336 ?_
      refine a_bipush C 20 dX11_foretold_146 (by decide) ?_
      refine a_iload_n C 2 dX11_foretold_148 rfl rfl ?_
      refine a_iadd C dX11_foretold_149 ?_
      refine b_iald C (Int32.toNatClampNeg (20 + v3)) dX11_foretold_150 (by decide) rfl h.1 rfl ?_
      have h := h.2
      exact a_iret C dX11_foretold_151 h
    · have h := h.2 c11
      refine a_aload_n C 0 dX11_foretold_124 rfl rfl ?_
      refine a_getr C 1 (r := 2) dX11_foretold_125 (by decide) rfl rfl rfl ib_11 (by decide) bw_350 ?_
      refine a_getr C 0 (r := 4) dX11_foretold_128 (by decide) rfl rfl rfl ib_8 (by decide) bw_336 ?_
      refine a_bipush C 10 dX11_foretold_131 (by decide) ?_
      refine a_iload_n C 2 dX11_foretold_133 rfl rfl ?_
      refine a_iadd C dX11_foretold_134 ?_
      refine b_iald C (Int32.toNatClampNeg (10 + v3)) dX11_foretold_135 (by decide) rfl h.1 rfl ?_
      have h := h.2
      refine a_goto C 151 dX11_foretold_136 (by decide) ?_
      exact a_iret C dX11_foretold_151 h
  · have h := h.2 c12
    refine a_aload_n C 0 dX11_foretold_108 rfl rfl ?_
    refine a_getr C 1 (r := 2) dX11_foretold_109 (by decide) rfl rfl rfl ib_11 (by decide) bw_350 ?_
    refine a_getr C 0 (r := 4) dX11_foretold_112 (by decide) rfl rfl rfl ib_8 (by decide) bw_336 ?_
    refine a_bipush C 50 dX11_foretold_115 (by decide) ?_
    refine b_iald C 50 dX11_foretold_117 (by decide) rfl (vp_lit (by decide)) (by decide) ?_
    exact a_iret C dX11_foretold_118 h
set_option maxHeartbeats 4000000 in
set_option maxRecDepth 100000 in
theorem tj_X11_foretold_34 {p : Program} {l : Launch} {e : Env} {s : State} {m : MethodId} {args : Array Value} {below : List Frame} {meth : Method} {c : Code} {V : VEn} {post : Int32 → PoS → Prop} (C : CxS p s m args meth c V cX11_foretold 6 RX11 (some .int)) (v1 : Int32) (v2 : Int32) (v3 : Int32) (s0 : Int32) (u : PoS) (h : wj_X11_foretold_34 post v1 v2 v3 s0 u) : AtS p l e (Rm 5) s m args below meth c V 6 0 0 (QI V below args s post) 34 [(0, .ref (eA V 0)), (1, .int v1), (2, .int v2), (3, .int v3)] [.int s0] u := by
  rw [wj_X11_foretold_34] at h
  refine a_istore C [(4, .int s0), (0, .ref (eA V 0)), (1, .int v1), (2, .int v2), (3, .int v3)] dX11_foretold_34 (by decide) rfl ?_
  refine a_iload C 0 dX11_foretold_36 rfl ?_
  refine a_if_eq C 51 dX11_foretold_38 (by decide) (fun c14 => ?_) (fun c14 => ?_)
  · have h := h.1 c14
    refine a_iconst C (-1) dX11_foretold_51 (by decide) ?_
    exact a_iret C dX11_foretold_52 h
  · have h := h.2 c14
    refine a_iload_n C 2 dX11_foretold_41 rfl rfl ?_
    refine a_iconst C 1 dX11_foretold_42 (by decide) ?_
    refine a_bipush C 60 dX11_foretold_43 (by decide) ?_
    refine a_callSi C dX11_foretold_45 (m_X11_isWithin l V h) bw_405 bw_406 bw_112 bw_407 np_X11_isWithin rfl rfl (by decide) (Nat.le_of_ble_eq_true rfl) ⟨Nat.zero_le _, Nat.zero_le _⟩ (fun r1 u2 h => ?_)
    refine a_if_ne C 53 dX11_foretold_48 (by decide) (fun c13 => ?_) (fun c13 => ?_)
    · have h := h.1 c13
      refine a_aload_n C 1 dX11_foretold_53 rfl rfl ?_
      refine a_getr C 2 (r := 3) dX11_foretold_54 (by decide) rfl rfl rfl ib_11 (by decide) bw_351 ?_
      refine a_iconst C 0 dX11_foretold_57 (by decide) ?_
      refine a_aload_n C 1 dX11_foretold_58 rfl rfl ?_
      refine a_getr C 1 (r := 2) dX11_foretold_59 (by decide) rfl rfl rfl ib_11 (by decide) bw_350 ?_
      refine a_getr C 0 (r := 4) dX11_foretold_62 (by decide) rfl rfl rfl ib_8 (by decide) bw_336 ?_
      refine a_iconst C 0 dX11_foretold_65 (by decide) ?_
      refine a_bipush C 117 dX11_foretold_66 (by decide) ?_
      obtain ⟨⟨q1, q2, q3, q4, q5⟩, h⟩ := h
      refine a_copy C dX11_foretold_68 bw_346 bw_348 bw_347 bw_122 (by decide) (by decide) rfl rfl q1 q2 q3 q4 q5 (by decide) (Nat.le_of_ble_eq_true rfl) ?_
      refine a_topu (fun z3 ez3 => ?_)
      have h := h z3 ez3
      refine a_iconst C 0 dX11_foretold_71 (by decide) ?_
      refine a_istore C [(5, .int 0), (4, .int s0), (0, .ref (eA V 0)), (1, .int v1), (2, .int v2), (3, .int v3)] dX11_foretold_72 (by decide) rfl ?_
      refine a_sub [2, 3, 4, 5, 0] rfl ?_
      obtain ⟨n74, h⟩ := h
      refine tl_X11_foretold_74 C (fun v210 v310 u10 h => ?_) n74 _ _ _ _ _ h
      refine tj_X11_foretold_104 C _ _ _ h
    · have h := h.2 c13
      refine a_iconst C (-1) dX11_foretold_51 (by decide) ?_
      exact a_iret C dX11_foretold_52 h
set_option maxHeartbeats 4000000 in
set_option maxRecDepth 100000 in
theorem tj_X11_foretold_29 {p : Program} {l : Launch} {e : Env} {s : State} {m : MethodId} {args : Array Value} {below : List Frame} {meth : Method} {c : Code} {V : VEn} {post : Int32 → PoS → Prop} (C : CxS p s m args meth c V cX11_foretold 6 RX11 (some .int)) (v1 : Int32) (v2 : Int32) (v3 : Int32) (u : PoS) (h : wj_X11_foretold_29 post v1 v2 v3 u) : AtS p l e (Rm 5) s m args below meth c V 6 0 0 (QI V below args s post) 29 [(0, .ref (eA V 0)), (1, .int v1), (2, .int v2), (3, .int v3)] [] u := by
  rw [wj_X11_foretold_29] at h
  refine a_iconst C 1 dX11_foretold_29 (by decide) ?_
  refine a_goto C 34 dX11_foretold_30 (by decide) ?_
  refine tj_X11_foretold_34 C _ _ _ _ _ h
set_option maxHeartbeats 4000000 in
set_option maxRecDepth 100000 in
theorem tj_X11_foretold_33 {p : Program} {l : Launch} {e : Env} {s : State} {m : MethodId} {args : Array Value} {below : List Frame} {meth : Method} {c : Code} {V : VEn} {post : Int32 → PoS → Prop} (C : CxS p s m args meth c V cX11_foretold 6 RX11 (some .int)) (v1 : Int32) (v2 : Int32) (v3 : Int32) (u : PoS) (h : wj_X11_foretold_33 post v1 v2 v3 u) : AtS p l e (Rm 5) s m args below meth c V 6 0 0 (QI V below args s post) 33 [(0, .ref (eA V 0)), (1, .int v1), (2, .int v2), (3, .int v3)] [] u := by
  rw [wj_X11_foretold_33] at h
  refine a_iconst C 0 dX11_foretold_33 (by decide) ?_
  refine tj_X11_foretold_34 C _ _ _ _ _ h
set_option maxHeartbeats 4000000 in
set_option maxRecDepth 100000 in
theorem tj_X11_foretold_17 {p : Program} {l : Launch} {e : Env} {s : State} {m : MethodId} {args : Array Value} {below : List Frame} {meth : Method} {c : Code} {V : VEn} {post : Int32 → PoS → Prop} (C : CxS p s m args meth c V cX11_foretold 6 RX11 (some .int)) (v1 : Int32) (v2 : Int32) (v3 : Int32) (u : PoS) (h : wj_X11_foretold_17 post v1 v2 v3 u) : AtS p l e (Rm 5) s m args below meth c V 6 0 0 (QI V below args s post) 17 [(0, .ref (eA V 0)), (1, .int v1), (2, .int v2), (3, .int v3)] [] u := by
  rw [wj_X11_foretold_17] at h
  refine a_iload_n C 2 dX11_foretold_17 rfl rfl ?_
  refine a_iconst C 2 dX11_foretold_18 (by decide) ?_
  refine a_icmp_ne C 33 dX11_foretold_19 (by decide) (fun c18 => ?_) (fun c18 => ?_)
  · have h := h.1 c18
    refine tj_X11_foretold_33 C _ _ _ _ h
  · have h := h.2 c18
    refine a_iload_n C 3 dX11_foretold_22 rfl rfl ?_
    refine a_callSi C dX11_foretold_23 (m_X11_isCell l V h) bw_404 bw_398 bw_112 bw_399 np_X11_isCell rfl rfl (by decide) (Nat.le_of_ble_eq_true rfl) ⟨Nat.zero_le _, Nat.zero_le _⟩ (fun r15 u16 h => ?_)
    refine a_if_eq C 33 dX11_foretold_26 (by decide) (fun c17 => ?_) (fun c17 => ?_)
    · have h := h.1 c17
      refine tj_X11_foretold_33 C _ _ _ _ h
    · have h := h.2 c17
      refine tj_X11_foretold_29 C _ _ _ _ h
theorem np_X11_foretold : yX11_foretold.cls ≠ "java/lang/invoke/MethodHandle" ∧ yX11_foretold.cls ≠ "java/lang/invoke/VarHandle" ∧ (parseMethodDescriptor yX11_foretold.desc).map (fun d => d.parameters.length) = some 3 := by decide +kernel
set_option maxHeartbeats 4000000 in
set_option maxRecDepth 100000 in
theorem m_X11_foretold (l : Launch) (V : VEn) {a0 : Int32} {a1 : Int32} {a2 : Int32} {u : PoS} {post : Int32 → PoS → Prop} (h : wp_X11_foretold a0 a1 a2 u post) : KI l V yX11_foretold cX11_foretold 6 .int 5 [.ref (eA V 0), .int a0, .int a1, .int a2] u post := by
  refine KI_of (by decide) (Nat.le_of_ble_eq_true rfl) (lv := [(0, .ref (eA V 0)), (1, .int a0), (2, .int a1), (3, .int a2)]) rfl ?_
  intro p e s m args below meth c C
  rw [wp_X11_foretold] at h
  refine a_iload_n C 2 dX11_foretold_0 rfl rfl ?_
  refine a_if_eq C 29 dX11_foretold_1 (by decide) (fun c23 => ?_) (fun c23 => ?_)
  · have h := h.1 c23
    refine tj_X11_foretold_29 C _ _ _ _ h
  · have h := h.2 c23
    refine a_iload_n C 2 dX11_foretold_4 rfl rfl ?_
    refine a_iconst C 1 dX11_foretold_5 (by decide) ?_
    refine a_icmp_ne C 17 dX11_foretold_6 (by decide) (fun c22 => ?_) (fun c22 => ?_)
    · have h := h.1 c22
      refine tj_X11_foretold_17 C _ _ _ _ h
    · have h := h.2 c22
      refine a_aload_n C 0 dX11_foretold_9 rfl rfl ?_
      refine a_iload_n C 3 dX11_foretold_10 rfl rfl ?_
      refine a_callVi C dX11_foretold_11 (m_X11_isPerson l V h) bw_626 bw_628 bw_21 bw_112 bw_629 (by decide) rfl rfl np_X11_isPerson rfl rfl (by decide) (Nat.le_of_ble_eq_true rfl) ⟨Nat.zero_le _, Nat.zero_le _⟩ (fun r19 u20 h => ?_)
      refine a_if_ne C 29 dX11_foretold_14 (by decide) (fun c21 => ?_) (fun c21 => ?_)
      · have h := h.1 c21
        refine tj_X11_foretold_29 C _ _ _ _ h
      · have h := h.2 c21
        refine tj_X11_foretold_17 C _ _ _ _ h

/-! RainOnTheOne.when(I)I -/
def wl_X11_when_30 (post : Int32 → PoS → Prop) : Nat → Int32 → Int32 → PoS → Prop
  | 0, _, _, _ => False
  | n + 1, v1, v2, u => ((60 < v2 → post (-1) u) ∧ (¬ 60 < v2 → wp_X8_canPass 1 u (fun (r4 : Int32) (u5 : PoS) => ((r4 = 0 → post (-1) u5) ∧ (¬ r4 = 0 → wp_X8_passOne 1 u5 (fun (r6 : Int32) (u7 : PoS) => ((¬ r6 = v1 → wl_X11_when_30 post n v1 (v2 + 1) u7) ∧ (r6 = v1 → post v2 u7))))))))
def wp_X11_when (a0 : Int32) (u : PoS) (post : Int32 → PoS → Prop) : Prop := wp_X11_isPerson a0 u (fun (r1 : Int32) (u2 : PoS) => ((¬ r1 = 0 → (¬ (0 : Int32) < 0 ∧ ¬ (0 : Int32) < 0 ∧ ¬ (117 : Int32) < 0 ∧ Int32.toNatClampNeg 0 + Int32.toNatClampNeg 117 ≤ 2735 ∧ Int32.toNatClampNeg 0 + Int32.toNatClampNeg 117 ≤ 117) ∧ ∀ z3 : PoS, z3 = cI u2 3 4 (Int32.toNatClampNeg 0) (Int32.toNatClampNeg 0) (Int32.toNatClampNeg 117) → (∃ n30, wl_X11_when_30 post n30 a0 1 z3)) ∧ (r1 = 0 → post (-1) u2)))
set_option maxHeartbeats 4000000 in
set_option maxRecDepth 100000 in
theorem tl_X11_when_30 {p : Program} {l : Launch} {e : Env} {s : State} {m : MethodId} {args : Array Value} {below : List Frame} {meth : Method} {c : Code} {V : VEn} {post : Int32 → PoS → Prop} (C : CxS p s m args meth c V cX11_when 3 RX11 (some .int)) : ∀ (n : Nat) (v1 : Int32) (v2 : Int32) (u : PoS), wl_X11_when_30 post n v1 v2 u → AtS p l e (Rm 5) s m args below meth c V 3 0 0 (QI V below args s post) 30 [(0, .ref (eA V 0)), (1, .int v1), (2, .int v2)] [] u := by
  intro n
  induction n with
  | zero => intro v1 v2 u h; exact h.elim
  | succ n ih =>
    intro v1 v2 u h
    rw [wl_X11_when_30] at h
    refine a_iload_n C 2 dX11_when_30 rfl rfl ?_
    refine a_bipush C 60 dX11_when_31 (by decide) ?_
    refine a_icmp_gt C 65 dX11_when_33 (by decide) (fun c10 => ?_) (fun c10 => ?_)
    · have h := h.1 c10
      refine a_iconst C (-1) dX11_when_65 (by decide) ?_
      exact a_iret C dX11_when_66 h
    · have h := h.2 c10
      refine a_aload_n C 0 dX11_when_36 rfl rfl ?_
      refine a_getr C 1 (r := 2) dX11_when_37 (by decide) rfl rfl rfl ib_11 (by decide) bw_350 ?_
      refine a_callVi C dX11_when_40 (m_X8_canPass l V (by decide) h) bw_668 bw_669 bw_670 bw_120 bw_671 (by decide) rfl rfl np_X8_canPass rfl rfl (by decide) (Nat.le_of_ble_eq_true rfl) ⟨Nat.zero_le _, Nat.zero_le _⟩ (fun r4 u5 h => ?_)
      refine a_if_eq C 65 dX11_when_43 (by decide) (fun c9 => ?_) (fun c9 => ?_)
      · have h := h.1 c9
        refine a_iconst C (-1) dX11_when_65 (by decide) ?_
        exact a_iret C dX11_when_66 h
      · have h := h.2 c9
        refine a_aload_n C 0 dX11_when_46 rfl rfl ?_
        refine a_getr C 1 (r := 2) dX11_when_47 (by decide) rfl rfl rfl ib_11 (by decide) bw_350 ?_
        refine a_callVi C dX11_when_50 (m_X8_passOne l V (by decide) h) bw_672 bw_673 bw_674 bw_120 bw_675 (by decide) rfl rfl np_X8_passOne rfl rfl (by decide) (Nat.le_of_ble_eq_true rfl) ⟨Nat.zero_le _, Nat.zero_le _⟩ (fun r6 u7 h => ?_)
        refine a_iload_n C 1 dX11_when_53 rfl rfl ?_
        refine a_icmp_ne C 59 dX11_when_54 (by decide) (fun c8 => ?_) (fun c8 => ?_)
        · have h := h.1 c8
          refine a_iinc C (v2 + 1) 2 [(2, .int (v2 + 1)), (0, .ref (eA V 0)), (1, .int v1)] dX11_when_59 rfl (congrArg (fun z => v2 + z) (show Int32.ofInt 1 = 1 by decide)) (by decide) rfl ?_
          refine a_goto C 30 dX11_when_62 (by decide) ?_
          refine a_sub [1, 2, 0] rfl ?_
          exact ih _ _ _ h
        · have h := h.2 c8
          refine a_iload_n C 2 dX11_when_57 rfl rfl ?_
          exact a_iret C dX11_when_58 h
theorem np_X11_when : yX11_when.cls ≠ "java/lang/invoke/MethodHandle" ∧ yX11_when.cls ≠ "java/lang/invoke/VarHandle" ∧ (parseMethodDescriptor yX11_when.desc).map (fun d => d.parameters.length) = some 1 := by decide +kernel
set_option maxHeartbeats 4000000 in
set_option maxRecDepth 100000 in
theorem m_X11_when (l : Launch) (V : VEn) {a0 : Int32} {u : PoS} {post : Int32 → PoS → Prop} (h : wp_X11_when a0 u post) : KI l V yX11_when cX11_when 3 .int 5 [.ref (eA V 0), .int a0] u post := by
  refine KI_of (by decide) (Nat.le_of_ble_eq_true rfl) (lv := [(0, .ref (eA V 0)), (1, .int a0)]) rfl ?_
  intro p e s m args below meth c C
  rw [wp_X11_when] at h
  refine a_aload_n C 0 dX11_when_0 rfl rfl ?_
  refine a_iload_n C 1 dX11_when_1 rfl rfl ?_
  refine a_callVi C dX11_when_2 (m_X11_isPerson l V h) bw_626 bw_628 bw_21 bw_112 bw_629 (by decide) rfl rfl np_X11_isPerson rfl rfl (by decide) (Nat.le_of_ble_eq_true rfl) ⟨Nat.zero_le _, Nat.zero_le _⟩ (fun r1 u2 h => ?_)
  refine a_if_ne C 10 dX11_when_5 (by decide) (fun c11 => ?_) (fun c11 => ?_)
  · have h := h.1 c11
    refine a_aload_n C 0 dX11_when_10 rfl rfl ?_
    refine a_getr C 2 (r := 3) dX11_when_11 (by decide) rfl rfl rfl ib_11 (by decide) bw_351 ?_
    refine a_iconst C 0 dX11_when_14 (by decide) ?_
    refine a_aload_n C 0 dX11_when_15 rfl rfl ?_
    refine a_getr C 1 (r := 2) dX11_when_16 (by decide) rfl rfl rfl ib_11 (by decide) bw_350 ?_
    refine a_getr C 0 (r := 4) dX11_when_19 (by decide) rfl rfl rfl ib_8 (by decide) bw_336 ?_
    refine a_iconst C 0 dX11_when_22 (by decide) ?_
    refine a_bipush C 117 dX11_when_23 (by decide) ?_
    obtain ⟨⟨q1, q2, q3, q4, q5⟩, h⟩ := h
    refine a_copy C dX11_when_25 bw_346 bw_348 bw_347 bw_122 (by decide) (by decide) rfl rfl q1 q2 q3 q4 q5 (by decide) (Nat.le_of_ble_eq_true rfl) ?_
    refine a_topu (fun z3 ez3 => ?_)
    have h := h z3 ez3
    refine a_iconst C 1 dX11_when_28 (by decide) ?_
    refine a_istore_n C [(2, .int 1), (0, .ref (eA V 0)), (1, .int a0)] dX11_when_29 rfl (by decide) rfl ?_
    refine a_sub [1, 2, 0] rfl ?_
    obtain ⟨n30, h⟩ := h
    refine tl_X11_when_30 C n30 _ _ _ h
  · have h := h.2 c11
    refine a_iconst C (-1) dX11_when_8 (by decide) ?_
    exact a_iret C dX11_when_9 h

/-! RainOnTheOne.steps(II)I -/
def wp_X11_steps (a0 : Int32) (a1 : Int32) (u : PoS) (post : Int32 → PoS → Prop) : Prop := wp_X8_open 0 u (fun (r1 : Int32) (u2 : PoS) => wp_X1_stepsBetween a0 a1 r1 u2 (fun (r3 : Int32) (u4 : PoS) => post r3 u4))
theorem np_X11_steps : yX11_steps.cls ≠ "java/lang/invoke/MethodHandle" ∧ yX11_steps.cls ≠ "java/lang/invoke/VarHandle" ∧ (parseMethodDescriptor yX11_steps.desc).map (fun d => d.parameters.length) = some 2 := by decide +kernel
set_option maxHeartbeats 4000000 in
set_option maxRecDepth 100000 in
theorem m_X11_steps (l : Launch) (V : VEn) {a0 : Int32} {a1 : Int32} {u : PoS} {post : Int32 → PoS → Prop} (h : wp_X11_steps a0 a1 u post) : KI l V yX11_steps cX11_steps 3 .int 2 [.ref (eA V 0), .int a0, .int a1] u post := by
  refine KI_of (by decide) (Nat.le_of_ble_eq_true rfl) (lv := [(0, .ref (eA V 0)), (1, .int a0), (2, .int a1)]) rfl ?_
  intro p e s m args below meth c C
  rw [wp_X11_steps] at h
  refine a_iload_n C 1 dX11_steps_0 rfl rfl ?_
  refine a_iload_n C 2 dX11_steps_1 rfl rfl ?_
  refine a_aload_n C 0 dX11_steps_2 rfl rfl ?_
  refine a_getr C 0 (r := 1) dX11_steps_3 (by decide) rfl rfl rfl ib_11 (by decide) bw_349 ?_
  refine a_callVi C dX11_steps_6 (m_X8_open l V (by decide) h) bw_819 bw_681 bw_682 bw_120 bw_683 (by decide) rfl rfl np_X8_open rfl rfl (by decide) (Nat.le_of_ble_eq_true rfl) ⟨Nat.zero_le _, Nat.zero_le _⟩ (fun r1 u2 h => ?_)
  refine a_callSi C dX11_steps_9 (m_X1_stepsBetween l V h) bw_820 bw_686 bw_129 bw_687 np_X1_stepsBetween rfl rfl (by decide) (Nat.le_of_ble_eq_true rfl) ⟨Nat.zero_le _, Nat.zero_le _⟩ (fun r3 u4 h => ?_)
  exact a_iret C dX11_steps_12 h

/-! RainOnTheOne.way(III)I -/
def wl_X11_way_39 (post : Int32 → PoS → Prop) : Nat → Int32 → Int32 → Int32 → Int32 → Int32 → PoS → Prop
  | 0, _, _, _, _, _, _ => False
  | n + 1, v2, v3, v4, v6, v7, u => ((v3 < v7 → post v6 u) ∧ (¬ v3 < v7 → ((30 ≤ v7 → post v6 u) ∧ (¬ 30 ≤ v7 → wp_X1_nextOn v6 v2 v4 u (fun (r7 : Int32) (u8 : PoS) => wl_X11_way_39 post n v2 v3 v4 r7 (v7 + 1) u8)))))
def wp_X11_way (a0 : Int32) (a1 : Int32) (a2 : Int32) (u : PoS) (post : Int32 → PoS → Prop) : Prop := wp_X8_open 0 u (fun (r1 : Int32) (u2 : PoS) => wp_X1_stepsBetween a0 a1 r1 u2 (fun (r3 : Int32) (u4 : PoS) => wp_X11_isWithin a2 0 (r3 - 1) u4 (fun (r5 : Int32) (u6 : PoS) => ((¬ r5 = 0 → (∃ n39, wl_X11_way_39 post n39 a1 a2 r1 a0 0 u6)) ∧ (r5 = 0 → post (-2) u6)))))
set_option maxHeartbeats 4000000 in
set_option maxRecDepth 100000 in
theorem tl_X11_way_39 {p : Program} {l : Launch} {e : Env} {s : State} {m : MethodId} {args : Array Value} {below : List Frame} {meth : Method} {c : Code} {V : VEn} {post : Int32 → PoS → Prop} (C : CxS p s m args meth c V cX11_way 8 RX11 (some .int)) : ∀ (n : Nat) (v2 : Int32) (v3 : Int32) (v4 : Int32) (v6 : Int32) (v7 : Int32) (u : PoS), wl_X11_way_39 post n v2 v3 v4 v6 v7 u → AtS p l e (Rm 3) s m args below meth c V 8 0 0 (QI V below args s post) 39 [(2, .int v2), (3, .int v3), (4, .int v4), (6, .int v6), (7, .int v7)] [] u := by
  intro n
  induction n with
  | zero => intro v2 v3 v4 v6 v7 u h; exact h.elim
  | succ n ih =>
    intro v2 v3 v4 v6 v7 u h
    rw [wl_X11_way_39] at h
    refine a_iload C 4 dX11_way_39 rfl ?_
    refine a_iload_n C 1 dX11_way_41 rfl rfl ?_
    refine a_icmp_gt C 68 dX11_way_42 (by decide) (fun c10 => ?_) (fun c10 => ?_)
    · have h := h.1 c10
      refine a_iload C 3 dX11_way_68 rfl ?_
      exact a_iret C dX11_way_70 h
    · have h := h.2 c10
      refine a_iload C 4 dX11_way_45 rfl ?_
      refine a_bipush C 30 dX11_way_47 (by decide) ?_
      refine a_icmp_ge C 68 dX11_way_49 (by decide) (fun c9 => ?_) (fun c9 => ?_)
      · have h := h.1 c9
        refine a_iload C 3 dX11_way_68 rfl ?_
        exact a_iret C dX11_way_70 h
      · have h := h.2 c9
        refine a_iload C 3 dX11_way_52 rfl ?_
        refine a_iload_n C 0 dX11_way_54 rfl rfl ?_
        refine a_iload C 2 dX11_way_55 rfl ?_
        refine a_callSi C dX11_way_57 (m_X1_nextOn l V h) bw_825 bw_733 bw_129 bw_734 np_X1_nextOn rfl rfl (by decide) (Nat.le_of_ble_eq_true rfl) ⟨Nat.zero_le _, Nat.zero_le _⟩ (fun r7 u8 h => ?_)
        refine a_istore C [(6, .int r7), (2, .int v2), (3, .int v3), (4, .int v4), (7, .int v7)] dX11_way_60 (by decide) rfl ?_
        refine a_iinc C (v7 + 1) 4 [(7, .int (v7 + 1)), (6, .int r7), (2, .int v2), (3, .int v3), (4, .int v4)] dX11_way_62 rfl (congrArg (fun z => v7 + z) (show Int32.ofInt 1 = 1 by decide)) (by decide) rfl ?_
        refine a_goto C 39 dX11_way_65 (by decide) ?_
        refine a_sub [2, 3, 4, 1, 0] rfl ?_
        exact ih _ _ _ _ _ _ h
theorem np_X11_way : yX11_way.cls ≠ "java/lang/invoke/MethodHandle" ∧ yX11_way.cls ≠ "java/lang/invoke/VarHandle" ∧ (parseMethodDescriptor yX11_way.desc).map (fun d => d.parameters.length) = some 3 := by decide +kernel
set_option maxHeartbeats 4000000 in
set_option maxRecDepth 100000 in
theorem m_X11_way (l : Launch) (V : VEn) {a0 : Int32} {a1 : Int32} {a2 : Int32} {u : PoS} {post : Int32 → PoS → Prop} (h : wp_X11_way a0 a1 a2 u post) : KI l V yX11_way cX11_way 8 .int 3 [.ref (eA V 0), .int a0, .int a1, .int a2] u post := by
  refine KI_of (by decide) (Nat.le_of_ble_eq_true rfl) (lv := [(0, .ref (eA V 0)), (1, .int a0), (2, .int a1), (3, .int a2)]) rfl ?_
  intro p e s m args below meth c C
  rw [wp_X11_way] at h
  refine a_aload_n C 0 dX11_way_0 rfl rfl ?_
  refine a_getr C 0 (r := 1) dX11_way_1 (by decide) rfl rfl rfl ib_11 (by decide) bw_349 ?_
  refine a_callVi C dX11_way_4 (m_X8_open l V (by decide) h) bw_819 bw_681 bw_682 bw_120 bw_683 (by decide) rfl rfl np_X8_open rfl rfl (by decide) (Nat.le_of_ble_eq_true rfl) ⟨Nat.zero_le _, Nat.zero_le _⟩ (fun r1 u2 h => ?_)
  refine a_istore C [(4, .int r1), (0, .ref (eA V 0)), (1, .int a0), (2, .int a1), (3, .int a2)] dX11_way_7 (by decide) rfl ?_
  refine a_iload_n C 2 dX11_way_9 rfl rfl ?_
  refine a_iload_n C 3 dX11_way_10 rfl rfl ?_
  refine a_iload C 0 dX11_way_11 rfl ?_
  refine a_callSi C dX11_way_13 (m_X1_stepsBetween l V h) bw_820 bw_686 bw_129 bw_687 np_X1_stepsBetween rfl rfl (by decide) (Nat.le_of_ble_eq_true rfl) ⟨Nat.zero_le _, Nat.zero_le _⟩ (fun r3 u4 h => ?_)
  refine a_istore C [(5, .int r3), (4, .int r1), (0, .ref (eA V 0)), (1, .int a0), (2, .int a1), (3, .int a2)] dX11_way_16 (by decide) rfl ?_
  refine a_iload_n C 5 dX11_way_18 rfl rfl ?_
  refine a_iconst C 0 dX11_way_19 (by decide) ?_
  refine a_iload C 0 dX11_way_20 rfl ?_
  refine a_iconst C 1 dX11_way_22 (by decide) ?_
  refine a_isub C dX11_way_23 ?_
  refine a_callSi C dX11_way_24 (m_X11_isWithin l V h) bw_405 bw_406 bw_112 bw_407 np_X11_isWithin rfl rfl (by decide) (Nat.le_of_ble_eq_true rfl) ⟨Nat.zero_le _, Nat.zero_le _⟩ (fun r5 u6 h => ?_)
  refine a_if_ne C 33 dX11_way_27 (by decide) (fun c11 => ?_) (fun c11 => ?_)
  · have h := h.1 c11
    refine a_iload_n C 3 dX11_way_33 rfl rfl ?_
    refine a_istore C [(6, .int a0), (5, .int r3), (4, .int r1), (0, .ref (eA V 0)), (1, .int a0), (2, .int a1), (3, .int a2)] dX11_way_34 (by decide) rfl ?_
    refine a_iconst C 0 dX11_way_36 (by decide) ?_
    refine a_istore C [(7, .int 0), (6, .int a0), (5, .int r3), (4, .int r1), (0, .ref (eA V 0)), (1, .int a0), (2, .int a1), (3, .int a2)] dX11_way_37 (by decide) rfl ?_
    refine a_sub [6, 7, 3, 1, 0] rfl ?_
    obtain ⟨n39, h⟩ := h
    refine tl_X11_way_39 C n39 _ _ _ _ _ _ h
  · have h := h.2 c11
    refine a_bipush C (-2) dX11_way_30 (by decide) ?_
    exact a_iret C dX11_way_32 h

/-! RainOnTheOne.canChase(III)Z -/
def wp_X11_canChase (a0 : Int32) (a1 : Int32) (a2 : Int32) (u : PoS) (post : Int32 → PoS → Prop) : Prop := wp_X8_isOpen 0 a0 u (fun (r1 : Int32) (u2 : PoS) => ((r1 = 0 → post 0 u2) ∧ (¬ r1 = 0 → wp_X8_isOpen 0 a1 u2 (fun (r3 : Int32) (u4 : PoS) => ((r3 = 0 → post 0 u4) ∧ (¬ r3 = 0 → wp_X11_isWithin a2 1 2 u4 (fun (r5 : Int32) (u6 : PoS) => ((r5 = 0 → post 0 u6) ∧ (¬ r5 = 0 → post 1 u6)))))))))
theorem np_X11_canChase : yX11_canChase.cls ≠ "java/lang/invoke/MethodHandle" ∧ yX11_canChase.cls ≠ "java/lang/invoke/VarHandle" ∧ (parseMethodDescriptor yX11_canChase.desc).map (fun d => d.parameters.length) = some 3 := by decide +kernel
set_option maxHeartbeats 4000000 in
set_option maxRecDepth 100000 in
theorem m_X11_canChase (l : Launch) (V : VEn) {a0 : Int32} {a1 : Int32} {a2 : Int32} {u : PoS} {post : Int32 → PoS → Prop} (h : wp_X11_canChase a0 a1 a2 u post) : KI l V yX11_canChase cX11_canChase 4 .boolean 2 [.ref (eA V 0), .int a0, .int a1, .int a2] u post := by
  refine KI_of (by decide) (Nat.le_of_ble_eq_true rfl) (lv := [(0, .ref (eA V 0)), (1, .int a0), (2, .int a1), (3, .int a2)]) rfl ?_
  intro p e s m args below meth c C
  rw [wp_X11_canChase] at h
  refine a_aload_n C 0 dX11_canChase_0 rfl rfl ?_
  refine a_getr C 0 (r := 1) dX11_canChase_1 (by decide) rfl rfl rfl ib_11 (by decide) bw_349 ?_
  refine a_iload_n C 1 dX11_canChase_4 rfl rfl ?_
  refine a_callVi C dX11_canChase_5 (m_X8_isOpen l V (by decide) h) bw_393 bw_394 bw_395 bw_120 bw_396 (by decide) rfl rfl np_X8_isOpen rfl rfl (by decide) (Nat.le_of_ble_eq_true rfl) ⟨Nat.zero_le _, Nat.zero_le _⟩ (fun r1 u2 h => ?_)
  refine a_if_eq C 35 dX11_canChase_8 (by decide) (fun c9 => ?_) (fun c9 => ?_)
  · have h := h.1 c9
    refine a_iconst C 0 dX11_canChase_35 (by decide) ?_
    exact a_zret C rfl dX11_canChase_36 h
  · have h := h.2 c9
    refine a_aload_n C 0 dX11_canChase_11 rfl rfl ?_
    refine a_getr C 0 (r := 1) dX11_canChase_12 (by decide) rfl rfl rfl ib_11 (by decide) bw_349 ?_
    refine a_iload_n C 2 dX11_canChase_15 rfl rfl ?_
    refine a_callVi C dX11_canChase_16 (m_X8_isOpen l V (by decide) h) bw_393 bw_394 bw_395 bw_120 bw_396 (by decide) rfl rfl np_X8_isOpen rfl rfl (by decide) (Nat.le_of_ble_eq_true rfl) ⟨Nat.zero_le _, Nat.zero_le _⟩ (fun r3 u4 h => ?_)
    refine a_if_eq C 35 dX11_canChase_19 (by decide) (fun c8 => ?_) (fun c8 => ?_)
    · have h := h.1 c8
      refine a_iconst C 0 dX11_canChase_35 (by decide) ?_
      exact a_zret C rfl dX11_canChase_36 h
    · have h := h.2 c8
      refine a_iload_n C 3 dX11_canChase_22 rfl rfl ?_
      refine a_iconst C 1 dX11_canChase_23 (by decide) ?_
      refine a_iconst C 2 dX11_canChase_24 (by decide) ?_
      refine a_callSi C dX11_canChase_25 (m_X11_isWithin l V h) bw_405 bw_406 bw_112 bw_407 np_X11_isWithin rfl rfl (by decide) (Nat.le_of_ble_eq_true rfl) ⟨Nat.zero_le _, Nat.zero_le _⟩ (fun r5 u6 h => ?_)
      refine a_if_eq C 35 dX11_canChase_28 (by decide) (fun c7 => ?_) (fun c7 => ?_)
      · have h := h.1 c7
        refine a_iconst C 0 dX11_canChase_35 (by decide) ?_
        exact a_zret C rfl dX11_canChase_36 h
      · have h := h.2 c7
        refine a_iconst C 1 dX11_canChase_31 (by decide) ?_
        refine a_goto C 36 dX11_canChase_32 (by decide) ?_
        exact a_zret C rfl dX11_canChase_36 h

/-! RainOnTheOne.caught(III)I -/
def wp_X11_caught (a0 : Int32) (a1 : Int32) (a2 : Int32) (u : PoS) (post : Int32 → PoS → Prop) : Prop := wp_X11_canChase a0 a1 a2 u (fun (r1 : Int32) (u2 : PoS) => ((¬ r1 = 0 → wp_X8_open 0 u2 (fun (r3 : Int32) (u4 : PoS) => wp_X0_play a0 a1 a2 r3 u4 (fun (u6 : PoS) => post (gI u6 32 0) u6))) ∧ (r1 = 0 → post (-1) u2)))
theorem np_X11_caught : yX11_caught.cls ≠ "java/lang/invoke/MethodHandle" ∧ yX11_caught.cls ≠ "java/lang/invoke/VarHandle" ∧ (parseMethodDescriptor yX11_caught.desc).map (fun d => d.parameters.length) = some 3 := by decide +kernel
set_option maxHeartbeats 4000000 in
set_option maxRecDepth 100000 in
theorem m_X11_caught (l : Launch) (V : VEn) {a0 : Int32} {a1 : Int32} {a2 : Int32} {u : PoS} {post : Int32 → PoS → Prop} (h : wp_X11_caught a0 a1 a2 u post) : KI l V yX11_caught cX11_caught 4 .int 3 [.ref (eA V 0), .int a0, .int a1, .int a2] u post := by
  refine KI_of (by decide) (Nat.le_of_ble_eq_true rfl) (lv := [(0, .ref (eA V 0)), (1, .int a0), (2, .int a1), (3, .int a2)]) rfl ?_
  intro p e s m args below meth c C
  rw [wp_X11_caught] at h
  refine a_aload_n C 0 dX11_caught_0 rfl rfl ?_
  refine a_iload_n C 1 dX11_caught_1 rfl rfl ?_
  refine a_iload_n C 2 dX11_caught_2 rfl rfl ?_
  refine a_iload_n C 3 dX11_caught_3 rfl rfl ?_
  refine a_callVi C dX11_caught_4 (m_X11_canChase l V h) bw_830 bw_832 bw_26 bw_112 bw_833 (by decide) rfl rfl np_X11_canChase rfl rfl (by decide) (Nat.le_of_ble_eq_true rfl) ⟨Nat.zero_le _, Nat.zero_le _⟩ (fun r1 u2 h => ?_)
  refine a_if_ne C 12 dX11_caught_7 (by decide) (fun c7 => ?_) (fun c7 => ?_)
  · have h := h.1 c7
    refine a_aload_n C 0 dX11_caught_12 rfl rfl ?_
    refine a_getr C 9 (r := 32) dX11_caught_13 (by decide) rfl rfl rfl ib_11 (by decide) bw_358 ?_
    refine a_iload_n C 1 dX11_caught_16 rfl rfl ?_
    refine a_iload_n C 2 dX11_caught_17 rfl rfl ?_
    refine a_iload_n C 3 dX11_caught_18 rfl rfl ?_
    refine a_aload_n C 0 dX11_caught_19 rfl rfl ?_
    refine a_getr C 0 (r := 1) dX11_caught_20 (by decide) rfl rfl rfl ib_11 (by decide) bw_349 ?_
    refine a_callVi C dX11_caught_23 (m_X8_open l V (by decide) h) bw_819 bw_681 bw_682 bw_120 bw_683 (by decide) rfl rfl np_X8_open rfl rfl (by decide) (Nat.le_of_ble_eq_true rfl) ⟨Nat.zero_le _, Nat.zero_le _⟩ (fun r3 u4 h => ?_)
    refine a_callVv C dX11_caught_26 (m_X0_play l V h) bw_834 bw_835 bw_836 bw_113 bw_837 (by decide) rfl rfl np_X0_play rfl rfl (by decide) (Nat.le_of_ble_eq_true rfl) ⟨Nat.zero_le _, Nat.zero_le _⟩ (fun u6 h => ?_)
    refine a_aload_n C 0 dX11_caught_29 rfl rfl ?_
    refine a_getr C 9 (r := 32) dX11_caught_30 (by decide) rfl rfl rfl ib_11 (by decide) bw_358 ?_
    refine a_geti C 0 dX11_caught_33 (by decide) rfl rfl rfl ib_0 (by decide) bw_147 ?_
    exact a_iret C dX11_caught_36 h
  · have h := h.2 c7
    refine a_iconst C (-1) dX11_caught_10 (by decide) ?_
    exact a_iret C dX11_caught_11 h

/-! RainOnTheOne.flee(III)I -/
def wp_X11_flee (a0 : Int32) (a1 : Int32) (a2 : Int32) (u : PoS) (post : Int32 → PoS → Prop) : Prop := wp_X11_canChase a0 a1 a2 u (fun (r1 : Int32) (u2 : PoS) => ((¬ r1 = 0 → wp_X8_open 0 u2 (fun (r3 : Int32) (u4 : PoS) => wp_X0_play a0 a1 a2 r3 u4 (fun (u6 : PoS) => post (gI u6 32 1) u6))) ∧ (r1 = 0 → post (-1) u2)))
theorem np_X11_flee : yX11_flee.cls ≠ "java/lang/invoke/MethodHandle" ∧ yX11_flee.cls ≠ "java/lang/invoke/VarHandle" ∧ (parseMethodDescriptor yX11_flee.desc).map (fun d => d.parameters.length) = some 3 := by decide +kernel
set_option maxHeartbeats 4000000 in
set_option maxRecDepth 100000 in
theorem m_X11_flee (l : Launch) (V : VEn) {a0 : Int32} {a1 : Int32} {a2 : Int32} {u : PoS} {post : Int32 → PoS → Prop} (h : wp_X11_flee a0 a1 a2 u post) : KI l V yX11_flee cX11_flee 4 .int 3 [.ref (eA V 0), .int a0, .int a1, .int a2] u post := by
  refine KI_of (by decide) (Nat.le_of_ble_eq_true rfl) (lv := [(0, .ref (eA V 0)), (1, .int a0), (2, .int a1), (3, .int a2)]) rfl ?_
  intro p e s m args below meth c C
  rw [wp_X11_flee] at h
  refine a_aload_n C 0 dX11_flee_0 rfl rfl ?_
  refine a_iload_n C 1 dX11_flee_1 rfl rfl ?_
  refine a_iload_n C 2 dX11_flee_2 rfl rfl ?_
  refine a_iload_n C 3 dX11_flee_3 rfl rfl ?_
  refine a_callVi C dX11_flee_4 (m_X11_canChase l V h) bw_830 bw_832 bw_26 bw_112 bw_833 (by decide) rfl rfl np_X11_canChase rfl rfl (by decide) (Nat.le_of_ble_eq_true rfl) ⟨Nat.zero_le _, Nat.zero_le _⟩ (fun r1 u2 h => ?_)
  refine a_if_ne C 12 dX11_flee_7 (by decide) (fun c7 => ?_) (fun c7 => ?_)
  · have h := h.1 c7
    refine a_aload_n C 0 dX11_flee_12 rfl rfl ?_
    refine a_getr C 9 (r := 32) dX11_flee_13 (by decide) rfl rfl rfl ib_11 (by decide) bw_358 ?_
    refine a_iload_n C 1 dX11_flee_16 rfl rfl ?_
    refine a_iload_n C 2 dX11_flee_17 rfl rfl ?_
    refine a_iload_n C 3 dX11_flee_18 rfl rfl ?_
    refine a_aload_n C 0 dX11_flee_19 rfl rfl ?_
    refine a_getr C 0 (r := 1) dX11_flee_20 (by decide) rfl rfl rfl ib_11 (by decide) bw_349 ?_
    refine a_callVi C dX11_flee_23 (m_X8_open l V (by decide) h) bw_819 bw_681 bw_682 bw_120 bw_683 (by decide) rfl rfl np_X8_open rfl rfl (by decide) (Nat.le_of_ble_eq_true rfl) ⟨Nat.zero_le _, Nat.zero_le _⟩ (fun r3 u4 h => ?_)
    refine a_callVv C dX11_flee_26 (m_X0_play l V h) bw_834 bw_835 bw_836 bw_113 bw_837 (by decide) rfl rfl np_X0_play rfl rfl (by decide) (Nat.le_of_ble_eq_true rfl) ⟨Nat.zero_le _, Nat.zero_le _⟩ (fun u6 h => ?_)
    refine a_aload_n C 0 dX11_flee_29 rfl rfl ?_
    refine a_getr C 9 (r := 32) dX11_flee_30 (by decide) rfl rfl rfl ib_11 (by decide) bw_358 ?_
    refine a_geti C 1 dX11_flee_33 (by decide) rfl rfl rfl ib_0 (by decide) bw_149 ?_
    exact a_iret C dX11_flee_36 h
  · have h := h.2 c7
    refine a_iconst C (-1) dX11_flee_10 (by decide) ?_
    exact a_iret C dX11_flee_11 h

/-! RainOnTheOne.tour(III)I -/
def wp_X11_tour (a0 : Int32) (a1 : Int32) (a2 : Int32) (u : PoS) (post : Int32 → PoS → Prop) : Prop := wp_X8_open 0 u (fun (r1 : Int32) (u2 : PoS) => wp_J6_bitCount_0f7a4 a1 u2 (fun (r3 : Int32) (u4 : PoS) => wp_X8_isOpen 0 a0 u4 (fun (r5 : Int32) (u6 : PoS) => ((r5 = 0 → post (-2) u6) ∧ (¬ r5 = 0 → ((¬ (a1 &&& (r1 ^^^ (-1))) = 0 → post (-2) u6) ∧ ((a1 &&& (r1 ^^^ (-1))) = 0 → wp_X11_isWithin r3 1 5 u6 (fun (r7 : Int32) (u8 : PoS) => ((¬ r7 = 0 → wp_X11_isWithin a2 (-1) (r3 - 1) u8 (fun (r9 : Int32) (u10 : PoS) => ((r9 = 0 → post (-2) u10) ∧ (¬ r9 = 0 → wp_X10_plan a0 a1 r1 u10 (fun (r11 : Int32) (u12 : PoS) => ((¬ r11 = 0 → ((¬ a2 = (-1) → vp_in a2 5 ∧ post (gI u12 36 (Int32.toNatClampNeg a2)) u12) ∧ (a2 = (-1) → post (gI u12 35 0) u12))) ∧ (r11 = 0 → post (-2) u12))))))) ∧ (r7 = 0 → post (-2) u8))))))))))
theorem np_X11_tour : yX11_tour.cls ≠ "java/lang/invoke/MethodHandle" ∧ yX11_tour.cls ≠ "java/lang/invoke/VarHandle" ∧ (parseMethodDescriptor yX11_tour.desc).map (fun d => d.parameters.length) = some 3 := by decide +kernel
set_option maxHeartbeats 4000000 in
set_option maxRecDepth 100000 in
theorem m_X11_tour (l : Launch) (V : VEn) {a0 : Int32} {a1 : Int32} {a2 : Int32} {u : PoS} {post : Int32 → PoS → Prop} (h : wp_X11_tour a0 a1 a2 u post) : KI l V yX11_tour cX11_tour 6 .int 11 [.ref (eA V 0), .int a0, .int a1, .int a2] u post := by
  refine KI_of (by decide) (Nat.le_of_ble_eq_true rfl) (lv := [(0, .ref (eA V 0)), (1, .int a0), (2, .int a1), (3, .int a2)]) rfl ?_
  intro p e s m args below meth c C
  rw [wp_X11_tour] at h
  refine a_aload_n C 0 dX11_tour_0 rfl rfl ?_
  refine a_getr C 0 (r := 1) dX11_tour_1 (by decide) rfl rfl rfl ib_11 (by decide) bw_349 ?_
  refine a_callVi C dX11_tour_4 (m_X8_open l V (by decide) h) bw_819 bw_681 bw_682 bw_120 bw_683 (by decide) rfl rfl np_X8_open rfl rfl (by decide) (Nat.le_of_ble_eq_true rfl) ⟨Nat.zero_le _, Nat.zero_le _⟩ (fun r1 u2 h => ?_)
  refine a_istore C [(4, .int r1), (0, .ref (eA V 0)), (1, .int a0), (2, .int a1), (3, .int a2)] dX11_tour_7 (by decide) rfl ?_
  refine a_iload_n C 3 dX11_tour_9 rfl rfl ?_
  refine a_callSi C dX11_tour_10 (m_J6_bitCount_0f7a4 l V h) bw_862 bw_739 bw_131 bw_740 np_J6_bitCount_0f7a4 rfl rfl (by decide) (Nat.le_of_ble_eq_true rfl) ⟨Nat.zero_le _, Nat.zero_le _⟩ (fun r3 u4 h => ?_)
  refine a_istore C [(5, .int r3), (4, .int r1), (0, .ref (eA V 0)), (1, .int a0), (2, .int a1), (3, .int a2)] dX11_tour_13 (by decide) rfl ?_
  refine a_aload_n C 2 dX11_tour_15 rfl rfl ?_
  refine a_getr C 0 (r := 1) dX11_tour_16 (by decide) rfl rfl rfl ib_11 (by decide) bw_349 ?_
  refine a_iload_n C 3 dX11_tour_19 rfl rfl ?_
  refine a_callVi C dX11_tour_20 (m_X8_isOpen l V (by decide) h) bw_393 bw_394 bw_395 bw_120 bw_396 (by decide) rfl rfl np_X8_isOpen rfl rfl (by decide) (Nat.le_of_ble_eq_true rfl) ⟨Nat.zero_le _, Nat.zero_le _⟩ (fun r5 u6 h => ?_)
  refine a_if_eq C 45 dX11_tour_23 (by decide) (fun c18 => ?_) (fun c18 => ?_)
  · have h := h.1 c18
    refine a_bipush C (-2) dX11_tour_45 (by decide) ?_
    exact a_iret C dX11_tour_47 h
  · have h := h.2 c18
    refine a_iload_n C 4 dX11_tour_26 rfl rfl ?_
    refine a_iload C 1 dX11_tour_27 rfl ?_
    refine a_iconst C (-1) dX11_tour_29 (by decide) ?_
    refine a_ixor C dX11_tour_30 ?_
    refine a_iand C dX11_tour_31 ?_
    refine a_if_ne C 45 dX11_tour_32 (by decide) (fun c17 => ?_) (fun c17 => ?_)
    · have h := h.1 c17
      refine a_bipush C (-2) dX11_tour_45 (by decide) ?_
      exact a_iret C dX11_tour_47 h
    · have h := h.2 c17
      refine a_iload C 0 dX11_tour_35 rfl ?_
      refine a_iconst C 1 dX11_tour_37 (by decide) ?_
      refine a_iconst C 5 dX11_tour_38 (by decide) ?_
      refine a_callSi C dX11_tour_39 (m_X11_isWithin l V h) bw_405 bw_406 bw_112 bw_407 np_X11_isWithin rfl rfl (by decide) (Nat.le_of_ble_eq_true rfl) ⟨Nat.zero_le _, Nat.zero_le _⟩ (fun r7 u8 h => ?_)
      refine a_if_ne C 48 dX11_tour_42 (by decide) (fun c16 => ?_) (fun c16 => ?_)
      · have h := h.1 c16
        refine a_iload_n C 5 dX11_tour_48 rfl rfl ?_
        refine a_iconst C (-1) dX11_tour_49 (by decide) ?_
        refine a_iload C 0 dX11_tour_50 rfl ?_
        refine a_iconst C 1 dX11_tour_52 (by decide) ?_
        refine a_isub C dX11_tour_53 ?_
        refine a_callSi C dX11_tour_54 (m_X11_isWithin l V h) bw_405 bw_406 bw_112 bw_407 np_X11_isWithin rfl rfl (by decide) (Nat.le_of_ble_eq_true rfl) ⟨Nat.zero_le _, Nat.zero_le _⟩ (fun r9 u10 h => ?_)
        refine a_if_eq C 74 dX11_tour_57 (by decide) (fun c15 => ?_) (fun c15 => ?_)
        · have h := h.1 c15
          refine a_bipush C (-2) dX11_tour_74 (by decide) ?_
          exact a_iret C dX11_tour_76 h
        · have h := h.2 c15
          refine a_aload_n C 2 dX11_tour_60 rfl rfl ?_
          refine a_getr C 10 (r := 35) dX11_tour_61 (by decide) rfl rfl rfl ib_11 (by decide) bw_359 ?_
          refine a_iload_n C 3 dX11_tour_64 rfl rfl ?_
          refine a_iload_n C 4 dX11_tour_65 rfl rfl ?_
          refine a_iload C 1 dX11_tour_66 rfl ?_
          refine a_callVi C dX11_tour_68 (m_X10_plan l V h) bw_863 bw_864 bw_865 bw_114 bw_866 (by decide) rfl rfl np_X10_plan rfl rfl (by decide) (Nat.le_of_ble_eq_true rfl) ⟨Nat.zero_le _, Nat.zero_le _⟩ (fun r11 u12 h => ?_)
          refine a_if_ne C 77 dX11_tour_71 (by decide) (fun c14 => ?_) (fun c14 => ?_)
          · have h := h.1 c14
            refine a_iload_n C 5 dX11_tour_77 rfl rfl ?_
            refine a_iconst C (-1) dX11_tour_78 (by decide) ?_
            refine a_icmp_ne C 92 dX11_tour_79 (by decide) (fun c13 => ?_) (fun c13 => ?_)
            · have h := h.1 c13
              refine a_aload_n C 2 dX11_tour_92 rfl rfl ?_
              refine a_getr C 10 (r := 35) dX11_tour_93 (by decide) rfl rfl rfl ib_11 (by decide) bw_359 ?_
              refine a_getr C 1 (r := 36) dX11_tour_96 (by decide) rfl rfl rfl ib_10 (by decide) bw_171 ?_
              refine a_iload_n C 5 dX11_tour_99 rfl rfl ?_
              refine b_iald C (Int32.toNatClampNeg a2) dX11_tour_100 (by decide) rfl h.1 rfl ?_
              have h := h.2
              exact a_iret C dX11_tour_101 h
            · have h := h.2 c13
              refine a_aload_n C 2 dX11_tour_82 rfl rfl ?_
              refine a_getr C 10 (r := 35) dX11_tour_83 (by decide) rfl rfl rfl ib_11 (by decide) bw_359 ?_
              refine a_geti C 0 dX11_tour_86 (by decide) rfl rfl rfl ib_10 (by decide) bw_169 ?_
              refine a_goto C 101 dX11_tour_89 (by decide) ?_
              exact a_iret C dX11_tour_101 h
          · have h := h.2 c14
            refine a_bipush C (-2) dX11_tour_74 (by decide) ?_
            exact a_iret C dX11_tour_76 h
      · have h := h.2 c16
        refine a_bipush C (-2) dX11_tour_45 (by decide) ?_
        exact a_iret C dX11_tour_47 h

/-! RainOnTheOne.cut(II)I -/
def wp_X11_cut (a0 : Int32) (a1 : Int32) (u : PoS) (post : Int32 → PoS → Prop) : Prop := wp_X8_isOpen 0 a0 u (fun (r1 : Int32) (u2 : PoS) => ((r1 = 0 → post (-1) u2) ∧ (¬ r1 = 0 → wp_X8_isOpen 0 a1 u2 (fun (r3 : Int32) (u4 : PoS) => ((r3 = 0 → post (-1) u4) ∧ (¬ r3 = 0 → ((¬ a0 = a1 → wp_X8_open 0 u4 (fun (r5 : Int32) (u6 : PoS) => wp_X4_fewest a0 a1 r5 u6 (fun (r7 : Int32) (u8 : PoS) => post r7 u8))) ∧ (a0 = a1 → post (-1) u4))))))))
theorem np_X11_cut : yX11_cut.cls ≠ "java/lang/invoke/MethodHandle" ∧ yX11_cut.cls ≠ "java/lang/invoke/VarHandle" ∧ (parseMethodDescriptor yX11_cut.desc).map (fun d => d.parameters.length) = some 2 := by decide +kernel
set_option maxHeartbeats 4000000 in
set_option maxRecDepth 100000 in
theorem m_X11_cut (l : Launch) (V : VEn) {a0 : Int32} {a1 : Int32} {u : PoS} {post : Int32 → PoS → Prop} (h : wp_X11_cut a0 a1 u post) : KI l V yX11_cut cX11_cut 3 .int 11 [.ref (eA V 0), .int a0, .int a1] u post := by
  refine KI_of (by decide) (Nat.le_of_ble_eq_true rfl) (lv := [(0, .ref (eA V 0)), (1, .int a0), (2, .int a1)]) rfl ?_
  intro p e s m args below meth c C
  rw [wp_X11_cut] at h
  refine a_aload_n C 0 dX11_cut_0 rfl rfl ?_
  refine a_getr C 0 (r := 1) dX11_cut_1 (by decide) rfl rfl rfl ib_11 (by decide) bw_349 ?_
  refine a_iload_n C 1 dX11_cut_4 rfl rfl ?_
  refine a_callVi C dX11_cut_5 (m_X8_isOpen l V (by decide) h) bw_393 bw_394 bw_395 bw_120 bw_396 (by decide) rfl rfl np_X8_isOpen rfl rfl (by decide) (Nat.le_of_ble_eq_true rfl) ⟨Nat.zero_le _, Nat.zero_le _⟩ (fun r1 u2 h => ?_)
  refine a_if_eq C 27 dX11_cut_8 (by decide) (fun c11 => ?_) (fun c11 => ?_)
  · have h := h.1 c11
    refine a_iconst C (-1) dX11_cut_27 (by decide) ?_
    exact a_iret C dX11_cut_28 h
  · have h := h.2 c11
    refine a_aload_n C 0 dX11_cut_11 rfl rfl ?_
    refine a_getr C 0 (r := 1) dX11_cut_12 (by decide) rfl rfl rfl ib_11 (by decide) bw_349 ?_
    refine a_iload_n C 2 dX11_cut_15 rfl rfl ?_
    refine a_callVi C dX11_cut_16 (m_X8_isOpen l V (by decide) h) bw_393 bw_394 bw_395 bw_120 bw_396 (by decide) rfl rfl np_X8_isOpen rfl rfl (by decide) (Nat.le_of_ble_eq_true rfl) ⟨Nat.zero_le _, Nat.zero_le _⟩ (fun r3 u4 h => ?_)
    refine a_if_eq C 27 dX11_cut_19 (by decide) (fun c10 => ?_) (fun c10 => ?_)
    · have h := h.1 c10
      refine a_iconst C (-1) dX11_cut_27 (by decide) ?_
      exact a_iret C dX11_cut_28 h
    · have h := h.2 c10
      refine a_iload_n C 1 dX11_cut_22 rfl rfl ?_
      refine a_iload_n C 2 dX11_cut_23 rfl rfl ?_
      refine a_icmp_ne C 29 dX11_cut_24 (by decide) (fun c9 => ?_) (fun c9 => ?_)
      · have h := h.1 c9
        refine a_aload_n C 0 dX11_cut_29 rfl rfl ?_
        refine a_getr C 12 (r := 44) dX11_cut_30 (by decide) rfl rfl rfl ib_11 (by decide) bw_361 ?_
        refine a_iload_n C 1 dX11_cut_33 rfl rfl ?_
        refine a_iload_n C 2 dX11_cut_34 rfl rfl ?_
        refine a_aload_n C 0 dX11_cut_35 rfl rfl ?_
        refine a_getr C 0 (r := 1) dX11_cut_36 (by decide) rfl rfl rfl ib_11 (by decide) bw_349 ?_
        refine a_callVi C dX11_cut_39 (m_X8_open l V (by decide) h) bw_819 bw_681 bw_682 bw_120 bw_683 (by decide) rfl rfl np_X8_open rfl rfl (by decide) (Nat.le_of_ble_eq_true rfl) ⟨Nat.zero_le _, Nat.zero_le _⟩ (fun r5 u6 h => ?_)
        refine a_callVi C dX11_cut_42 (m_X4_fewest l V h) bw_880 bw_881 bw_882 bw_116 bw_883 (by decide) rfl rfl np_X4_fewest rfl rfl (by decide) (Nat.le_of_ble_eq_true rfl) ⟨Nat.zero_le _, Nat.zero_le _⟩ (fun r7 u8 h => ?_)
        exact a_iret C dX11_cut_45 h
      · have h := h.2 c9
        refine a_iconst C (-1) dX11_cut_27 (by decide) ?_
        exact a_iret C dX11_cut_28 h

/-! RainOnTheOne.narrows()I -/
def wj_X11_narrows_67 (k12 : Int32 → Int32 → Int32 → PoS → Prop) (post : Int32 → PoS → Prop) (v1 : Int32) (v2 : Int32) (v3 : Int32) (u : PoS) : Prop := k12 v1 v2 (v3 + 1) u
def wl_X11_narrows_12 (post : Int32 → PoS → Prop) : Nat → Int32 → Int32 → Int32 → PoS → Prop
  | 0, _, _, _, _ => False
  | n + 1, v1, v2, v3, u => ((30 ≤ v3 → post v2 u) ∧ (¬ 30 ≤ v3 → ∀ x3 : Int32, x3 = (1 <<< (v3 &&& 31)) → wp_X1_beside x3 u (fun (r4 : Int32) (u5 : PoS) => ∀ x6 : Int32, x6 = (r4 &&& v1) → (((v1 &&& x3) = 0 → wj_X11_narrows_67 (wl_X11_narrows_12 post n) post v1 v2 v3 u5) ∧ (¬ (v1 &&& x3) = 0 → wp_X1_filled (x6 &&& (-x6)) (v1 &&& (x3 ^^^ (-1))) u5 (fun (r7 : Int32) (u8 : PoS) => (((x6 &&& (r7 ^^^ (-1))) = 0 → wj_X11_narrows_67 (wl_X11_narrows_12 post n) post v1 v2 v3 u8) ∧ (¬ (x6 &&& (r7 ^^^ (-1))) = 0 → ∀ x9 : Int32, x9 = (v2 ||| x3) → wj_X11_narrows_67 (wl_X11_narrows_12 post n) post v1 x9 v3 u8))))))))
def wp_X11_narrows (u : PoS) (post : Int32 → PoS → Prop) : Prop := wp_X8_open 0 u (fun (r1 : Int32) (u2 : PoS) => (∃ n12, wl_X11_narrows_12 post n12 r1 0 0 u2))
set_option maxHeartbeats 4000000 in
set_option maxRecDepth 100000 in
theorem tj_X11_narrows_67 {p : Program} {l : Launch} {e : Env} {s : State} {m : MethodId} {args : Array Value} {below : List Frame} {meth : Method} {c : Code} {V : VEn} {k12 : Int32 → Int32 → Int32 → PoS → Prop} {post : Int32 → PoS → Prop} (C : CxS p s m args meth c V cX11_narrows 6 RX11 (some .int)) (hk12 : ∀ (v1 : Int32) (v2 : Int32) (v3 : Int32) (u : PoS), k12 v1 v2 v3 u → AtS p l e (Rm 2) s m args below meth c V 6 0 0 (QI V below args s post) 12 [(1, .int v1), (2, .int v2), (3, .int v3)] [] u) (v1 : Int32) (v2 : Int32) (v3 : Int32) (u : PoS) (h : wj_X11_narrows_67 k12 post v1 v2 v3 u) : AtS p l e (Rm 2) s m args below meth c V 6 0 0 (QI V below args s post) 67 [(1, .int v1), (2, .int v2), (3, .int v3)] [] u := by
  rw [wj_X11_narrows_67] at h
  refine a_iinc C (v3 + 1) 2 [(3, .int (v3 + 1)), (1, .int v1), (2, .int v2)] dX11_narrows_67 rfl (congrArg (fun z => v3 + z) (show Int32.ofInt 1 = 1 by decide)) (by decide) rfl ?_
  refine a_goto C 12 dX11_narrows_70 (by decide) ?_
  refine a_sub [1, 2, 0] rfl ?_
  exact hk12 _ _ _ _ h
set_option maxHeartbeats 4000000 in
set_option maxRecDepth 100000 in
theorem tl_X11_narrows_12 {p : Program} {l : Launch} {e : Env} {s : State} {m : MethodId} {args : Array Value} {below : List Frame} {meth : Method} {c : Code} {V : VEn} {post : Int32 → PoS → Prop} (C : CxS p s m args meth c V cX11_narrows 6 RX11 (some .int)) : ∀ (n : Nat) (v1 : Int32) (v2 : Int32) (v3 : Int32) (u : PoS), wl_X11_narrows_12 post n v1 v2 v3 u → AtS p l e (Rm 2) s m args below meth c V 6 0 0 (QI V below args s post) 12 [(1, .int v1), (2, .int v2), (3, .int v3)] [] u := by
  intro n
  induction n with
  | zero => intro v1 v2 v3 u h; exact h.elim
  | succ n ih =>
    intro v1 v2 v3 u h
    rw [wl_X11_narrows_12] at h
    refine a_iload_n C 2 dX11_narrows_12 rfl rfl ?_
    refine a_bipush C 30 dX11_narrows_13 (by decide) ?_
    refine a_icmp_ge C 73 dX11_narrows_15 (by decide) (fun c12 => ?_) (fun c12 => ?_)
    · have h := h.1 c12
      refine a_iload_n C 1 dX11_narrows_73 rfl rfl ?_
      exact a_iret C dX11_narrows_74 h
    · have h := h.2 c12
      refine a_iconst C 1 dX11_narrows_18 (by decide) ?_
      refine a_iload_n C 2 dX11_narrows_19 rfl rfl ?_
      refine a_ishl C dX11_narrows_20 ?_
      refine a_topi (fun x3 ex3 => ?_)
      have h := h x3 ex3
      refine a_istore C [(4, .int x3), (1, .int v1), (2, .int v2), (3, .int v3)] dX11_narrows_21 (by decide) rfl ?_
      refine a_iload C 0 dX11_narrows_23 rfl ?_
      refine a_callSi C dX11_narrows_25 (m_X1_beside l V h) bw_901 bw_636 bw_129 bw_637 np_X1_beside rfl rfl (by decide) (Nat.le_of_ble_eq_true rfl) ⟨Nat.zero_le _, Nat.zero_le _⟩ (fun r4 u5 h => ?_)
      refine a_iload_n C 1 dX11_narrows_28 rfl rfl ?_
      refine a_iand C dX11_narrows_29 ?_
      refine a_topi (fun x6 ex6 => ?_)
      have h := h x6 ex6
      refine a_istore C [(5, .int x6), (4, .int x3), (1, .int v1), (2, .int v2), (3, .int v3)] dX11_narrows_30 (by decide) rfl ?_
      refine a_iload_n C 2 dX11_narrows_32 rfl rfl ?_
      refine a_iload C 1 dX11_narrows_33 rfl ?_
      refine a_iand C dX11_narrows_35 ?_
      refine a_if_eq C 67 dX11_narrows_36 (by decide) (fun c11 => ?_) (fun c11 => ?_)
      · have h := h.1 c11
        refine a_sub [2, 3, 4] rfl ?_
        refine tj_X11_narrows_67 C ih _ _ _ _ h
      · have h := h.2 c11
        refine a_iload C 0 dX11_narrows_39 rfl ?_
        refine a_iload C 0 dX11_narrows_41 rfl ?_
        refine a_iload C 0 dX11_narrows_43 rfl ?_
        refine a_ineg C dX11_narrows_45 ?_
        refine a_iand C dX11_narrows_46 ?_
        refine a_iload_n C 2 dX11_narrows_47 rfl rfl ?_
        refine a_iload C 1 dX11_narrows_48 rfl ?_
        refine a_iconst C (-1) dX11_narrows_50 (by decide) ?_
        refine a_ixor C dX11_narrows_51 ?_
        refine a_iand C dX11_narrows_52 ?_
        refine a_callSi C dX11_narrows_53 (m_X1_filled l V h) bw_902 bw_903 bw_129 bw_904 np_X1_filled rfl rfl (by decide) (Nat.le_of_ble_eq_true rfl) ⟨Nat.zero_le _, Nat.zero_le _⟩ (fun r7 u8 h => ?_)
        refine a_iconst C (-1) dX11_narrows_56 (by decide) ?_
        refine a_ixor C dX11_narrows_57 ?_
        refine a_iand C dX11_narrows_58 ?_
        refine a_if_eq C 67 dX11_narrows_59 (by decide) (fun c10 => ?_) (fun c10 => ?_)
        · have h := h.1 c10
          refine a_sub [2, 3, 4] rfl ?_
          refine tj_X11_narrows_67 C ih _ _ _ _ h
        · have h := h.2 c10
          refine a_iload_n C 3 dX11_narrows_62 rfl rfl ?_
          refine a_iload C 1 dX11_narrows_63 rfl ?_
          refine a_ior C dX11_narrows_65 ?_
          refine a_topi (fun x9 ex9 => ?_)
          have h := h x9 ex9
          refine a_istore_n C [(2, .int x9), (5, .int x6), (4, .int x3), (1, .int v1), (3, .int v3)] dX11_narrows_66 rfl (by decide) rfl ?_
          refine a_sub [3, 0, 4] rfl ?_
          refine tj_X11_narrows_67 C ih _ _ _ _ h
theorem np_X11_narrows : yX11_narrows.cls ≠ "java/lang/invoke/MethodHandle" ∧ yX11_narrows.cls ≠ "java/lang/invoke/VarHandle" ∧ (parseMethodDescriptor yX11_narrows.desc).map (fun d => d.parameters.length) = some 0 := by decide +kernel
set_option maxHeartbeats 4000000 in
set_option maxRecDepth 100000 in
theorem m_X11_narrows (l : Launch) (V : VEn) {u : PoS} {post : Int32 → PoS → Prop} (h : wp_X11_narrows  u post) : KI l V yX11_narrows cX11_narrows 6 .int 2 [.ref (eA V 0)] u post := by
  refine KI_of (by decide) (Nat.le_of_ble_eq_true rfl) (lv := [(0, .ref (eA V 0))]) rfl ?_
  intro p e s m args below meth c C
  rw [wp_X11_narrows] at h
  refine a_aload_n C 0 dX11_narrows_0 rfl rfl ?_
  refine a_getr C 0 (r := 1) dX11_narrows_1 (by decide) rfl rfl rfl ib_11 (by decide) bw_349 ?_
  refine a_callVi C dX11_narrows_4 (m_X8_open l V (by decide) h) bw_819 bw_681 bw_682 bw_120 bw_683 (by decide) rfl rfl np_X8_open rfl rfl (by decide) (Nat.le_of_ble_eq_true rfl) ⟨Nat.zero_le _, Nat.zero_le _⟩ (fun r1 u2 h => ?_)
  refine a_istore_n C [(1, .int r1), (0, .ref (eA V 0))] dX11_narrows_7 rfl (by decide) rfl ?_
  refine a_iconst C 0 dX11_narrows_8 (by decide) ?_
  refine a_istore_n C [(2, .int 0), (1, .int r1), (0, .ref (eA V 0))] dX11_narrows_9 rfl (by decide) rfl ?_
  refine a_iconst C 0 dX11_narrows_10 (by decide) ?_
  refine a_istore_n C [(3, .int 0), (2, .int 0), (1, .int r1), (0, .ref (eA V 0))] dX11_narrows_11 rfl (by decide) rfl ?_
  refine a_sub [2, 1, 0] rfl ?_
  obtain ⟨n12, h⟩ := h
  refine tl_X11_narrows_12 C n12 _ _ _ _ h

/-! RainOnTheOne.isDay(I)Z -/
def wp_X11_isDay (a0 : Int32) (u : PoS) (post : Int32 → PoS → Prop) : Prop := ((a0 < 0 → post 0 u) ∧ (¬ a0 < 0 → ((7 ≤ a0 → post 0 u) ∧ (¬ 7 ≤ a0 → post 1 u))))
theorem np_X11_isDay : yX11_isDay.cls ≠ "java/lang/invoke/MethodHandle" ∧ yX11_isDay.cls ≠ "java/lang/invoke/VarHandle" ∧ (parseMethodDescriptor yX11_isDay.desc).map (fun d => d.parameters.length) = some 1 := by decide +kernel
set_option maxHeartbeats 4000000 in
set_option maxRecDepth 100000 in
theorem m_X11_isDay (l : Launch) (V : VEn) {a0 : Int32} {u : PoS} {post : Int32 → PoS → Prop} (h : wp_X11_isDay a0 u post) : KI l V yX11_isDay cX11_isDay 1 .boolean 0 [.int a0] u post := by
  refine KI_of (by decide) (Nat.le_of_ble_eq_true rfl) (lv := [(0, .int a0)]) rfl ?_
  intro p e s m args below meth c C
  rw [wp_X11_isDay] at h
  refine a_iload_n C 0 dX11_isDay_0 rfl rfl ?_
  refine a_if_lt C 14 dX11_isDay_1 (by decide) (fun c2 => ?_) (fun c2 => ?_)
  · have h := h.1 c2
    refine a_iconst C 0 dX11_isDay_14 (by decide) ?_
    exact a_zret C rfl dX11_isDay_15 h
  · have h := h.2 c2
    refine a_iload_n C 0 dX11_isDay_4 rfl rfl ?_
    refine a_bipush C 7 dX11_isDay_5 (by decide) ?_
    refine a_icmp_ge C 14 dX11_isDay_7 (by decide) (fun c1 => ?_) (fun c1 => ?_)
    · have h := h.1 c1
      refine a_iconst C 0 dX11_isDay_14 (by decide) ?_
      exact a_zret C rfl dX11_isDay_15 h
    · have h := h.2 c1
      refine a_iconst C 1 dX11_isDay_10 (by decide) ?_
      refine a_goto C 15 dX11_isDay_11 (by decide) ?_
      exact a_zret C rfl dX11_isDay_15 h

/-! RainOnTheOne.cost(III)Z -/
def wp_X11_cost (a0 : Int32) (a1 : Int32) (a2 : Int32) (u : PoS) (post : Int32 → PoS → Prop) : Prop := wp_X11_isWithin a0 0 4 u (fun (r1 : Int32) (u2 : PoS) => ((r1 = 0 → post 0 u2) ∧ (¬ r1 = 0 → wp_X11_isDay a1 u2 (fun (r3 : Int32) (u4 : PoS) => ((r3 = 0 → post 0 u4) ∧ (¬ r3 = 0 → wp_X11_isWithin a2 0 99 u4 (fun (r5 : Int32) (u6 : PoS) => ((¬ r5 = 0 → vp_in ((118 + (a0 * 7)) + a1) 2735 ∧ ∀ z7 : PoS, z7 = pI u6 3 (Int32.toNatClampNeg ((118 + (a0 * 7)) + a1)) a2 → post 1 z7) ∧ (r5 = 0 → post 0 u6)))))))))
theorem np_X11_cost : yX11_cost.cls ≠ "java/lang/invoke/MethodHandle" ∧ yX11_cost.cls ≠ "java/lang/invoke/VarHandle" ∧ (parseMethodDescriptor yX11_cost.desc).map (fun d => d.parameters.length) = some 3 := by decide +kernel
set_option maxHeartbeats 4000000 in
set_option maxRecDepth 100000 in
theorem m_X11_cost (l : Launch) (V : VEn) {a0 : Int32} {a1 : Int32} {a2 : Int32} {u : PoS} {post : Int32 → PoS → Prop} (h : wp_X11_cost a0 a1 a2 u post) : KI l V yX11_cost cX11_cost 4 .boolean 1 [.ref (eA V 0), .int a0, .int a1, .int a2] u post := by
  refine KI_of (by decide) (Nat.le_of_ble_eq_true rfl) (lv := [(0, .ref (eA V 0)), (1, .int a0), (2, .int a1), (3, .int a2)]) rfl ?_
  intro p e s m args below meth c C
  rw [wp_X11_cost] at h
  refine a_iload_n C 1 dX11_cost_0 rfl rfl ?_
  refine a_iconst C 0 dX11_cost_1 (by decide) ?_
  refine a_iconst C 4 dX11_cost_2 (by decide) ?_
  refine a_callSi C dX11_cost_3 (m_X11_isWithin l V h) bw_405 bw_406 bw_112 bw_407 np_X11_isWithin rfl rfl (by decide) (Nat.le_of_ble_eq_true rfl) ⟨Nat.zero_le _, Nat.zero_le _⟩ (fun r1 u2 h => ?_)
  refine a_if_eq C 26 dX11_cost_6 (by decide) (fun c10 => ?_) (fun c10 => ?_)
  · have h := h.1 c10
    refine a_iconst C 0 dX11_cost_26 (by decide) ?_
    exact a_zret C rfl dX11_cost_27 h
  · have h := h.2 c10
    refine a_iload_n C 2 dX11_cost_9 rfl rfl ?_
    refine a_callSi C dX11_cost_10 (m_X11_isDay l V h) bw_909 bw_910 bw_112 bw_911 np_X11_isDay rfl rfl (by decide) (Nat.le_of_ble_eq_true rfl) ⟨Nat.zero_le _, Nat.zero_le _⟩ (fun r3 u4 h => ?_)
    refine a_if_eq C 26 dX11_cost_13 (by decide) (fun c9 => ?_) (fun c9 => ?_)
    · have h := h.1 c9
      refine a_iconst C 0 dX11_cost_26 (by decide) ?_
      exact a_zret C rfl dX11_cost_27 h
    · have h := h.2 c9
      refine a_iload_n C 3 dX11_cost_16 rfl rfl ?_
      refine a_iconst C 0 dX11_cost_17 (by decide) ?_
      refine a_bipush C 99 dX11_cost_18 (by decide) ?_
      refine a_callSi C dX11_cost_20 (m_X11_isWithin l V h) bw_405 bw_406 bw_112 bw_407 np_X11_isWithin rfl rfl (by decide) (Nat.le_of_ble_eq_true rfl) ⟨Nat.zero_le _, Nat.zero_le _⟩ (fun r5 u6 h => ?_)
      refine a_if_ne C 28 dX11_cost_23 (by decide) (fun c8 => ?_) (fun c8 => ?_)
      · have h := h.1 c8
        refine a_aload_n C 0 dX11_cost_28 rfl rfl ?_
        refine a_getr C 2 (r := 3) dX11_cost_29 (by decide) rfl rfl rfl ib_11 (by decide) bw_351 ?_
        refine a_bipush C 118 dX11_cost_32 (by decide) ?_
        refine a_iload_n C 1 dX11_cost_34 rfl rfl ?_
        refine a_bipush C 7 dX11_cost_35 (by decide) ?_
        refine a_imul C dX11_cost_37 ?_
        refine a_iadd C dX11_cost_38 ?_
        refine a_iload_n C 2 dX11_cost_39 rfl rfl ?_
        refine a_iadd C dX11_cost_40 ?_
        refine a_iload_n C 3 dX11_cost_41 rfl rfl ?_
        refine b_iast C (Int32.toNatClampNeg ((118 + (a0 * 7)) + a1)) dX11_cost_42 (by decide) rfl h.1 rfl ?_
        have h := h.2
        refine a_topu (fun z7 ez7 => ?_)
        have h := h z7 ez7
        refine a_iconst C 1 dX11_cost_43 (by decide) ?_
        exact a_zret C rfl dX11_cost_44 h
      · have h := h.2 c8
        refine a_iconst C 0 dX11_cost_26 (by decide) ?_
        exact a_zret C rfl dX11_cost_27 h

/-! RainOnTheOne.roster(II)I -/
def wj_X11_roster_22 (post : Int32 → PoS → Prop) (v1 : Int32) (v2 : Int32) (u : PoS) : Prop := wp_X7_make v1 u (fun (r3 : Int32) (u4 : PoS) => ((¬ r3 = 0 → ((¬ v2 = (-1) → vp_in v2 7 ∧ post (gI u4 39 (Int32.toNatClampNeg v2)) u4) ∧ (v2 = (-1) → post (gI u4 38 0) u4))) ∧ (r3 = 0 → post (-1) u4)))
def wp_X11_roster (a0 : Int32) (a1 : Int32) (u : PoS) (post : Int32 → PoS → Prop) : Prop := wp_X11_isWithin a0 1 7 u (fun (r1 : Int32) (u2 : PoS) => ((r1 = 0 → post (-1) u2) ∧ (¬ r1 = 0 → ((a1 = (-1) → wj_X11_roster_22 post a0 a1 u2) ∧ (¬ a1 = (-1) → wp_X11_isDay a1 u2 (fun (r7 : Int32) (u8 : PoS) => ((r7 = 0 → post (-1) u8) ∧ (¬ r7 = 0 → wj_X11_roster_22 post a0 a1 u8))))))))
set_option maxHeartbeats 4000000 in
set_option maxRecDepth 100000 in
theorem tj_X11_roster_22 {p : Program} {l : Launch} {e : Env} {s : State} {m : MethodId} {args : Array Value} {below : List Frame} {meth : Method} {c : Code} {V : VEn} {post : Int32 → PoS → Prop} (C : CxS p s m args meth c V cX11_roster 3 RX11 (some .int)) (v1 : Int32) (v2 : Int32) (u : PoS) (h : wj_X11_roster_22 post v1 v2 u) : AtS p l e (Rm 13) s m args below meth c V 3 0 0 (QI V below args s post) 22 [(0, .ref (eA V 0)), (1, .int v1), (2, .int v2)] [] u := by
  rw [wj_X11_roster_22] at h
  refine a_aload_n C 0 dX11_roster_22 rfl rfl ?_
  refine a_getr C 11 (r := 38) dX11_roster_23 (by decide) rfl rfl rfl ib_11 (by decide) bw_360 ?_
  refine a_aload_n C 0 dX11_roster_26 rfl rfl ?_
  refine a_getr C 2 (r := 3) dX11_roster_27 (by decide) rfl rfl rfl ib_11 (by decide) bw_351 ?_
  refine a_iload_n C 1 dX11_roster_30 rfl rfl ?_
  refine a_callVi C dX11_roster_31 (m_X7_make l V h) bw_916 bw_917 bw_918 bw_115 bw_919 (by decide) rfl rfl np_X7_make rfl rfl (by decide) (Nat.le_of_ble_eq_true rfl) ⟨Nat.zero_le _, Nat.zero_le _⟩ (fun r3 u4 h => ?_)
  refine a_if_ne C 39 dX11_roster_34 (by decide) (fun c6 => ?_) (fun c6 => ?_)
  · have h := h.1 c6
    refine a_iload_n C 2 dX11_roster_39 rfl rfl ?_
    refine a_iconst C (-1) dX11_roster_40 (by decide) ?_
    refine a_icmp_ne C 54 dX11_roster_41 (by decide) (fun c5 => ?_) (fun c5 => ?_)
    · have h := h.1 c5
      refine a_aload_n C 0 dX11_roster_54 rfl rfl ?_
      refine a_getr C 11 (r := 38) dX11_roster_55 (by decide) rfl rfl rfl ib_11 (by decide) bw_360 ?_
      refine a_getr C 1 (r := 39) dX11_roster_58 (by decide) rfl rfl rfl ib_7 (by decide) bw_196 ?_
      refine a_iload_n C 2 dX11_roster_61 rfl rfl ?_
      refine b_iald C (Int32.toNatClampNeg v2) dX11_roster_62 (by decide) rfl h.1 rfl ?_
      have h := h.2
      exact a_iret C dX11_roster_63 h
    · have h := h.2 c5
      refine a_aload_n C 0 dX11_roster_44 rfl rfl ?_
      refine a_getr C 11 (r := 38) dX11_roster_45 (by decide) rfl rfl rfl ib_11 (by decide) bw_360 ?_
      refine a_geti C 0 dX11_roster_48 (by decide) rfl rfl rfl ib_7 (by decide) bw_194 ?_
      refine a_goto C 63 dX11_roster_51 (by decide) ?_
      exact a_iret C dX11_roster_63 h
  · have h := h.2 c6
    refine a_iconst C (-1) dX11_roster_37 (by decide) ?_
    exact a_iret C dX11_roster_38 h
theorem np_X11_roster : yX11_roster.cls ≠ "java/lang/invoke/MethodHandle" ∧ yX11_roster.cls ≠ "java/lang/invoke/VarHandle" ∧ (parseMethodDescriptor yX11_roster.desc).map (fun d => d.parameters.length) = some 2 := by decide +kernel
set_option maxHeartbeats 4000000 in
set_option maxRecDepth 100000 in
theorem m_X11_roster (l : Launch) (V : VEn) {a0 : Int32} {a1 : Int32} {u : PoS} {post : Int32 → PoS → Prop} (h : wp_X11_roster a0 a1 u post) : KI l V yX11_roster cX11_roster 3 .int 13 [.ref (eA V 0), .int a0, .int a1] u post := by
  refine KI_of (by decide) (Nat.le_of_ble_eq_true rfl) (lv := [(0, .ref (eA V 0)), (1, .int a0), (2, .int a1)]) rfl ?_
  intro p e s m args below meth c C
  rw [wp_X11_roster] at h
  refine a_iload_n C 1 dX11_roster_0 rfl rfl ?_
  refine a_iconst C 1 dX11_roster_1 (by decide) ?_
  refine a_bipush C 7 dX11_roster_2 (by decide) ?_
  refine a_callSi C dX11_roster_4 (m_X11_isWithin l V h) bw_405 bw_406 bw_112 bw_407 np_X11_isWithin rfl rfl (by decide) (Nat.le_of_ble_eq_true rfl) ⟨Nat.zero_le _, Nat.zero_le _⟩ (fun r1 u2 h => ?_)
  refine a_if_eq C 37 dX11_roster_7 (by decide) (fun c11 => ?_) (fun c11 => ?_)
  · have h := h.1 c11
    refine a_iconst C (-1) dX11_roster_37 (by decide) ?_
    exact a_iret C dX11_roster_38 h
  · have h := h.2 c11
    refine a_iload_n C 2 dX11_roster_10 rfl rfl ?_
    refine a_iconst C (-1) dX11_roster_11 (by decide) ?_
    refine a_icmp_eq C 22 dX11_roster_12 (by decide) (fun c10 => ?_) (fun c10 => ?_)
    · have h := h.1 c10
      refine tj_X11_roster_22 C _ _ _ h
    · have h := h.2 c10
      refine a_iload_n C 2 dX11_roster_15 rfl rfl ?_
      refine a_callSi C dX11_roster_16 (m_X11_isDay l V h) bw_909 bw_910 bw_112 bw_911 np_X11_isDay rfl rfl (by decide) (Nat.le_of_ble_eq_true rfl) ⟨Nat.zero_le _, Nat.zero_le _⟩ (fun r7 u8 h => ?_)
      refine a_if_eq C 37 dX11_roster_19 (by decide) (fun c9 => ?_) (fun c9 => ?_)
      · have h := h.1 c9
        refine a_iconst C (-1) dX11_roster_37 (by decide) ?_
        exact a_iret C dX11_roster_38 h
      · have h := h.2 c9
        refine tj_X11_roster_22 C _ _ _ h

/-! RainOnTheOne.swap(III)I -/
def wp_X11_swap (a0 : Int32) (a1 : Int32) (a2 : Int32) (u : PoS) (post : Int32 → PoS → Prop) : Prop := wp_X11_isWithin a0 1 7 u (fun (r1 : Int32) (u2 : PoS) => ((r1 = 0 → post (-10000) u2) ∧ (¬ r1 = 0 → wp_X11_isDay a1 u2 (fun (r3 : Int32) (u4 : PoS) => ((r3 = 0 → post (-10000) u4) ∧ (¬ r3 = 0 → wp_X11_isDay a2 u4 (fun (r5 : Int32) (u6 : PoS) => ((r5 = 0 → post (-10000) u6) ∧ (¬ r5 = 0 → ((a1 = a2 → post (-10000) u6) ∧ (¬ a1 = a2 → wp_X7_make a0 u6 (fun (r7 : Int32) (u8 : PoS) => ((¬ r7 = 0 → vp_in a1 7 ∧ ∀ x9 : Int32, x9 = (118 + ((gI u8 39 (Int32.toNatClampNeg a1)) * 7)) → vp_in a2 7 ∧ ∀ x10 : Int32, x10 = (118 + ((gI u8 39 (Int32.toNatClampNeg a2)) * 7)) → vp_in (x9 + a1) 2735 ∧ vp_in (x10 + a2) 2735 ∧ vp_in (x9 + a2) 2735 ∧ vp_in (x10 + a1) 2735 ∧ post ((((gI u8 3 (Int32.toNatClampNeg (x9 + a1))) + (gI u8 3 (Int32.toNatClampNeg (x10 + a2)))) - (gI u8 3 (Int32.toNatClampNeg (x9 + a2)))) - (gI u8 3 (Int32.toNatClampNeg (x10 + a1)))) u8) ∧ (r7 = 0 → post (-10000) u8))))))))))))))
theorem np_X11_swap : yX11_swap.cls ≠ "java/lang/invoke/MethodHandle" ∧ yX11_swap.cls ≠ "java/lang/invoke/VarHandle" ∧ (parseMethodDescriptor yX11_swap.desc).map (fun d => d.parameters.length) = some 3 := by decide +kernel
set_option maxHeartbeats 4000000 in
set_option maxRecDepth 100000 in
theorem m_X11_swap (l : Launch) (V : VEn) {a0 : Int32} {a1 : Int32} {a2 : Int32} {u : PoS} {post : Int32 → PoS → Prop} (h : wp_X11_swap a0 a1 a2 u post) : KI l V yX11_swap cX11_swap 6 .int 13 [.ref (eA V 0), .int a0, .int a1, .int a2] u post := by
  refine KI_of (by decide) (Nat.le_of_ble_eq_true rfl) (lv := [(0, .ref (eA V 0)), (1, .int a0), (2, .int a1), (3, .int a2)]) rfl ?_
  intro p e s m args below meth c C
  rw [wp_X11_swap] at h
  refine a_iload_n C 1 dX11_swap_0 rfl rfl ?_
  refine a_iconst C 1 dX11_swap_1 (by decide) ?_
  refine a_bipush C 7 dX11_swap_2 (by decide) ?_
  refine a_callSi C dX11_swap_4 (m_X11_isWithin l V h) bw_405 bw_406 bw_112 bw_407 np_X11_isWithin rfl rfl (by decide) (Nat.le_of_ble_eq_true rfl) ⟨Nat.zero_le _, Nat.zero_le _⟩ (fun r1 u2 h => ?_)
  refine a_if_eq C 44 dX11_swap_7 (by decide) (fun c15 => ?_) (fun c15 => ?_)
  · have h := h.1 c15
    refine a_sipush C (-10000) dX11_swap_44 (by decide) ?_
    exact a_iret C dX11_swap_47 h
  · have h := h.2 c15
    refine a_iload_n C 2 dX11_swap_10 rfl rfl ?_
    refine a_callSi C dX11_swap_11 (m_X11_isDay l V h) bw_909 bw_910 bw_112 bw_911 np_X11_isDay rfl rfl (by decide) (Nat.le_of_ble_eq_true rfl) ⟨Nat.zero_le _, Nat.zero_le _⟩ (fun r3 u4 h => ?_)
    refine a_if_eq C 44 dX11_swap_14 (by decide) (fun c14 => ?_) (fun c14 => ?_)
    · have h := h.1 c14
      refine a_sipush C (-10000) dX11_swap_44 (by decide) ?_
      exact a_iret C dX11_swap_47 h
    · have h := h.2 c14
      refine a_iload_n C 3 dX11_swap_17 rfl rfl ?_
      refine a_callSi C dX11_swap_18 (m_X11_isDay l V h) bw_909 bw_910 bw_112 bw_911 np_X11_isDay rfl rfl (by decide) (Nat.le_of_ble_eq_true rfl) ⟨Nat.zero_le _, Nat.zero_le _⟩ (fun r5 u6 h => ?_)
      refine a_if_eq C 44 dX11_swap_21 (by decide) (fun c13 => ?_) (fun c13 => ?_)
      · have h := h.1 c13
        refine a_sipush C (-10000) dX11_swap_44 (by decide) ?_
        exact a_iret C dX11_swap_47 h
      · have h := h.2 c13
        refine a_iload_n C 2 dX11_swap_24 rfl rfl ?_
        refine a_iload_n C 3 dX11_swap_25 rfl rfl ?_
        refine a_icmp_eq C 44 dX11_swap_26 (by decide) (fun c12 => ?_) (fun c12 => ?_)
        · have h := h.1 c12
          refine a_sipush C (-10000) dX11_swap_44 (by decide) ?_
          exact a_iret C dX11_swap_47 h
        · have h := h.2 c12
          refine a_aload_n C 0 dX11_swap_29 rfl rfl ?_
          refine a_getr C 11 (r := 38) dX11_swap_30 (by decide) rfl rfl rfl ib_11 (by decide) bw_360 ?_
          refine a_aload_n C 0 dX11_swap_33 rfl rfl ?_
          refine a_getr C 2 (r := 3) dX11_swap_34 (by decide) rfl rfl rfl ib_11 (by decide) bw_351 ?_
          refine a_iload_n C 1 dX11_swap_37 rfl rfl ?_
          refine a_callVi C dX11_swap_38 (m_X7_make l V h) bw_916 bw_917 bw_918 bw_115 bw_919 (by decide) rfl rfl np_X7_make rfl rfl (by decide) (Nat.le_of_ble_eq_true rfl) ⟨Nat.zero_le _, Nat.zero_le _⟩ (fun r7 u8 h => ?_)
          refine a_if_ne C 48 dX11_swap_41 (by decide) (fun c11 => ?_) (fun c11 => ?_)
          · have h := h.1 c11
            refine a_bipush C 118 dX11_swap_48 (by decide) ?_
            refine a_aload_n C 0 dX11_swap_50 rfl rfl ?_
            refine a_getr C 11 (r := 38) dX11_swap_51 (by decide) rfl rfl rfl ib_11 (by decide) bw_360 ?_
            refine a_getr C 1 (r := 39) dX11_swap_54 (by decide) rfl rfl rfl ib_7 (by decide) bw_196 ?_
            refine a_iload_n C 2 dX11_swap_57 rfl rfl ?_
            refine b_iald C (Int32.toNatClampNeg a1) dX11_swap_58 (by decide) rfl h.1 rfl ?_
            have h := h.2
            refine a_bipush C 7 dX11_swap_59 (by decide) ?_
            refine a_imul C dX11_swap_61 ?_
            refine a_iadd C dX11_swap_62 ?_
            refine a_topi (fun x9 ex9 => ?_)
            have h := h x9 ex9
            refine a_istore C [(4, .int x9), (0, .ref (eA V 0)), (1, .int a0), (2, .int a1), (3, .int a2)] dX11_swap_63 (by decide) rfl ?_
            refine a_bipush C 118 dX11_swap_65 (by decide) ?_
            refine a_aload_n C 1 dX11_swap_67 rfl rfl ?_
            refine a_getr C 11 (r := 38) dX11_swap_68 (by decide) rfl rfl rfl ib_11 (by decide) bw_360 ?_
            refine a_getr C 1 (r := 39) dX11_swap_71 (by decide) rfl rfl rfl ib_7 (by decide) bw_196 ?_
            refine a_iload_n C 4 dX11_swap_74 rfl rfl ?_
            refine b_iald C (Int32.toNatClampNeg a2) dX11_swap_75 (by decide) rfl h.1 rfl ?_
            have h := h.2
            refine a_bipush C 7 dX11_swap_76 (by decide) ?_
            refine a_imul C dX11_swap_78 ?_
            refine a_iadd C dX11_swap_79 ?_
            refine a_topi (fun x10 ex10 => ?_)
            have h := h x10 ex10
            refine a_istore C [(5, .int x10), (4, .int x9), (0, .ref (eA V 0)), (1, .int a0), (2, .int a1), (3, .int a2)] dX11_swap_80 (by decide) rfl ?_
            refine a_aload_n C 2 dX11_swap_82 rfl rfl ?_
            refine a_getr C 2 (r := 3) dX11_swap_83 (by decide) rfl rfl rfl ib_11 (by decide) bw_351 ?_
            refine a_iload C 1 dX11_swap_86 rfl ?_
            refine a_iload_n C 4 dX11_swap_88 rfl rfl ?_
            refine a_iadd C dX11_swap_89 ?_
            refine b_iald C (Int32.toNatClampNeg (x9 + a1)) dX11_swap_90 (by decide) rfl h.1 rfl ?_
            have h := h.2
            refine a_aload_n C 2 dX11_swap_91 rfl rfl ?_
            refine a_getr C 2 (r := 3) dX11_swap_92 (by decide) rfl rfl rfl ib_11 (by decide) bw_351 ?_
            refine a_iload C 0 dX11_swap_95 rfl ?_
            refine a_iload_n C 5 dX11_swap_97 rfl rfl ?_
            refine a_iadd C dX11_swap_98 ?_
            refine b_iald C (Int32.toNatClampNeg (x10 + a2)) dX11_swap_99 (by decide) rfl h.1 rfl ?_
            have h := h.2
            refine a_iadd C dX11_swap_100 ?_
            refine a_aload_n C 2 dX11_swap_101 rfl rfl ?_
            refine a_getr C 2 (r := 3) dX11_swap_102 (by decide) rfl rfl rfl ib_11 (by decide) bw_351 ?_
            refine a_iload C 1 dX11_swap_105 rfl ?_
            refine a_iload_n C 5 dX11_swap_107 rfl rfl ?_
            refine a_iadd C dX11_swap_108 ?_
            refine b_iald C (Int32.toNatClampNeg (x9 + a2)) dX11_swap_109 (by decide) rfl h.1 rfl ?_
            have h := h.2
            refine a_isub C dX11_swap_110 ?_
            refine a_aload_n C 2 dX11_swap_111 rfl rfl ?_
            refine a_getr C 2 (r := 3) dX11_swap_112 (by decide) rfl rfl rfl ib_11 (by decide) bw_351 ?_
            refine a_iload C 0 dX11_swap_115 rfl ?_
            refine a_iload_n C 4 dX11_swap_117 rfl rfl ?_
            refine a_iadd C dX11_swap_118 ?_
            refine b_iald C (Int32.toNatClampNeg (x10 + a1)) dX11_swap_119 (by decide) rfl h.1 rfl ?_
            have h := h.2
            refine a_isub C dX11_swap_120 ?_
            exact a_iret C dX11_swap_121 h
          · have h := h.2 c11
            refine a_sipush C (-10000) dX11_swap_44 (by decide) ?_
            exact a_iret C dX11_swap_47 h

/-! RainOnTheOne.seen(II)I -/
def wp_X11_seen (a0 : Int32) (a1 : Int32) (u : PoS) (post : Int32 → PoS → Prop) : Prop := ∀ x1 : Int32, x1 = (gI u 3 153) → ((¬ a0 = (-1) → wp_X11_isCell a0 u (fun (r2 : Int32) (u3 : PoS) => ((r2 = 0 → post (-2) u3) ∧ (¬ r2 = 0 → wp_X11_isWithin a1 0 30 u3 (fun (r4 : Int32) (u5 : PoS) => ((r4 = 0 → post (-2) u5) ∧ (¬ r4 = 0 → ((x1 < 6 → vp_in (154 + x1) 2735 ∧ ∀ z6 : PoS, z6 = pI u5 3 (Int32.toNatClampNeg (154 + x1)) a0 → vp_in (160 + x1) 2735 ∧ ∀ z7 : PoS, z7 = pI z6 3 (Int32.toNatClampNeg (160 + x1)) a1 → ∀ z8 : PoS, z8 = pI z7 3 153 (x1 + 1) → post (x1 + 1) z8) ∧ (¬ x1 < 6 → post (-2) u5))))))))) ∧ (a0 = (-1) → ∀ z12 : PoS, z12 = pI u 3 153 0 → post 0 z12))
theorem np_X11_seen : yX11_seen.cls ≠ "java/lang/invoke/MethodHandle" ∧ yX11_seen.cls ≠ "java/lang/invoke/VarHandle" ∧ (parseMethodDescriptor yX11_seen.desc).map (fun d => d.parameters.length) = some 2 := by decide +kernel
set_option maxHeartbeats 4000000 in
set_option maxRecDepth 100000 in
theorem m_X11_seen (l : Launch) (V : VEn) {a0 : Int32} {a1 : Int32} {u : PoS} {post : Int32 → PoS → Prop} (h : wp_X11_seen a0 a1 u post) : KI l V yX11_seen cX11_seen 4 .int 1 [.ref (eA V 0), .int a0, .int a1] u post := by
  refine KI_of (by decide) (Nat.le_of_ble_eq_true rfl) (lv := [(0, .ref (eA V 0)), (1, .int a0), (2, .int a1)]) rfl ?_
  intro p e s m args below meth c C
  rw [wp_X11_seen] at h
  refine a_aload_n C 0 dX11_seen_0 rfl rfl ?_
  refine a_getr C 2 (r := 3) dX11_seen_1 (by decide) rfl rfl rfl ib_11 (by decide) bw_351 ?_
  refine a_sipush C 153 dX11_seen_4 (by decide) ?_
  refine b_iald C 153 dX11_seen_7 (by decide) rfl (vp_lit (by decide)) (by decide) ?_
  refine a_topi (fun x1 ex1 => ?_)
  have h := h x1 ex1
  refine a_istore_n C [(3, .int x1), (0, .ref (eA V 0)), (1, .int a0), (2, .int a1)] dX11_seen_8 rfl (by decide) rfl ?_
  refine a_iload_n C 2 dX11_seen_9 rfl rfl ?_
  refine a_iconst C (-1) dX11_seen_10 (by decide) ?_
  refine a_icmp_ne C 25 dX11_seen_11 (by decide) (fun c13 => ?_) (fun c13 => ?_)
  · have h := h.1 c13
    refine a_iload_n C 2 dX11_seen_25 rfl rfl ?_
    refine a_callSi C dX11_seen_26 (m_X11_isCell l V h) bw_404 bw_398 bw_112 bw_399 np_X11_isCell rfl rfl (by decide) (Nat.le_of_ble_eq_true rfl) ⟨Nat.zero_le _, Nat.zero_le _⟩ (fun r2 u3 h => ?_)
    refine a_if_eq C 48 dX11_seen_29 (by decide) (fun c11 => ?_) (fun c11 => ?_)
    · have h := h.1 c11
      refine a_bipush C (-2) dX11_seen_48 (by decide) ?_
      exact a_iret C dX11_seen_50 h
    · have h := h.2 c11
      refine a_iload_n C 3 dX11_seen_32 rfl rfl ?_
      refine a_iconst C 0 dX11_seen_33 (by decide) ?_
      refine a_bipush C 30 dX11_seen_34 (by decide) ?_
      refine a_callSi C dX11_seen_36 (m_X11_isWithin l V h) bw_405 bw_406 bw_112 bw_407 np_X11_isWithin rfl rfl (by decide) (Nat.le_of_ble_eq_true rfl) ⟨Nat.zero_le _, Nat.zero_le _⟩ (fun r4 u5 h => ?_)
      refine a_if_eq C 48 dX11_seen_39 (by decide) (fun c10 => ?_) (fun c10 => ?_)
      · have h := h.1 c10
        refine a_bipush C (-2) dX11_seen_48 (by decide) ?_
        exact a_iret C dX11_seen_50 h
      · have h := h.2 c10
        refine a_iload_n C 0 dX11_seen_42 rfl rfl ?_
        refine a_bipush C 6 dX11_seen_43 (by decide) ?_
        refine a_icmp_lt C 51 dX11_seen_45 (by decide) (fun c9 => ?_) (fun c9 => ?_)
        · have h := h.1 c9
          refine a_aload_n C 1 dX11_seen_51 rfl rfl ?_
          refine a_getr C 2 (r := 3) dX11_seen_52 (by decide) rfl rfl rfl ib_11 (by decide) bw_351 ?_
          refine a_sipush C 154 dX11_seen_55 (by decide) ?_
          refine a_iload_n C 0 dX11_seen_58 rfl rfl ?_
          refine a_iadd C dX11_seen_59 ?_
          refine a_iload_n C 2 dX11_seen_60 rfl rfl ?_
          refine b_iast C (Int32.toNatClampNeg (154 + x1)) dX11_seen_61 (by decide) rfl h.1 rfl ?_
          have h := h.2
          refine a_topu (fun z6 ez6 => ?_)
          have h := h z6 ez6
          refine a_aload_n C 1 dX11_seen_62 rfl rfl ?_
          refine a_getr C 2 (r := 3) dX11_seen_63 (by decide) rfl rfl rfl ib_11 (by decide) bw_351 ?_
          refine a_sipush C 160 dX11_seen_66 (by decide) ?_
          refine a_iload_n C 0 dX11_seen_69 rfl rfl ?_
          refine a_iadd C dX11_seen_70 ?_
          refine a_iload_n C 3 dX11_seen_71 rfl rfl ?_
          refine b_iast C (Int32.toNatClampNeg (160 + x1)) dX11_seen_72 (by decide) rfl h.1 rfl ?_
          have h := h.2
          refine a_topu (fun z7 ez7 => ?_)
          have h := h z7 ez7
          refine a_aload_n C 1 dX11_seen_73 rfl rfl ?_
          refine a_getr C 2 (r := 3) dX11_seen_74 (by decide) rfl rfl rfl ib_11 (by decide) bw_351 ?_
          refine a_sipush C 153 dX11_seen_77 (by decide) ?_
          refine a_iload_n C 0 dX11_seen_80 rfl rfl ?_
          refine a_iconst C 1 dX11_seen_81 (by decide) ?_
          refine a_iadd C dX11_seen_82 ?_
          refine b_iast C 153 dX11_seen_83 (by decide) rfl (vp_lit (by decide)) (by decide) ?_
          refine a_topu (fun z8 ez8 => ?_)
          have h := h z8 ez8
          refine a_iload_n C 0 dX11_seen_84 rfl rfl ?_
          refine a_iconst C 1 dX11_seen_85 (by decide) ?_
          refine a_iadd C dX11_seen_86 ?_
          exact a_iret C dX11_seen_87 h
        · have h := h.2 c9
          refine a_bipush C (-2) dX11_seen_48 (by decide) ?_
          exact a_iret C dX11_seen_50 h
  · have h := h.2 c13
    refine a_aload_n C 1 dX11_seen_14 rfl rfl ?_
    refine a_getr C 2 (r := 3) dX11_seen_15 (by decide) rfl rfl rfl ib_11 (by decide) bw_351 ?_
    refine a_sipush C 153 dX11_seen_18 (by decide) ?_
    refine a_iconst C 0 dX11_seen_21 (by decide) ?_
    refine b_iast C 153 dX11_seen_22 (by decide) rfl (vp_lit (by decide)) (by decide) ?_
    refine a_topu (fun z12 ez12 => ?_)
    have h := h z12 ez12
    refine a_iconst C 0 dX11_seen_23 (by decide) ?_
    exact a_iret C dX11_seen_24 h
