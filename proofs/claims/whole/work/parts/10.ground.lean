/-! RainOnTheOne$Ground.beside(I)I -/
def wp_X1_beside (a0 : Int32) (u : PoS) (post : Int32 → PoS → Prop) : Prop := ∀ x1 : Int32, x1 = ((ushr a0 6) ||| ((a0 <<< (6 &&& 31)) &&& 1073741823)) → post ((x1 ||| (ushr (a0 &&& (-17043522)) 1)) ||| ((a0 &&& (-545392673)) <<< (1 &&& 31))) u
theorem np_X1_beside : yX1_beside.cls ≠ "java/lang/invoke/MethodHandle" ∧ yX1_beside.cls ≠ "java/lang/invoke/VarHandle" ∧ (parseMethodDescriptor yX1_beside.desc).map (fun d => d.parameters.length) = some 1 := by decide +kernel
set_option maxHeartbeats 4000000 in
set_option maxRecDepth 100000 in
theorem m_X1_beside (l : Launch) (V : VEn) {a0 : Int32} {u : PoS} {post : Int32 → PoS → Prop} (h : wp_X1_beside a0 u post) : KI l V yX1_beside cX1_beside 2 .int 0 [.int a0] u post := by
  refine KI_of (by decide) (Nat.le_of_ble_eq_true rfl) (lv := [(0, .int a0)]) rfl ?_
  intro p e s m args below meth c C
  rw [wp_X1_beside] at h
  refine a_iload_n C 0 dX1_beside_0 rfl rfl ?_
  refine a_bipush C 6 dX1_beside_1 (by decide) ?_
  refine b_iushr C dX1_beside_3 ?_
  refine a_iload_n C 0 dX1_beside_4 rfl rfl ?_
  refine a_bipush C 6 dX1_beside_5 (by decide) ?_
  refine a_ishl C dX1_beside_7 ?_
  refine a_ldc C dX1_beside_8 bw_638 ?_
  refine a_iand C dX1_beside_10 ?_
  refine a_ior C dX1_beside_11 ?_
  refine a_topi (fun x1 ex1 => ?_)
  have h := h x1 ex1
  refine a_istore_n C [(1, .int x1), (0, .int a0)] dX1_beside_12 rfl (by decide) rfl ?_
  refine a_iload_n C 0 dX1_beside_13 rfl rfl ?_
  refine a_iload_n C 1 dX1_beside_14 rfl rfl ?_
  refine a_ldc C dX1_beside_15 bw_639 ?_
  refine a_iand C dX1_beside_17 ?_
  refine a_iconst C 1 dX1_beside_18 (by decide) ?_
  refine b_iushr C dX1_beside_19 ?_
  refine a_ior C dX1_beside_20 ?_
  refine a_iload_n C 1 dX1_beside_21 rfl rfl ?_
  refine a_ldc C dX1_beside_22 bw_640 ?_
  refine a_iand C dX1_beside_24 ?_
  refine a_iconst C 1 dX1_beside_25 (by decide) ?_
  refine a_ishl C dX1_beside_26 ?_
  refine a_ior C dX1_beside_27 ?_
  exact a_iret C dX1_beside_28 h

/-! RainOnTheOne$Ground.toSide(II)I -/
def wp_X1_toSide (a0 : Int32) (a1 : Int32) (u : PoS) (post : Int32 → PoS → Prop) : Prop := ((a1 = 0 → ((a0 < 6 → post (-1) u) ∧ (¬ a0 < 6 → post (a0 - 6) u))) ∧ (a1 = 1 → (((irem a0 6) ≤ 0 → post (-1) u) ∧ (¬ (irem a0 6) ≤ 0 → post (a0 - 1) u))) ∧ (a1 = 2 → ((5 ≤ (irem a0 6) → post (-1) u) ∧ (¬ 5 ≤ (irem a0 6) → post (a0 + 1) u))) ∧ (¬ a1 = 0 → ¬ a1 = 1 → ¬ a1 = 2 → ((24 ≤ a0 → post (-1) u) ∧ (¬ 24 ≤ a0 → post (a0 + 6) u))))
theorem np_X1_toSide : yX1_toSide.cls ≠ "java/lang/invoke/MethodHandle" ∧ yX1_toSide.cls ≠ "java/lang/invoke/VarHandle" ∧ (parseMethodDescriptor yX1_toSide.desc).map (fun d => d.parameters.length) = some 2 := by decide +kernel
set_option maxHeartbeats 4000000 in
set_option maxRecDepth 100000 in
theorem m_X1_toSide (l : Launch) (V : VEn) {a0 : Int32} {a1 : Int32} {u : PoS} {post : Int32 → PoS → Prop} (h : wp_X1_toSide a0 a1 u post) : KI l V yX1_toSide cX1_toSide 2 .int 0 [.int a0, .int a1] u post := by
  refine KI_of (by decide) (Nat.le_of_ble_eq_true rfl) (lv := [(0, .int a0), (1, .int a1)]) rfl ?_
  intro p e s m args below meth c C
  rw [wp_X1_toSide] at h
  refine a_iload_n C 1 dX1_toSide_0 rfl rfl ?_
  obtain ⟨hs0, hs1, hs2, hd0⟩ := h
  by_cases hq0 : a1 = 0
  · have h := hs0 hq0
    refine a_tableIn C (off := 27) 28 dX1_toSide_1 (by rw [hq0]; decide) (by rw [hq0]; decide) (by rw [hq0]; decide +kernel) (by decide) ?_
    refine a_iload_n C 0 dX1_toSide_28 rfl rfl ?_
    refine a_bipush C 6 dX1_toSide_29 (by decide) ?_
    refine a_icmp_lt C 41 dX1_toSide_31 (by decide) (fun c1 => ?_) (fun c1 => ?_)
    · have h := h.1 c1
      refine a_iconst C (-1) dX1_toSide_41 (by decide) ?_
      exact a_iret C dX1_toSide_42 h
    · have h := h.2 c1
      refine a_iload_n C 0 dX1_toSide_34 rfl rfl ?_
      refine a_bipush C 6 dX1_toSide_35 (by decide) ?_
      refine a_isub C dX1_toSide_37 ?_
      refine a_goto C 42 dX1_toSide_38 (by decide) ?_
      exact a_iret C dX1_toSide_42 h
  by_cases hq1 : a1 = 1
  · have h := hs1 hq1
    refine a_tableIn C (off := 42) 43 dX1_toSide_1 (by rw [hq1]; decide) (by rw [hq1]; decide) (by rw [hq1]; decide +kernel) (by decide) ?_
    refine a_iload_n C 0 dX1_toSide_43 rfl rfl ?_
    refine a_bipush C 6 dX1_toSide_44 (by decide) ?_
    refine b_irem C dX1_toSide_46 (by decide) ?_
    refine a_if_le C 56 dX1_toSide_47 (by decide) (fun c2 => ?_) (fun c2 => ?_)
    · have h := h.1 c2
      refine a_iconst C (-1) dX1_toSide_56 (by decide) ?_
      exact a_iret C dX1_toSide_57 h
    · have h := h.2 c2
      refine a_iload_n C 0 dX1_toSide_50 rfl rfl ?_
      refine a_iconst C 1 dX1_toSide_51 (by decide) ?_
      refine a_isub C dX1_toSide_52 ?_
      refine a_goto C 57 dX1_toSide_53 (by decide) ?_
      exact a_iret C dX1_toSide_57 h
  by_cases hq2 : a1 = 2
  · have h := hs2 hq2
    refine a_tableIn C (off := 57) 58 dX1_toSide_1 (by rw [hq2]; decide) (by rw [hq2]; decide) (by rw [hq2]; decide +kernel) (by decide) ?_
    refine a_iload_n C 0 dX1_toSide_58 rfl rfl ?_
    refine a_bipush C 6 dX1_toSide_59 (by decide) ?_
    refine b_irem C dX1_toSide_61 (by decide) ?_
    refine a_iconst C 5 dX1_toSide_62 (by decide) ?_
    refine a_icmp_ge C 72 dX1_toSide_63 (by decide) (fun c3 => ?_) (fun c3 => ?_)
    · have h := h.1 c3
      refine a_iconst C (-1) dX1_toSide_72 (by decide) ?_
      exact a_iret C dX1_toSide_73 h
    · have h := h.2 c3
      refine a_iload_n C 0 dX1_toSide_66 rfl rfl ?_
      refine a_iconst C 1 dX1_toSide_67 (by decide) ?_
      refine a_iadd C dX1_toSide_68 ?_
      refine a_goto C 73 dX1_toSide_69 (by decide) ?_
      exact a_iret C dX1_toSide_73 h
  have h := hd0 hq0 hq1 hq2
  refine a_tableOut C 74 dX1_toSide_1 (tsw_out 0 2 (fun q h1 h2 => by rcases (show q = 0 ∨ q = 1 ∨ q = 2 by omega) with rfl | rfl | rfl <;> first | exact lv_neT hq0 (by decide) | exact lv_neT hq1 (by decide) | exact lv_neT hq2 (by decide))) (by decide) ?_
  refine a_iload_n C 0 dX1_toSide_74 rfl rfl ?_
  refine a_bipush C 24 dX1_toSide_75 (by decide) ?_
  refine a_icmp_ge C 87 dX1_toSide_77 (by decide) (fun c4 => ?_) (fun c4 => ?_)
  · have h := h.1 c4
    refine a_iconst C (-1) dX1_toSide_87 (by decide) ?_
    exact a_iret C dX1_toSide_88 h
  · have h := h.2 c4
    refine a_iload_n C 0 dX1_toSide_80 rfl rfl ?_
    refine a_bipush C 6 dX1_toSide_81 (by decide) ?_
    refine a_iadd C dX1_toSide_83 ?_
    refine a_goto C 88 dX1_toSide_84 (by decide) ?_
    exact a_iret C dX1_toSide_88 h

/-! RainOnTheOne$Ground.has(II)Z -/
def wp_X1_has (a0 : Int32) (a1 : Int32) (u : PoS) (post : Int32 → PoS → Prop) : Prop := ((a1 < 0 → post 0 u) ∧ (¬ a1 < 0 → ((30 ≤ a1 → post 0 u) ∧ (¬ 30 ≤ a1 → ((((ushr a0 a1) &&& 1) = 0 → post 0 u) ∧ (¬ ((ushr a0 a1) &&& 1) = 0 → post 1 u))))))
theorem np_X1_has : yX1_has.cls ≠ "java/lang/invoke/MethodHandle" ∧ yX1_has.cls ≠ "java/lang/invoke/VarHandle" ∧ (parseMethodDescriptor yX1_has.desc).map (fun d => d.parameters.length) = some 2 := by decide +kernel
set_option maxHeartbeats 4000000 in
set_option maxRecDepth 100000 in
theorem m_X1_has (l : Launch) (V : VEn) {a0 : Int32} {a1 : Int32} {u : PoS} {post : Int32 → PoS → Prop} (h : wp_X1_has a0 a1 u post) : KI l V yX1_has cX1_has 2 .boolean 0 [.int a0, .int a1] u post := by
  refine KI_of (by decide) (Nat.le_of_ble_eq_true rfl) (lv := [(0, .int a0), (1, .int a1)]) rfl ?_
  intro p e s m args below meth c C
  rw [wp_X1_has] at h
  refine a_iload_n C 1 dX1_has_0 rfl rfl ?_
  refine a_if_lt C 22 dX1_has_1 (by decide) (fun c3 => ?_) (fun c3 => ?_)
  · have h := h.1 c3
    refine a_iconst C 0 dX1_has_22 (by decide) ?_
    exact a_zret C rfl dX1_has_23 h
  · have h := h.2 c3
    refine a_iload_n C 1 dX1_has_4 rfl rfl ?_
    refine a_bipush C 30 dX1_has_5 (by decide) ?_
    refine a_icmp_ge C 22 dX1_has_7 (by decide) (fun c2 => ?_) (fun c2 => ?_)
    · have h := h.1 c2
      refine a_iconst C 0 dX1_has_22 (by decide) ?_
      exact a_zret C rfl dX1_has_23 h
    · have h := h.2 c2
      refine a_iload_n C 0 dX1_has_10 rfl rfl ?_
      refine a_iload_n C 1 dX1_has_11 rfl rfl ?_
      refine b_iushr C dX1_has_12 ?_
      refine a_iconst C 1 dX1_has_13 (by decide) ?_
      refine a_iand C dX1_has_14 ?_
      refine a_if_eq C 22 dX1_has_15 (by decide) (fun c1 => ?_) (fun c1 => ?_)
      · have h := h.1 c1
        refine a_iconst C 0 dX1_has_22 (by decide) ?_
        exact a_zret C rfl dX1_has_23 h
      · have h := h.2 c1
        refine a_iconst C 1 dX1_has_18 (by decide) ?_
        refine a_goto C 23 dX1_has_19 (by decide) ?_
        exact a_zret C rfl dX1_has_23 h

/-! RainOnTheOne$Ground.stepsBetween(III)I -/
def wl_X1_stepsBetween_25 (post : Int32 → PoS → Prop) : Nat → Int32 → Int32 → Int32 → Int32 → PoS → Prop
  | 0, _, _, _, _, _ => False
  | n + 1, v1, v2, v3, v4, u => ((30 ≤ v4 → post (-1) u) ∧ (¬ 30 ≤ v4 → ((((ushr v3 v1) &&& 1) = 0 → wp_X1_beside v3 u (fun (r6 : Int32) (u7 : PoS) => ∀ x8 : Int32, x8 = (v3 ||| (r6 &&& v2)) → wl_X1_stepsBetween_25 post n v1 v2 x8 (v4 + 1) u7)) ∧ (¬ ((ushr v3 v1) &&& 1) = 0 → post v4 u))))
def wp_X1_stepsBetween (a0 : Int32) (a1 : Int32) (a2 : Int32) (u : PoS) (post : Int32 → PoS → Prop) : Prop := wp_X1_has a2 a0 u (fun (r1 : Int32) (u2 : PoS) => ((r1 = 0 → post (-1) u2) ∧ (¬ r1 = 0 → wp_X1_has a2 a1 u2 (fun (r3 : Int32) (u4 : PoS) => ((¬ r3 = 0 → ∀ x5 : Int32, x5 = (1 <<< (a0 &&& 31)) → (∃ n, wl_X1_stepsBetween_25 post n a1 a2 x5 0 u4)) ∧ (r3 = 0 → post (-1) u4))))))
set_option maxHeartbeats 4000000 in
set_option maxRecDepth 100000 in
theorem tl_X1_stepsBetween_25 {p : Program} {l : Launch} {e : Env} {s : State} {m : MethodId} {args : Array Value} {below : List Frame} {meth : Method} {c : Code} {V : VEn} {post : Int32 → PoS → Prop} (C : CxS p s m args meth c V cX1_stepsBetween 5 RX1 (some .int)) : ∀ (n : Nat) (v1 : Int32) (v2 : Int32) (v3 : Int32) (v4 : Int32) (u : PoS), wl_X1_stepsBetween_25 post n v1 v2 v3 v4 u → AtS p l e (Rm 1) s m args below meth c V 5 (QI V below args s post) 25 [(1, .int v1), (2, .int v2), (3, .int v3), (4, .int v4)] [] u := by
  intro n
  induction n with
  | zero => intro v1 v2 v3 v4 u h; exact h.elim
  | succ n ih =>
    intro v1 v2 v3 v4 u h
    rw [wl_X1_stepsBetween_25] at h
    refine a_iload C 3 dX1_stepsBetween_25 rfl ?_
    refine a_bipush C 30 dX1_stepsBetween_27 (by decide) ?_
    refine a_icmp_ge C 58 dX1_stepsBetween_29 (by decide) (fun c10 => ?_) (fun c10 => ?_)
    · have h := h.1 c10
      refine a_iconst C (-1) dX1_stepsBetween_58 (by decide) ?_
      exact a_iret C dX1_stepsBetween_59 h
    · have h := h.2 c10
      refine a_iload_n C 2 dX1_stepsBetween_32 rfl rfl ?_
      refine a_iload_n C 0 dX1_stepsBetween_33 rfl rfl ?_
      refine b_iushr C dX1_stepsBetween_34 ?_
      refine a_iconst C 1 dX1_stepsBetween_35 (by decide) ?_
      refine a_iand C dX1_stepsBetween_36 ?_
      refine a_if_eq C 43 dX1_stepsBetween_37 (by decide) (fun c9 => ?_) (fun c9 => ?_)
      · have h := h.1 c9
        refine a_iload_n C 2 dX1_stepsBetween_43 rfl rfl ?_
        refine a_iload_n C 2 dX1_stepsBetween_44 rfl rfl ?_
        refine a_callSi C dX1_stepsBetween_45 (m_X1_beside l V h) bw_689 bw_636 bw_129 bw_637 np_X1_beside rfl rfl (by decide) (Nat.le_of_ble_eq_true rfl) (fun r6 u7 h => ?_)
        refine a_iload_n C 1 dX1_stepsBetween_48 rfl rfl ?_
        refine a_iand C dX1_stepsBetween_49 ?_
        refine a_ior C dX1_stepsBetween_50 ?_
        refine a_topi (fun x8 ex8 => ?_)
        have h := h x8 ex8
        refine a_istore_n C [(3, .int x8), (1, .int v1), (2, .int v2), (4, .int v4)] dX1_stepsBetween_51 rfl (by decide) rfl ?_
        refine a_iinc C (v4 + 1) 3 [(4, .int (v4 + 1)), (3, .int x8), (1, .int v1), (2, .int v2)] dX1_stepsBetween_52 rfl (congrArg (fun z => v4 + z) (show Int32.ofInt 1 = 1 by decide)) (by decide) rfl ?_
        refine a_goto C 25 dX1_stepsBetween_55 (by decide) ?_
        refine a_sub [2, 3, 1, 0] rfl ?_
        exact ih _ _ _ _ _ h
      · have h := h.2 c9
        refine a_iload C 3 dX1_stepsBetween_40 rfl ?_
        exact a_iret C dX1_stepsBetween_42 h
theorem np_X1_stepsBetween : yX1_stepsBetween.cls ≠ "java/lang/invoke/MethodHandle" ∧ yX1_stepsBetween.cls ≠ "java/lang/invoke/VarHandle" ∧ (parseMethodDescriptor yX1_stepsBetween.desc).map (fun d => d.parameters.length) = some 3 := by decide +kernel
set_option maxHeartbeats 4000000 in
set_option maxRecDepth 100000 in
theorem m_X1_stepsBetween (l : Launch) (V : VEn) {a0 : Int32} {a1 : Int32} {a2 : Int32} {u : PoS} {post : Int32 → PoS → Prop} (h : wp_X1_stepsBetween a0 a1 a2 u post) : KI l V yX1_stepsBetween cX1_stepsBetween 5 .int 1 [.int a0, .int a1, .int a2] u post := by
  refine KI_of (by decide) (Nat.le_of_ble_eq_true rfl) (lv := [(0, .int a0), (1, .int a1), (2, .int a2)]) rfl ?_
  intro p e s m args below meth c C
  rw [wp_X1_stepsBetween] at h
  refine a_iload_n C 2 dX1_stepsBetween_0 rfl rfl ?_
  refine a_iload_n C 0 dX1_stepsBetween_1 rfl rfl ?_
  refine a_callSi C dX1_stepsBetween_2 (m_X1_has l V h) bw_688 bw_642 bw_129 bw_643 np_X1_has rfl rfl (by decide) (Nat.le_of_ble_eq_true rfl) (fun r1 u2 h => ?_)
  refine a_if_eq C 16 dX1_stepsBetween_5 (by decide) (fun c12 => ?_) (fun c12 => ?_)
  · have h := h.1 c12
    refine a_iconst C (-1) dX1_stepsBetween_16 (by decide) ?_
    exact a_iret C dX1_stepsBetween_17 h
  · have h := h.2 c12
    refine a_iload_n C 2 dX1_stepsBetween_8 rfl rfl ?_
    refine a_iload_n C 1 dX1_stepsBetween_9 rfl rfl ?_
    refine a_callSi C dX1_stepsBetween_10 (m_X1_has l V h) bw_688 bw_642 bw_129 bw_643 np_X1_has rfl rfl (by decide) (Nat.le_of_ble_eq_true rfl) (fun r3 u4 h => ?_)
    refine a_if_ne C 18 dX1_stepsBetween_13 (by decide) (fun c11 => ?_) (fun c11 => ?_)
    · have h := h.1 c11
      refine a_iconst C 1 dX1_stepsBetween_18 (by decide) ?_
      refine a_iload_n C 0 dX1_stepsBetween_19 rfl rfl ?_
      refine a_ishl C dX1_stepsBetween_20 ?_
      refine a_topi (fun x5 ex5 => ?_)
      have h := h x5 ex5
      refine a_istore_n C [(3, .int x5), (0, .int a0), (1, .int a1), (2, .int a2)] dX1_stepsBetween_21 rfl (by decide) rfl ?_
      refine a_iconst C 0 dX1_stepsBetween_22 (by decide) ?_
      refine a_istore C [(4, .int 0), (3, .int x5), (0, .int a0), (1, .int a1), (2, .int a2)] dX1_stepsBetween_23 (by decide) rfl ?_
      refine a_sub [3, 4, 1, 0] rfl ?_
      obtain ⟨n, h⟩ := h
      refine tl_X1_stepsBetween_25 C n _ _ _ _ _ h
    · have h := h.2 c11
      refine a_iconst C (-1) dX1_stepsBetween_16 (by decide) ?_
      exact a_iret C dX1_stepsBetween_17 h

/-! RainOnTheOne$Ground.filled(II)I -/
def wl_X1_filled_4 (post : Int32 → PoS → Prop) : Nat → Int32 → Int32 → Int32 → PoS → Prop
  | 0, _, _, _, _ => False
  | n + 1, v1, v2, v3, u => ((30 ≤ v3 → post v2 u) ∧ (¬ 30 ≤ v3 → wp_X1_beside v2 u (fun (r1 : Int32) (u2 : PoS) => ∀ x3 : Int32, x3 = (v2 ||| (r1 &&& v1)) → ((¬ x3 = v2 → wl_X1_filled_4 post n v1 x3 (v3 + 1) u2) ∧ (x3 = v2 → post v2 u2)))))
def wp_X1_filled (a0 : Int32) (a1 : Int32) (u : PoS) (post : Int32 → PoS → Prop) : Prop := (∃ n, wl_X1_filled_4 post n a1 a0 0 u)
set_option maxHeartbeats 4000000 in
set_option maxRecDepth 100000 in
theorem tl_X1_filled_4 {p : Program} {l : Launch} {e : Env} {s : State} {m : MethodId} {args : Array Value} {below : List Frame} {meth : Method} {c : Code} {V : VEn} {post : Int32 → PoS → Prop} (C : CxS p s m args meth c V cX1_filled 5 RX1 (some .int)) : ∀ (n : Nat) (v1 : Int32) (v2 : Int32) (v3 : Int32) (u : PoS), wl_X1_filled_4 post n v1 v2 v3 u → AtS p l e (Rm 1) s m args below meth c V 5 (QI V below args s post) 4 [(1, .int v1), (2, .int v2), (3, .int v3)] [] u := by
  intro n
  induction n with
  | zero => intro v1 v2 v3 u h; exact h.elim
  | succ n ih =>
    intro v1 v2 v3 u h
    rw [wl_X1_filled_4] at h
    refine a_iload_n C 2 dX1_filled_4 rfl rfl ?_
    refine a_bipush C 30 dX1_filled_5 (by decide) ?_
    refine a_icmp_ge C 37 dX1_filled_7 (by decide) (fun c5 => ?_) (fun c5 => ?_)
    · have h := h.1 c5
      refine a_iload_n C 1 dX1_filled_37 rfl rfl ?_
      exact a_iret C dX1_filled_38 h
    · have h := h.2 c5
      refine a_iload_n C 1 dX1_filled_10 rfl rfl ?_
      refine a_iload_n C 1 dX1_filled_11 rfl rfl ?_
      refine a_callSi C dX1_filled_12 (m_X1_beside l V h) bw_689 bw_636 bw_129 bw_637 np_X1_beside rfl rfl (by decide) (Nat.le_of_ble_eq_true rfl) (fun r1 u2 h => ?_)
      refine a_iload_n C 0 dX1_filled_15 rfl rfl ?_
      refine a_iand C dX1_filled_16 ?_
      refine a_ior C dX1_filled_17 ?_
      refine a_topi (fun x3 ex3 => ?_)
      have h := h x3 ex3
      refine a_istore C [(4, .int x3), (1, .int v1), (2, .int v2), (3, .int v3)] dX1_filled_18 (by decide) rfl ?_
      refine a_iload C 0 dX1_filled_20 rfl ?_
      refine a_iload_n C 2 dX1_filled_22 rfl rfl ?_
      refine a_icmp_ne C 28 dX1_filled_23 (by decide) (fun c4 => ?_) (fun c4 => ?_)
      · have h := h.1 c4
        refine a_iload C 0 dX1_filled_28 rfl ?_
        refine a_istore_n C [(2, .int x3), (4, .int x3), (1, .int v1), (3, .int v3)] dX1_filled_30 rfl (by decide) rfl ?_
        refine a_iinc C (v3 + 1) 3 [(3, .int (v3 + 1)), (2, .int x3), (4, .int x3), (1, .int v1)] dX1_filled_31 rfl (congrArg (fun z => v3 + z) (show Int32.ofInt 1 = 1 by decide)) (by decide) rfl ?_
        refine a_goto C 4 dX1_filled_34 (by decide) ?_
        refine a_sub [3, 1, 0] rfl ?_
        exact ih _ _ _ _ h
      · have h := h.2 c4
        refine a_iload_n C 2 dX1_filled_26 rfl rfl ?_
        exact a_iret C dX1_filled_27 h
theorem np_X1_filled : yX1_filled.cls ≠ "java/lang/invoke/MethodHandle" ∧ yX1_filled.cls ≠ "java/lang/invoke/VarHandle" ∧ (parseMethodDescriptor yX1_filled.desc).map (fun d => d.parameters.length) = some 2 := by decide +kernel
set_option maxHeartbeats 4000000 in
set_option maxRecDepth 100000 in
theorem m_X1_filled (l : Launch) (V : VEn) {a0 : Int32} {a1 : Int32} {u : PoS} {post : Int32 → PoS → Prop} (h : wp_X1_filled a0 a1 u post) : KI l V yX1_filled cX1_filled 5 .int 1 [.int a0, .int a1] u post := by
  refine KI_of (by decide) (Nat.le_of_ble_eq_true rfl) (lv := [(0, .int a0), (1, .int a1)]) rfl ?_
  intro p e s m args below meth c C
  rw [wp_X1_filled] at h
  refine a_iload_n C 0 dX1_filled_0 rfl rfl ?_
  refine a_istore_n C [(2, .int a0), (0, .int a0), (1, .int a1)] dX1_filled_1 rfl (by decide) rfl ?_
  refine a_iconst C 0 dX1_filled_2 (by decide) ?_
  refine a_istore_n C [(3, .int 0), (2, .int a0), (0, .int a0), (1, .int a1)] dX1_filled_3 rfl (by decide) rfl ?_
  refine a_sub [3, 1, 0] rfl ?_
  obtain ⟨n, h⟩ := h
  refine tl_X1_filled_4 C n _ _ _ _ h
