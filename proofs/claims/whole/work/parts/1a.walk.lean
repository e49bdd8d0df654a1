/-! RainOnTheOne$Ground.has(II)Z -/
def wp_X1_has (a0 : Int32) (a1 : Int32) (u : PoS) (post : Int32 → PoS → Prop) : Prop := ((a1 < 0 → post 0 u) ∧ (¬ a1 < 0 → ((30 ≤ a1 → post 0 u) ∧ (¬ 30 ≤ a1 → ((((ushr a0 a1) &&& 1) = 0 → post 0 u) ∧ (¬ ((ushr a0 a1) &&& 1) = 0 → post 1 u))))))
theorem np_X1_has : yX1_has.cls ≠ "java/lang/invoke/MethodHandle" ∧ yX1_has.cls ≠ "java/lang/invoke/VarHandle" ∧ (parseMethodDescriptor yX1_has.desc).map (fun d => d.parameters.length) = some 2 := by decide +kernel
set_option maxHeartbeats 4000000 in
set_option maxRecDepth 100000 in
theorem m_X1_has (l : Launch) (V : VEn) {a0 : Int32} {a1 : Int32} {u : PoS} {post : Int32 → PoS → Prop} (h : wp_X1_has a0 a1 u post) : KI l V yX1_has cX1_has 2 .boolean 0 [.int a0, .int a1] u post := by
  refine KI_of (by decide) (Nat.le_of_ble_eq_true rfl) (lv := [(0, .int a0), (1, .int a1)]) rfl ?_
  intro p e s m args below meth c C
  rw [wp_X1_has] at h
  refine a_iload_n C 1 dX1_has_0 rfl rfl ?_
  refine a_if_lt C 22 dX1_has_1 (by decide) (fun c3 => ?_) (fun c3 => ?_)
  · have h := h.1 c3
    refine a_iconst C 0 dX1_has_22 (by decide) ?_
    exact a_zret C rfl dX1_has_23 h
  · have h := h.2 c3
    refine a_iload_n C 1 dX1_has_4 rfl rfl ?_
    refine a_bipush C 30 dX1_has_5 (by decide) ?_
    refine a_icmp_ge C 22 dX1_has_7 (by decide) (fun c2 => ?_) (fun c2 => ?_)
    · have h := h.1 c2
      refine a_iconst C 0 dX1_has_22 (by decide) ?_
      exact a_zret C rfl dX1_has_23 h
    · have h := h.2 c2
      refine a_iload_n C 0 dX1_has_10 rfl rfl ?_
      refine a_iload_n C 1 dX1_has_11 rfl rfl ?_
      refine b_iushr C dX1_has_12 ?_
      refine a_iconst C 1 dX1_has_13 (by decide) ?_
      refine a_iand C dX1_has_14 ?_
      refine a_if_eq C 22 dX1_has_15 (by decide) (fun c1 => ?_) (fun c1 => ?_)
      · have h := h.1 c1
        refine a_iconst C 0 dX1_has_22 (by decide) ?_
        exact a_zret C rfl dX1_has_23 h
      · have h := h.2 c1
        refine a_iconst C 1 dX1_has_18 (by decide) ?_
        refine a_goto C 23 dX1_has_19 (by decide) ?_
        exact a_zret C rfl dX1_has_23 h

/-! RainOnTheOne$Chase.choicesWithout(II)I -/
def wj_X0_choicesWithout_42 (k5 : Int32 → Int32 → Int32 → Int32 → PoS → Prop) (post : Int32 → PoS → Prop) (v1 : Int32) (v2 : Int32) (v3 : Int32) (v4 : Int32) (u : PoS) : Prop := k5 v1 v2 v3 (v4 + 1) u
def wl_X0_choicesWithout_5 (post : Int32 → PoS → Prop) : Nat → Int32 → Int32 → Int32 → Int32 → PoS → Prop
  | 0, _, _, _, _, _ => False
  | n + 1, v1, v2, v3, v4, u => ((30 ≤ v4 → post v3 u) ∧ (¬ 30 ≤ v4 → wp_X1_has v1 v4 u (fun (r1 : Int32) (u2 : PoS) => ((r1 = 0 → wj_X0_choicesWithout_42 (wl_X0_choicesWithout_5 post n) post v1 v2 v3 v4 u2) ∧ (¬ r1 = 0 → vp_in v4 30 ∧ wp_X1_has (gI u2 34 (Int32.toNatClampNeg v4)) v2 u2 (fun (r3 : Int32) (u4 : PoS) => ((¬ r3 = 0 → wj_X0_choicesWithout_42 (wl_X0_choicesWithout_5 post n) post v1 v2 v3 v4 u4) ∧ (r3 = 0 → ∀ x5 : Int32, x5 = (v3 ||| (1 <<< (v4 &&& 31))) → wj_X0_choicesWithout_42 (wl_X0_choicesWithout_5 post n) post v1 v2 x5 v4 u4))))))))
def wp_X0_choicesWithout (a0 : Int32) (a1 : Int32) (u : PoS) (post : Int32 → PoS → Prop) : Prop := (∃ n5, wl_X0_choicesWithout_5 post n5 a0 a1 0 0 u)
set_option maxHeartbeats 4000000 in
set_option maxRecDepth 100000 in
theorem tj_X0_choicesWithout_42 {p : Program} {l : Launch} {e : Env} {s : State} {m : MethodId} {args : Array Value} {below : List Frame} {meth : Method} {c : Code} {V : VEn} {k5 : Int32 → Int32 → Int32 → Int32 → PoS → Prop} {post : Int32 → PoS → Prop} (C : CxS p s m args meth c V cX0_choicesWithout 5 RX0 (some .int)) (hk5 : ∀ (v1 : Int32) (v2 : Int32) (v3 : Int32) (v4 : Int32) (u : PoS), k5 v1 v2 v3 v4 u → AtS p l e (Rm 1) s m args below meth c V 5 0 0 (QI V below args s post) 5 [(0, .ref (eA V 32)), (1, .int v1), (2, .int v2), (3, .int v3), (4, .int v4)] [] u) (v1 : Int32) (v2 : Int32) (v3 : Int32) (v4 : Int32) (u : PoS) (h : wj_X0_choicesWithout_42 k5 post v1 v2 v3 v4 u) : AtS p l e (Rm 1) s m args below meth c V 5 0 0 (QI V below args s post) 42 [(0, .ref (eA V 32)), (1, .int v1), (2, .int v2), (3, .int v3), (4, .int v4)] [] u := by
  rw [wj_X0_choicesWithout_42] at h
  refine a_iinc C (v4 + 1) 4 [(4, .int (v4 + 1)), (0, .ref (eA V 32)), (1, .int v1), (2, .int v2), (3, .int v3)] dX0_choicesWithout_42 rfl (congrArg (fun z => v4 + z) (show Int32.ofInt 1 = 1 by decide)) (by decide) rfl ?_
  refine a_goto C 5 dX0_choicesWithout_45 (by decide) ?_
  refine a_sub [1, 2, 3, 4, 0] rfl ?_
  exact hk5 _ _ _ _ _ h
set_option maxHeartbeats 4000000 in
set_option maxRecDepth 100000 in
theorem tl_X0_choicesWithout_5 {p : Program} {l : Launch} {e : Env} {s : State} {m : MethodId} {args : Array Value} {below : List Frame} {meth : Method} {c : Code} {V : VEn} {post : Int32 → PoS → Prop} (C : CxS p s m args meth c V cX0_choicesWithout 5 RX0 (some .int)) : ∀ (n : Nat) (v1 : Int32) (v2 : Int32) (v3 : Int32) (v4 : Int32) (u : PoS), wl_X0_choicesWithout_5 post n v1 v2 v3 v4 u → AtS p l e (Rm 1) s m args below meth c V 5 0 0 (QI V below args s post) 5 [(0, .ref (eA V 32)), (1, .int v1), (2, .int v2), (3, .int v3), (4, .int v4)] [] u := by
  intro n
  induction n with
  | zero => intro v1 v2 v3 v4 u h; exact h.elim
  | succ n ih =>
    intro v1 v2 v3 v4 u h
    rw [wl_X0_choicesWithout_5] at h
    refine a_iload C 4 dX0_choicesWithout_5 rfl ?_
    refine a_bipush C 30 dX0_choicesWithout_7 (by decide) ?_
    refine a_icmp_ge C 48 dX0_choicesWithout_9 (by decide) (fun c8 => ?_) (fun c8 => ?_)
    · have h := h.1 c8
      refine a_iload_n C 3 dX0_choicesWithout_48 rfl rfl ?_
      exact a_iret C dX0_choicesWithout_49 h
    · have h := h.2 c8
      refine a_iload_n C 1 dX0_choicesWithout_12 rfl rfl ?_
      refine a_iload C 4 dX0_choicesWithout_13 rfl ?_
      refine a_callSi C dX0_choicesWithout_15 (m_X1_has l V h) bw_847 bw_642 bw_129 bw_643 np_X1_has rfl rfl (by decide) (Nat.le_of_ble_eq_true rfl) ⟨Nat.zero_le _, Nat.zero_le _⟩ (fun r1 u2 h => ?_)
      refine a_if_eq C 42 dX0_choicesWithout_18 (by decide) (fun c7 => ?_) (fun c7 => ?_)
      · have h := h.1 c7
        refine tj_X0_choicesWithout_42 C ih _ _ _ _ _ h
      · have h := h.2 c7
        refine a_aload_n C 0 dX0_choicesWithout_21 rfl rfl ?_
        refine a_getr C 3 (r := 34) dX0_choicesWithout_22 (by decide) rfl rfl rfl ib_0 (by decide) bw_151 ?_
        refine a_iload C 4 dX0_choicesWithout_25 rfl ?_
        refine b_iald C (Int32.toNatClampNeg v4) dX0_choicesWithout_27 (by decide) rfl h.1 rfl ?_
        have h := h.2
        refine a_iload_n C 2 dX0_choicesWithout_28 rfl rfl ?_
        refine a_callSi C dX0_choicesWithout_29 (m_X1_has l V h) bw_847 bw_642 bw_129 bw_643 np_X1_has rfl rfl (by decide) (Nat.le_of_ble_eq_true rfl) ⟨Nat.zero_le _, Nat.zero_le _⟩ (fun r3 u4 h => ?_)
        refine a_if_ne C 42 dX0_choicesWithout_32 (by decide) (fun c6 => ?_) (fun c6 => ?_)
        · have h := h.1 c6
          refine tj_X0_choicesWithout_42 C ih _ _ _ _ _ h
        · have h := h.2 c6
          refine a_iload_n C 3 dX0_choicesWithout_35 rfl rfl ?_
          refine a_iconst C 1 dX0_choicesWithout_36 (by decide) ?_
          refine a_iload C 4 dX0_choicesWithout_37 rfl ?_
          refine a_ishl C dX0_choicesWithout_39 ?_
          refine a_ior C dX0_choicesWithout_40 ?_
          refine a_topi (fun x5 ex5 => ?_)
          have h := h x5 ex5
          refine a_istore_n C [(3, .int x5), (0, .ref (eA V 32)), (1, .int v1), (2, .int v2), (4, .int v4)] dX0_choicesWithout_41 rfl (by decide) rfl ?_
          refine a_sub [1, 2, 3, 0, 4] rfl ?_
          refine tj_X0_choicesWithout_42 C ih _ _ _ _ _ h
theorem np_X0_choicesWithout : yX0_choicesWithout.cls ≠ "java/lang/invoke/MethodHandle" ∧ yX0_choicesWithout.cls ≠ "java/lang/invoke/VarHandle" ∧ (parseMethodDescriptor yX0_choicesWithout.desc).map (fun d => d.parameters.length) = some 2 := by decide +kernel
set_option maxHeartbeats 4000000 in
set_option maxRecDepth 100000 in
theorem m_X0_choicesWithout (l : Launch) (V : VEn) {a0 : Int32} {a1 : Int32} {u : PoS} {post : Int32 → PoS → Prop} (h : wp_X0_choicesWithout a0 a1 u post) : KI l V yX0_choicesWithout cX0_choicesWithout 5 .int 1 [.ref (eA V 32), .int a0, .int a1] u post := by
  refine KI_of (by decide) (Nat.le_of_ble_eq_true rfl) (lv := [(0, .ref (eA V 32)), (1, .int a0), (2, .int a1)]) rfl ?_
  intro p e s m args below meth c C
  rw [wp_X0_choicesWithout] at h
  refine a_iconst C 0 dX0_choicesWithout_0 (by decide) ?_
  refine a_istore_n C [(3, .int 0), (0, .ref (eA V 32)), (1, .int a0), (2, .int a1)] dX0_choicesWithout_1 rfl (by decide) rfl ?_
  refine a_iconst C 0 dX0_choicesWithout_2 (by decide) ?_
  refine a_istore C [(4, .int 0), (3, .int 0), (0, .ref (eA V 32)), (1, .int a0), (2, .int a1)] dX0_choicesWithout_3 (by decide) rfl ?_
  refine a_sub [2, 3, 4, 1, 0] rfl ?_
  obtain ⟨n5, h⟩ := h
  refine tl_X0_choicesWithout_5 C n5 _ _ _ _ _ h

/-! RainOnTheOne$Ground.toSide(II)I -/
def wp_X1_toSide (a0 : Int32) (a1 : Int32) (u : PoS) (post : Int32 → PoS → Prop) : Prop := ((a1 = 0 → ((a0 < 6 → post (-1) u) ∧ (¬ a0 < 6 → post (a0 - 6) u))) ∧ (a1 = 1 → (((irem a0 6) ≤ 0 → post (-1) u) ∧ (¬ (irem a0 6) ≤ 0 → post (a0 - 1) u))) ∧ (a1 = 2 → ((5 ≤ (irem a0 6) → post (-1) u) ∧ (¬ 5 ≤ (irem a0 6) → post (a0 + 1) u))) ∧ (¬ a1 = 0 → ¬ a1 = 1 → ¬ a1 = 2 → ((24 ≤ a0 → post (-1) u) ∧ (¬ 24 ≤ a0 → post (a0 + 6) u))))
theorem np_X1_toSide : yX1_toSide.cls ≠ "java/lang/invoke/MethodHandle" ∧ yX1_toSide.cls ≠ "java/lang/invoke/VarHandle" ∧ (parseMethodDescriptor yX1_toSide.desc).map (fun d => d.parameters.length) = some 2 := by decide +kernel
set_option maxHeartbeats 4000000 in
set_option maxRecDepth 100000 in
theorem m_X1_toSide (l : Launch) (V : VEn) {a0 : Int32} {a1 : Int32} {u : PoS} {post : Int32 → PoS → Prop} (h : wp_X1_toSide a0 a1 u post) : KI l V yX1_toSide cX1_toSide 2 .int 0 [.int a0, .int a1] u post := by
  refine KI_of (by decide) (Nat.le_of_ble_eq_true rfl) (lv := [(0, .int a0), (1, .int a1)]) rfl ?_
  intro p e s m args below meth c C
  rw [wp_X1_toSide] at h
  refine a_iload_n C 1 dX1_toSide_0 rfl rfl ?_
  obtain ⟨hs0, hs1, hs2, hd0⟩ := h
  by_cases hq0 : a1 = 0
  · have h := hs0 hq0
    refine a_tableIn C (off := 27) 28 dX1_toSide_1 (by rw [hq0]; decide) (by rw [hq0]; decide) (by rw [hq0]; decide +kernel) (by decide) ?_
    refine a_iload_n C 0 dX1_toSide_28 rfl rfl ?_
    refine a_bipush C 6 dX1_toSide_29 (by decide) ?_
    refine a_icmp_lt C 41 dX1_toSide_31 (by decide) (fun c1 => ?_) (fun c1 => ?_)
    · have h := h.1 c1
      refine a_iconst C (-1) dX1_toSide_41 (by decide) ?_
      exact a_iret C dX1_toSide_42 h
    · have h := h.2 c1
      refine a_iload_n C 0 dX1_toSide_34 rfl rfl ?_
      refine a_bipush C 6 dX1_toSide_35 (by decide) ?_
      refine a_isub C dX1_toSide_37 ?_
      refine a_goto C 42 dX1_toSide_38 (by decide) ?_
      exact a_iret C dX1_toSide_42 h
  by_cases hq1 : a1 = 1
  · have h := hs1 hq1
    refine a_tableIn C (off := 42) 43 dX1_toSide_1 (by rw [hq1]; decide) (by rw [hq1]; decide) (by rw [hq1]; decide +kernel) (by decide) ?_
    refine a_iload_n C 0 dX1_toSide_43 rfl rfl ?_
    refine a_bipush C 6 dX1_toSide_44 (by decide) ?_
    refine b_irem C dX1_toSide_46 (by decide) ?_
    refine a_if_le C 56 dX1_toSide_47 (by decide) (fun c2 => ?_) (fun c2 => ?_)
    · have h := h.1 c2
      refine a_iconst C (-1) dX1_toSide_56 (by decide) ?_
      exact a_iret C dX1_toSide_57 h
    · have h := h.2 c2
      refine a_iload_n C 0 dX1_toSide_50 rfl rfl ?_
      refine a_iconst C 1 dX1_toSide_51 (by decide) ?_
      refine a_isub C dX1_toSide_52 ?_
      refine a_goto C 57 dX1_toSide_53 (by decide) ?_
      exact a_iret C dX1_toSide_57 h
  by_cases hq2 : a1 = 2
  · have h := hs2 hq2
    refine a_tableIn C (off := 57) 58 dX1_toSide_1 (by rw [hq2]; decide) (by rw [hq2]; decide) (by rw [hq2]; decide +kernel) (by decide) ?_
    refine a_iload_n C 0 dX1_toSide_58 rfl rfl ?_
    refine a_bipush C 6 dX1_toSide_59 (by decide) ?_
    refine b_irem C dX1_toSide_61 (by decide) ?_
    refine a_iconst C 5 dX1_toSide_62 (by decide) ?_
    refine a_icmp_ge C 72 dX1_toSide_63 (by decide) (fun c3 => ?_) (fun c3 => ?_)
    · have h := h.1 c3
      refine a_iconst C (-1) dX1_toSide_72 (by decide) ?_
      exact a_iret C dX1_toSide_73 h
    · have h := h.2 c3
      refine a_iload_n C 0 dX1_toSide_66 rfl rfl ?_
      refine a_iconst C 1 dX1_toSide_67 (by decide) ?_
      refine a_iadd C dX1_toSide_68 ?_
      refine a_goto C 73 dX1_toSide_69 (by decide) ?_
      exact a_iret C dX1_toSide_73 h
  have h := hd0 hq0 hq1 hq2
  refine a_tableOut C 74 dX1_toSide_1 (tsw_out 0 2 (fun q h1 h2 => by rcases (show q = 0 ∨ q = 1 ∨ q = 2 by omega) with rfl | rfl | rfl <;> first | exact lv_neT hq0 (by decide) | exact lv_neT hq1 (by decide) | exact lv_neT hq2 (by decide))) (by decide) ?_
  refine a_iload_n C 0 dX1_toSide_74 rfl rfl ?_
  refine a_bipush C 24 dX1_toSide_75 (by decide) ?_
  refine a_icmp_ge C 87 dX1_toSide_77 (by decide) (fun c4 => ?_) (fun c4 => ?_)
  · have h := h.1 c4
    refine a_iconst C (-1) dX1_toSide_87 (by decide) ?_
    exact a_iret C dX1_toSide_88 h
  · have h := h.2 c4
    refine a_iload_n C 0 dX1_toSide_80 rfl rfl ?_
    refine a_bipush C 6 dX1_toSide_81 (by decide) ?_
    refine a_iadd C dX1_toSide_83 ?_
    refine a_goto C 88 dX1_toSide_84 (by decide) ?_
    exact a_iret C dX1_toSide_88 h

/-! RainOnTheOne$Chase.fleersTurn(I)Z -/
def wj_X0_fleersTurn_56 (k21 : Int32 → Int32 → Int32 → Int32 → Int32 → PoS → Prop) (post : Int32 → PoS → Prop) (v1 : Int32) (v2 : Int32) (v3 : Int32) (v4 : Int32) (v5 : Int32) (u : PoS) : Prop := k21 v1 v2 v3 v4 (v5 + 1) u
def wl_X0_fleersTurn_21 (k62 : Int32 → Int32 → Int32 → Int32 → PoS → Prop) (post : Int32 → PoS → Prop) : Nat → Int32 → Int32 → Int32 → Int32 → Int32 → PoS → Prop
  | 0, _, _, _, _, _, _ => False
  | n + 1, v1, v2, v3, v4, v5, u => ((4 ≤ v5 → k62 v1 v2 v3 v4 u) ∧ (¬ 4 ≤ v5 → wp_X1_toSide v3 v5 u (fun (r2 : Int32) (u3 : PoS) => wp_X1_has v1 r2 u3 (fun (r4 : Int32) (u5 : PoS) => ((r4 = 0 → wj_X0_fleersTurn_56 (wl_X0_fleersTurn_21 k62 post n) post v1 v2 v3 v4 v5 u5) ∧ (¬ r4 = 0 → vp_in r2 30 ∧ ∀ x6 : Int32, x6 = (v4 &&& (gI u5 34 (Int32.toNatClampNeg r2))) → wj_X0_fleersTurn_56 (wl_X0_fleersTurn_21 k62 post n) post v1 v2 v3 x6 v5 u5))))))
def wj_X0_fleersTurn_99 (k4 : Int32 → Int32 → Int32 → PoS → Prop) (post : Int32 → PoS → Prop) (v1 : Int32) (v2 : Int32) (v3 : Int32) (u : PoS) : Prop := k4 v1 v2 (v3 + 1) u
def wl_X0_fleersTurn_4 (post : Int32 → PoS → Prop) : Nat → Int32 → Int32 → Int32 → PoS → Prop
  | 0, _, _, _, _ => False
  | n + 1, v1, v2, v3, u => ((30 ≤ v3 → IsB v2 ∧ post v2 u) ∧ (¬ 30 ≤ v3 → vp_in v3 30 ∧ ∀ x1 : Int32, x1 = (gI u 34 (Int32.toNatClampNeg v3)) → (∃ n21, wl_X0_fleersTurn_21 (fun (v19 : Int32) (v29 : Int32) (v39 : Int32) (v49 : Int32) (u9 : PoS) => ∀ x10 : Int32, x10 = (v49 ||| (1 <<< (v39 &&& 31))) → wp_X1_has v19 v39 u9 (fun (r11 : Int32) (u12 : PoS) => ((r11 = 0 → wj_X0_fleersTurn_99 (wl_X0_fleersTurn_4 post n) post v19 v29 v39 u12) ∧ (¬ r11 = 0 → vp_in v39 30 ∧ ((x10 = (gI u12 33 (Int32.toNatClampNeg v39)) → wj_X0_fleersTurn_99 (wl_X0_fleersTurn_4 post n) post v19 v29 v39 u12) ∧ (¬ x10 = (gI u12 33 (Int32.toNatClampNeg v39)) → vp_in v39 30 ∧ ∀ z13 : PoS, z13 = pI u12 33 (Int32.toNatClampNeg v39) x10 → wj_X0_fleersTurn_99 (wl_X0_fleersTurn_4 post n) post v19 1 v39 z13)))))) post n21 v1 v2 v3 x1 0 u)))
def wp_X0_fleersTurn (a0 : Int32) (u : PoS) (post : Int32 → PoS → Prop) : Prop := (∃ n4, wl_X0_fleersTurn_4 post n4 a0 0 0 u)
set_option maxHeartbeats 4000000 in
set_option maxRecDepth 100000 in
theorem tj_X0_fleersTurn_56 {p : Program} {l : Launch} {e : Env} {s : State} {m : MethodId} {args : Array Value} {below : List Frame} {meth : Method} {c : Code} {V : VEn} {k21 : Int32 → Int32 → Int32 → Int32 → Int32 → PoS → Prop} {post : Int32 → PoS → Prop} (C : CxS p s m args meth c V cX0_fleersTurn 7 RX0 (some .boolean)) (hk21 : ∀ (v1 : Int32) (v2 : Int32) (v3 : Int32) (v4 : Int32) (v5 : Int32) (u : PoS), k21 v1 v2 v3 v4 v5 u → AtS p l e (Rm 1) s m args below meth c V 7 0 0 (QI V below args s post) 21 [(0, .ref (eA V 32)), (1, .int v1), (2, .int v2), (3, .int v3), (4, .int v4), (5, .int v5)] [] u) (v1 : Int32) (v2 : Int32) (v3 : Int32) (v4 : Int32) (v5 : Int32) (u : PoS) (h : wj_X0_fleersTurn_56 k21 post v1 v2 v3 v4 v5 u) : AtS p l e (Rm 1) s m args below meth c V 7 0 0 (QI V below args s post) 56 [(0, .ref (eA V 32)), (1, .int v1), (2, .int v2), (3, .int v3), (4, .int v4), (5, .int v5)] [] u := by
  rw [wj_X0_fleersTurn_56] at h
  refine a_iinc C (v5 + 1) 5 [(5, .int (v5 + 1)), (0, .ref (eA V 32)), (1, .int v1), (2, .int v2), (3, .int v3), (4, .int v4)] dX0_fleersTurn_56 rfl (congrArg (fun z => v5 + z) (show Int32.ofInt 1 = 1 by decide)) (by decide) rfl ?_
  refine a_goto C 21 dX0_fleersTurn_59 (by decide) ?_
  refine a_sub [1, 2, 3, 4, 5, 0] rfl ?_
  exact hk21 _ _ _ _ _ _ h
set_option maxHeartbeats 4000000 in
set_option maxRecDepth 100000 in
theorem tl_X0_fleersTurn_21 {p : Program} {l : Launch} {e : Env} {s : State} {m : MethodId} {args : Array Value} {below : List Frame} {meth : Method} {c : Code} {V : VEn} {k62 : Int32 → Int32 → Int32 → Int32 → PoS → Prop} {post : Int32 → PoS → Prop} (C : CxS p s m args meth c V cX0_fleersTurn 7 RX0 (some .boolean)) (hk62 : ∀ (v1 : Int32) (v2 : Int32) (v3 : Int32) (v4 : Int32) (u : PoS), k62 v1 v2 v3 v4 u → AtS p l e (Rm 1) s m args below meth c V 7 0 0 (QI V below args s post) 62 [(0, .ref (eA V 32)), (1, .int v1), (2, .int v2), (3, .int v3), (4, .int v4)] [] u) : ∀ (n : Nat) (v1 : Int32) (v2 : Int32) (v3 : Int32) (v4 : Int32) (v5 : Int32) (u : PoS), wl_X0_fleersTurn_21 k62 post n v1 v2 v3 v4 v5 u → AtS p l e (Rm 1) s m args below meth c V 7 0 0 (QI V below args s post) 21 [(0, .ref (eA V 32)), (1, .int v1), (2, .int v2), (3, .int v3), (4, .int v4), (5, .int v5)] [] u := by
  intro n
  induction n with
  | zero => intro v1 v2 v3 v4 v5 u h; exact h.elim
  | succ n ih =>
    intro v1 v2 v3 v4 v5 u h
    rw [wl_X0_fleersTurn_21] at h
    refine a_iload C 5 dX0_fleersTurn_21 rfl ?_
    refine a_iconst C 4 dX0_fleersTurn_23 (by decide) ?_
    refine a_icmp_ge C 62 dX0_fleersTurn_24 (by decide) (fun c8 => ?_) (fun c8 => ?_)
    · have h := h.1 c8
      refine a_sub [0, 1, 2, 3, 4] rfl ?_
      exact hk62 _ _ _ _ _ h
    · have h := h.2 c8
      refine a_iload_n C 3 dX0_fleersTurn_27 rfl rfl ?_
      refine a_iload C 5 dX0_fleersTurn_28 rfl ?_
      refine a_callSi C dX0_fleersTurn_30 (m_X1_toSide l V h) bw_853 bw_718 bw_129 bw_719 np_X1_toSide rfl rfl (by decide) (Nat.le_of_ble_eq_true rfl) ⟨Nat.zero_le _, Nat.zero_le _⟩ (fun r2 u3 h => ?_)
      refine a_istore C [(6, .int r2), (0, .ref (eA V 32)), (1, .int v1), (2, .int v2), (3, .int v3), (4, .int v4), (5, .int v5)] dX0_fleersTurn_33 (by decide) rfl ?_
      refine a_iload_n C 2 dX0_fleersTurn_35 rfl rfl ?_
      refine a_iload C 0 dX0_fleersTurn_36 rfl ?_
      refine a_callSi C dX0_fleersTurn_38 (m_X1_has l V h) bw_847 bw_642 bw_129 bw_643 np_X1_has rfl rfl (by decide) (Nat.le_of_ble_eq_true rfl) ⟨Nat.zero_le _, Nat.zero_le _⟩ (fun r4 u5 h => ?_)
      refine a_if_eq C 56 dX0_fleersTurn_41 (by decide) (fun c7 => ?_) (fun c7 => ?_)
      · have h := h.1 c7
        refine a_sub [1, 2, 3, 4, 5, 6] rfl ?_
        refine tj_X0_fleersTurn_56 C ih _ _ _ _ _ _ h
      · have h := h.2 c7
        refine a_iload C 5 dX0_fleersTurn_44 rfl ?_
        refine a_aload_n C 1 dX0_fleersTurn_46 rfl rfl ?_
        refine a_getr C 3 (r := 34) dX0_fleersTurn_47 (by decide) rfl rfl rfl ib_0 (by decide) bw_151 ?_
        refine a_iload C 0 dX0_fleersTurn_50 rfl ?_
        refine b_iald C (Int32.toNatClampNeg r2) dX0_fleersTurn_52 (by decide) rfl h.1 rfl ?_
        have h := h.2
        refine a_iand C dX0_fleersTurn_53 ?_
        refine a_topi (fun x6 ex6 => ?_)
        have h := h x6 ex6
        refine a_istore C [(4, .int x6), (6, .int r2), (0, .ref (eA V 32)), (1, .int v1), (2, .int v2), (3, .int v3), (5, .int v5)] dX0_fleersTurn_54 (by decide) rfl ?_
        refine a_sub [2, 3, 4, 5, 0, 6] rfl ?_
        refine tj_X0_fleersTurn_56 C ih _ _ _ _ _ _ h
set_option maxHeartbeats 4000000 in
set_option maxRecDepth 100000 in
theorem tj_X0_fleersTurn_99 {p : Program} {l : Launch} {e : Env} {s : State} {m : MethodId} {args : Array Value} {below : List Frame} {meth : Method} {c : Code} {V : VEn} {k4 : Int32 → Int32 → Int32 → PoS → Prop} {post : Int32 → PoS → Prop} (C : CxS p s m args meth c V cX0_fleersTurn 7 RX0 (some .boolean)) (hk4 : ∀ (v1 : Int32) (v2 : Int32) (v3 : Int32) (u : PoS), k4 v1 v2 v3 u → AtS p l e (Rm 1) s m args below meth c V 7 0 0 (QI V below args s post) 4 [(0, .ref (eA V 32)), (1, .int v1), (2, .int v2), (3, .int v3)] [] u) (v1 : Int32) (v2 : Int32) (v3 : Int32) (u : PoS) (h : wj_X0_fleersTurn_99 k4 post v1 v2 v3 u) : AtS p l e (Rm 1) s m args below meth c V 7 0 0 (QI V below args s post) 99 [(0, .ref (eA V 32)), (1, .int v1), (2, .int v2), (3, .int v3)] [] u := by
  rw [wj_X0_fleersTurn_99] at h
  refine a_iinc C (v3 + 1) 3 [(3, .int (v3 + 1)), (0, .ref (eA V 32)), (1, .int v1), (2, .int v2)] dX0_fleersTurn_99 rfl (congrArg (fun z => v3 + z) (show Int32.ofInt 1 = 1 by decide)) (by decide) rfl ?_
  refine a_goto C 4 dX0_fleersTurn_102 (by decide) ?_
  refine a_sub [1, 2, 3, 0] rfl ?_
  exact hk4 _ _ _ _ h
set_option maxHeartbeats 4000000 in
set_option maxRecDepth 100000 in
theorem tl_X0_fleersTurn_4 {p : Program} {l : Launch} {e : Env} {s : State} {m : MethodId} {args : Array Value} {below : List Frame} {meth : Method} {c : Code} {V : VEn} {post : Int32 → PoS → Prop} (C : CxS p s m args meth c V cX0_fleersTurn 7 RX0 (some .boolean)) : ∀ (n : Nat) (v1 : Int32) (v2 : Int32) (v3 : Int32) (u : PoS), wl_X0_fleersTurn_4 post n v1 v2 v3 u → AtS p l e (Rm 1) s m args below meth c V 7 0 0 (QI V below args s post) 4 [(0, .ref (eA V 32)), (1, .int v1), (2, .int v2), (3, .int v3)] [] u := by
  intro n
  induction n with
  | zero => intro v1 v2 v3 u h; exact h.elim
  | succ n ih =>
    intro v1 v2 v3 u h
    rw [wl_X0_fleersTurn_4] at h
    refine a_iload_n C 3 dX0_fleersTurn_4 rfl rfl ?_
    refine a_bipush C 30 dX0_fleersTurn_5 (by decide) ?_
    refine a_icmp_ge C 105 dX0_fleersTurn_7 (by decide) (fun c16 => ?_) (fun c16 => ?_)
    · have h := h.1 c16
      refine a_iload_n C 2 dX0_fleersTurn_105 rfl rfl ?_
      exact a_zret C (isB_n h.1) dX0_fleersTurn_106 h.2
    · have h := h.2 c16
      refine a_aload_n C 0 dX0_fleersTurn_10 rfl rfl ?_
      refine a_getr C 3 (r := 34) dX0_fleersTurn_11 (by decide) rfl rfl rfl ib_0 (by decide) bw_151 ?_
      refine a_iload_n C 3 dX0_fleersTurn_14 rfl rfl ?_
      refine b_iald C (Int32.toNatClampNeg v3) dX0_fleersTurn_15 (by decide) rfl h.1 rfl ?_
      have h := h.2
      refine a_topi (fun x1 ex1 => ?_)
      have h := h x1 ex1
      refine a_istore C [(4, .int x1), (0, .ref (eA V 32)), (1, .int v1), (2, .int v2), (3, .int v3)] dX0_fleersTurn_16 (by decide) rfl ?_
      refine a_iconst C 0 dX0_fleersTurn_18 (by decide) ?_
      refine a_istore C [(5, .int 0), (4, .int x1), (0, .ref (eA V 32)), (1, .int v1), (2, .int v2), (3, .int v3)] dX0_fleersTurn_19 (by decide) rfl ?_
      refine a_sub [2, 3, 4, 5, 1, 0] rfl ?_
      obtain ⟨n21, h⟩ := h
      refine tl_X0_fleersTurn_21 C (fun v19 v29 v39 v49 u9 h => ?_) n21 _ _ _ _ _ _ h
      refine a_iload C 4 dX0_fleersTurn_62 rfl ?_
      refine a_iconst C 1 dX0_fleersTurn_64 (by decide) ?_
      refine a_iload_n C 3 dX0_fleersTurn_65 rfl rfl ?_
      refine a_ishl C dX0_fleersTurn_66 ?_
      refine a_ior C dX0_fleersTurn_67 ?_
      refine a_topi (fun x10 ex10 => ?_)
      have h := h x10 ex10
      refine a_istore C [(4, .int x10), (0, .ref (eA V 32)), (1, .int v19), (2, .int v29), (3, .int v39)] dX0_fleersTurn_68 (by decide) rfl ?_
      refine a_iload_n C 2 dX0_fleersTurn_70 rfl rfl ?_
      refine a_iload_n C 4 dX0_fleersTurn_71 rfl rfl ?_
      refine a_callSi C dX0_fleersTurn_72 (m_X1_has l V h) bw_847 bw_642 bw_129 bw_643 np_X1_has rfl rfl (by decide) (Nat.le_of_ble_eq_true rfl) ⟨Nat.zero_le _, Nat.zero_le _⟩ (fun r11 u12 h => ?_)
      refine a_if_eq C 99 dX0_fleersTurn_75 (by decide) (fun c15 => ?_) (fun c15 => ?_)
      · have h := h.1 c15
        refine a_sub [1, 2, 3, 4] rfl ?_
        refine tj_X0_fleersTurn_99 C ih _ _ _ _ h
      · have h := h.2 c15
        refine a_iload C 0 dX0_fleersTurn_78 rfl ?_
        refine a_aload_n C 1 dX0_fleersTurn_80 rfl rfl ?_
        refine a_getr C 2 (r := 33) dX0_fleersTurn_81 (by decide) rfl rfl rfl ib_0 (by decide) bw_150 ?_
        refine a_iload_n C 4 dX0_fleersTurn_84 rfl rfl ?_
        refine b_iald C (Int32.toNatClampNeg v39) dX0_fleersTurn_85 (by decide) rfl h.1 rfl ?_
        have h := h.2
        refine a_icmp_eq C 99 dX0_fleersTurn_86 (by decide) (fun c14 => ?_) (fun c14 => ?_)
        · have h := h.1 c14
          refine a_sub [1, 2, 3, 4] rfl ?_
          refine tj_X0_fleersTurn_99 C ih _ _ _ _ h
        · have h := h.2 c14
          refine a_aload_n C 1 dX0_fleersTurn_89 rfl rfl ?_
          refine a_getr C 2 (r := 33) dX0_fleersTurn_90 (by decide) rfl rfl rfl ib_0 (by decide) bw_150 ?_
          refine a_iload_n C 4 dX0_fleersTurn_93 rfl rfl ?_
          refine a_iload C 0 dX0_fleersTurn_94 rfl ?_
          refine b_iast C (Int32.toNatClampNeg v39) dX0_fleersTurn_96 (by decide) rfl h.1 rfl ?_
          have h := h.2
          refine a_topu (fun z13 ez13 => ?_)
          have h := h z13 ez13
          refine a_iconst C 1 dX0_fleersTurn_97 (by decide) ?_
          refine a_istore_n C [(2, .int 1), (4, .int x10), (0, .ref (eA V 32)), (1, .int v19), (3, .int v39)] dX0_fleersTurn_98 rfl (by decide) rfl ?_
          refine a_sub [2, 3, 0, 4] rfl ?_
          refine tj_X0_fleersTurn_99 C ih _ _ _ _ h
theorem np_X0_fleersTurn : yX0_fleersTurn.cls ≠ "java/lang/invoke/MethodHandle" ∧ yX0_fleersTurn.cls ≠ "java/lang/invoke/VarHandle" ∧ (parseMethodDescriptor yX0_fleersTurn.desc).map (fun d => d.parameters.length) = some 1 := by decide +kernel
set_option maxHeartbeats 4000000 in
set_option maxRecDepth 100000 in
theorem m_X0_fleersTurn (l : Launch) (V : VEn) {a0 : Int32} {u : PoS} {post : Int32 → PoS → Prop} (h : wp_X0_fleersTurn a0 u post) : KI l V yX0_fleersTurn cX0_fleersTurn 7 .boolean 1 [.ref (eA V 32), .int a0] u post := by
  refine KI_of (by decide) (Nat.le_of_ble_eq_true rfl) (lv := [(0, .ref (eA V 32)), (1, .int a0)]) rfl ?_
  intro p e s m args below meth c C
  rw [wp_X0_fleersTurn] at h
  refine a_iconst C 0 dX0_fleersTurn_0 (by decide) ?_
  refine a_istore_n C [(2, .int 0), (0, .ref (eA V 32)), (1, .int a0)] dX0_fleersTurn_1 rfl (by decide) rfl ?_
  refine a_iconst C 0 dX0_fleersTurn_2 (by decide) ?_
  refine a_istore_n C [(3, .int 0), (2, .int 0), (0, .ref (eA V 32)), (1, .int a0)] dX0_fleersTurn_3 rfl (by decide) rfl ?_
  refine a_sub [2, 3, 1, 0] rfl ?_
  obtain ⟨n4, h⟩ := h
  refine tl_X0_fleersTurn_4 C n4 _ _ _ _ h

/-! RainOnTheOne$Ground.beside(I)I -/
def wp_X1_beside (a0 : Int32) (u : PoS) (post : Int32 → PoS → Prop) : Prop := ∀ x1 : Int32, x1 = ((ushr a0 6) ||| ((a0 <<< (6 &&& 31)) &&& 1073741823)) → post ((x1 ||| (ushr (a0 &&& (-17043522)) 1)) ||| ((a0 &&& (-545392673)) <<< (1 &&& 31))) u
theorem np_X1_beside : yX1_beside.cls ≠ "java/lang/invoke/MethodHandle" ∧ yX1_beside.cls ≠ "java/lang/invoke/VarHandle" ∧ (parseMethodDescriptor yX1_beside.desc).map (fun d => d.parameters.length) = some 1 := by decide +kernel
set_option maxHeartbeats 4000000 in
set_option maxRecDepth 100000 in
theorem m_X1_beside (l : Launch) (V : VEn) {a0 : Int32} {u : PoS} {post : Int32 → PoS → Prop} (h : wp_X1_beside a0 u post) : KI l V yX1_beside cX1_beside 2 .int 0 [.int a0] u post := by
  refine KI_of (by decide) (Nat.le_of_ble_eq_true rfl) (lv := [(0, .int a0)]) rfl ?_
  intro p e s m args below meth c C
  rw [wp_X1_beside] at h
  refine a_iload_n C 0 dX1_beside_0 rfl rfl ?_
  refine a_bipush C 6 dX1_beside_1 (by decide) ?_
  refine b_iushr C dX1_beside_3 ?_
  refine a_iload_n C 0 dX1_beside_4 rfl rfl ?_
  refine a_bipush C 6 dX1_beside_5 (by decide) ?_
  refine a_ishl C dX1_beside_7 ?_
  refine a_ldc C dX1_beside_8 bw_638 ?_
  refine a_iand C dX1_beside_10 ?_
  refine a_ior C dX1_beside_11 ?_
  refine a_topi (fun x1 ex1 => ?_)
  have h := h x1 ex1
  refine a_istore_n C [(1, .int x1), (0, .int a0)] dX1_beside_12 rfl (by decide) rfl ?_
  refine a_iload_n C 0 dX1_beside_13 rfl rfl ?_
  refine a_iload_n C 1 dX1_beside_14 rfl rfl ?_
  refine a_ldc C dX1_beside_15 bw_639 ?_
  refine a_iand C dX1_beside_17 ?_
  refine a_iconst C 1 dX1_beside_18 (by decide) ?_
  refine b_iushr C dX1_beside_19 ?_
  refine a_ior C dX1_beside_20 ?_
  refine a_iload_n C 1 dX1_beside_21 rfl rfl ?_
  refine a_ldc C dX1_beside_22 bw_640 ?_
  refine a_iand C dX1_beside_24 ?_
  refine a_iconst C 1 dX1_beside_25 (by decide) ?_
  refine a_ishl C dX1_beside_26 ?_
  refine a_ior C dX1_beside_27 ?_
  exact a_iret C dX1_beside_28 h

/-! RainOnTheOne$Chase.showersTurn(II)V -/
def wl_X0_showersTurn_19 (k43 : Int32 → Int32 → Int32 → Int32 → PoS → Prop) (post : PoS → Prop) : Nat → Int32 → Int32 → Int32 → Int32 → Int32 → PoS → Prop
  | 0, _, _, _, _, _, _ => False
  | n + 1, v1, v2, v3, v4, v5, u => ((v1 ≤ v5 → k43 v1 v2 v3 v4 u) ∧ (¬ v1 ≤ v5 → wp_X1_beside v4 u (fun (r2 : Int32) (u3 : PoS) => ∀ x4 : Int32, x4 = (v4 ||| (r2 &&& v2)) → wl_X0_showersTurn_19 k43 post n v1 v2 v3 x4 (v5 + 1) u3)))
def wl_X0_showersTurn_2 (post : PoS → Prop) : Nat → Int32 → Int32 → Int32 → PoS → Prop
  | 0, _, _, _, _ => False
  | n + 1, v1, v2, v3, u => ((30 ≤ v3 → post u) ∧ (¬ 30 ≤ v3 → vp_in v3 30 ∧ ∀ x1 : Int32, x1 = (gI u 33 (Int32.toNatClampNeg v3)) → (∃ n19, wl_X0_showersTurn_19 (fun (v16 : Int32) (v26 : Int32) (v36 : Int32) (v46 : Int32) (u6 : PoS) => vp_in v36 30 ∧ ∀ z7 : PoS, z7 = pI u6 34 (Int32.toNatClampNeg v36) v46 → wl_X0_showersTurn_2 post n v16 v26 (v36 + 1) z7) post n19 v1 v2 v3 x1 0 u)))
def wp_X0_showersTurn (a0 : Int32) (a1 : Int32) (u : PoS) (post : PoS → Prop) : Prop := (∃ n2, wl_X0_showersTurn_2 post n2 a0 a1 0 u)
set_option maxHeartbeats 4000000 in
set_option maxRecDepth 100000 in
theorem tl_X0_showersTurn_19 {p : Program} {l : Launch} {e : Env} {s : State} {m : MethodId} {args : Array Value} {below : List Frame} {meth : Method} {c : Code} {V : VEn} {k43 : Int32 → Int32 → Int32 → Int32 → PoS → Prop} {post : PoS → Prop} (C : CxS p s m args meth c V cX0_showersTurn 6 RX0 none) (hk43 : ∀ (v1 : Int32) (v2 : Int32) (v3 : Int32) (v4 : Int32) (u : PoS), k43 v1 v2 v3 v4 u → AtS p l e (Rm 1) s m args below meth c V 6 0 0 (QV V below args s post) 43 [(0, .ref (eA V 32)), (1, .int v1), (2, .int v2), (3, .int v3), (4, .int v4)] [] u) : ∀ (n : Nat) (v1 : Int32) (v2 : Int32) (v3 : Int32) (v4 : Int32) (v5 : Int32) (u : PoS), wl_X0_showersTurn_19 k43 post n v1 v2 v3 v4 v5 u → AtS p l e (Rm 1) s m args below meth c V 6 0 0 (QV V below args s post) 19 [(0, .ref (eA V 32)), (1, .int v1), (2, .int v2), (3, .int v3), (4, .int v4), (5, .int v5)] [] u := by
  intro n
  induction n with
  | zero => intro v1 v2 v3 v4 v5 u h; exact h.elim
  | succ n ih =>
    intro v1 v2 v3 v4 v5 u h
    rw [wl_X0_showersTurn_19] at h
    refine a_iload C 5 dX0_showersTurn_19 rfl ?_
    refine a_iload_n C 1 dX0_showersTurn_21 rfl rfl ?_
    refine a_icmp_ge C 43 dX0_showersTurn_22 (by decide) (fun c5 => ?_) (fun c5 => ?_)
    · have h := h.1 c5
      refine a_sub [0, 1, 2, 3, 4] rfl ?_
      exact hk43 _ _ _ _ _ h
    · have h := h.2 c5
      refine a_iload C 4 dX0_showersTurn_25 rfl ?_
      refine a_iload C 4 dX0_showersTurn_27 rfl ?_
      refine a_callSi C dX0_showersTurn_29 (m_X1_beside l V h) bw_838 bw_636 bw_129 bw_637 np_X1_beside rfl rfl (by decide) (Nat.le_of_ble_eq_true rfl) ⟨Nat.zero_le _, Nat.zero_le _⟩ (fun r2 u3 h => ?_)
      refine a_iload_n C 2 dX0_showersTurn_32 rfl rfl ?_
      refine a_iand C dX0_showersTurn_33 ?_
      refine a_ior C dX0_showersTurn_34 ?_
      refine a_topi (fun x4 ex4 => ?_)
      have h := h x4 ex4
      refine a_istore C [(4, .int x4), (0, .ref (eA V 32)), (1, .int v1), (2, .int v2), (3, .int v3), (5, .int v5)] dX0_showersTurn_35 (by decide) rfl ?_
      refine a_iinc C (v5 + 1) 5 [(5, .int (v5 + 1)), (4, .int x4), (0, .ref (eA V 32)), (1, .int v1), (2, .int v2), (3, .int v3)] dX0_showersTurn_37 rfl (congrArg (fun z => v5 + z) (show Int32.ofInt 1 = 1 by decide)) (by decide) rfl ?_
      refine a_goto C 19 dX0_showersTurn_40 (by decide) ?_
      refine a_sub [2, 3, 4, 5, 1, 0] rfl ?_
      exact ih _ _ _ _ _ _ h
set_option maxHeartbeats 4000000 in
set_option maxRecDepth 100000 in
theorem tl_X0_showersTurn_2 {p : Program} {l : Launch} {e : Env} {s : State} {m : MethodId} {args : Array Value} {below : List Frame} {meth : Method} {c : Code} {V : VEn} {post : PoS → Prop} (C : CxS p s m args meth c V cX0_showersTurn 6 RX0 none) : ∀ (n : Nat) (v1 : Int32) (v2 : Int32) (v3 : Int32) (u : PoS), wl_X0_showersTurn_2 post n v1 v2 v3 u → AtS p l e (Rm 1) s m args below meth c V 6 0 0 (QV V below args s post) 2 [(0, .ref (eA V 32)), (1, .int v1), (2, .int v2), (3, .int v3)] [] u := by
  intro n
  induction n with
  | zero => intro v1 v2 v3 u h; exact h.elim
  | succ n ih =>
    intro v1 v2 v3 u h
    rw [wl_X0_showersTurn_2] at h
    refine a_iload_n C 3 dX0_showersTurn_2 rfl rfl ?_
    refine a_bipush C 30 dX0_showersTurn_3 (by decide) ?_
    refine a_icmp_ge C 57 dX0_showersTurn_5 (by decide) (fun c8 => ?_) (fun c8 => ?_)
    · have h := h.1 c8
      exact a_vret C dX0_showersTurn_57 h
    · have h := h.2 c8
      refine a_aload_n C 0 dX0_showersTurn_8 rfl rfl ?_
      refine a_getr C 2 (r := 33) dX0_showersTurn_9 (by decide) rfl rfl rfl ib_0 (by decide) bw_150 ?_
      refine a_iload_n C 3 dX0_showersTurn_12 rfl rfl ?_
      refine b_iald C (Int32.toNatClampNeg v3) dX0_showersTurn_13 (by decide) rfl h.1 rfl ?_
      have h := h.2
      refine a_topi (fun x1 ex1 => ?_)
      have h := h x1 ex1
      refine a_istore C [(4, .int x1), (0, .ref (eA V 32)), (1, .int v1), (2, .int v2), (3, .int v3)] dX0_showersTurn_14 (by decide) rfl ?_
      refine a_iconst C 0 dX0_showersTurn_16 (by decide) ?_
      refine a_istore C [(5, .int 0), (4, .int x1), (0, .ref (eA V 32)), (1, .int v1), (2, .int v2), (3, .int v3)] dX0_showersTurn_17 (by decide) rfl ?_
      refine a_sub [2, 3, 4, 5, 1, 0] rfl ?_
      obtain ⟨n19, h⟩ := h
      refine tl_X0_showersTurn_19 C (fun v16 v26 v36 v46 u6 h => ?_) n19 _ _ _ _ _ _ h
      refine a_aload_n C 0 dX0_showersTurn_43 rfl rfl ?_
      refine a_getr C 3 (r := 34) dX0_showersTurn_44 (by decide) rfl rfl rfl ib_0 (by decide) bw_151 ?_
      refine a_iload_n C 3 dX0_showersTurn_47 rfl rfl ?_
      refine a_iload C 4 dX0_showersTurn_48 rfl ?_
      refine b_iast C (Int32.toNatClampNeg v36) dX0_showersTurn_50 (by decide) rfl h.1 rfl ?_
      have h := h.2
      refine a_topu (fun z7 ez7 => ?_)
      have h := h z7 ez7
      refine a_iinc C (v36 + 1) 3 [(3, .int (v36 + 1)), (0, .ref (eA V 32)), (1, .int v16), (2, .int v26), (4, .int v46)] dX0_showersTurn_51 rfl (congrArg (fun z => v36 + z) (show Int32.ofInt 1 = 1 by decide)) (by decide) rfl ?_
      refine a_goto C 2 dX0_showersTurn_54 (by decide) ?_
      refine a_sub [1, 2, 3, 0] rfl ?_
      exact ih _ _ _ _ h
theorem np_X0_showersTurn : yX0_showersTurn.cls ≠ "java/lang/invoke/MethodHandle" ∧ yX0_showersTurn.cls ≠ "java/lang/invoke/VarHandle" ∧ (parseMethodDescriptor yX0_showersTurn.desc).map (fun d => d.parameters.length) = some 2 := by decide +kernel
set_option maxHeartbeats 4000000 in
set_option maxRecDepth 100000 in
theorem m_X0_showersTurn (l : Launch) (V : VEn) {a0 : Int32} {a1 : Int32} {u : PoS} {post : PoS → Prop} (h : wp_X0_showersTurn a0 a1 u post) : KV l V yX0_showersTurn cX0_showersTurn 6 1 [.ref (eA V 32), .int a0, .int a1] u post := by
  refine KV_of (by decide) (Nat.le_of_ble_eq_true rfl) (lv := [(0, .ref (eA V 32)), (1, .int a0), (2, .int a1)]) rfl ?_
  intro p e s m args below meth c C
  rw [wp_X0_showersTurn] at h
  refine a_iconst C 0 dX0_showersTurn_0 (by decide) ?_
  refine a_istore_n C [(3, .int 0), (0, .ref (eA V 32)), (1, .int a0), (2, .int a1)] dX0_showersTurn_1 rfl (by decide) rfl ?_
  refine a_sub [1, 2, 3, 0] rfl ?_
  obtain ⟨n2, h⟩ := h
  refine tl_X0_showersTurn_2 C n2 _ _ _ _ h

/-! java/lang/Integer.bitCount(I)I -/
def wp_J6_bitCount_0f7a4 (a0 : Int32) (u : PoS) (post : Int32 → PoS → Prop) : Prop := ∀ x1 : Int32, x1 = (a0 - ((ushr a0 1) &&& 1431655765)) → ∀ x2 : Int32, x2 = ((x1 &&& 858993459) + ((ushr x1 2) &&& 858993459)) → ∀ x3 : Int32, x3 = ((x2 + (ushr x2 4)) &&& 252645135) → ∀ x4 : Int32, x4 = (x3 + (ushr x3 8)) → ∀ x5 : Int32, x5 = (x4 + (ushr x4 16)) → post (x5 &&& 63) u
theorem np_J6_bitCount_0f7a4 : yJ6_bitCount_0f7a4.cls ≠ "java/lang/invoke/MethodHandle" ∧ yJ6_bitCount_0f7a4.cls ≠ "java/lang/invoke/VarHandle" ∧ (parseMethodDescriptor yJ6_bitCount_0f7a4.desc).map (fun d => d.parameters.length) = some 1 := by decide +kernel
set_option maxHeartbeats 4000000 in
set_option maxRecDepth 100000 in
theorem m_J6_bitCount_0f7a4 (l : Launch) (V : VEn) {a0 : Int32} {u : PoS} {post : Int32 → PoS → Prop} (h : wp_J6_bitCount_0f7a4 a0 u post) : KI l V yJ6_bitCount_0f7a4 cJ6_bitCount_0f7a4 1 .int 0 [.int a0] u post := by
  refine KI_of (by decide) (Nat.le_of_ble_eq_true rfl) (lv := [(0, .int a0)]) rfl ?_
  intro p e s m args below meth c C
  rw [wp_J6_bitCount_0f7a4] at h
  refine a_iload_n C 0 dJ6_bitCount_0f7a4_0 rfl rfl ?_
  refine a_iload_n C 0 dJ6_bitCount_0f7a4_1 rfl rfl ?_
  refine a_iconst C 1 dJ6_bitCount_0f7a4_2 (by decide) ?_
  refine b_iushr C dJ6_bitCount_0f7a4_3 ?_
  refine a_ldcw C dJ6_bitCount_0f7a4_4 bw_741 ?_
  refine a_iand C dJ6_bitCount_0f7a4_7 ?_
  refine a_isub C dJ6_bitCount_0f7a4_8 ?_
  refine a_topi (fun x1 ex1 => ?_)
  have h := h x1 ex1
  refine a_istore_n C [(0, .int x1)] dJ6_bitCount_0f7a4_9 rfl (by decide) rfl ?_
  refine a_iload_n C 0 dJ6_bitCount_0f7a4_10 rfl rfl ?_
  refine a_ldcw C dJ6_bitCount_0f7a4_11 bw_742 ?_
  refine a_iand C dJ6_bitCount_0f7a4_14 ?_
  refine a_iload_n C 0 dJ6_bitCount_0f7a4_15 rfl rfl ?_
  refine a_iconst C 2 dJ6_bitCount_0f7a4_16 (by decide) ?_
  refine b_iushr C dJ6_bitCount_0f7a4_17 ?_
  refine a_ldcw C dJ6_bitCount_0f7a4_18 bw_742 ?_
  refine a_iand C dJ6_bitCount_0f7a4_21 ?_
  refine a_iadd C dJ6_bitCount_0f7a4_22 ?_
  refine a_topi (fun x2 ex2 => ?_)
  have h := h x2 ex2
  refine a_istore_n C [(0, .int x2)] dJ6_bitCount_0f7a4_23 rfl (by decide) rfl ?_
  refine a_iload_n C 0 dJ6_bitCount_0f7a4_24 rfl rfl ?_
  refine a_iload_n C 0 dJ6_bitCount_0f7a4_25 rfl rfl ?_
  refine a_iconst C 4 dJ6_bitCount_0f7a4_26 (by decide) ?_
  refine b_iushr C dJ6_bitCount_0f7a4_27 ?_
  refine a_iadd C dJ6_bitCount_0f7a4_28 ?_
  refine a_ldcw C dJ6_bitCount_0f7a4_29 bw_743 ?_
  refine a_iand C dJ6_bitCount_0f7a4_32 ?_
  refine a_topi (fun x3 ex3 => ?_)
  have h := h x3 ex3
  refine a_istore_n C [(0, .int x3)] dJ6_bitCount_0f7a4_33 rfl (by decide) rfl ?_
  refine a_iload_n C 0 dJ6_bitCount_0f7a4_34 rfl rfl ?_
  refine a_iload_n C 0 dJ6_bitCount_0f7a4_35 rfl rfl ?_
  refine a_bipush C 8 dJ6_bitCount_0f7a4_36 (by decide) ?_
  refine b_iushr C dJ6_bitCount_0f7a4_38 ?_
  refine a_iadd C dJ6_bitCount_0f7a4_39 ?_
  refine a_topi (fun x4 ex4 => ?_)
  have h := h x4 ex4
  refine a_istore_n C [(0, .int x4)] dJ6_bitCount_0f7a4_40 rfl (by decide) rfl ?_
  refine a_iload_n C 0 dJ6_bitCount_0f7a4_41 rfl rfl ?_
  refine a_iload_n C 0 dJ6_bitCount_0f7a4_42 rfl rfl ?_
  refine a_bipush C 16 dJ6_bitCount_0f7a4_43 (by decide) ?_
  refine b_iushr C dJ6_bitCount_0f7a4_45 ?_
  refine a_iadd C dJ6_bitCount_0f7a4_46 ?_
  refine a_topi (fun x5 ex5 => ?_)
  have h := h x5 ex5
  refine a_istore_n C [(0, .int x5)] dJ6_bitCount_0f7a4_47 rfl (by decide) rfl ?_
  refine a_iload_n C 0 dJ6_bitCount_0f7a4_48 rfl rfl ?_
  refine a_bipush C 63 dJ6_bitCount_0f7a4_49 (by decide) ?_
  refine a_iand C dJ6_bitCount_0f7a4_51 ?_
  exact a_iret C dJ6_bitCount_0f7a4_52 h

/-! RainOnTheOne$Ground.lowest(I)I -/
def wp_X1_lowest (a0 : Int32) (u : PoS) (post : Int32 → PoS → Prop) : Prop := ((¬ a0 = 0 → wp_J6_bitCount_0f7a4 ((a0 &&& (-a0)) - 1) u (fun (r1 : Int32) (u2 : PoS) => post r1 u2)) ∧ (a0 = 0 → post (-1) u))
theorem np_X1_lowest : yX1_lowest.cls ≠ "java/lang/invoke/MethodHandle" ∧ yX1_lowest.cls ≠ "java/lang/invoke/VarHandle" ∧ (parseMethodDescriptor yX1_lowest.desc).map (fun d => d.parameters.length) = some 1 := by decide +kernel
set_option maxHeartbeats 4000000 in
set_option maxRecDepth 100000 in
theorem m_X1_lowest (l : Launch) (V : VEn) {a0 : Int32} {u : PoS} {post : Int32 → PoS → Prop} (h : wp_X1_lowest a0 u post) : KI l V yX1_lowest cX1_lowest 1 .int 1 [.int a0] u post := by
  refine KI_of (by decide) (Nat.le_of_ble_eq_true rfl) (lv := [(0, .int a0)]) rfl ?_
  intro p e s m args below meth c C
  rw [wp_X1_lowest] at h
  refine a_iload_n C 0 dX1_lowest_0 rfl rfl ?_
  refine a_if_ne C 8 dX1_lowest_1 (by decide) (fun c3 => ?_) (fun c3 => ?_)
  · have h := h.1 c3
    refine a_iload_n C 0 dX1_lowest_8 rfl rfl ?_
    refine a_iload_n C 0 dX1_lowest_9 rfl rfl ?_
    refine a_ineg C dX1_lowest_10 ?_
    refine a_iand C dX1_lowest_11 ?_
    refine a_iconst C 1 dX1_lowest_12 (by decide) ?_
    refine a_isub C dX1_lowest_13 ?_
    refine a_callSi C dX1_lowest_14 (m_J6_bitCount_0f7a4 l V h) bw_738 bw_739 bw_131 bw_740 np_J6_bitCount_0f7a4 rfl rfl (by decide) (Nat.le_of_ble_eq_true rfl) ⟨Nat.zero_le _, Nat.zero_le _⟩ (fun r1 u2 h => ?_)
    exact a_iret C dX1_lowest_17 h
  · have h := h.2 c3
    refine a_iconst C (-1) dX1_lowest_4 (by decide) ?_
    refine a_goto C 17 dX1_lowest_5 (by decide) ?_
    exact a_iret C dX1_lowest_17 h

/-! RainOnTheOne$Chase.play(IIII)V -/
def wl_X0_play_19 (k43 : Int32 → Int32 → Int32 → Int32 → PoS → Prop) (post : PoS → Prop) : Nat → Int32 → Int32 → Int32 → Int32 → Int32 → PoS → Prop
  | 0, _, _, _, _, _, _ => False
  | n + 1, v1, v2, v3, v4, v5, u => ((30 ≤ v5 → k43 v1 v2 v3 v4 u) ∧ (¬ 30 ≤ v5 → vp_in v5 30 ∧ ∀ z3 : PoS, z3 = pI u 33 (Int32.toNatClampNeg v5) (1 <<< (v5 &&& 31)) → wl_X0_play_19 k43 post n v1 v2 v3 v4 (v5 + 1) z3))
def wl_X0_play_64 (k132 : Int32 → PoS → Prop) (k98 : Int32 → Int32 → PoS → Prop) (post : PoS → Prop) : Nat → Int32 → Int32 → Int32 → Int32 → Int32 → Int32 → PoS → Prop
  | 0, _, _, _, _, _, _, _ => False
  | n + 1, v2, v3, v4, v5, v6, v7, u => ((900 < v7 → k132 v5 u) ∧ (¬ 900 < v7 → ((v6 = 0 → k132 v5 u) ∧ (¬ v6 = 0 → wp_X0_showersTurn v3 v4 u (fun (u10 : PoS) => wp_X0_choicesWithout v5 v2 u10 (fun (r11 : Int32) (u12 : PoS) => ((¬ r11 = 0 → wp_X0_fleersTurn v4 u12 (fun (r13 : Int32) (u14 : PoS) => wl_X0_play_64 k132 k98 post n v2 v3 v4 r11 r13 (v7 + 1) u14)) ∧ (r11 = 0 → k98 v5 v7 u12))))))))
def wj_X0_play_132 (post : PoS → Prop) (v5 : Int32) (u : PoS) : Prop := ∀ z19 : PoS, z19 = pI u 32 0 (-1) → wp_X1_lowest v5 z19 (fun (r20 : Int32) (u21 : PoS) => ∀ z22 : PoS, z22 = pI u21 32 1 r20 → post z22)
def wp_X0_play (a0 : Int32) (a1 : Int32) (a2 : Int32) (a3 : Int32) (u : PoS) (post : PoS → Prop) : Prop := ∀ z1 : PoS, z1 = pI u 32 0 0 → ∀ z2 : PoS, z2 = pI z1 32 1 a0 → ((¬ a0 = a1 → (∃ n19, wl_X0_play_19 (fun (v15 : Int32) (v25 : Int32) (v35 : Int32) (v45 : Int32) (u5 : PoS) => wp_X1_beside (1 <<< (v15 &&& 31)) u5 (fun (r6 : Int32) (u7 : PoS) => ∀ x8 : Int32, x8 = (((1 <<< (v15 &&& 31)) ||| r6) &&& v45) → (∃ n64, wl_X0_play_64 (fun (v518 : Int32) (u18 : PoS) => wj_X0_play_132 post v518 u18) (fun (v523 : Int32) (v723 : Int32) (u23 : PoS) => ∀ z24 : PoS, z24 = pI u23 32 0 v723 → wp_X1_lowest v523 z24 (fun (r25 : Int32) (u26 : PoS) => ∀ z27 : PoS, z27 = pI u26 32 1 r25 → post z27)) post n64 v25 v35 v45 x8 1 1 u7))) post n19 a0 a1 a2 a3 0 z2)) ∧ (a0 = a1 → post z2))
set_option maxHeartbeats 4000000 in
set_option maxRecDepth 100000 in
theorem tl_X0_play_19 {p : Program} {l : Launch} {e : Env} {s : State} {m : MethodId} {args : Array Value} {below : List Frame} {meth : Method} {c : Code} {V : VEn} {k43 : Int32 → Int32 → Int32 → Int32 → PoS → Prop} {post : PoS → Prop} (C : CxS p s m args meth c V cX0_play 9 RX0 none) (hk43 : ∀ (v1 : Int32) (v2 : Int32) (v3 : Int32) (v4 : Int32) (u : PoS), k43 v1 v2 v3 v4 u → AtS p l e (Rm 2) s m args below meth c V 9 0 0 (QV V below args s post) 43 [(0, .ref (eA V 32)), (1, .int v1), (2, .int v2), (3, .int v3), (4, .int v4)] [] u) : ∀ (n : Nat) (v1 : Int32) (v2 : Int32) (v3 : Int32) (v4 : Int32) (v5 : Int32) (u : PoS), wl_X0_play_19 k43 post n v1 v2 v3 v4 v5 u → AtS p l e (Rm 2) s m args below meth c V 9 0 0 (QV V below args s post) 19 [(0, .ref (eA V 32)), (1, .int v1), (2, .int v2), (3, .int v3), (4, .int v4), (5, .int v5)] [] u := by
  intro n
  induction n with
  | zero => intro v1 v2 v3 v4 v5 u h; exact h.elim
  | succ n ih =>
    intro v1 v2 v3 v4 v5 u h
    rw [wl_X0_play_19] at h
    refine a_iload C 5 dX0_play_19 rfl ?_
    refine a_bipush C 30 dX0_play_21 (by decide) ?_
    refine a_icmp_ge C 43 dX0_play_23 (by decide) (fun c4 => ?_) (fun c4 => ?_)
    · have h := h.1 c4
      refine a_sub [0, 1, 2, 3, 4] rfl ?_
      exact hk43 _ _ _ _ _ h
    · have h := h.2 c4
      refine a_aload_n C 0 dX0_play_26 rfl rfl ?_
      refine a_getr C 2 (r := 33) dX0_play_27 (by decide) rfl rfl rfl ib_0 (by decide) bw_150 ?_
      refine a_iload C 5 dX0_play_30 rfl ?_
      refine a_iconst C 1 dX0_play_32 (by decide) ?_
      refine a_iload C 5 dX0_play_33 rfl ?_
      refine a_ishl C dX0_play_35 ?_
      refine b_iast C (Int32.toNatClampNeg v5) dX0_play_36 (by decide) rfl h.1 rfl ?_
      have h := h.2
      refine a_topu (fun z3 ez3 => ?_)
      have h := h z3 ez3
      refine a_iinc C (v5 + 1) 5 [(5, .int (v5 + 1)), (0, .ref (eA V 32)), (1, .int v1), (2, .int v2), (3, .int v3), (4, .int v4)] dX0_play_37 rfl (congrArg (fun z => v5 + z) (show Int32.ofInt 1 = 1 by decide)) (by decide) rfl ?_
      refine a_goto C 19 dX0_play_40 (by decide) ?_
      refine a_sub [1, 2, 3, 4, 5, 0] rfl ?_
      exact ih _ _ _ _ _ _ h
set_option maxHeartbeats 4000000 in
set_option maxRecDepth 100000 in
theorem tl_X0_play_64 {p : Program} {l : Launch} {e : Env} {s : State} {m : MethodId} {args : Array Value} {below : List Frame} {meth : Method} {c : Code} {V : VEn} {k132 : Int32 → PoS → Prop} {k98 : Int32 → Int32 → PoS → Prop} {post : PoS → Prop} (C : CxS p s m args meth c V cX0_play 9 RX0 none) (hk132 : ∀ (v5 : Int32) (u : PoS), k132 v5 u → AtS p l e (Rm 2) s m args below meth c V 9 0 0 (QV V below args s post) 132 [(0, .ref (eA V 32)), (5, .int v5)] [] u) (hk98 : ∀ (v5 : Int32) (v7 : Int32) (u : PoS), k98 v5 v7 u → AtS p l e (Rm 2) s m args below meth c V 9 0 0 (QV V below args s post) 98 [(0, .ref (eA V 32)), (5, .int v5), (7, .int v7)] [] u) : ∀ (n : Nat) (v2 : Int32) (v3 : Int32) (v4 : Int32) (v5 : Int32) (v6 : Int32) (v7 : Int32) (u : PoS), wl_X0_play_64 k132 k98 post n v2 v3 v4 v5 v6 v7 u → AtS p l e (Rm 2) s m args below meth c V 9 0 0 (QV V below args s post) 64 [(0, .ref (eA V 32)), (2, .int v2), (3, .int v3), (4, .int v4), (5, .int v5), (6, .int v6), (7, .int v7)] [] u := by
  intro n
  induction n with
  | zero => intro v2 v3 v4 v5 v6 v7 u h; exact h.elim
  | succ n ih =>
    intro v2 v3 v4 v5 v6 v7 u h
    rw [wl_X0_play_64] at h
    refine a_iload C 6 dX0_play_64 rfl ?_
    refine a_sipush C 900 dX0_play_66 (by decide) ?_
    refine a_icmp_gt C 132 dX0_play_69 (by decide) (fun c17 => ?_) (fun c17 => ?_)
    · have h := h.1 c17
      refine a_sub [0, 4] rfl ?_
      exact hk132 _ _ h
    · have h := h.2 c17
      refine a_iload C 5 dX0_play_72 rfl ?_
      refine a_if_eq C 132 dX0_play_74 (by decide) (fun c16 => ?_) (fun c16 => ?_)
      · have h := h.1 c16
        refine a_sub [0, 4] rfl ?_
        exact hk132 _ _ h
      · have h := h.2 c16
        refine a_aload_n C 0 dX0_play_77 rfl rfl ?_
        refine a_iload_n C 2 dX0_play_78 rfl rfl ?_
        refine a_iload C 3 dX0_play_79 rfl ?_
        refine a_callVv C dX0_play_81 (m_X0_showersTurn l V h) bw_839 bw_841 bw_27 bw_113 bw_842 (by decide) rfl rfl np_X0_showersTurn rfl rfl (by decide) (Nat.le_of_ble_eq_true rfl) ⟨Nat.zero_le _, Nat.zero_le _⟩ (fun u10 h => ?_)
        refine a_aload_n C 0 dX0_play_84 rfl rfl ?_
        refine a_iload C 4 dX0_play_85 rfl ?_
        refine a_iload_n C 1 dX0_play_87 rfl rfl ?_
        refine a_callVi C dX0_play_88 (m_X0_choicesWithout l V h) bw_843 bw_845 bw_28 bw_113 bw_846 (by decide) rfl rfl np_X0_choicesWithout rfl rfl (by decide) (Nat.le_of_ble_eq_true rfl) ⟨Nat.zero_le _, Nat.zero_le _⟩ (fun r11 u12 h => ?_)
        refine a_istore C [(8, .int r11), (0, .ref (eA V 32)), (2, .int v2), (3, .int v3), (4, .int v4), (5, .int v5), (6, .int v6), (7, .int v7)] dX0_play_91 (by decide) rfl ?_
        refine a_iload C 0 dX0_play_93 rfl ?_
        refine a_if_ne C 114 dX0_play_95 (by decide) (fun c15 => ?_) (fun c15 => ?_)
        · have h := h.1 c15
          refine a_iload C 0 dX0_play_114 rfl ?_
          refine a_istore C [(5, .int r11), (8, .int r11), (0, .ref (eA V 32)), (2, .int v2), (3, .int v3), (4, .int v4), (6, .int v6), (7, .int v7)] dX0_play_116 (by decide) rfl ?_
          refine a_aload_n C 2 dX0_play_118 rfl rfl ?_
          refine a_iload C 5 dX0_play_119 rfl ?_
          refine a_callVi C dX0_play_121 (m_X0_fleersTurn l V h) bw_849 bw_851 bw_29 bw_113 bw_852 (by decide) rfl rfl np_X0_fleersTurn rfl rfl (by decide) (Nat.le_of_ble_eq_true rfl) ⟨Nat.zero_le _, Nat.zero_le _⟩ (fun r13 u14 h => ?_)
          refine a_istore C [(6, .int r13), (5, .int r11), (8, .int r11), (0, .ref (eA V 32)), (2, .int v2), (3, .int v3), (4, .int v4), (7, .int v7)] dX0_play_124 (by decide) rfl ?_
          refine a_iinc C (v7 + 1) 7 [(7, .int (v7 + 1)), (6, .int r13), (5, .int r11), (8, .int r11), (0, .ref (eA V 32)), (2, .int v2), (3, .int v3), (4, .int v4)] dX0_play_126 rfl (congrArg (fun z => v7 + z) (show Int32.ofInt 1 = 1 by decide)) (by decide) rfl ?_
          refine a_goto C 64 dX0_play_129 (by decide) ?_
          refine a_sub [4, 5, 6, 7, 2, 1, 0] rfl ?_
          exact ih _ _ _ _ _ _ _ h
        · have h := h.2 c15
          refine a_sub [1, 5, 7] rfl ?_
          exact hk98 _ _ _ h
set_option maxHeartbeats 4000000 in
set_option maxRecDepth 100000 in
theorem tj_X0_play_132 {p : Program} {l : Launch} {e : Env} {s : State} {m : MethodId} {args : Array Value} {below : List Frame} {meth : Method} {c : Code} {V : VEn} {post : PoS → Prop} (C : CxS p s m args meth c V cX0_play 9 RX0 none) (v5 : Int32) (u : PoS) (h : wj_X0_play_132 post v5 u) : AtS p l e (Rm 2) s m args below meth c V 9 0 0 (QV V below args s post) 132 [(0, .ref (eA V 32)), (5, .int v5)] [] u := by
  rw [wj_X0_play_132] at h
  refine a_aload_n C 0 dX0_play_132 rfl rfl ?_
  refine a_iconst C (-1) dX0_play_133 (by decide) ?_
  refine a_puti C (ty := .int) 0 dX0_play_134 (by decide) rfl rfl rfl ib_0 (by decide) bw_146 tyX0 tyX0_ok nmX0 rfl (by decide +kernel) rfl rfl ?_
  refine a_topu (fun z19 ez19 => ?_)
  have h := h z19 ez19
  refine a_aload_n C 0 dX0_play_137 rfl rfl ?_
  refine a_iload C 1 dX0_play_138 rfl ?_
  refine a_callSi C dX0_play_140 (m_X1_lowest l V h) bw_848 bw_736 bw_129 bw_737 np_X1_lowest rfl rfl (by decide) (Nat.le_of_ble_eq_true rfl) ⟨Nat.zero_le _, Nat.zero_le _⟩ (fun r20 u21 h => ?_)
  refine a_puti C (ty := .int) 1 dX0_play_143 (by decide) rfl rfl rfl ib_0 (by decide) bw_148 tyX0 tyX0_ok nmX0 rfl (by decide +kernel) rfl rfl ?_
  refine a_topu (fun z22 ez22 => ?_)
  have h := h z22 ez22
  exact a_vret C dX0_play_146 h
theorem np_X0_play : yX0_play.cls ≠ "java/lang/invoke/MethodHandle" ∧ yX0_play.cls ≠ "java/lang/invoke/VarHandle" ∧ (parseMethodDescriptor yX0_play.desc).map (fun d => d.parameters.length) = some 4 := by decide +kernel
set_option maxHeartbeats 4000000 in
set_option maxRecDepth 100000 in
theorem m_X0_play (l : Launch) (V : VEn) {a0 : Int32} {a1 : Int32} {a2 : Int32} {a3 : Int32} {u : PoS} {post : PoS → Prop} (h : wp_X0_play a0 a1 a2 a3 u post) : KV l V yX0_play cX0_play 9 2 [.ref (eA V 32), .int a0, .int a1, .int a2, .int a3] u post := by
  refine KV_of (by decide) (Nat.le_of_ble_eq_true rfl) (lv := [(0, .ref (eA V 32)), (1, .int a0), (2, .int a1), (3, .int a2), (4, .int a3)]) rfl ?_
  intro p e s m args below meth c C
  rw [wp_X0_play] at h
  refine a_aload_n C 0 dX0_play_0 rfl rfl ?_
  refine a_iconst C 0 dX0_play_1 (by decide) ?_
  refine a_puti C (ty := .int) 0 dX0_play_2 (by decide) rfl rfl rfl ib_0 (by decide) bw_146 tyX0 tyX0_ok nmX0 rfl (by decide +kernel) rfl rfl ?_
  refine a_topu (fun z1 ez1 => ?_)
  have h := h z1 ez1
  refine a_aload_n C 0 dX0_play_5 rfl rfl ?_
  refine a_iload_n C 1 dX0_play_6 rfl rfl ?_
  refine a_puti C (ty := .int) 1 dX0_play_7 (by decide) rfl rfl rfl ib_0 (by decide) bw_148 tyX0 tyX0_ok nmX0 rfl (by decide +kernel) rfl rfl ?_
  refine a_topu (fun z2 ez2 => ?_)
  have h := h z2 ez2
  refine a_iload_n C 1 dX0_play_10 rfl rfl ?_
  refine a_iload_n C 2 dX0_play_11 rfl rfl ?_
  refine a_icmp_ne C 16 dX0_play_12 (by decide) (fun c28 => ?_) (fun c28 => ?_)
  · have h := h.1 c28
    refine a_iconst C 0 dX0_play_16 (by decide) ?_
    refine a_istore C [(5, .int 0), (0, .ref (eA V 32)), (1, .int a0), (2, .int a1), (3, .int a2), (4, .int a3)] dX0_play_17 (by decide) rfl ?_
    refine a_sub [1, 2, 3, 4, 5, 0] rfl ?_
    obtain ⟨n19, h⟩ := h
    refine tl_X0_play_19 C (fun v15 v25 v35 v45 u5 h => ?_) n19 _ _ _ _ _ _ h
    refine a_iconst C 1 dX0_play_43 (by decide) ?_
    refine a_iload_n C 1 dX0_play_44 rfl rfl ?_
    refine a_ishl C dX0_play_45 ?_
    refine a_iconst C 1 dX0_play_46 (by decide) ?_
    refine a_iload_n C 1 dX0_play_47 rfl rfl ?_
    refine a_ishl C dX0_play_48 ?_
    refine a_callSi C dX0_play_49 (m_X1_beside l V h) bw_838 bw_636 bw_129 bw_637 np_X1_beside rfl rfl (by decide) (Nat.le_of_ble_eq_true rfl) ⟨Nat.zero_le _, Nat.zero_le _⟩ (fun r6 u7 h => ?_)
    refine a_ior C dX0_play_52 ?_
    refine a_iload C 4 dX0_play_53 rfl ?_
    refine a_iand C dX0_play_55 ?_
    refine a_topi (fun x8 ex8 => ?_)
    have h := h x8 ex8
    refine a_istore C [(5, .int x8), (0, .ref (eA V 32)), (1, .int v15), (2, .int v25), (3, .int v35), (4, .int v45)] dX0_play_56 (by decide) rfl ?_
    refine a_iconst C 1 dX0_play_58 (by decide) ?_
    refine a_istore C [(6, .int 1), (5, .int x8), (0, .ref (eA V 32)), (1, .int v15), (2, .int v25), (3, .int v35), (4, .int v45)] dX0_play_59 (by decide) rfl ?_
    refine a_iconst C 1 dX0_play_61 (by decide) ?_
    refine a_istore C [(7, .int 1), (6, .int 1), (5, .int x8), (0, .ref (eA V 32)), (1, .int v15), (2, .int v25), (3, .int v35), (4, .int v45)] dX0_play_62 (by decide) rfl ?_
    refine a_sub [3, 5, 6, 7, 2, 1, 0] rfl ?_
    obtain ⟨n64, h⟩ := h
    refine tl_X0_play_64 C (fun v518 u18 h => ?_) (fun v523 v723 u23 h => ?_) n64 _ _ _ _ _ _ _ h
    · refine tj_X0_play_132 C _ _ h
    · refine a_aload_n C 0 dX0_play_98 rfl rfl ?_
      refine a_iload C 2 dX0_play_99 rfl ?_
      refine a_puti C (ty := .int) 0 dX0_play_101 (by decide) rfl rfl rfl ib_0 (by decide) bw_146 tyX0 tyX0_ok nmX0 rfl (by decide +kernel) rfl rfl ?_
      refine a_topu (fun z24 ez24 => ?_)
      have h := h z24 ez24
      refine a_aload_n C 0 dX0_play_104 rfl rfl ?_
      refine a_iload C 1 dX0_play_105 rfl ?_
      refine a_callSi C dX0_play_107 (m_X1_lowest l V h) bw_848 bw_736 bw_129 bw_737 np_X1_lowest rfl rfl (by decide) (Nat.le_of_ble_eq_true rfl) ⟨Nat.zero_le _, Nat.zero_le _⟩ (fun r25 u26 h => ?_)
      refine a_puti C (ty := .int) 1 dX0_play_110 (by decide) rfl rfl rfl ib_0 (by decide) bw_148 tyX0 tyX0_ok nmX0 rfl (by decide +kernel) rfl rfl ?_
      refine a_topu (fun z27 ez27 => ?_)
      have h := h z27 ez27
      exact a_vret C dX0_play_113 h
  · have h := h.2 c28
    exact a_vret C dX0_play_15 h

/-! RainOnTheOne$Ground.stepsBetween(III)I -/
def wl_X1_stepsBetween_25 (post : Int32 → PoS → Prop) : Nat → Int32 → Int32 → Int32 → Int32 → PoS → Prop
  | 0, _, _, _, _, _ => False
  | n + 1, v1, v2, v3, v4, u => ((30 ≤ v4 → post (-1) u) ∧ (¬ 30 ≤ v4 → ((((ushr v3 v1) &&& 1) = 0 → wp_X1_beside v3 u (fun (r6 : Int32) (u7 : PoS) => ∀ x8 : Int32, x8 = (v3 ||| (r6 &&& v2)) → wl_X1_stepsBetween_25 post n v1 v2 x8 (v4 + 1) u7)) ∧ (¬ ((ushr v3 v1) &&& 1) = 0 → post v4 u))))
def wp_X1_stepsBetween (a0 : Int32) (a1 : Int32) (a2 : Int32) (u : PoS) (post : Int32 → PoS → Prop) : Prop := wp_X1_has a2 a0 u (fun (r1 : Int32) (u2 : PoS) => ((r1 = 0 → post (-1) u2) ∧ (¬ r1 = 0 → wp_X1_has a2 a1 u2 (fun (r3 : Int32) (u4 : PoS) => ((¬ r3 = 0 → ∀ x5 : Int32, x5 = (1 <<< (a0 &&& 31)) → (∃ n25, wl_X1_stepsBetween_25 post n25 a1 a2 x5 0 u4)) ∧ (r3 = 0 → post (-1) u4))))))
set_option maxHeartbeats 4000000 in
set_option maxRecDepth 100000 in
theorem tl_X1_stepsBetween_25 {p : Program} {l : Launch} {e : Env} {s : State} {m : MethodId} {args : Array Value} {below : List Frame} {meth : Method} {c : Code} {V : VEn} {post : Int32 → PoS → Prop} (C : CxS p s m args meth c V cX1_stepsBetween 5 RX1 (some .int)) : ∀ (n : Nat) (v1 : Int32) (v2 : Int32) (v3 : Int32) (v4 : Int32) (u : PoS), wl_X1_stepsBetween_25 post n v1 v2 v3 v4 u → AtS p l e (Rm 1) s m args below meth c V 5 0 0 (QI V below args s post) 25 [(1, .int v1), (2, .int v2), (3, .int v3), (4, .int v4)] [] u := by
  intro n
  induction n with
  | zero => intro v1 v2 v3 v4 u h; exact h.elim
  | succ n ih =>
    intro v1 v2 v3 v4 u h
    rw [wl_X1_stepsBetween_25] at h
    refine a_iload C 3 dX1_stepsBetween_25 rfl ?_
    refine a_bipush C 30 dX1_stepsBetween_27 (by decide) ?_
    refine a_icmp_ge C 58 dX1_stepsBetween_29 (by decide) (fun c10 => ?_) (fun c10 => ?_)
    · have h := h.1 c10
      refine a_iconst C (-1) dX1_stepsBetween_58 (by decide) ?_
      exact a_iret C dX1_stepsBetween_59 h
    · have h := h.2 c10
      refine a_iload_n C 2 dX1_stepsBetween_32 rfl rfl ?_
      refine a_iload_n C 0 dX1_stepsBetween_33 rfl rfl ?_
      refine b_iushr C dX1_stepsBetween_34 ?_
      refine a_iconst C 1 dX1_stepsBetween_35 (by decide) ?_
      refine a_iand C dX1_stepsBetween_36 ?_
      refine a_if_eq C 43 dX1_stepsBetween_37 (by decide) (fun c9 => ?_) (fun c9 => ?_)
      · have h := h.1 c9
        refine a_iload_n C 2 dX1_stepsBetween_43 rfl rfl ?_
        refine a_iload_n C 2 dX1_stepsBetween_44 rfl rfl ?_
        refine a_callSi C dX1_stepsBetween_45 (m_X1_beside l V h) bw_689 bw_636 bw_129 bw_637 np_X1_beside rfl rfl (by decide) (Nat.le_of_ble_eq_true rfl) ⟨Nat.zero_le _, Nat.zero_le _⟩ (fun r6 u7 h => ?_)
        refine a_iload_n C 1 dX1_stepsBetween_48 rfl rfl ?_
        refine a_iand C dX1_stepsBetween_49 ?_
        refine a_ior C dX1_stepsBetween_50 ?_
        refine a_topi (fun x8 ex8 => ?_)
        have h := h x8 ex8
        refine a_istore_n C [(3, .int x8), (1, .int v1), (2, .int v2), (4, .int v4)] dX1_stepsBetween_51 rfl (by decide) rfl ?_
        refine a_iinc C (v4 + 1) 3 [(4, .int (v4 + 1)), (3, .int x8), (1, .int v1), (2, .int v2)] dX1_stepsBetween_52 rfl (congrArg (fun z => v4 + z) (show Int32.ofInt 1 = 1 by decide)) (by decide) rfl ?_
        refine a_goto C 25 dX1_stepsBetween_55 (by decide) ?_
        refine a_sub [2, 3, 1, 0] rfl ?_
        exact ih _ _ _ _ _ h
      · have h := h.2 c9
        refine a_iload C 3 dX1_stepsBetween_40 rfl ?_
        exact a_iret C dX1_stepsBetween_42 h
theorem np_X1_stepsBetween : yX1_stepsBetween.cls ≠ "java/lang/invoke/MethodHandle" ∧ yX1_stepsBetween.cls ≠ "java/lang/invoke/VarHandle" ∧ (parseMethodDescriptor yX1_stepsBetween.desc).map (fun d => d.parameters.length) = some 3 := by decide +kernel
set_option maxHeartbeats 4000000 in
set_option maxRecDepth 100000 in
theorem m_X1_stepsBetween (l : Launch) (V : VEn) {a0 : Int32} {a1 : Int32} {a2 : Int32} {u : PoS} {post : Int32 → PoS → Prop} (h : wp_X1_stepsBetween a0 a1 a2 u post) : KI l V yX1_stepsBetween cX1_stepsBetween 5 .int 1 [.int a0, .int a1, .int a2] u post := by
  refine KI_of (by decide) (Nat.le_of_ble_eq_true rfl) (lv := [(0, .int a0), (1, .int a1), (2, .int a2)]) rfl ?_
  intro p e s m args below meth c C
  rw [wp_X1_stepsBetween] at h
  refine a_iload_n C 2 dX1_stepsBetween_0 rfl rfl ?_
  refine a_iload_n C 0 dX1_stepsBetween_1 rfl rfl ?_
  refine a_callSi C dX1_stepsBetween_2 (m_X1_has l V h) bw_688 bw_642 bw_129 bw_643 np_X1_has rfl rfl (by decide) (Nat.le_of_ble_eq_true rfl) ⟨Nat.zero_le _, Nat.zero_le _⟩ (fun r1 u2 h => ?_)
  refine a_if_eq C 16 dX1_stepsBetween_5 (by decide) (fun c12 => ?_) (fun c12 => ?_)
  · have h := h.1 c12
    refine a_iconst C (-1) dX1_stepsBetween_16 (by decide) ?_
    exact a_iret C dX1_stepsBetween_17 h
  · have h := h.2 c12
    refine a_iload_n C 2 dX1_stepsBetween_8 rfl rfl ?_
    refine a_iload_n C 1 dX1_stepsBetween_9 rfl rfl ?_
    refine a_callSi C dX1_stepsBetween_10 (m_X1_has l V h) bw_688 bw_642 bw_129 bw_643 np_X1_has rfl rfl (by decide) (Nat.le_of_ble_eq_true rfl) ⟨Nat.zero_le _, Nat.zero_le _⟩ (fun r3 u4 h => ?_)
    refine a_if_ne C 18 dX1_stepsBetween_13 (by decide) (fun c11 => ?_) (fun c11 => ?_)
    · have h := h.1 c11
      refine a_iconst C 1 dX1_stepsBetween_18 (by decide) ?_
      refine a_iload_n C 0 dX1_stepsBetween_19 rfl rfl ?_
      refine a_ishl C dX1_stepsBetween_20 ?_
      refine a_topi (fun x5 ex5 => ?_)
      have h := h x5 ex5
      refine a_istore_n C [(3, .int x5), (0, .int a0), (1, .int a1), (2, .int a2)] dX1_stepsBetween_21 rfl (by decide) rfl ?_
      refine a_iconst C 0 dX1_stepsBetween_22 (by decide) ?_
      refine a_istore C [(4, .int 0), (3, .int x5), (0, .int a0), (1, .int a1), (2, .int a2)] dX1_stepsBetween_23 (by decide) rfl ?_
      refine a_sub [3, 4, 1, 0] rfl ?_
      obtain ⟨n25, h⟩ := h
      refine tl_X1_stepsBetween_25 C n25 _ _ _ _ _ h
    · have h := h.2 c11
      refine a_iconst C (-1) dX1_stepsBetween_16 (by decide) ?_
      exact a_iret C dX1_stepsBetween_17 h

/-! RainOnTheOne$Ground.nextOn(III)I -/
def wl_X1_nextOn_35 (k67 : Int32 → Int32 → PoS → Prop) (post : Int32 → PoS → Prop) : Nat → Int32 → Int32 → Int32 → Int32 → PoS → Prop
  | 0, _, _, _, _, _ => False
  | n + 1, v2, v3, v4, v5, u => ((30 ≤ v5 → k67 v3 v4 u) ∧ (¬ 30 ≤ v5 → ((¬ (v4 &&& v3) = 0 → k67 v3 v4 u) ∧ ((v4 &&& v3) = 0 → wp_X1_beside v4 u (fun (r9 : Int32) (u10 : PoS) => ∀ x11 : Int32, x11 = (v4 ||| (r9 &&& v2)) → wl_X1_nextOn_35 k67 post n v2 v3 x11 (v5 + 1) u10)))))
def wj_X1_nextOn_67 (post : Int32 → PoS → Prop) (v3 : Int32) (v4 : Int32) (u : PoS) : Prop := wp_X1_lowest (v4 &&& v3) u (fun (r15 : Int32) (u16 : PoS) => post r15 u16)
def wp_X1_nextOn (a0 : Int32) (a1 : Int32) (a2 : Int32) (u : PoS) (post : Int32 → PoS → Prop) : Prop := wp_X1_has a2 a0 u (fun (r1 : Int32) (u2 : PoS) => ((r1 = 0 → post (-1) u2) ∧ (¬ r1 = 0 → wp_X1_has a2 a1 u2 (fun (r3 : Int32) (u4 : PoS) => ((¬ r3 = 0 → wp_X1_beside (1 <<< (a0 &&& 31)) u4 (fun (r5 : Int32) (u6 : PoS) => ∀ x7 : Int32, x7 = (r5 &&& a2) → ∀ x8 : Int32, x8 = (1 <<< (a1 &&& 31)) → (∃ n35, wl_X1_nextOn_35 (fun (v314 : Int32) (v414 : Int32) (u14 : PoS) => wj_X1_nextOn_67 post v314 v414 u14) post n35 a2 x7 x8 0 u6))) ∧ (r3 = 0 → post (-1) u4))))))
set_option maxHeartbeats 4000000 in
set_option maxRecDepth 100000 in
theorem tl_X1_nextOn_35 {p : Program} {l : Launch} {e : Env} {s : State} {m : MethodId} {args : Array Value} {below : List Frame} {meth : Method} {c : Code} {V : VEn} {k67 : Int32 → Int32 → PoS → Prop} {post : Int32 → PoS → Prop} (C : CxS p s m args meth c V cX1_nextOn 6 RX1 (some .int)) (hk67 : ∀ (v3 : Int32) (v4 : Int32) (u : PoS), k67 v3 v4 u → AtS p l e (Rm 2) s m args below meth c V 6 0 0 (QI V below args s post) 67 [(3, .int v3), (4, .int v4)] [] u) : ∀ (n : Nat) (v2 : Int32) (v3 : Int32) (v4 : Int32) (v5 : Int32) (u : PoS), wl_X1_nextOn_35 k67 post n v2 v3 v4 v5 u → AtS p l e (Rm 2) s m args below meth c V 6 0 0 (QI V below args s post) 35 [(2, .int v2), (3, .int v3), (4, .int v4), (5, .int v5)] [] u := by
  intro n
  induction n with
  | zero => intro v2 v3 v4 v5 u h; exact h.elim
  | succ n ih =>
    intro v2 v3 v4 v5 u h
    rw [wl_X1_nextOn_35] at h
    refine a_iload C 3 dX1_nextOn_35 rfl ?_
    refine a_bipush C 30 dX1_nextOn_37 (by decide) ?_
    refine a_icmp_ge C 67 dX1_nextOn_39 (by decide) (fun c13 => ?_) (fun c13 => ?_)
    · have h := h.1 c13
      refine a_sub [1, 2] rfl ?_
      exact hk67 _ _ _ h
    · have h := h.2 c13
      refine a_iload C 2 dX1_nextOn_42 rfl ?_
      refine a_iload_n C 1 dX1_nextOn_44 rfl rfl ?_
      refine a_iand C dX1_nextOn_45 ?_
      refine a_if_ne C 67 dX1_nextOn_46 (by decide) (fun c12 => ?_) (fun c12 => ?_)
      · have h := h.1 c12
        refine a_sub [1, 2] rfl ?_
        exact hk67 _ _ _ h
      · have h := h.2 c12
        refine a_iload C 2 dX1_nextOn_49 rfl ?_
        refine a_iload C 2 dX1_nextOn_51 rfl ?_
        refine a_callSi C dX1_nextOn_53 (m_X1_beside l V h) bw_689 bw_636 bw_129 bw_637 np_X1_beside rfl rfl (by decide) (Nat.le_of_ble_eq_true rfl) ⟨Nat.zero_le _, Nat.zero_le _⟩ (fun r9 u10 h => ?_)
        refine a_iload_n C 0 dX1_nextOn_56 rfl rfl ?_
        refine a_iand C dX1_nextOn_57 ?_
        refine a_ior C dX1_nextOn_58 ?_
        refine a_topi (fun x11 ex11 => ?_)
        have h := h x11 ex11
        refine a_istore C [(4, .int x11), (2, .int v2), (3, .int v3), (5, .int v5)] dX1_nextOn_59 (by decide) rfl ?_
        refine a_iinc C (v5 + 1) 3 [(5, .int (v5 + 1)), (4, .int x11), (2, .int v2), (3, .int v3)] dX1_nextOn_61 rfl (congrArg (fun z => v5 + z) (show Int32.ofInt 1 = 1 by decide)) (by decide) rfl ?_
        refine a_goto C 35 dX1_nextOn_64 (by decide) ?_
        refine a_sub [2, 3, 1, 0] rfl ?_
        exact ih _ _ _ _ _ h
set_option maxHeartbeats 4000000 in
set_option maxRecDepth 100000 in
theorem tj_X1_nextOn_67 {p : Program} {l : Launch} {e : Env} {s : State} {m : MethodId} {args : Array Value} {below : List Frame} {meth : Method} {c : Code} {V : VEn} {post : Int32 → PoS → Prop} (C : CxS p s m args meth c V cX1_nextOn 6 RX1 (some .int)) (v3 : Int32) (v4 : Int32) (u : PoS) (h : wj_X1_nextOn_67 post v3 v4 u) : AtS p l e (Rm 2) s m args below meth c V 6 0 0 (QI V below args s post) 67 [(3, .int v3), (4, .int v4)] [] u := by
  rw [wj_X1_nextOn_67] at h
  refine a_iload C 1 dX1_nextOn_67 rfl ?_
  refine a_iload_n C 0 dX1_nextOn_69 rfl rfl ?_
  refine a_iand C dX1_nextOn_70 ?_
  refine a_callSi C dX1_nextOn_71 (m_X1_lowest l V h) bw_735 bw_736 bw_129 bw_737 np_X1_lowest rfl rfl (by decide) (Nat.le_of_ble_eq_true rfl) ⟨Nat.zero_le _, Nat.zero_le _⟩ (fun r15 u16 h => ?_)
  exact a_iret C dX1_nextOn_74 h
theorem np_X1_nextOn : yX1_nextOn.cls ≠ "java/lang/invoke/MethodHandle" ∧ yX1_nextOn.cls ≠ "java/lang/invoke/VarHandle" ∧ (parseMethodDescriptor yX1_nextOn.desc).map (fun d => d.parameters.length) = some 3 := by decide +kernel
set_option maxHeartbeats 4000000 in
set_option maxRecDepth 100000 in
theorem m_X1_nextOn (l : Launch) (V : VEn) {a0 : Int32} {a1 : Int32} {a2 : Int32} {u : PoS} {post : Int32 → PoS → Prop} (h : wp_X1_nextOn a0 a1 a2 u post) : KI l V yX1_nextOn cX1_nextOn 6 .int 2 [.int a0, .int a1, .int a2] u post := by
  refine KI_of (by decide) (Nat.le_of_ble_eq_true rfl) (lv := [(0, .int a0), (1, .int a1), (2, .int a2)]) rfl ?_
  intro p e s m args below meth c C
  rw [wp_X1_nextOn] at h
  refine a_iload_n C 2 dX1_nextOn_0 rfl rfl ?_
  refine a_iload_n C 0 dX1_nextOn_1 rfl rfl ?_
  refine a_callSi C dX1_nextOn_2 (m_X1_has l V h) bw_688 bw_642 bw_129 bw_643 np_X1_has rfl rfl (by decide) (Nat.le_of_ble_eq_true rfl) ⟨Nat.zero_le _, Nat.zero_le _⟩ (fun r1 u2 h => ?_)
  refine a_if_eq C 16 dX1_nextOn_5 (by decide) (fun c18 => ?_) (fun c18 => ?_)
  · have h := h.1 c18
    refine a_iconst C (-1) dX1_nextOn_16 (by decide) ?_
    exact a_iret C dX1_nextOn_17 h
  · have h := h.2 c18
    refine a_iload_n C 2 dX1_nextOn_8 rfl rfl ?_
    refine a_iload_n C 1 dX1_nextOn_9 rfl rfl ?_
    refine a_callSi C dX1_nextOn_10 (m_X1_has l V h) bw_688 bw_642 bw_129 bw_643 np_X1_has rfl rfl (by decide) (Nat.le_of_ble_eq_true rfl) ⟨Nat.zero_le _, Nat.zero_le _⟩ (fun r3 u4 h => ?_)
    refine a_if_ne C 18 dX1_nextOn_13 (by decide) (fun c17 => ?_) (fun c17 => ?_)
    · have h := h.1 c17
      refine a_iconst C 1 dX1_nextOn_18 (by decide) ?_
      refine a_iload_n C 0 dX1_nextOn_19 rfl rfl ?_
      refine a_ishl C dX1_nextOn_20 ?_
      refine a_callSi C dX1_nextOn_21 (m_X1_beside l V h) bw_689 bw_636 bw_129 bw_637 np_X1_beside rfl rfl (by decide) (Nat.le_of_ble_eq_true rfl) ⟨Nat.zero_le _, Nat.zero_le _⟩ (fun r5 u6 h => ?_)
      refine a_iload_n C 2 dX1_nextOn_24 rfl rfl ?_
      refine a_iand C dX1_nextOn_25 ?_
      refine a_topi (fun x7 ex7 => ?_)
      have h := h x7 ex7
      refine a_istore_n C [(3, .int x7), (0, .int a0), (1, .int a1), (2, .int a2)] dX1_nextOn_26 rfl (by decide) rfl ?_
      refine a_iconst C 1 dX1_nextOn_27 (by decide) ?_
      refine a_iload_n C 2 dX1_nextOn_28 rfl rfl ?_
      refine a_ishl C dX1_nextOn_29 ?_
      refine a_topi (fun x8 ex8 => ?_)
      have h := h x8 ex8
      refine a_istore C [(4, .int x8), (3, .int x7), (0, .int a0), (1, .int a1), (2, .int a2)] dX1_nextOn_30 (by decide) rfl ?_
      refine a_iconst C 0 dX1_nextOn_32 (by decide) ?_
      refine a_istore C [(5, .int 0), (4, .int x8), (3, .int x7), (0, .int a0), (1, .int a1), (2, .int a2)] dX1_nextOn_33 (by decide) rfl ?_
      refine a_sub [5, 2, 1, 0] rfl ?_
      obtain ⟨n35, h⟩ := h
      refine tl_X1_nextOn_35 C (fun v314 v414 u14 h => ?_) n35 _ _ _ _ _ h
      refine tj_X1_nextOn_67 C _ _ _ h
    · have h := h.2 c17
      refine a_iconst C (-1) dX1_nextOn_16 (by decide) ?_
      exact a_iret C dX1_nextOn_17 h

/-! RainOnTheOne$Ground.filled(II)I -/
def wl_X1_filled_4 (post : Int32 → PoS → Prop) : Nat → Int32 → Int32 → Int32 → PoS → Prop
  | 0, _, _, _, _ => False
  | n + 1, v1, v2, v3, u => ((30 ≤ v3 → post v2 u) ∧ (¬ 30 ≤ v3 → wp_X1_beside v2 u (fun (r1 : Int32) (u2 : PoS) => ∀ x3 : Int32, x3 = (v2 ||| (r1 &&& v1)) → ((¬ x3 = v2 → wl_X1_filled_4 post n v1 x3 (v3 + 1) u2) ∧ (x3 = v2 → post v2 u2)))))
def wp_X1_filled (a0 : Int32) (a1 : Int32) (u : PoS) (post : Int32 → PoS → Prop) : Prop := (∃ n4, wl_X1_filled_4 post n4 a1 a0 0 u)
set_option maxHeartbeats 4000000 in
set_option maxRecDepth 100000 in
theorem tl_X1_filled_4 {p : Program} {l : Launch} {e : Env} {s : State} {m : MethodId} {args : Array Value} {below : List Frame} {meth : Method} {c : Code} {V : VEn} {post : Int32 → PoS → Prop} (C : CxS p s m args meth c V cX1_filled 5 RX1 (some .int)) : ∀ (n : Nat) (v1 : Int32) (v2 : Int32) (v3 : Int32) (u : PoS), wl_X1_filled_4 post n v1 v2 v3 u → AtS p l e (Rm 1) s m args below meth c V 5 0 0 (QI V below args s post) 4 [(1, .int v1), (2, .int v2), (3, .int v3)] [] u := by
  intro n
  induction n with
  | zero => intro v1 v2 v3 u h; exact h.elim
  | succ n ih =>
    intro v1 v2 v3 u h
    rw [wl_X1_filled_4] at h
    refine a_iload_n C 2 dX1_filled_4 rfl rfl ?_
    refine a_bipush C 30 dX1_filled_5 (by decide) ?_
    refine a_icmp_ge C 37 dX1_filled_7 (by decide) (fun c5 => ?_) (fun c5 => ?_)
    · have h := h.1 c5
      refine a_iload_n C 1 dX1_filled_37 rfl rfl ?_
      exact a_iret C dX1_filled_38 h
    · have h := h.2 c5
      refine a_iload_n C 1 dX1_filled_10 rfl rfl ?_
      refine a_iload_n C 1 dX1_filled_11 rfl rfl ?_
      refine a_callSi C dX1_filled_12 (m_X1_beside l V h) bw_689 bw_636 bw_129 bw_637 np_X1_beside rfl rfl (by decide) (Nat.le_of_ble_eq_true rfl) ⟨Nat.zero_le _, Nat.zero_le _⟩ (fun r1 u2 h => ?_)
      refine a_iload_n C 0 dX1_filled_15 rfl rfl ?_
      refine a_iand C dX1_filled_16 ?_
      refine a_ior C dX1_filled_17 ?_
      refine a_topi (fun x3 ex3 => ?_)
      have h := h x3 ex3
      refine a_istore C [(4, .int x3), (1, .int v1), (2, .int v2), (3, .int v3)] dX1_filled_18 (by decide) rfl ?_
      refine a_iload C 0 dX1_filled_20 rfl ?_
      refine a_iload_n C 2 dX1_filled_22 rfl rfl ?_
      refine a_icmp_ne C 28 dX1_filled_23 (by decide) (fun c4 => ?_) (fun c4 => ?_)
      · have h := h.1 c4
        refine a_iload C 0 dX1_filled_28 rfl ?_
        refine a_istore_n C [(2, .int x3), (4, .int x3), (1, .int v1), (3, .int v3)] dX1_filled_30 rfl (by decide) rfl ?_
        refine a_iinc C (v3 + 1) 3 [(3, .int (v3 + 1)), (2, .int x3), (4, .int x3), (1, .int v1)] dX1_filled_31 rfl (congrArg (fun z => v3 + z) (show Int32.ofInt 1 = 1 by decide)) (by decide) rfl ?_
        refine a_goto C 4 dX1_filled_34 (by decide) ?_
        refine a_sub [3, 1, 0] rfl ?_
        exact ih _ _ _ _ h
      · have h := h.2 c4
        refine a_iload_n C 2 dX1_filled_26 rfl rfl ?_
        exact a_iret C dX1_filled_27 h
theorem np_X1_filled : yX1_filled.cls ≠ "java/lang/invoke/MethodHandle" ∧ yX1_filled.cls ≠ "java/lang/invoke/VarHandle" ∧ (parseMethodDescriptor yX1_filled.desc).map (fun d => d.parameters.length) = some 2 := by decide +kernel
set_option maxHeartbeats 4000000 in
set_option maxRecDepth 100000 in
theorem m_X1_filled (l : Launch) (V : VEn) {a0 : Int32} {a1 : Int32} {u : PoS} {post : Int32 → PoS → Prop} (h : wp_X1_filled a0 a1 u post) : KI l V yX1_filled cX1_filled 5 .int 1 [.int a0, .int a1] u post := by
  refine KI_of (by decide) (Nat.le_of_ble_eq_true rfl) (lv := [(0, .int a0), (1, .int a1)]) rfl ?_
  intro p e s m args below meth c C
  rw [wp_X1_filled] at h
  refine a_iload_n C 0 dX1_filled_0 rfl rfl ?_
  refine a_istore_n C [(2, .int a0), (0, .int a0), (1, .int a1)] dX1_filled_1 rfl (by decide) rfl ?_
  refine a_iconst C 0 dX1_filled_2 (by decide) ?_
  refine a_istore_n C [(3, .int 0), (2, .int a0), (0, .int a0), (1, .int a1)] dX1_filled_3 rfl (by decide) rfl ?_
  refine a_sub [3, 1, 0] rfl ?_
  obtain ⟨n4, h⟩ := h
  refine tl_X1_filled_4 C n4 _ _ _ _ h

/-! RainOnTheOne.isCell(I)Z -/
def wp_X11_isCell (a0 : Int32) (u : PoS) (post : Int32 → PoS → Prop) : Prop := ((a0 < 0 → post 0 u) ∧ (¬ a0 < 0 → ((30 ≤ a0 → post 0 u) ∧ (¬ 30 ≤ a0 → post 1 u))))
theorem np_X11_isCell : yX11_isCell.cls ≠ "java/lang/invoke/MethodHandle" ∧ yX11_isCell.cls ≠ "java/lang/invoke/VarHandle" ∧ (parseMethodDescriptor yX11_isCell.desc).map (fun d => d.parameters.length) = some 1 := by decide +kernel
set_option maxHeartbeats 4000000 in
set_option maxRecDepth 100000 in
theorem m_X11_isCell (l : Launch) (V : VEn) {a0 : Int32} {u : PoS} {post : Int32 → PoS → Prop} (h : wp_X11_isCell a0 u post) : KI l V yX11_isCell cX11_isCell 1 .boolean 0 [.int a0] u post := by
  refine KI_of (by decide) (Nat.le_of_ble_eq_true rfl) (lv := [(0, .int a0)]) rfl ?_
  intro p e s m args below meth c C
  rw [wp_X11_isCell] at h
  refine a_iload_n C 0 dX11_isCell_0 rfl rfl ?_
  refine a_if_lt C 14 dX11_isCell_1 (by decide) (fun c2 => ?_) (fun c2 => ?_)
  · have h := h.1 c2
    refine a_iconst C 0 dX11_isCell_14 (by decide) ?_
    exact a_zret C rfl dX11_isCell_15 h
  · have h := h.2 c2
    refine a_iload_n C 0 dX11_isCell_4 rfl rfl ?_
    refine a_bipush C 30 dX11_isCell_5 (by decide) ?_
    refine a_icmp_ge C 14 dX11_isCell_7 (by decide) (fun c1 => ?_) (fun c1 => ?_)
    · have h := h.1 c1
      refine a_iconst C 0 dX11_isCell_14 (by decide) ?_
      exact a_zret C rfl dX11_isCell_15 h
    · have h := h.2 c1
      refine a_iconst C 1 dX11_isCell_10 (by decide) ?_
      refine a_goto C 15 dX11_isCell_11 (by decide) ?_
      exact a_zret C rfl dX11_isCell_15 h

/-! RainOnTheOne$Judge.joined(III)J -/
def wp_X2_joined (a0 : Int32) (a1 : Int32) (a2 : Int32) (u : PoS) (post : Int64 → PoS → Prop) : Prop := ((a0 = 17 → ((¬ a2 = 0 → ¬ a2 = 0 ∧ post (Int32.toInt64 ((a1 * 100) / a2)) u) ∧ (a2 = 0 → post 0 u))) ∧ (a0 = 18 → post (Int32.toInt64 (a1 ||| a2)) u) ∧ (a0 = 19 → post (Int32.toInt64 (a1 ||| a2)) u) ∧ (a0 = 20 → post (Int32.toInt64 (a1 ||| a2)) u) ∧ (a0 = 21 → post (Int32.toInt64 (a1 ||| a2)) u) ∧ (a0 = 22 → post (Int32.toInt64 (a1 ||| a2)) u) ∧ (a0 = 23 → post (Int32.toInt64 (a1 ||| a2)) u) ∧ (a0 = 24 → post (Int32.toInt64 (a1 ||| a2)) u) ∧ (a0 = 25 → post (Int32.toInt64 (a1 ||| a2)) u) ∧ (a0 = 26 → post (Int32.toInt64 (a1 ||| a2)) u) ∧ (a0 = 27 → post (Int32.toInt64 (a1 &&& a2)) u) ∧ (a0 = 28 → ((a2 ≤ a1 → post 0 u) ∧ (¬ a2 ≤ a1 → post 1 u))) ∧ (a0 = 29 → ((a1 ≤ a2 → post 0 u) ∧ (¬ a1 ≤ a2 → post 1 u))) ∧ (a0 = 30 → ((¬ a1 = a2 → post 0 u) ∧ (a1 = a2 → post 1 u))) ∧ (a0 = 31 → ((a1 = a2 → post 0 u) ∧ (¬ a1 = a2 → post 1 u))) ∧ (a0 = 32 → post (Int32.toInt64 (a1 + a2)) u) ∧ (a0 = 33 → post (Int32.toInt64 (a1 - a2)) u) ∧ (a0 = 34 → post ((Int32.toInt64 a1) * (Int32.toInt64 a2)) u) ∧ (a0 = 35 → ((¬ a2 = 0 → ¬ a2 = 0 ∧ post (Int32.toInt64 (a1 / a2)) u) ∧ (a2 = 0 → post 0 u))) ∧ (a0 = 36 → post (Int32.toInt64 (a1 ||| a2)) u) ∧ (a0 = 37 → post (Int32.toInt64 (a1 ||| a2)) u) ∧ (a0 = 38 → post (Int32.toInt64 (a1 ||| a2)) u) ∧ (a0 = 39 → ((a2 < a1 → post 0 u) ∧ (¬ a2 < a1 → post 1 u))) ∧ (a0 = 40 → ((a1 < a2 → post 0 u) ∧ (¬ a1 < a2 → post 1 u))) ∧ (¬ a0 = 17 → ¬ a0 = 18 → ¬ a0 = 19 → ¬ a0 = 20 → ¬ a0 = 21 → ¬ a0 = 22 → ¬ a0 = 23 → ¬ a0 = 24 → ¬ a0 = 25 → ¬ a0 = 26 → ¬ a0 = 27 → ¬ a0 = 28 → ¬ a0 = 29 → ¬ a0 = 30 → ¬ a0 = 31 → ¬ a0 = 32 → ¬ a0 = 33 → ¬ a0 = 34 → ¬ a0 = 35 → ¬ a0 = 36 → ¬ a0 = 37 → ¬ a0 = 38 → ¬ a0 = 39 → ¬ a0 = 40 → post (Int32.toInt64 (a1 ||| a2)) u))
theorem np_X2_joined : yX2_joined.cls ≠ "java/lang/invoke/MethodHandle" ∧ yX2_joined.cls ≠ "java/lang/invoke/VarHandle" ∧ (parseMethodDescriptor yX2_joined.desc).map (fun d => d.parameters.length) = some 3 := by decide +kernel
set_option maxHeartbeats 4000000 in
set_option maxRecDepth 100000 in
theorem m_X2_joined (l : Launch) (V : VEn) {a0 : Int32} {a1 : Int32} {a2 : Int32} {u : PoS} {post : Int64 → PoS → Prop} (h : wp_X2_joined a0 a1 a2 u post) : KL l V yX2_joined cX2_joined 3 .long 0 [.int a0, .int a1, .int a2] u post := by
  refine KL_of (by decide) (Nat.le_of_ble_eq_true rfl) (lv := [(0, .int a0), (1, .int a1), (2, .int a2)]) rfl ?_
  intro p e s m args below meth c C
  rw [wp_X2_joined] at h
  refine a_iload_n C 0 dX2_joined_0 rfl rfl ?_
  obtain ⟨hs0, hs1, hs2, hs3, hs4, hs5, hs6, hs7, hs8, hs9, hs10, hs11, hs12, hs13, hs14, hs15, hs16, hs17, hs18, hs19, hs20, hs21, hs22, hs23, hd0⟩ := h
  by_cases hq0 : a0 = 17
  · have h := hs0 hq0
    refine a_tableIn C (off := 140) 141 dX2_joined_1 (by rw [hq0]; decide) (by rw [hq0]; decide) (by rw [hq0]; decide +kernel) (by decide) ?_
    refine a_iload_n C 2 dX2_joined_141 rfl rfl ?_
    refine a_if_ne C 149 dX2_joined_142 (by decide) (fun c1 => ?_) (fun c1 => ?_)
    · have h := h.1 c1
      refine a_iload_n C 1 dX2_joined_149 rfl rfl ?_
      refine a_bipush C 100 dX2_joined_150 (by decide) ?_
      refine a_imul C dX2_joined_152 ?_
      refine a_iload_n C 2 dX2_joined_153 rfl rfl ?_
      refine a_idiv C dX2_joined_154 h.1 ?_
      have h := h.2
      refine a_i2l C dX2_joined_155 ?_
      exact a_lret C dX2_joined_156 h
    · have h := h.2 c1
      refine a_lconst C 0 dX2_joined_145 (by decide) ?_
      refine a_goto C 156 dX2_joined_146 (by decide) ?_
      exact a_lret C dX2_joined_156 h
  by_cases hq1 : a0 = 18
  · have h := hs1 hq1
    refine a_tableIn C (off := 227) 228 dX2_joined_1 (by rw [hq1]; decide) (by rw [hq1]; decide) (by rw [hq1]; decide +kernel) (by decide) ?_
    refine a_iload_n C 1 dX2_joined_228 rfl rfl ?_
    refine a_iload_n C 2 dX2_joined_229 rfl rfl ?_
    refine a_ior C dX2_joined_230 ?_
    refine a_i2l C dX2_joined_231 ?_
    exact a_lret C dX2_joined_232 h
  by_cases hq2 : a0 = 19
  · have h := hs2 hq2
    refine a_tableIn C (off := 227) 228 dX2_joined_1 (by rw [hq2]; decide) (by rw [hq2]; decide) (by rw [hq2]; decide +kernel) (by decide) ?_
    refine a_iload_n C 1 dX2_joined_228 rfl rfl ?_
    refine a_iload_n C 2 dX2_joined_229 rfl rfl ?_
    refine a_ior C dX2_joined_230 ?_
    refine a_i2l C dX2_joined_231 ?_
    exact a_lret C dX2_joined_232 h
  by_cases hq3 : a0 = 20
  · have h := hs3 hq3
    refine a_tableIn C (off := 227) 228 dX2_joined_1 (by rw [hq3]; decide) (by rw [hq3]; decide) (by rw [hq3]; decide +kernel) (by decide) ?_
    refine a_iload_n C 1 dX2_joined_228 rfl rfl ?_
    refine a_iload_n C 2 dX2_joined_229 rfl rfl ?_
    refine a_ior C dX2_joined_230 ?_
    refine a_i2l C dX2_joined_231 ?_
    exact a_lret C dX2_joined_232 h
  by_cases hq4 : a0 = 21
  · have h := hs4 hq4
    refine a_tableIn C (off := 227) 228 dX2_joined_1 (by rw [hq4]; decide) (by rw [hq4]; decide) (by rw [hq4]; decide +kernel) (by decide) ?_
    refine a_iload_n C 1 dX2_joined_228 rfl rfl ?_
    refine a_iload_n C 2 dX2_joined_229 rfl rfl ?_
    refine a_ior C dX2_joined_230 ?_
    refine a_i2l C dX2_joined_231 ?_
    exact a_lret C dX2_joined_232 h
  by_cases hq5 : a0 = 22
  · have h := hs5 hq5
    refine a_tableIn C (off := 227) 228 dX2_joined_1 (by rw [hq5]; decide) (by rw [hq5]; decide) (by rw [hq5]; decide +kernel) (by decide) ?_
    refine a_iload_n C 1 dX2_joined_228 rfl rfl ?_
    refine a_iload_n C 2 dX2_joined_229 rfl rfl ?_
    refine a_ior C dX2_joined_230 ?_
    refine a_i2l C dX2_joined_231 ?_
    exact a_lret C dX2_joined_232 h
  by_cases hq6 : a0 = 23
  · have h := hs6 hq6
    refine a_tableIn C (off := 227) 228 dX2_joined_1 (by rw [hq6]; decide) (by rw [hq6]; decide) (by rw [hq6]; decide +kernel) (by decide) ?_
    refine a_iload_n C 1 dX2_joined_228 rfl rfl ?_
    refine a_iload_n C 2 dX2_joined_229 rfl rfl ?_
    refine a_ior C dX2_joined_230 ?_
    refine a_i2l C dX2_joined_231 ?_
    exact a_lret C dX2_joined_232 h
  by_cases hq7 : a0 = 24
  · have h := hs7 hq7
    refine a_tableIn C (off := 227) 228 dX2_joined_1 (by rw [hq7]; decide) (by rw [hq7]; decide) (by rw [hq7]; decide +kernel) (by decide) ?_
    refine a_iload_n C 1 dX2_joined_228 rfl rfl ?_
    refine a_iload_n C 2 dX2_joined_229 rfl rfl ?_
    refine a_ior C dX2_joined_230 ?_
    refine a_i2l C dX2_joined_231 ?_
    exact a_lret C dX2_joined_232 h
  by_cases hq8 : a0 = 25
  · have h := hs8 hq8
    refine a_tableIn C (off := 227) 228 dX2_joined_1 (by rw [hq8]; decide) (by rw [hq8]; decide) (by rw [hq8]; decide +kernel) (by decide) ?_
    refine a_iload_n C 1 dX2_joined_228 rfl rfl ?_
    refine a_iload_n C 2 dX2_joined_229 rfl rfl ?_
    refine a_ior C dX2_joined_230 ?_
    refine a_i2l C dX2_joined_231 ?_
    exact a_lret C dX2_joined_232 h
  by_cases hq9 : a0 = 26
  · have h := hs9 hq9
    refine a_tableIn C (off := 227) 228 dX2_joined_1 (by rw [hq9]; decide) (by rw [hq9]; decide) (by rw [hq9]; decide +kernel) (by decide) ?_
    refine a_iload_n C 1 dX2_joined_228 rfl rfl ?_
    refine a_iload_n C 2 dX2_joined_229 rfl rfl ?_
    refine a_ior C dX2_joined_230 ?_
    refine a_i2l C dX2_joined_231 ?_
    exact a_lret C dX2_joined_232 h
  by_cases hq10 : a0 = 27
  · have h := hs10 hq10
    refine a_tableIn C (off := 222) 223 dX2_joined_1 (by rw [hq10]; decide) (by rw [hq10]; decide) (by rw [hq10]; decide +kernel) (by decide) ?_
    refine a_iload_n C 1 dX2_joined_223 rfl rfl ?_
    refine a_iload_n C 2 dX2_joined_224 rfl rfl ?_
    refine a_iand C dX2_joined_225 ?_
    refine a_i2l C dX2_joined_226 ?_
    exact a_lret C dX2_joined_227 h
  by_cases hq11 : a0 = 28
  · have h := hs11 hq11
    refine a_tableIn C (off := 156) 157 dX2_joined_1 (by rw [hq11]; decide) (by rw [hq11]; decide) (by rw [hq11]; decide +kernel) (by decide) ?_
    refine a_iload_n C 1 dX2_joined_157 rfl rfl ?_
    refine a_iload_n C 2 dX2_joined_158 rfl rfl ?_
    refine a_icmp_ge C 166 dX2_joined_159 (by decide) (fun c2 => ?_) (fun c2 => ?_)
    · have h := h.1 c2
      refine a_lconst C 0 dX2_joined_166 (by decide) ?_
      exact a_lret C dX2_joined_167 h
    · have h := h.2 c2
      refine a_lconst C 1 dX2_joined_162 (by decide) ?_
      refine a_goto C 167 dX2_joined_163 (by decide) ?_
      exact a_lret C dX2_joined_167 h
  by_cases hq12 : a0 = 29
  · have h := hs12 hq12
    refine a_tableIn C (off := 178) 179 dX2_joined_1 (by rw [hq12]; decide) (by rw [hq12]; decide) (by rw [hq12]; decide +kernel) (by decide) ?_
    refine a_iload_n C 1 dX2_joined_179 rfl rfl ?_
    refine a_iload_n C 2 dX2_joined_180 rfl rfl ?_
    refine a_icmp_le C 188 dX2_joined_181 (by decide) (fun c3 => ?_) (fun c3 => ?_)
    · have h := h.1 c3
      refine a_lconst C 0 dX2_joined_188 (by decide) ?_
      exact a_lret C dX2_joined_189 h
    · have h := h.2 c3
      refine a_lconst C 1 dX2_joined_184 (by decide) ?_
      refine a_goto C 189 dX2_joined_185 (by decide) ?_
      exact a_lret C dX2_joined_189 h
  by_cases hq13 : a0 = 30
  · have h := hs13 hq13
    refine a_tableIn C (off := 200) 201 dX2_joined_1 (by rw [hq13]; decide) (by rw [hq13]; decide) (by rw [hq13]; decide +kernel) (by decide) ?_
    refine a_iload_n C 1 dX2_joined_201 rfl rfl ?_
    refine a_iload_n C 2 dX2_joined_202 rfl rfl ?_
    refine a_icmp_ne C 210 dX2_joined_203 (by decide) (fun c4 => ?_) (fun c4 => ?_)
    · have h := h.1 c4
      refine a_lconst C 0 dX2_joined_210 (by decide) ?_
      exact a_lret C dX2_joined_211 h
    · have h := h.2 c4
      refine a_lconst C 1 dX2_joined_206 (by decide) ?_
      refine a_goto C 211 dX2_joined_207 (by decide) ?_
      exact a_lret C dX2_joined_211 h
  by_cases hq14 : a0 = 31
  · have h := hs14 hq14
    refine a_tableIn C (off := 211) 212 dX2_joined_1 (by rw [hq14]; decide) (by rw [hq14]; decide) (by rw [hq14]; decide +kernel) (by decide) ?_
    refine a_iload_n C 1 dX2_joined_212 rfl rfl ?_
    refine a_iload_n C 2 dX2_joined_213 rfl rfl ?_
    refine a_icmp_eq C 221 dX2_joined_214 (by decide) (fun c5 => ?_) (fun c5 => ?_)
    · have h := h.1 c5
      refine a_lconst C 0 dX2_joined_221 (by decide) ?_
      exact a_lret C dX2_joined_222 h
    · have h := h.2 c5
      refine a_lconst C 1 dX2_joined_217 (by decide) ?_
      refine a_goto C 222 dX2_joined_218 (by decide) ?_
      exact a_lret C dX2_joined_222 h
  by_cases hq15 : a0 = 32
  · have h := hs15 hq15
    refine a_tableIn C (off := 111) 112 dX2_joined_1 (by rw [hq15]; decide) (by rw [hq15]; decide) (by rw [hq15]; decide +kernel) (by decide) ?_
    refine a_iload_n C 1 dX2_joined_112 rfl rfl ?_
    refine a_iload_n C 2 dX2_joined_113 rfl rfl ?_
    refine a_iadd C dX2_joined_114 ?_
    refine a_i2l C dX2_joined_115 ?_
    exact a_lret C dX2_joined_116 h
  by_cases hq16 : a0 = 33
  · have h := hs16 hq16
    refine a_tableIn C (off := 116) 117 dX2_joined_1 (by rw [hq16]; decide) (by rw [hq16]; decide) (by rw [hq16]; decide +kernel) (by decide) ?_
    refine a_iload_n C 1 dX2_joined_117 rfl rfl ?_
    refine a_iload_n C 2 dX2_joined_118 rfl rfl ?_
    refine a_isub C dX2_joined_119 ?_
    refine a_i2l C dX2_joined_120 ?_
    exact a_lret C dX2_joined_121 h
  by_cases hq17 : a0 = 34
  · have h := hs17 hq17
    refine a_tableIn C (off := 121) 122 dX2_joined_1 (by rw [hq17]; decide) (by rw [hq17]; decide) (by rw [hq17]; decide +kernel) (by decide) ?_
    refine a_iload_n C 1 dX2_joined_122 rfl rfl ?_
    refine a_i2l C dX2_joined_123 ?_
    refine a_iload_n C 2 dX2_joined_124 rfl rfl ?_
    refine a_i2l C dX2_joined_125 ?_
    refine a_lmul C dX2_joined_126 ?_
    exact a_lret C dX2_joined_127 h
  by_cases hq18 : a0 = 35
  · have h := hs18 hq18
    refine a_tableIn C (off := 127) 128 dX2_joined_1 (by rw [hq18]; decide) (by rw [hq18]; decide) (by rw [hq18]; decide +kernel) (by decide) ?_
    refine a_iload_n C 2 dX2_joined_128 rfl rfl ?_
    refine a_if_ne C 136 dX2_joined_129 (by decide) (fun c6 => ?_) (fun c6 => ?_)
    · have h := h.1 c6
      refine a_iload_n C 1 dX2_joined_136 rfl rfl ?_
      refine a_iload_n C 2 dX2_joined_137 rfl rfl ?_
      refine a_idiv C dX2_joined_138 h.1 ?_
      have h := h.2
      refine a_i2l C dX2_joined_139 ?_
      exact a_lret C dX2_joined_140 h
    · have h := h.2 c6
      refine a_lconst C 0 dX2_joined_132 (by decide) ?_
      refine a_goto C 140 dX2_joined_133 (by decide) ?_
      exact a_lret C dX2_joined_140 h
  by_cases hq19 : a0 = 36
  · have h := hs19 hq19
    refine a_tableIn C (off := 227) 228 dX2_joined_1 (by rw [hq19]; decide) (by rw [hq19]; decide) (by rw [hq19]; decide +kernel) (by decide) ?_
    refine a_iload_n C 1 dX2_joined_228 rfl rfl ?_
    refine a_iload_n C 2 dX2_joined_229 rfl rfl ?_
    refine a_ior C dX2_joined_230 ?_
    refine a_i2l C dX2_joined_231 ?_
    exact a_lret C dX2_joined_232 h
  by_cases hq20 : a0 = 37
  · have h := hs20 hq20
    refine a_tableIn C (off := 227) 228 dX2_joined_1 (by rw [hq20]; decide) (by rw [hq20]; decide) (by rw [hq20]; decide +kernel) (by decide) ?_
    refine a_iload_n C 1 dX2_joined_228 rfl rfl ?_
    refine a_iload_n C 2 dX2_joined_229 rfl rfl ?_
    refine a_ior C dX2_joined_230 ?_
    refine a_i2l C dX2_joined_231 ?_
    exact a_lret C dX2_joined_232 h
  by_cases hq21 : a0 = 38
  · have h := hs21 hq21
    refine a_tableIn C (off := 227) 228 dX2_joined_1 (by rw [hq21]; decide) (by rw [hq21]; decide) (by rw [hq21]; decide +kernel) (by decide) ?_
    refine a_iload_n C 1 dX2_joined_228 rfl rfl ?_
    refine a_iload_n C 2 dX2_joined_229 rfl rfl ?_
    refine a_ior C dX2_joined_230 ?_
    refine a_i2l C dX2_joined_231 ?_
    exact a_lret C dX2_joined_232 h
  by_cases hq22 : a0 = 39
  · have h := hs22 hq22
    refine a_tableIn C (off := 167) 168 dX2_joined_1 (by rw [hq22]; decide) (by rw [hq22]; decide) (by rw [hq22]; decide +kernel) (by decide) ?_
    refine a_iload_n C 1 dX2_joined_168 rfl rfl ?_
    refine a_iload_n C 2 dX2_joined_169 rfl rfl ?_
    refine a_icmp_gt C 177 dX2_joined_170 (by decide) (fun c7 => ?_) (fun c7 => ?_)
    · have h := h.1 c7
      refine a_lconst C 0 dX2_joined_177 (by decide) ?_
      exact a_lret C dX2_joined_178 h
    · have h := h.2 c7
      refine a_lconst C 1 dX2_joined_173 (by decide) ?_
      refine a_goto C 178 dX2_joined_174 (by decide) ?_
      exact a_lret C dX2_joined_178 h
  by_cases hq23 : a0 = 40
  · have h := hs23 hq23
    refine a_tableIn C (off := 189) 190 dX2_joined_1 (by rw [hq23]; decide) (by rw [hq23]; decide) (by rw [hq23]; decide +kernel) (by decide) ?_
    refine a_iload_n C 1 dX2_joined_190 rfl rfl ?_
    refine a_iload_n C 2 dX2_joined_191 rfl rfl ?_
    refine a_icmp_lt C 199 dX2_joined_192 (by decide) (fun c8 => ?_) (fun c8 => ?_)
    · have h := h.1 c8
      refine a_lconst C 0 dX2_joined_199 (by decide) ?_
      exact a_lret C dX2_joined_200 h
    · have h := h.2 c8
      refine a_lconst C 1 dX2_joined_195 (by decide) ?_
      refine a_goto C 200 dX2_joined_196 (by decide) ?_
      exact a_lret C dX2_joined_200 h
  have h := hd0 hq0 hq1 hq2 hq3 hq4 hq5 hq6 hq7 hq8 hq9 hq10 hq11 hq12 hq13 hq14 hq15 hq16 hq17 hq18 hq19 hq20 hq21 hq22 hq23
  refine a_tableOut C 228 dX2_joined_1 (tsw_out 17 40 (fun q h1 h2 => by rcases (show q = 17 ∨ q = 18 ∨ q = 19 ∨ q = 20 ∨ q = 21 ∨ q = 22 ∨ q = 23 ∨ q = 24 ∨ q = 25 ∨ q = 26 ∨ q = 27 ∨ q = 28 ∨ q = 29 ∨ q = 30 ∨ q = 31 ∨ q = 32 ∨ q = 33 ∨ q = 34 ∨ q = 35 ∨ q = 36 ∨ q = 37 ∨ q = 38 ∨ q = 39 ∨ q = 40 by omega) with rfl | rfl | rfl | rfl | rfl | rfl | rfl | rfl | rfl | rfl | rfl | rfl | rfl | rfl | rfl | rfl | rfl | rfl | rfl | rfl | rfl | rfl | rfl | rfl <;> first | exact lv_neT hq0 (by decide) | exact lv_neT hq1 (by decide) | exact lv_neT hq2 (by decide) | exact lv_neT hq3 (by decide) | exact lv_neT hq4 (by decide) | exact lv_neT hq5 (by decide) | exact lv_neT hq6 (by decide) | exact lv_neT hq7 (by decide) | exact lv_neT hq8 (by decide) | exact lv_neT hq9 (by decide) | exact lv_neT hq10 (by decide) | exact lv_neT hq11 (by decide) | exact lv_neT hq12 (by decide) | exact lv_neT hq13 (by decide) | exact lv_neT hq14 (by decide) | exact lv_neT hq15 (by decide) | exact lv_neT hq16 (by decide) | exact lv_neT hq17 (by decide) | exact lv_neT hq18 (by decide) | exact lv_neT hq19 (by decide) | exact lv_neT hq20 (by decide) | exact lv_neT hq21 (by decide) | exact lv_neT hq22 (by decide) | exact lv_neT hq23 (by decide))) (by decide) ?_
  refine a_iload_n C 1 dX2_joined_228 rfl rfl ?_
  refine a_iload_n C 2 dX2_joined_229 rfl rfl ?_
  refine a_ior C dX2_joined_230 ?_
  refine a_i2l C dX2_joined_231 ?_
  exact a_lret C dX2_joined_232 h

/-! RainOnTheOne$Judge.named(I[II)I -/
def wp_X2_named (b : Nat) (a0 : Int32) (a2 : Int32) (u : PoS) (post : Int32 → PoS → Prop) : Prop := vp_in (0 + a2) (rowLen b) ∧ ∀ x1 : Int32, x1 = (gI u (3 + b) (Int32.toNatClampNeg (0 + a2))) → ((a0 = 9 → vp_in 51 (rowLen b) ∧ post (gI u (3 + b) 51) u) ∧ (a0 = 10 → post a2 u) ∧ (a0 = 11 → vp_in (10 + a2) (rowLen b) ∧ post (gI u (3 + b) (Int32.toNatClampNeg (10 + a2))) u) ∧ (a0 = 12 → vp_in (15 + a2) (rowLen b) ∧ post (gI u (3 + b) (Int32.toNatClampNeg (15 + a2))) u) ∧ (a0 = 13 → post x1 u) ∧ (a0 = 14 → vp_in (86 + x1) (rowLen b) ∧ post (gI u (3 + b) (Int32.toNatClampNeg (86 + x1))) u) ∧ (¬ a0 = 9 → ¬ a0 = 10 → ¬ a0 = 11 → ¬ a0 = 12 → ¬ a0 = 13 → ¬ a0 = 14 → vp_in (20 + x1) (rowLen b) ∧ post (gI u (3 + b) (Int32.toNatClampNeg (20 + x1))) u))
theorem np_X2_named : yX2_named.cls ≠ "java/lang/invoke/MethodHandle" ∧ yX2_named.cls ≠ "java/lang/invoke/VarHandle" ∧ (parseMethodDescriptor yX2_named.desc).map (fun d => d.parameters.length) = some 3 := by decide +kernel
set_option maxHeartbeats 4000000 in
set_option maxRecDepth 100000 in
theorem m_X2_named (l : Launch) (V : VEn) {b : Nat} (hb : b < 2) {a0 : Int32} {a2 : Int32} {u : PoS} {post : Int32 → PoS → Prop} (h : wp_X2_named b a0 a2 u post) : KI l V yX2_named cX2_named 4 .int 0 [.int a0, .ref (eA V (3 + b)), .int a2] u post := by
  refine KI_of (by decide) (Nat.le_of_ble_eq_true rfl) (lv := [(0, .int a0), (1, .ref (eA V (3 + b))), (2, .int a2)]) rfl ?_
  intro p e s m args below meth c C
  rw [wp_X2_named] at h
  refine a_aload_n C 1 dX2_named_0 rfl rfl ?_
  refine a_iconst C 0 dX2_named_1 (by decide) ?_
  refine a_iload_n C 2 dX2_named_2 rfl rfl ?_
  refine a_iadd C dX2_named_3 ?_
  refine b_iald C (Int32.toNatClampNeg (0 + a2)) dX2_named_4 (by have := hb; omega) (lay_row hb) h.1 rfl ?_
  have h := h.2
  refine a_topi (fun x1 ex1 => ?_)
  have h := h x1 ex1
  refine a_istore_n C [(3, .int x1), (0, .int a0), (1, .ref (eA V (3 + b))), (2, .int a2)] dX2_named_5 rfl (by decide) rfl ?_
  refine a_iload_n C 1 dX2_named_6 rfl rfl ?_
  obtain ⟨hs0, hs1, hs2, hs3, hs4, hs5, hd0⟩ := h
  by_cases hq0 : a0 = 9
  · have h := hs0 hq0
    refine a_tableIn C (off := 37) 44 dX2_named_7 (by rw [hq0]; decide) (by rw [hq0]; decide) (by rw [hq0]; decide +kernel) (by decide) ?_
    refine a_aload_n C 2 dX2_named_44 rfl rfl ?_
    refine a_bipush C 51 dX2_named_45 (by decide) ?_
    refine b_iald C 51 dX2_named_47 (by have := hb; omega) (lay_row hb) h.1 (by decide) ?_
    have h := h.2
    exact a_iret C dX2_named_48 h
  by_cases hq1 : a0 = 10
  · have h := hs1 hq1
    refine a_tableIn C (off := 42) 49 dX2_named_7 (by rw [hq1]; decide) (by rw [hq1]; decide) (by rw [hq1]; decide +kernel) (by decide) ?_
    refine a_iload_n C 3 dX2_named_49 rfl rfl ?_
    exact a_iret C dX2_named_50 h
  by_cases hq2 : a0 = 11
  · have h := hs2 hq2
    refine a_tableIn C (off := 44) 51 dX2_named_7 (by rw [hq2]; decide) (by rw [hq2]; decide) (by rw [hq2]; decide +kernel) (by decide) ?_
    refine a_aload_n C 2 dX2_named_51 rfl rfl ?_
    refine a_bipush C 10 dX2_named_52 (by decide) ?_
    refine a_iload_n C 3 dX2_named_54 rfl rfl ?_
    refine a_iadd C dX2_named_55 ?_
    refine b_iald C (Int32.toNatClampNeg (10 + a2)) dX2_named_56 (by have := hb; omega) (lay_row hb) h.1 rfl ?_
    have h := h.2
    exact a_iret C dX2_named_57 h
  by_cases hq3 : a0 = 12
  · have h := hs3 hq3
    refine a_tableIn C (off := 51) 58 dX2_named_7 (by rw [hq3]; decide) (by rw [hq3]; decide) (by rw [hq3]; decide +kernel) (by decide) ?_
    refine a_aload_n C 2 dX2_named_58 rfl rfl ?_
    refine a_bipush C 15 dX2_named_59 (by decide) ?_
    refine a_iload_n C 3 dX2_named_61 rfl rfl ?_
    refine a_iadd C dX2_named_62 ?_
    refine b_iald C (Int32.toNatClampNeg (15 + a2)) dX2_named_63 (by have := hb; omega) (lay_row hb) h.1 rfl ?_
    have h := h.2
    exact a_iret C dX2_named_64 h
  by_cases hq4 : a0 = 13
  · have h := hs4 hq4
    refine a_tableIn C (off := 58) 65 dX2_named_7 (by rw [hq4]; decide) (by rw [hq4]; decide) (by rw [hq4]; decide +kernel) (by decide) ?_
    refine a_iload_n C 0 dX2_named_65 rfl rfl ?_
    exact a_iret C dX2_named_66 h
  by_cases hq5 : a0 = 14
  · have h := hs5 hq5
    refine a_tableIn C (off := 60) 67 dX2_named_7 (by rw [hq5]; decide) (by rw [hq5]; decide) (by rw [hq5]; decide +kernel) (by decide) ?_
    refine a_aload_n C 2 dX2_named_67 rfl rfl ?_
    refine a_bipush C 86 dX2_named_68 (by decide) ?_
    refine a_iload_n C 0 dX2_named_70 rfl rfl ?_
    refine a_iadd C dX2_named_71 ?_
    refine b_iald C (Int32.toNatClampNeg (86 + x1)) dX2_named_72 (by have := hb; omega) (lay_row hb) h.1 rfl ?_
    have h := h.2
    exact a_iret C dX2_named_73 h
  have h := hd0 hq0 hq1 hq2 hq3 hq4 hq5
  refine a_tableOut C 74 dX2_named_7 (tsw_out 9 14 (fun q h1 h2 => by rcases (show q = 9 ∨ q = 10 ∨ q = 11 ∨ q = 12 ∨ q = 13 ∨ q = 14 by omega) with rfl | rfl | rfl | rfl | rfl | rfl <;> first | exact lv_neT hq0 (by decide) | exact lv_neT hq1 (by decide) | exact lv_neT hq2 (by decide) | exact lv_neT hq3 (by decide) | exact lv_neT hq4 (by decide) | exact lv_neT hq5 (by decide))) (by decide) ?_
  refine a_aload_n C 2 dX2_named_74 rfl rfl ?_
  refine a_bipush C 20 dX2_named_75 (by decide) ?_
  refine a_iload_n C 0 dX2_named_77 rfl rfl ?_
  refine a_iadd C dX2_named_78 ?_
  refine b_iald C (Int32.toNatClampNeg (20 + x1)) dX2_named_79 (by have := hb; omega) (lay_row hb) h.1 rfl ?_
  have h := h.2
  exact a_iret C dX2_named_80 h

/-! RainOnTheOne$Token.isName(I)Z -/
def wp_X9_isName (a0 : Int32) (u : PoS) (post : Int32 → PoS → Prop) : Prop := ((a0 < 9 → post 0 u) ∧ (¬ a0 < 9 → ((16 < a0 → post 0 u) ∧ (¬ 16 < a0 → post 1 u))))
theorem np_X9_isName : yX9_isName.cls ≠ "java/lang/invoke/MethodHandle" ∧ yX9_isName.cls ≠ "java/lang/invoke/VarHandle" ∧ (parseMethodDescriptor yX9_isName.desc).map (fun d => d.parameters.length) = some 1 := by decide +kernel
set_option maxHeartbeats 4000000 in
set_option maxRecDepth 100000 in
theorem m_X9_isName (l : Launch) (V : VEn) {a0 : Int32} {u : PoS} {post : Int32 → PoS → Prop} (h : wp_X9_isName a0 u post) : KI l V yX9_isName cX9_isName 1 .boolean 0 [.int a0] u post := by
  refine KI_of (by decide) (Nat.le_of_ble_eq_true rfl) (lv := [(0, .int a0)]) rfl ?_
  intro p e s m args below meth c C
  rw [wp_X9_isName] at h
  refine a_iload_n C 0 dX9_isName_0 rfl rfl ?_
  refine a_bipush C 9 dX9_isName_1 (by decide) ?_
  refine a_icmp_lt C 16 dX9_isName_3 (by decide) (fun c2 => ?_) (fun c2 => ?_)
  · have h := h.1 c2
    refine a_iconst C 0 dX9_isName_16 (by decide) ?_
    exact a_zret C rfl dX9_isName_17 h
  · have h := h.2 c2
    refine a_iload_n C 0 dX9_isName_6 rfl rfl ?_
    refine a_bipush C 16 dX9_isName_7 (by decide) ?_
    refine a_icmp_gt C 16 dX9_isName_9 (by decide) (fun c1 => ?_) (fun c1 => ?_)
    · have h := h.1 c1
      refine a_iconst C 0 dX9_isName_16 (by decide) ?_
      exact a_zret C rfl dX9_isName_17 h
    · have h := h.2 c1
      refine a_iconst C 1 dX9_isName_12 (by decide) ?_
      refine a_goto C 17 dX9_isName_13 (by decide) ?_
      exact a_zret C rfl dX9_isName_17 h

/-! RainOnTheOne$Judge.says(LRainOnTheOne$Law;I[III)I -/
def wj_X2_says_373 (i : Nat) (b : Nat) (k6 : Int32 → Int32 → Int32 → Int32 → PoS → Prop) (post : Int32 → PoS → Prop) (v4 : Int32) (v5 : Int32) (v6 : Int32) (v7 : Int32) (u : PoS) : Prop := k6 v4 v5 v6 (v7 + 1) u
def wj_X2_says_317 (i : Nat) (b : Nat) (k6 : Int32 → Int32 → Int32 → Int32 → PoS → Prop) (post : Int32 → PoS → Prop) (v4 : Int32) (v5 : Int32) (v6 : Int32) (v7 : Int32) (v8 : Int32) (u : PoS) : Prop := ((v6 ≤ 1 → wj_X2_says_373 i b k6 post v4 v5 v6 v7 u) ∧ (¬ v6 ≤ 1 → vp_in ((v6 + (-1)) - 1) 64 ∧ vp_in (v6 + (-1)) 64 ∧ wp_X2_joined v8 (gI u 47 (Int32.toNatClampNeg ((v6 + (-1)) - 1))) (gI u 47 (Int32.toNatClampNeg (v6 + (-1)))) u (fun (r5 : Int64) (u6 : PoS) => vp_in ((v6 + (-1)) - 1) 64 ∧ ∀ z7 : PoS, z7 = pI u6 47 (Int32.toNatClampNeg ((v6 + (-1)) - 1)) (Int64.toInt32 (lmax (-1000000) (lmin 1000000 r5))) → wj_X2_says_373 i b k6 post v4 v5 (v6 + (-1)) v7 z7)))
def wj_X2_says_313 (i : Nat) (b : Nat) (k6 : Int32 → Int32 → Int32 → Int32 → PoS → Prop) (post : Int32 → PoS → Prop) (v4 : Int32) (v5 : Int32) (v6 : Int32) (v7 : Int32) (s0 : Int32) (s1 : Int32) (u : PoS) : Prop := vp_in s1 64 ∧ ∀ z12 : PoS, z12 = pI u 47 (Int32.toNatClampNeg s1) s0 → wj_X2_says_373 i b k6 post v4 v5 v6 v7 z12
def wj_X2_says_263 (i : Nat) (b : Nat) (k6 : Int32 → Int32 → Int32 → Int32 → PoS → Prop) (post : Int32 → PoS → Prop) (v4 : Int32) (v5 : Int32) (v6 : Int32) (v7 : Int32) (v8 : Int32) (u : PoS) : Prop := ((¬ v8 = 18 → wj_X2_says_317 i b k6 post v4 v5 v6 v7 v8 u) ∧ (v8 = 18 → ((v6 ≤ 0 → wj_X2_says_317 i b k6 post v4 v5 v6 v7 v8 u) ∧ (¬ v6 ≤ 0 → vp_in (v6 - 1) 64 ∧ ∀ x9 : Int32, x9 = (gI u 47 (Int32.toNatClampNeg (v6 - 1))) → wp_X11_isCell x9 u (fun (r10 : Int32) (u11 : PoS) => ((r10 = 0 → wj_X2_says_313 i b k6 post v4 v5 v6 v7 0 (v6 - 1) u11) ∧ (¬ r10 = 0 → vp_in (20 + x9) (rowLen b) ∧ wj_X2_says_313 i b k6 post v4 v5 v6 v7 (gI u11 (3 + b) (Int32.toNatClampNeg (20 + x9))) (v6 - 1) u11)))))))
def wj_X2_says_228 (i : Nat) (b : Nat) (k6 : Int32 → Int32 → Int32 → Int32 → PoS → Prop) (post : Int32 → PoS → Prop) (v4 : Int32) (v5 : Int32) (v6 : Int32) (v7 : Int32) (v8 : Int32) (u : PoS) : Prop := ((¬ v8 = 20 → wj_X2_says_263 i b k6 post v4 v5 v6 v7 v8 u) ∧ (v8 = 20 → ((v6 ≤ 0 → wj_X2_says_263 i b k6 post v4 v5 v6 v7 v8 u) ∧ (¬ v6 ≤ 0 → vp_in (v6 - 1) 64 ∧ vp_in (v6 - 1) 64 ∧ ∀ z16 : PoS, z16 = pI u 47 (Int32.toNatClampNeg (v6 - 1)) (1 - (gI u 47 (Int32.toNatClampNeg (v6 - 1)))) → wj_X2_says_373 i b k6 post v4 v5 v6 v7 z16))))
def wj_X2_says_194 (i : Nat) (b : Nat) (k6 : Int32 → Int32 → Int32 → Int32 → PoS → Prop) (post : Int32 → PoS → Prop) (v4 : Int32) (v5 : Int32) (v6 : Int32) (v7 : Int32) (v8 : Int32) (u : PoS) : Prop := ((¬ v8 = 45 → wj_X2_says_228 i b k6 post v4 v5 v6 v7 v8 u) ∧ (v8 = 45 → ((v6 ≤ 0 → wj_X2_says_228 i b k6 post v4 v5 v6 v7 v8 u) ∧ (¬ v6 ≤ 0 → vp_in (v6 - 1) 64 ∧ vp_in (v6 - 1) 64 ∧ ∀ z19 : PoS, z19 = pI u 47 (Int32.toNatClampNeg (v6 - 1)) (-(gI u 47 (Int32.toNatClampNeg (v6 - 1)))) → wj_X2_says_373 i b k6 post v4 v5 v6 v7 z19))))
def wj_X2_says_189 (i : Nat) (b : Nat) (k6 : Int32 → Int32 → Int32 → Int32 → PoS → Prop) (post : Int32 → PoS → Prop) (v4 : Int32) (v5 : Int32) (v6 : Int32) (s0 : Int32) (u : PoS) : Prop := wj_X2_says_373 i b k6 post v4 v5 v6 s0 u
def wj_X2_says_122 (i : Nat) (b : Nat) (k6 : Int32 → Int32 → Int32 → Int32 → PoS → Prop) (post : Int32 → PoS → Prop) (v4 : Int32) (v5 : Int32) (v6 : Int32) (v7 : Int32) (s0 : Int32) (s1 : Int32) (u : PoS) : Prop := vp_in s1 64 ∧ ∀ z29 : PoS, z29 = pI u 47 (Int32.toNatClampNeg s1) s0 → wj_X2_says_373 i b k6 post v4 v5 (v6 + 1) v7 z29
def wl_X2_says_6 (i : Nat) (b : Nat) (k379 : Int32 → PoS → Prop) (k63 : Int32 → PoS → Prop) (post : Int32 → PoS → Prop) : Nat → Int32 → Int32 → Int32 → Int32 → PoS → Prop
  | 0, _, _, _, _, _ => False
  | n + 1, v4, v5, v6, v7, u => ((v7 < 0 → k379 v6 u) ∧ (¬ v7 < 0 → (((gI u (7 + i) 5) ≤ v7 → k379 v6 u) ∧ (¬ (gI u (7 + i) 5) ≤ v7 → ((64 ≤ (v6 + 1) → k379 v6 u) ∧ (¬ 64 ≤ (v6 + 1) → vp_in v7 300 ∧ ∀ x1 : Int32, x1 = (irem (gI u (14 + 4 * i) (Int32.toNatClampNeg v7)) 64) → vp_in v7 300 ∧ ∀ x2 : Int32, x2 = ((gI u (14 + 4 * i) (Int32.toNatClampNeg v7)) / 64) → ((¬ x1 = 48 → ((¬ x1 = 41 → wp_X9_isName x1 u (fun (r3 : Int32) (u4 : PoS) => ((r3 = 0 → ((¬ x1 = 46 → ((¬ x1 = 47 → wj_X2_says_194 i b (wl_X2_says_6 i b k379 k63 post n) post v4 v5 v6 v7 x1 u4) ∧ (x1 = 47 → ((v6 ≤ 0 → wj_X2_says_194 i b (wl_X2_says_6 i b k379 k63 post n) post v4 v5 v6 v7 x1 u4) ∧ (¬ v6 ≤ 0 → vp_in (v6 + (-1)) 64 ∧ ((¬ (gI u4 47 (Int32.toNatClampNeg (v6 + (-1)))) = 0 → wj_X2_says_189 i b (wl_X2_says_6 i b k379 k63 post n) post v4 v5 (v6 + (-1)) v7 u4) ∧ ((gI u4 47 (Int32.toNatClampNeg (v6 + (-1)))) = 0 → wj_X2_says_189 i b (wl_X2_says_6 i b k379 k63 post n) post v4 v5 (v6 + (-1)) (imax v7 (x2 - 1)) u4))))))) ∧ (x1 = 46 → ∀ x25 : Int32, x25 = (imax v7 (x2 - 1)) → wj_X2_says_373 i b (wl_X2_says_6 i b k379 k63 post n) post v4 v5 v6 x25 u4))) ∧ (¬ r3 = 0 → ((¬ x1 = 16 → wp_X2_named b x1 v4 u4 (fun (r27 : Int32) (u28 : PoS) => wj_X2_says_122 i b (wl_X2_says_6 i b k379 k63 post n) post v4 v5 v6 v7 r27 v6 u28)) ∧ (x1 = 16 → wj_X2_says_122 i b (wl_X2_says_6 i b k379 k63 post n) post v4 v5 v6 v7 v5 v6 u4)))))) ∧ (x1 = 41 → vp_in v6 64 ∧ ∀ z32 : PoS, z32 = pI u 47 (Int32.toNatClampNeg v6) x2 → wj_X2_says_373 i b (wl_X2_says_6 i b k379 k63 post n) post v4 v5 (v6 + 1) v7 z32))) ∧ (x1 = 48 → k63 v6 u))))))))
def wj_X2_says_379 (i : Nat) (b : Nat) (post : Int32 → PoS → Prop) (v6 : Int32) (u : PoS) : Prop := ((v6 ≤ 0 → post 0 u) ∧ (¬ v6 ≤ 0 → post (gI u 47 0) u))
def wp_X2_says (i : Nat) (b : Nat) (a1 : Int32) (a3 : Int32) (a4 : Int32) (u : PoS) (post : Int32 → PoS → Prop) : Prop := (∃ n6, wl_X2_says_6 i b (fun (v638 : Int32) (u38 : PoS) => wj_X2_says_379 i b post v638 u38) (fun (v640 : Int32) (u40 : PoS) => wj_X2_says_379 i b post v640 u40) post n6 a3 a4 0 a1 u)
set_option maxHeartbeats 4000000 in
set_option maxRecDepth 100000 in
theorem tj_X2_says_373 {p : Program} {l : Launch} {e : Env} {s : State} {m : MethodId} {args : Array Value} {below : List Frame} {meth : Method} {c : Code} {V : VEn} {i : Nat} {b : Nat} {k6 : Int32 → Int32 → Int32 → Int32 → PoS → Prop} {post : Int32 → PoS → Prop} (C : CxS p s m args meth c V cX2_says 12 RX2 (some .int)) (hi : i < 4) (hb : b < 2) (hk6 : ∀ (v4 : Int32) (v5 : Int32) (v6 : Int32) (v7 : Int32) (u : PoS), k6 v4 v5 v6 v7 u → AtS p l e (Rm 1) s m args below meth c V 12 0 0 (QI V below args s post) 6 [(0, .ref (eA V 46)), (1, .ref (eA V (7 + i))), (3, .ref (eA V (3 + b))), (4, .int v4), (5, .int v5), (6, .int v6), (7, .int v7)] [] u) (v4 : Int32) (v5 : Int32) (v6 : Int32) (v7 : Int32) (u : PoS) (h : wj_X2_says_373 i b k6 post v4 v5 v6 v7 u) : AtS p l e (Rm 1) s m args below meth c V 12 0 0 (QI V below args s post) 373 [(0, .ref (eA V 46)), (1, .ref (eA V (7 + i))), (3, .ref (eA V (3 + b))), (4, .int v4), (5, .int v5), (6, .int v6), (7, .int v7)] [] u := by
  rw [wj_X2_says_373] at h
  refine a_iinc C (v7 + 1) 6 [(7, .int (v7 + 1)), (0, .ref (eA V 46)), (1, .ref (eA V (7 + i))), (3, .ref (eA V (3 + b))), (4, .int v4), (5, .int v5), (6, .int v6)] dX2_says_373 rfl (congrArg (fun z => v7 + z) (show Int32.ofInt 1 = 1 by decide)) (by decide) rfl ?_
  refine a_goto C 6 dX2_says_376 (by decide) ?_
  refine a_sub [1, 2, 3, 4, 5, 6, 0] rfl ?_
  exact hk6 _ _ _ _ _ h
set_option maxHeartbeats 4000000 in
set_option maxRecDepth 100000 in
theorem tj_X2_says_317 {p : Program} {l : Launch} {e : Env} {s : State} {m : MethodId} {args : Array Value} {below : List Frame} {meth : Method} {c : Code} {V : VEn} {i : Nat} {b : Nat} {k6 : Int32 → Int32 → Int32 → Int32 → PoS → Prop} {post : Int32 → PoS → Prop} (C : CxS p s m args meth c V cX2_says 12 RX2 (some .int)) (hi : i < 4) (hb : b < 2) (hk6 : ∀ (v4 : Int32) (v5 : Int32) (v6 : Int32) (v7 : Int32) (u : PoS), k6 v4 v5 v6 v7 u → AtS p l e (Rm 1) s m args below meth c V 12 0 0 (QI V below args s post) 6 [(0, .ref (eA V 46)), (1, .ref (eA V (7 + i))), (3, .ref (eA V (3 + b))), (4, .int v4), (5, .int v5), (6, .int v6), (7, .int v7)] [] u) (v4 : Int32) (v5 : Int32) (v6 : Int32) (v7 : Int32) (v8 : Int32) (u : PoS) (h : wj_X2_says_317 i b k6 post v4 v5 v6 v7 v8 u) : AtS p l e (Rm 1) s m args below meth c V 12 0 0 (QI V below args s post) 317 [(0, .ref (eA V 46)), (1, .ref (eA V (7 + i))), (3, .ref (eA V (3 + b))), (4, .int v4), (5, .int v5), (6, .int v6), (7, .int v7), (8, .int v8)] [] u := by
  rw [wj_X2_says_317] at h
  refine a_iload C 5 dX2_says_317 rfl ?_
  refine a_iconst C 1 dX2_says_319 (by decide) ?_
  refine a_icmp_le C 373 dX2_says_320 (by decide) (fun c8 => ?_) (fun c8 => ?_)
  · have h := h.1 c8
    refine a_sub [0, 1, 2, 3, 4, 5, 6] rfl ?_
    refine tj_X2_says_373 C hi hb hk6 _ _ _ _ _ h
  · have h := h.2 c8
    refine a_iinc C (v6 + (-1)) 5 [(6, .int (v6 + (-1))), (0, .ref (eA V 46)), (1, .ref (eA V (7 + i))), (3, .ref (eA V (3 + b))), (4, .int v4), (5, .int v5), (7, .int v7), (8, .int v8)] dX2_says_323 rfl (congrArg (fun z => v6 + z) (show Int32.ofInt (-1) = (-1) by decide)) (by decide) rfl ?_
    refine a_iload C 7 dX2_says_326 rfl ?_
    refine a_aload_n C 1 dX2_says_328 rfl rfl ?_
    refine a_getr C 0 (r := 47) dX2_says_329 (by decide) rfl rfl rfl ib_2 (by decide) bw_280 ?_
    refine a_iload C 0 dX2_says_332 rfl ?_
    refine a_iconst C 1 dX2_says_334 (by decide) ?_
    refine a_isub C dX2_says_335 ?_
    refine b_iald C (Int32.toNatClampNeg ((v6 + (-1)) - 1)) dX2_says_336 (by decide) rfl h.1 rfl ?_
    have h := h.2
    refine a_aload_n C 1 dX2_says_337 rfl rfl ?_
    refine a_getr C 0 (r := 47) dX2_says_338 (by decide) rfl rfl rfl ib_2 (by decide) bw_280 ?_
    refine a_iload C 0 dX2_says_341 rfl ?_
    refine b_iald C (Int32.toNatClampNeg (v6 + (-1))) dX2_says_343 (by decide) rfl h.1 rfl ?_
    have h := h.2
    refine a_callSl C dX2_says_344 (m_X2_joined l V h) bw_704 bw_705 bw_118 bw_706 np_X2_joined rfl rfl (by decide) (Nat.le_of_ble_eq_true rfl) ⟨Nat.zero_le _, Nat.zero_le _⟩ (fun r5 u6 h => ?_)
    refine a_lstore C [(10, .long r5), (6, .int (v6 + (-1))), (0, .ref (eA V 46)), (1, .ref (eA V (7 + i))), (3, .ref (eA V (3 + b))), (4, .int v4), (5, .int v5), (7, .int v7), (8, .int v8)] dX2_says_347 (by decide) rfl ?_
    refine a_aload_n C 2 dX2_says_349 rfl rfl ?_
    refine a_getr C 0 (r := 47) dX2_says_350 (by decide) rfl rfl rfl ib_2 (by decide) bw_280 ?_
    refine a_iload C 1 dX2_says_353 rfl ?_
    refine a_iconst C 1 dX2_says_355 (by decide) ?_
    refine a_isub C dX2_says_356 ?_
    refine a_ldc2 C dX2_says_357 bw_707 ?_
    refine a_ldc2 C dX2_says_360 bw_708 ?_
    refine a_lload C 0 dX2_says_363 rfl ?_
    refine b_mminL C dX2_says_365 bw_709 bw_710 bw_121 bw_711 (by decide) (Nat.le_of_ble_eq_true rfl) ⟨Nat.zero_le _, Nat.zero_le _⟩ ?_
    refine b_mmaxL C dX2_says_368 bw_712 bw_713 bw_121 bw_714 (by decide) (Nat.le_of_ble_eq_true rfl) ⟨Nat.zero_le _, Nat.zero_le _⟩ ?_
    refine a_l2i C dX2_says_371 ?_
    refine b_iast C (Int32.toNatClampNeg ((v6 + (-1)) - 1)) dX2_says_372 (by decide) rfl h.1 rfl ?_
    have h := h.2
    refine a_topu (fun z7 ez7 => ?_)
    have h := h z7 ez7
    refine a_sub [2, 3, 4, 5, 6, 1, 7] rfl ?_
    refine tj_X2_says_373 C hi hb hk6 _ _ _ _ _ h
set_option maxHeartbeats 4000000 in
set_option maxRecDepth 100000 in
theorem tj_X2_says_313 {p : Program} {l : Launch} {e : Env} {s : State} {m : MethodId} {args : Array Value} {below : List Frame} {meth : Method} {c : Code} {V : VEn} {i : Nat} {b : Nat} {k6 : Int32 → Int32 → Int32 → Int32 → PoS → Prop} {post : Int32 → PoS → Prop} (C : CxS p s m args meth c V cX2_says 12 RX2 (some .int)) (hi : i < 4) (hb : b < 2) (hk6 : ∀ (v4 : Int32) (v5 : Int32) (v6 : Int32) (v7 : Int32) (u : PoS), k6 v4 v5 v6 v7 u → AtS p l e (Rm 1) s m args below meth c V 12 0 0 (QI V below args s post) 6 [(0, .ref (eA V 46)), (1, .ref (eA V (7 + i))), (3, .ref (eA V (3 + b))), (4, .int v4), (5, .int v5), (6, .int v6), (7, .int v7)] [] u) (v4 : Int32) (v5 : Int32) (v6 : Int32) (v7 : Int32) (s0 : Int32) (s1 : Int32) (u : PoS) (h : wj_X2_says_313 i b k6 post v4 v5 v6 v7 s0 s1 u) : AtS p l e (Rm 1) s m args below meth c V 12 0 0 (QI V below args s post) 313 [(0, .ref (eA V 46)), (1, .ref (eA V (7 + i))), (3, .ref (eA V (3 + b))), (4, .int v4), (5, .int v5), (6, .int v6), (7, .int v7)] [.int s0, .int s1, .ref (eA V 47)] u := by
  rw [wj_X2_says_313] at h
  refine b_iast C (Int32.toNatClampNeg s1) dX2_says_313 (by decide) rfl h.1 rfl ?_
  have h := h.2
  refine a_topu (fun z12 ez12 => ?_)
  have h := h z12 ez12
  refine a_goto C 373 dX2_says_314 (by decide) ?_
  refine tj_X2_says_373 C hi hb hk6 _ _ _ _ _ h
set_option maxHeartbeats 4000000 in
set_option maxRecDepth 100000 in
theorem tj_X2_says_263 {p : Program} {l : Launch} {e : Env} {s : State} {m : MethodId} {args : Array Value} {below : List Frame} {meth : Method} {c : Code} {V : VEn} {i : Nat} {b : Nat} {k6 : Int32 → Int32 → Int32 → Int32 → PoS → Prop} {post : Int32 → PoS → Prop} (C : CxS p s m args meth c V cX2_says 12 RX2 (some .int)) (hi : i < 4) (hb : b < 2) (hk6 : ∀ (v4 : Int32) (v5 : Int32) (v6 : Int32) (v7 : Int32) (u : PoS), k6 v4 v5 v6 v7 u → AtS p l e (Rm 1) s m args below meth c V 12 0 0 (QI V below args s post) 6 [(0, .ref (eA V 46)), (1, .ref (eA V (7 + i))), (3, .ref (eA V (3 + b))), (4, .int v4), (5, .int v5), (6, .int v6), (7, .int v7)] [] u) (v4 : Int32) (v5 : Int32) (v6 : Int32) (v7 : Int32) (v8 : Int32) (u : PoS) (h : wj_X2_says_263 i b k6 post v4 v5 v6 v7 v8 u) : AtS p l e (Rm 1) s m args below meth c V 12 0 0 (QI V below args s post) 263 [(0, .ref (eA V 46)), (1, .ref (eA V (7 + i))), (3, .ref (eA V (3 + b))), (4, .int v4), (5, .int v5), (6, .int v6), (7, .int v7), (8, .int v8)] [] u := by
  rw [wj_X2_says_263] at h
  refine a_iload C 7 dX2_says_263 rfl ?_
  refine a_bipush C 18 dX2_says_265 (by decide) ?_
  refine a_icmp_ne C 317 dX2_says_267 (by decide) (fun c15 => ?_) (fun c15 => ?_)
  · have h := h.1 c15
    refine tj_X2_says_317 C hi hb hk6 _ _ _ _ _ _ h
  · have h := h.2 c15
    refine a_iload C 5 dX2_says_270 rfl ?_
    refine a_if_le C 317 dX2_says_272 (by decide) (fun c14 => ?_) (fun c14 => ?_)
    · have h := h.1 c14
      refine tj_X2_says_317 C hi hb hk6 _ _ _ _ _ _ h
    · have h := h.2 c14
      refine a_aload_n C 0 dX2_says_275 rfl rfl ?_
      refine a_getr C 0 (r := 47) dX2_says_276 (by decide) rfl rfl rfl ib_2 (by decide) bw_280 ?_
      refine a_iload C 5 dX2_says_279 rfl ?_
      refine a_iconst C 1 dX2_says_281 (by decide) ?_
      refine a_isub C dX2_says_282 ?_
      refine b_iald C (Int32.toNatClampNeg (v6 - 1)) dX2_says_283 (by decide) rfl h.1 rfl ?_
      have h := h.2
      refine a_topi (fun x9 ex9 => ?_)
      have h := h x9 ex9
      refine a_istore C [(10, .int x9), (0, .ref (eA V 46)), (1, .ref (eA V (7 + i))), (3, .ref (eA V (3 + b))), (4, .int v4), (5, .int v5), (6, .int v6), (7, .int v7), (8, .int v8)] dX2_says_284 (by decide) rfl ?_
      refine a_aload_n C 1 dX2_says_286 rfl rfl ?_
      refine a_getr C 0 (r := 47) dX2_says_287 (by decide) rfl rfl rfl ib_2 (by decide) bw_280 ?_
      refine a_iload C 6 dX2_says_290 rfl ?_
      refine a_iconst C 1 dX2_says_292 (by decide) ?_
      refine a_isub C dX2_says_293 ?_
      refine a_iload C 0 dX2_says_294 rfl ?_
      refine a_callNi C dX2_says_296 (m_X11_isCell l V h) C.2.2.2.2.2.2.2.2.2.1.2.2 bw_398 bw_112 bw_399 np_X11_isCell rfl rfl (by decide) (Nat.le_of_ble_eq_true rfl) ⟨Nat.zero_le _, Nat.zero_le _⟩ (fun r10 u11 h => ?_)
      refine a_if_eq C 312 dX2_says_299 (by decide) (fun c13 => ?_) (fun c13 => ?_)
      · have h := h.1 c13
        refine a_iconst C 0 dX2_says_312 (by decide) ?_
        refine a_sub [1, 2, 3, 4, 5, 6, 7] rfl ?_
        refine tj_X2_says_313 C hi hb hk6 _ _ _ _ _ _ _ h
      · have h := h.2 c13
        refine a_aload_n C 3 dX2_says_302 rfl rfl ?_
        refine a_bipush C 20 dX2_says_303 (by decide) ?_
        refine a_iload C 0 dX2_says_305 rfl ?_
        refine a_iadd C dX2_says_307 ?_
        refine b_iald C (Int32.toNatClampNeg (20 + x9)) dX2_says_308 (by have := hb; omega) (lay_row hb) h.1 rfl ?_
        have h := h.2
        refine a_goto C 313 dX2_says_309 (by decide) ?_
        refine a_sub [1, 2, 3, 4, 5, 6, 7] rfl ?_
        refine tj_X2_says_313 C hi hb hk6 _ _ _ _ _ _ _ h
set_option maxHeartbeats 4000000 in
set_option maxRecDepth 100000 in
theorem tj_X2_says_228 {p : Program} {l : Launch} {e : Env} {s : State} {m : MethodId} {args : Array Value} {below : List Frame} {meth : Method} {c : Code} {V : VEn} {i : Nat} {b : Nat} {k6 : Int32 → Int32 → Int32 → Int32 → PoS → Prop} {post : Int32 → PoS → Prop} (C : CxS p s m args meth c V cX2_says 12 RX2 (some .int)) (hi : i < 4) (hb : b < 2) (hk6 : ∀ (v4 : Int32) (v5 : Int32) (v6 : Int32) (v7 : Int32) (u : PoS), k6 v4 v5 v6 v7 u → AtS p l e (Rm 1) s m args below meth c V 12 0 0 (QI V below args s post) 6 [(0, .ref (eA V 46)), (1, .ref (eA V (7 + i))), (3, .ref (eA V (3 + b))), (4, .int v4), (5, .int v5), (6, .int v6), (7, .int v7)] [] u) (v4 : Int32) (v5 : Int32) (v6 : Int32) (v7 : Int32) (v8 : Int32) (u : PoS) (h : wj_X2_says_228 i b k6 post v4 v5 v6 v7 v8 u) : AtS p l e (Rm 1) s m args below meth c V 12 0 0 (QI V below args s post) 228 [(0, .ref (eA V 46)), (1, .ref (eA V (7 + i))), (3, .ref (eA V (3 + b))), (4, .int v4), (5, .int v5), (6, .int v6), (7, .int v7), (8, .int v8)] [] u := by
  rw [wj_X2_says_228] at h
  refine a_iload C 7 dX2_says_228 rfl ?_
  refine a_bipush C 20 dX2_says_230 (by decide) ?_
  refine a_icmp_ne C 263 dX2_says_232 (by decide) (fun c18 => ?_) (fun c18 => ?_)
  · have h := h.1 c18
    refine tj_X2_says_263 C hi hb hk6 _ _ _ _ _ _ h
  · have h := h.2 c18
    refine a_iload C 5 dX2_says_235 rfl ?_
    refine a_if_le C 263 dX2_says_237 (by decide) (fun c17 => ?_) (fun c17 => ?_)
    · have h := h.1 c17
      refine tj_X2_says_263 C hi hb hk6 _ _ _ _ _ _ h
    · have h := h.2 c17
      refine a_aload_n C 0 dX2_says_240 rfl rfl ?_
      refine a_getr C 0 (r := 47) dX2_says_241 (by decide) rfl rfl rfl ib_2 (by decide) bw_280 ?_
      refine a_iload C 5 dX2_says_244 rfl ?_
      refine a_iconst C 1 dX2_says_246 (by decide) ?_
      refine a_isub C dX2_says_247 ?_
      refine a_iconst C 1 dX2_says_248 (by decide) ?_
      refine a_aload_n C 0 dX2_says_249 rfl rfl ?_
      refine a_getr C 0 (r := 47) dX2_says_250 (by decide) rfl rfl rfl ib_2 (by decide) bw_280 ?_
      refine a_iload C 5 dX2_says_253 rfl ?_
      refine a_iconst C 1 dX2_says_255 (by decide) ?_
      refine a_isub C dX2_says_256 ?_
      refine b_iald C (Int32.toNatClampNeg (v6 - 1)) dX2_says_257 (by decide) rfl h.1 rfl ?_
      have h := h.2
      refine a_isub C dX2_says_258 ?_
      refine b_iast C (Int32.toNatClampNeg (v6 - 1)) dX2_says_259 (by decide) rfl h.1 rfl ?_
      have h := h.2
      refine a_topu (fun z16 ez16 => ?_)
      have h := h z16 ez16
      refine a_goto C 373 dX2_says_260 (by decide) ?_
      refine a_sub [0, 1, 2, 3, 4, 5, 6] rfl ?_
      refine tj_X2_says_373 C hi hb hk6 _ _ _ _ _ h
set_option maxHeartbeats 4000000 in
set_option maxRecDepth 100000 in
theorem tj_X2_says_194 {p : Program} {l : Launch} {e : Env} {s : State} {m : MethodId} {args : Array Value} {below : List Frame} {meth : Method} {c : Code} {V : VEn} {i : Nat} {b : Nat} {k6 : Int32 → Int32 → Int32 → Int32 → PoS → Prop} {post : Int32 → PoS → Prop} (C : CxS p s m args meth c V cX2_says 12 RX2 (some .int)) (hi : i < 4) (hb : b < 2) (hk6 : ∀ (v4 : Int32) (v5 : Int32) (v6 : Int32) (v7 : Int32) (u : PoS), k6 v4 v5 v6 v7 u → AtS p l e (Rm 1) s m args below meth c V 12 0 0 (QI V below args s post) 6 [(0, .ref (eA V 46)), (1, .ref (eA V (7 + i))), (3, .ref (eA V (3 + b))), (4, .int v4), (5, .int v5), (6, .int v6), (7, .int v7)] [] u) (v4 : Int32) (v5 : Int32) (v6 : Int32) (v7 : Int32) (v8 : Int32) (u : PoS) (h : wj_X2_says_194 i b k6 post v4 v5 v6 v7 v8 u) : AtS p l e (Rm 1) s m args below meth c V 12 0 0 (QI V below args s post) 194 [(0, .ref (eA V 46)), (1, .ref (eA V (7 + i))), (3, .ref (eA V (3 + b))), (4, .int v4), (5, .int v5), (6, .int v6), (7, .int v7), (8, .int v8)] [] u := by
  rw [wj_X2_says_194] at h
  refine a_iload C 7 dX2_says_194 rfl ?_
  refine a_bipush C 45 dX2_says_196 (by decide) ?_
  refine a_icmp_ne C 228 dX2_says_198 (by decide) (fun c21 => ?_) (fun c21 => ?_)
  · have h := h.1 c21
    refine tj_X2_says_228 C hi hb hk6 _ _ _ _ _ _ h
  · have h := h.2 c21
    refine a_iload C 5 dX2_says_201 rfl ?_
    refine a_if_le C 228 dX2_says_203 (by decide) (fun c20 => ?_) (fun c20 => ?_)
    · have h := h.1 c20
      refine tj_X2_says_228 C hi hb hk6 _ _ _ _ _ _ h
    · have h := h.2 c20
      refine a_aload_n C 0 dX2_says_206 rfl rfl ?_
      refine a_getr C 0 (r := 47) dX2_says_207 (by decide) rfl rfl rfl ib_2 (by decide) bw_280 ?_
      refine a_iload C 5 dX2_says_210 rfl ?_
      refine a_iconst C 1 dX2_says_212 (by decide) ?_
      refine a_isub C dX2_says_213 ?_
      refine a_aload_n C 0 dX2_says_214 rfl rfl ?_
      refine a_getr C 0 (r := 47) dX2_says_215 (by decide) rfl rfl rfl ib_2 (by decide) bw_280 ?_
      refine a_iload C 5 dX2_says_218 rfl ?_
      refine a_iconst C 1 dX2_says_220 (by decide) ?_
      refine a_isub C dX2_says_221 ?_
      refine b_iald C (Int32.toNatClampNeg (v6 - 1)) dX2_says_222 (by decide) rfl h.1 rfl ?_
      have h := h.2
      refine a_ineg C dX2_says_223 ?_
      refine b_iast C (Int32.toNatClampNeg (v6 - 1)) dX2_says_224 (by decide) rfl h.1 rfl ?_
      have h := h.2
      refine a_topu (fun z19 ez19 => ?_)
      have h := h z19 ez19
      refine a_goto C 373 dX2_says_225 (by decide) ?_
      refine a_sub [0, 1, 2, 3, 4, 5, 6] rfl ?_
      refine tj_X2_says_373 C hi hb hk6 _ _ _ _ _ h
set_option maxHeartbeats 4000000 in
set_option maxRecDepth 100000 in
theorem tj_X2_says_189 {p : Program} {l : Launch} {e : Env} {s : State} {m : MethodId} {args : Array Value} {below : List Frame} {meth : Method} {c : Code} {V : VEn} {i : Nat} {b : Nat} {k6 : Int32 → Int32 → Int32 → Int32 → PoS → Prop} {post : Int32 → PoS → Prop} (C : CxS p s m args meth c V cX2_says 12 RX2 (some .int)) (hi : i < 4) (hb : b < 2) (hk6 : ∀ (v4 : Int32) (v5 : Int32) (v6 : Int32) (v7 : Int32) (u : PoS), k6 v4 v5 v6 v7 u → AtS p l e (Rm 1) s m args below meth c V 12 0 0 (QI V below args s post) 6 [(0, .ref (eA V 46)), (1, .ref (eA V (7 + i))), (3, .ref (eA V (3 + b))), (4, .int v4), (5, .int v5), (6, .int v6), (7, .int v7)] [] u) (v4 : Int32) (v5 : Int32) (v6 : Int32) (s0 : Int32) (u : PoS) (h : wj_X2_says_189 i b k6 post v4 v5 v6 s0 u) : AtS p l e (Rm 1) s m args below meth c V 12 0 0 (QI V below args s post) 189 [(0, .ref (eA V 46)), (1, .ref (eA V (7 + i))), (3, .ref (eA V (3 + b))), (4, .int v4), (5, .int v5), (6, .int v6)] [.int s0] u := by
  rw [wj_X2_says_189] at h
  refine a_istore C [(7, .int s0), (0, .ref (eA V 46)), (1, .ref (eA V (7 + i))), (3, .ref (eA V (3 + b))), (4, .int v4), (5, .int v5), (6, .int v6)] dX2_says_189 (by decide) rfl ?_
  refine a_goto C 373 dX2_says_191 (by decide) ?_
  refine a_sub [1, 2, 3, 4, 5, 6, 0] rfl ?_
  refine tj_X2_says_373 C hi hb hk6 _ _ _ _ _ h
set_option maxHeartbeats 4000000 in
set_option maxRecDepth 100000 in
theorem tj_X2_says_122 {p : Program} {l : Launch} {e : Env} {s : State} {m : MethodId} {args : Array Value} {below : List Frame} {meth : Method} {c : Code} {V : VEn} {i : Nat} {b : Nat} {k6 : Int32 → Int32 → Int32 → Int32 → PoS → Prop} {post : Int32 → PoS → Prop} (C : CxS p s m args meth c V cX2_says 12 RX2 (some .int)) (hi : i < 4) (hb : b < 2) (hk6 : ∀ (v4 : Int32) (v5 : Int32) (v6 : Int32) (v7 : Int32) (u : PoS), k6 v4 v5 v6 v7 u → AtS p l e (Rm 1) s m args below meth c V 12 0 0 (QI V below args s post) 6 [(0, .ref (eA V 46)), (1, .ref (eA V (7 + i))), (3, .ref (eA V (3 + b))), (4, .int v4), (5, .int v5), (6, .int v6), (7, .int v7)] [] u) (v4 : Int32) (v5 : Int32) (v6 : Int32) (v7 : Int32) (s0 : Int32) (s1 : Int32) (u : PoS) (h : wj_X2_says_122 i b k6 post v4 v5 v6 v7 s0 s1 u) : AtS p l e (Rm 1) s m args below meth c V 12 0 0 (QI V below args s post) 122 [(0, .ref (eA V 46)), (1, .ref (eA V (7 + i))), (3, .ref (eA V (3 + b))), (4, .int v4), (5, .int v5), (6, .int v6), (7, .int v7)] [.int s0, .int s1, .ref (eA V 47)] u := by
  rw [wj_X2_says_122] at h
  refine b_iast C (Int32.toNatClampNeg s1) dX2_says_122 (by decide) rfl h.1 rfl ?_
  have h := h.2
  refine a_topu (fun z29 ez29 => ?_)
  have h := h z29 ez29
  refine a_iinc C (v6 + 1) 5 [(6, .int (v6 + 1)), (0, .ref (eA V 46)), (1, .ref (eA V (7 + i))), (3, .ref (eA V (3 + b))), (4, .int v4), (5, .int v5), (7, .int v7)] dX2_says_123 rfl (congrArg (fun z => v6 + z) (show Int32.ofInt 1 = 1 by decide)) (by decide) rfl ?_
  refine a_goto C 373 dX2_says_126 (by decide) ?_
  refine a_sub [1, 2, 3, 4, 5, 0, 6] rfl ?_
  refine tj_X2_says_373 C hi hb hk6 _ _ _ _ _ h
set_option maxHeartbeats 4000000 in
set_option maxRecDepth 100000 in
theorem tl_X2_says_6 {p : Program} {l : Launch} {e : Env} {s : State} {m : MethodId} {args : Array Value} {below : List Frame} {meth : Method} {c : Code} {V : VEn} {i : Nat} {b : Nat} {k379 : Int32 → PoS → Prop} {k63 : Int32 → PoS → Prop} {post : Int32 → PoS → Prop} (C : CxS p s m args meth c V cX2_says 12 RX2 (some .int)) (hi : i < 4) (hb : b < 2) (hk379 : ∀ (v6 : Int32) (u : PoS), k379 v6 u → AtS p l e (Rm 1) s m args below meth c V 12 0 0 (QI V below args s post) 379 [(0, .ref (eA V 46)), (6, .int v6)] [] u) (hk63 : ∀ (v6 : Int32) (u : PoS), k63 v6 u → AtS p l e (Rm 1) s m args below meth c V 12 0 0 (QI V below args s post) 63 [(0, .ref (eA V 46)), (6, .int v6)] [] u) : ∀ (n : Nat) (v4 : Int32) (v5 : Int32) (v6 : Int32) (v7 : Int32) (u : PoS), wl_X2_says_6 i b k379 k63 post n v4 v5 v6 v7 u → AtS p l e (Rm 1) s m args below meth c V 12 0 0 (QI V below args s post) 6 [(0, .ref (eA V 46)), (1, .ref (eA V (7 + i))), (3, .ref (eA V (3 + b))), (4, .int v4), (5, .int v5), (6, .int v6), (7, .int v7)] [] u := by
  intro n
  induction n with
  | zero => intro v4 v5 v6 v7 u h; exact h.elim
  | succ n ih =>
    intro v4 v5 v6 v7 u h
    rw [wl_X2_says_6] at h
    refine a_iload C 6 dX2_says_6 rfl ?_
    refine a_if_lt C 379 dX2_says_8 (by decide) (fun c37 => ?_) (fun c37 => ?_)
    · have h := h.1 c37
      refine a_sub [0, 5] rfl ?_
      exact hk379 _ _ h
    · have h := h.2 c37
      refine a_iload C 6 dX2_says_11 rfl ?_
      refine a_aload_n C 1 dX2_says_13 rfl rfl ?_
      refine a_geti C 5 dX2_says_14 (by have := hi; omega) (lw_obj hi) rfl rfl ib_3 (by decide) bw_249 ?_
      refine a_icmp_ge C 379 dX2_says_17 (by decide) (fun c36 => ?_) (fun c36 => ?_)
      · have h := h.1 c36
        refine a_sub [0, 5] rfl ?_
        exact hk379 _ _ h
      · have h := h.2 c36
        refine a_iload C 5 dX2_says_20 rfl ?_
        refine a_iconst C 1 dX2_says_22 (by decide) ?_
        refine a_iadd C dX2_says_23 ?_
        refine a_aload_n C 0 dX2_says_24 rfl rfl ?_
        refine a_getr C 0 (r := 47) dX2_says_25 (by decide) rfl rfl rfl ib_2 (by decide) bw_280 ?_
        refine a_alen C 64 dX2_says_28 (by decide) rfl (by decide) ?_
        refine a_icmp_ge C 379 dX2_says_29 (by decide) (fun c35 => ?_) (fun c35 => ?_)
        · have h := h.1 c35
          refine a_sub [0, 5] rfl ?_
          exact hk379 _ _ h
        · have h := h.2 c35
          refine a_aload_n C 1 dX2_says_32 rfl rfl ?_
          refine a_getr C 3 (r := (14 + 4 * i)) dX2_says_33 (by have := hi; omega) (lw_obj hi) rfl rfl ib_3 (by decide) bw_244 ?_
          refine a_iload C 6 dX2_says_36 rfl ?_
          refine b_iald C (Int32.toNatClampNeg v7) dX2_says_38 (by have := hi; omega) (lay_lc hi) h.1 rfl ?_
          have h := h.2
          refine a_bipush C 64 dX2_says_39 (by decide) ?_
          refine b_irem C dX2_says_41 (by decide) ?_
          refine a_topi (fun x1 ex1 => ?_)
          have h := h x1 ex1
          refine a_istore C [(8, .int x1), (0, .ref (eA V 46)), (1, .ref (eA V (7 + i))), (3, .ref (eA V (3 + b))), (4, .int v4), (5, .int v5), (6, .int v6), (7, .int v7)] dX2_says_42 (by decide) rfl ?_
          refine a_aload_n C 2 dX2_says_44 rfl rfl ?_
          refine a_getr C 3 (r := (14 + 4 * i)) dX2_says_45 (by have := hi; omega) (lw_obj hi) rfl rfl ib_3 (by decide) bw_244 ?_
          refine a_iload C 7 dX2_says_48 rfl ?_
          refine b_iald C (Int32.toNatClampNeg v7) dX2_says_50 (by have := hi; omega) (lay_lc hi) h.1 rfl ?_
          have h := h.2
          refine a_bipush C 64 dX2_says_51 (by decide) ?_
          refine a_idiv C dX2_says_53 (by decide) ?_
          refine a_topi (fun x2 ex2 => ?_)
          have h := h x2 ex2
          refine a_istore C [(9, .int x2), (8, .int x1), (0, .ref (eA V 46)), (1, .ref (eA V (7 + i))), (3, .ref (eA V (3 + b))), (4, .int v4), (5, .int v5), (6, .int v6), (7, .int v7)] dX2_says_54 (by decide) rfl ?_
          refine a_iload C 1 dX2_says_56 rfl ?_
          refine a_bipush C 48 dX2_says_58 (by decide) ?_
          refine a_icmp_ne C 66 dX2_says_60 (by decide) (fun c34 => ?_) (fun c34 => ?_)
          · have h := h.1 c34
            refine a_iload C 1 dX2_says_66 rfl ?_
            refine a_bipush C 41 dX2_says_68 (by decide) ?_
            refine a_icmp_ne C 88 dX2_says_70 (by decide) (fun c33 => ?_) (fun c33 => ?_)
            · have h := h.1 c33
              refine a_iload C 1 dX2_says_88 rfl ?_
              refine a_callSi C dX2_says_90 (m_X9_isName l V h) bw_698 bw_564 bw_128 bw_565 np_X9_isName rfl rfl (by decide) (Nat.le_of_ble_eq_true rfl) ⟨Nat.zero_le _, Nat.zero_le _⟩ (fun r3 u4 h => ?_)
              refine a_if_eq C 129 dX2_says_93 (by decide) (fun c31 => ?_) (fun c31 => ?_)
              · have h := h.1 c31
                refine a_iload C 1 dX2_says_129 rfl ?_
                refine a_bipush C 46 dX2_says_131 (by decide) ?_
                refine a_icmp_ne C 150 dX2_says_133 (by decide) (fun c26 => ?_) (fun c26 => ?_)
                · have h := h.1 c26
                  refine a_iload C 1 dX2_says_150 rfl ?_
                  refine a_bipush C 47 dX2_says_152 (by decide) ?_
                  refine a_icmp_ne C 194 dX2_says_154 (by decide) (fun c24 => ?_) (fun c24 => ?_)
                  · have h := h.1 c24
                    refine a_sub [2, 3, 4, 5, 6, 7, 8, 1] rfl ?_
                    refine tj_X2_says_194 C hi hb ih _ _ _ _ _ _ h
                  · have h := h.2 c24
                    refine a_iload C 7 dX2_says_157 rfl ?_
                    refine a_if_le C 194 dX2_says_159 (by decide) (fun c23 => ?_) (fun c23 => ?_)
                    · have h := h.1 c23
                      refine a_sub [2, 3, 4, 5, 6, 7, 8, 1] rfl ?_
                      refine tj_X2_says_194 C hi hb ih _ _ _ _ _ _ h
                    · have h := h.2 c23
                      refine a_iinc C (v6 + (-1)) 7 [(6, .int (v6 + (-1))), (9, .int x2), (8, .int x1), (0, .ref (eA V 46)), (1, .ref (eA V (7 + i))), (3, .ref (eA V (3 + b))), (4, .int v4), (5, .int v5), (7, .int v7)] dX2_says_162 rfl (congrArg (fun z => v6 + z) (show Int32.ofInt (-1) = (-1) by decide)) (by decide) rfl ?_
                      refine a_aload_n C 3 dX2_says_165 rfl rfl ?_
                      refine a_getr C 0 (r := 47) dX2_says_166 (by decide) rfl rfl rfl ib_2 (by decide) bw_280 ?_
                      refine a_iload C 0 dX2_says_169 rfl ?_
                      refine b_iald C (Int32.toNatClampNeg (v6 + (-1))) dX2_says_171 (by decide) rfl h.1 rfl ?_
                      have h := h.2
                      refine a_if_ne C 187 dX2_says_172 (by decide) (fun c22 => ?_) (fun c22 => ?_)
                      · have h := h.1 c22
                        refine a_iload C 8 dX2_says_187 rfl ?_
                        refine a_sub [3, 4, 5, 6, 7, 0] rfl ?_
                        refine tj_X2_says_189 C hi hb ih _ _ _ _ _ h
                      · have h := h.2 c22
                        refine a_iload C 8 dX2_says_175 rfl ?_
                        refine a_iload C 1 dX2_says_177 rfl ?_
                        refine a_iconst C 1 dX2_says_179 (by decide) ?_
                        refine a_isub C dX2_says_180 ?_
                        refine b_mmax C dX2_says_181 bw_702 bw_333 bw_121 bw_334 (by decide) (Nat.le_of_ble_eq_true rfl) ⟨Nat.zero_le _, Nat.zero_le _⟩ ?_
                        refine a_goto C 189 dX2_says_184 (by decide) ?_
                        refine a_sub [3, 4, 5, 6, 7, 0] rfl ?_
                        refine tj_X2_says_189 C hi hb ih _ _ _ _ _ h
                · have h := h.2 c26
                  refine a_iload C 8 dX2_says_136 rfl ?_
                  refine a_iload C 0 dX2_says_138 rfl ?_
                  refine a_iconst C 1 dX2_says_140 (by decide) ?_
                  refine a_isub C dX2_says_141 ?_
                  refine b_mmax C dX2_says_142 bw_702 bw_333 bw_121 bw_334 (by decide) (Nat.le_of_ble_eq_true rfl) ⟨Nat.zero_le _, Nat.zero_le _⟩ ?_
                  refine a_topi (fun x25 ex25 => ?_)
                  have h := h x25 ex25
                  refine a_istore C [(7, .int x25), (9, .int x2), (8, .int x1), (0, .ref (eA V 46)), (1, .ref (eA V (7 + i))), (3, .ref (eA V (3 + b))), (4, .int v4), (5, .int v5), (6, .int v6)] dX2_says_145 (by decide) rfl ?_
                  refine a_goto C 373 dX2_says_147 (by decide) ?_
                  refine a_sub [3, 4, 5, 6, 7, 8, 0] rfl ?_
                  refine tj_X2_says_373 C hi hb ih _ _ _ _ _ h
              · have h := h.2 c31
                refine a_aload_n C 2 dX2_says_96 rfl rfl ?_
                refine a_getr C 0 (r := 47) dX2_says_97 (by decide) rfl rfl rfl ib_2 (by decide) bw_280 ?_
                refine a_iload C 7 dX2_says_100 rfl ?_
                refine a_iload C 1 dX2_says_102 rfl ?_
                refine a_bipush C 16 dX2_says_104 (by decide) ?_
                refine a_icmp_ne C 114 dX2_says_106 (by decide) (fun c30 => ?_) (fun c30 => ?_)
                · have h := h.1 c30
                  refine a_iload C 1 dX2_says_114 rfl ?_
                  refine a_aload_n C 4 dX2_says_116 rfl rfl ?_
                  refine a_iload C 5 dX2_says_117 rfl ?_
                  refine a_callSi C dX2_says_119 (m_X2_named l V hb h) bw_699 bw_700 bw_118 bw_701 np_X2_named rfl rfl (by decide) (Nat.le_of_ble_eq_true rfl) ⟨Nat.zero_le _, Nat.zero_le _⟩ (fun r27 u28 h => ?_)
                  refine a_sub [2, 3, 4, 5, 6, 7, 8] rfl ?_
                  refine tj_X2_says_122 C hi hb ih _ _ _ _ _ _ _ h
                · have h := h.2 c30
                  refine a_iload C 6 dX2_says_109 rfl ?_
                  refine a_goto C 122 dX2_says_111 (by decide) ?_
                  refine a_sub [2, 3, 4, 5, 6, 7, 8] rfl ?_
                  refine tj_X2_says_122 C hi hb ih _ _ _ _ _ _ _ h
            · have h := h.2 c33
              refine a_aload_n C 2 dX2_says_73 rfl rfl ?_
              refine a_getr C 0 (r := 47) dX2_says_74 (by decide) rfl rfl rfl ib_2 (by decide) bw_280 ?_
              refine a_iload C 7 dX2_says_77 rfl ?_
              refine a_iload C 0 dX2_says_79 rfl ?_
              refine b_iast C (Int32.toNatClampNeg v6) dX2_says_81 (by decide) rfl h.1 rfl ?_
              have h := h.2
              refine a_topu (fun z32 ez32 => ?_)
              have h := h z32 ez32
              refine a_iinc C (v6 + 1) 7 [(6, .int (v6 + 1)), (9, .int x2), (8, .int x1), (0, .ref (eA V 46)), (1, .ref (eA V (7 + i))), (3, .ref (eA V (3 + b))), (4, .int v4), (5, .int v5), (7, .int v7)] dX2_says_82 rfl (congrArg (fun z => v6 + z) (show Int32.ofInt 1 = 1 by decide)) (by decide) rfl ?_
              refine a_goto C 373 dX2_says_85 (by decide) ?_
              refine a_sub [3, 4, 5, 6, 7, 0, 8] rfl ?_
              refine tj_X2_says_373 C hi hb ih _ _ _ _ _ h
          · have h := h.2 c34
            refine a_sub [2, 7] rfl ?_
            exact hk63 _ _ h
set_option maxHeartbeats 4000000 in
set_option maxRecDepth 100000 in
theorem tj_X2_says_379 {p : Program} {l : Launch} {e : Env} {s : State} {m : MethodId} {args : Array Value} {below : List Frame} {meth : Method} {c : Code} {V : VEn} {i : Nat} {b : Nat} {post : Int32 → PoS → Prop} (C : CxS p s m args meth c V cX2_says 12 RX2 (some .int)) (hi : i < 4) (hb : b < 2) (v6 : Int32) (u : PoS) (h : wj_X2_says_379 i b post v6 u) : AtS p l e (Rm 1) s m args below meth c V 12 0 0 (QI V below args s post) 379 [(0, .ref (eA V 46)), (6, .int v6)] [] u := by
  rw [wj_X2_says_379] at h
  refine a_iload C 1 dX2_says_379 rfl ?_
  refine a_if_le C 393 dX2_says_381 (by decide) (fun c39 => ?_) (fun c39 => ?_)
  · have h := h.1 c39
    refine a_iconst C 0 dX2_says_393 (by decide) ?_
    exact a_iret C dX2_says_394 h
  · have h := h.2 c39
    refine a_aload_n C 0 dX2_says_384 rfl rfl ?_
    refine a_getr C 0 (r := 47) dX2_says_385 (by decide) rfl rfl rfl ib_2 (by decide) bw_280 ?_
    refine a_iconst C 0 dX2_says_388 (by decide) ?_
    refine b_iald C 0 dX2_says_389 (by decide) rfl (vp_lit (by decide)) (by decide) ?_
    refine a_goto C 394 dX2_says_390 (by decide) ?_
    exact a_iret C dX2_says_394 h
theorem np_X2_says : yX2_says.cls ≠ "java/lang/invoke/MethodHandle" ∧ yX2_says.cls ≠ "java/lang/invoke/VarHandle" ∧ (parseMethodDescriptor yX2_says.desc).map (fun d => d.parameters.length) = some 5 := by decide +kernel
set_option maxHeartbeats 4000000 in
set_option maxRecDepth 100000 in
theorem m_X2_says (l : Launch) (V : VEn) {i : Nat} {b : Nat} (hi : i < 4) (hb : b < 2) {a1 : Int32} {a3 : Int32} {a4 : Int32} {u : PoS} {post : Int32 → PoS → Prop} (h : wp_X2_says i b a1 a3 a4 u post) : KI l V yX2_says cX2_says 12 .int 1 [.ref (eA V 46), .ref (eA V (7 + i)), .int a1, .ref (eA V (3 + b)), .int a3, .int a4] u post := by
  refine KI_of (by decide) (Nat.le_of_ble_eq_true rfl) (lv := [(0, .ref (eA V 46)), (1, .ref (eA V (7 + i))), (2, .int a1), (3, .ref (eA V (3 + b))), (4, .int a3), (5, .int a4)]) rfl ?_
  intro p e s m args below meth c C
  rw [wp_X2_says] at h
  refine a_iconst C 0 dX2_says_0 (by decide) ?_
  refine a_istore C [(6, .int 0), (0, .ref (eA V 46)), (1, .ref (eA V (7 + i))), (2, .int a1), (3, .ref (eA V (3 + b))), (4, .int a3), (5, .int a4)] dX2_says_1 (by decide) rfl ?_
  refine a_iload_n C 3 dX2_says_3 rfl rfl ?_
  refine a_istore C [(7, .int a1), (6, .int 0), (0, .ref (eA V 46)), (1, .ref (eA V (7 + i))), (2, .int a1), (3, .ref (eA V (3 + b))), (4, .int a3), (5, .int a4)] dX2_says_4 (by decide) rfl ?_
  refine a_sub [2, 3, 5, 6, 7, 1, 0] rfl ?_
  obtain ⟨n6, h⟩ := h
  refine tl_X2_says_6 C hi hb (fun v638 u38 h => ?_) (fun v640 u40 h => ?_) n6 _ _ _ _ _ h
  · refine tj_X2_says_379 C hi hb _ _ h
  · refine a_goto C 379 dX2_says_63 (by decide) ?_
    refine tj_X2_says_379 C hi hb _ _ h

/-! RainOnTheOne$Law.clear()V -/
def wp_X3_clear (i : Nat) (u : PoS) (post : PoS → Prop) : Prop := ∀ z1 : PoS, z1 = pI u (7 + i) 4 0 → ∀ z2 : PoS, z2 = pI z1 (7 + i) 5 0 → ∀ z3 : PoS, z3 = pI z2 (7 + i) 6 (-1) → ∀ z4 : PoS, z4 = pI z3 (7 + i) 7 (-1) → post z4
theorem np_X3_clear : yX3_clear.cls ≠ "java/lang/invoke/MethodHandle" ∧ yX3_clear.cls ≠ "java/lang/invoke/VarHandle" ∧ (parseMethodDescriptor yX3_clear.desc).map (fun d => d.parameters.length) = some 0 := by decide +kernel
set_option maxHeartbeats 4000000 in
set_option maxRecDepth 100000 in
theorem m_X3_clear (l : Launch) (V : VEn) {i : Nat} (hi : i < 4) {u : PoS} {post : PoS → Prop} (h : wp_X3_clear i u post) : KV l V yX3_clear cX3_clear 1 0 [.ref (eA V (7 + i))] u post := by
  refine KV_of (by decide) (Nat.le_of_ble_eq_true rfl) (lv := [(0, .ref (eA V (7 + i)))]) rfl ?_
  intro p e s m args below meth c C
  rw [wp_X3_clear] at h
  refine a_aload_n C 0 dX3_clear_0 rfl rfl ?_
  refine a_iconst C 0 dX3_clear_1 (by decide) ?_
  refine a_puti C (ty := .int) 4 dX3_clear_2 (by have := hi; omega) (lw_obj hi) rfl rfl ib_3 (by decide) bw_245 tyX3 tyX3_ok nmX3 rfl (by decide +kernel) rfl rfl ?_
  refine a_topu (fun z1 ez1 => ?_)
  have h := h z1 ez1
  refine a_aload_n C 0 dX3_clear_5 rfl rfl ?_
  refine a_iconst C 0 dX3_clear_6 (by decide) ?_
  refine a_puti C (ty := .int) 5 dX3_clear_7 (by have := hi; omega) (lw_obj hi) rfl rfl ib_3 (by decide) bw_248 tyX3 tyX3_ok nmX3 rfl (by decide +kernel) rfl rfl ?_
  refine a_topu (fun z2 ez2 => ?_)
  have h := h z2 ez2
  refine a_aload_n C 0 dX3_clear_10 rfl rfl ?_
  refine a_iconst C (-1) dX3_clear_11 (by decide) ?_
  refine a_puti C (ty := .int) 6 dX3_clear_12 (by have := hi; omega) (lw_obj hi) rfl rfl ib_3 (by decide) bw_251 tyX3 tyX3_ok nmX3 rfl (by decide +kernel) rfl rfl ?_
  refine a_topu (fun z3 ez3 => ?_)
  have h := h z3 ez3
  refine a_aload_n C 0 dX3_clear_15 rfl rfl ?_
  refine a_iconst C (-1) dX3_clear_16 (by decide) ?_
  refine a_puti C (ty := .int) 7 dX3_clear_17 (by have := hi; omega) (lw_obj hi) rfl rfl ib_3 (by decide) bw_254 tyX3 tyX3_ok nmX3 rfl (by decide +kernel) rfl rfl ?_
  refine a_topu (fun z4 ez4 => ?_)
  have h := h z4 ez4
  exact a_vret C dX3_clear_20 h

/-! RainOnTheOne$Law.addClause(III)V -/
def wp_X3_addClause (i : Nat) (a0 : Int32) (a1 : Int32) (a2 : Int32) (u : PoS) (post : PoS → Prop) : Prop := ((24 ≤ (gI u (7 + i) 4) → post u) ∧ (¬ 24 ≤ (gI u (7 + i) 4) → vp_in (gI u (7 + i) 4) 24 ∧ ∀ z1 : PoS, z1 = pI u (11 + 4 * i) (Int32.toNatClampNeg (gI u (7 + i) 4)) a0 → vp_in (gI z1 (7 + i) 4) 24 ∧ ∀ z2 : PoS, z2 = pI z1 (12 + 4 * i) (Int32.toNatClampNeg (gI z1 (7 + i) 4)) a1 → vp_in (gI z2 (7 + i) 4) 24 ∧ ∀ z3 : PoS, z3 = pI z2 (13 + 4 * i) (Int32.toNatClampNeg (gI z2 (7 + i) 4)) a2 → ∀ z4 : PoS, z4 = pI z3 (7 + i) 4 ((gI z3 (7 + i) 4) + 1) → post z4))
theorem np_X3_addClause : yX3_addClause.cls ≠ "java/lang/invoke/MethodHandle" ∧ yX3_addClause.cls ≠ "java/lang/invoke/VarHandle" ∧ (parseMethodDescriptor yX3_addClause.desc).map (fun d => d.parameters.length) = some 3 := by decide +kernel
set_option maxHeartbeats 4000000 in
set_option maxRecDepth 100000 in
theorem m_X3_addClause (l : Launch) (V : VEn) {i : Nat} (hi : i < 4) {a0 : Int32} {a1 : Int32} {a2 : Int32} {u : PoS} {post : PoS → Prop} (h : wp_X3_addClause i a0 a1 a2 u post) : KV l V yX3_addClause cX3_addClause 4 0 [.ref (eA V (7 + i)), .int a0, .int a1, .int a2] u post := by
  refine KV_of (by decide) (Nat.le_of_ble_eq_true rfl) (lv := [(0, .ref (eA V (7 + i))), (1, .int a0), (2, .int a1), (3, .int a2)]) rfl ?_
  intro p e s m args below meth c C
  rw [wp_X3_addClause] at h
  refine a_aload_n C 0 dX3_addClause_0 rfl rfl ?_
  refine a_geti C 4 dX3_addClause_1 (by have := hi; omega) (lw_obj hi) rfl rfl ib_3 (by decide) bw_245 ?_
  refine a_bipush C 24 dX3_addClause_4 (by decide) ?_
  refine a_icmp_ge C 49 dX3_addClause_6 (by decide) (fun c5 => ?_) (fun c5 => ?_)
  · have h := h.1 c5
    exact a_vret C dX3_addClause_49 h
  · have h := h.2 c5
    refine a_aload_n C 0 dX3_addClause_9 rfl rfl ?_
    refine a_getr C 0 (r := (11 + 4 * i)) dX3_addClause_10 (by have := hi; omega) (lw_obj hi) rfl rfl ib_3 (by decide) bw_237 ?_
    refine a_aload_n C 0 dX3_addClause_13 rfl rfl ?_
    refine a_geti C 4 dX3_addClause_14 (by have := hi; omega) (lw_obj hi) rfl rfl ib_3 (by decide) bw_245 ?_
    refine a_iload_n C 1 dX3_addClause_17 rfl rfl ?_
    refine b_iast C (Int32.toNatClampNeg (gI u (7 + i) 4)) dX3_addClause_18 (by have := hi; omega) (lw_l0 hi) h.1 rfl ?_
    have h := h.2
    refine a_topu (fun z1 ez1 => ?_)
    have h := h z1 ez1
    refine a_aload_n C 0 dX3_addClause_19 rfl rfl ?_
    refine a_getr C 1 (r := (12 + 4 * i)) dX3_addClause_20 (by have := hi; omega) (lw_obj hi) rfl rfl ib_3 (by decide) bw_239 ?_
    refine a_aload_n C 0 dX3_addClause_23 rfl rfl ?_
    refine a_geti C 4 dX3_addClause_24 (by have := hi; omega) (lw_obj hi) rfl rfl ib_3 (by decide) bw_245 ?_
    refine a_iload_n C 2 dX3_addClause_27 rfl rfl ?_
    refine b_iast C (Int32.toNatClampNeg (gI z1 (7 + i) 4)) dX3_addClause_28 (by have := hi; omega) (lw_l1 hi) h.1 rfl ?_
    have h := h.2
    refine a_topu (fun z2 ez2 => ?_)
    have h := h z2 ez2
    refine a_aload_n C 0 dX3_addClause_29 rfl rfl ?_
    refine a_getr C 2 (r := (13 + 4 * i)) dX3_addClause_30 (by have := hi; omega) (lw_obj hi) rfl rfl ib_3 (by decide) bw_241 ?_
    refine a_aload_n C 0 dX3_addClause_33 rfl rfl ?_
    refine a_geti C 4 dX3_addClause_34 (by have := hi; omega) (lw_obj hi) rfl rfl ib_3 (by decide) bw_245 ?_
    refine a_iload_n C 3 dX3_addClause_37 rfl rfl ?_
    refine b_iast C (Int32.toNatClampNeg (gI z2 (7 + i) 4)) dX3_addClause_38 (by have := hi; omega) (lw_l2 hi) h.1 rfl ?_
    have h := h.2
    refine a_topu (fun z3 ez3 => ?_)
    have h := h z3 ez3
    refine a_aload_n C 0 dX3_addClause_39 rfl rfl ?_
    refine a_dup C dX3_addClause_40 rfl ?_
    refine a_geti C 4 dX3_addClause_41 (by have := hi; omega) (lw_obj hi) rfl rfl ib_3 (by decide) bw_245 ?_
    refine a_iconst C 1 dX3_addClause_44 (by decide) ?_
    refine a_iadd C dX3_addClause_45 ?_
    refine a_puti C (ty := .int) 4 dX3_addClause_46 (by have := hi; omega) (lw_obj hi) rfl rfl ib_3 (by decide) bw_245 tyX3 tyX3_ok nmX3 rfl (by decide +kernel) rfl rfl ?_
    refine a_topu (fun z4 ez4 => ?_)
    have h := h z4 ez4
    exact a_vret C dX3_addClause_49 h

/-! RainOnTheOne$Law.addCode(II)V -/
def wp_X3_addCode (i : Nat) (a0 : Int32) (a1 : Int32) (u : PoS) (post : PoS → Prop) : Prop := ((300 ≤ (gI u (7 + i) 5) → post u) ∧ (¬ 300 ≤ (gI u (7 + i) 5) → vp_in (gI u (7 + i) 5) 300 ∧ ∀ z1 : PoS, z1 = pI u (14 + 4 * i) (Int32.toNatClampNeg (gI u (7 + i) 5)) ((a1 * 64) + a0) → ∀ z2 : PoS, z2 = pI z1 (7 + i) 5 ((gI z1 (7 + i) 5) + 1) → post z2))
theorem np_X3_addCode : yX3_addCode.cls ≠ "java/lang/invoke/MethodHandle" ∧ yX3_addCode.cls ≠ "java/lang/invoke/VarHandle" ∧ (parseMethodDescriptor yX3_addCode.desc).map (fun d => d.parameters.length) = some 2 := by decide +kernel
set_option maxHeartbeats 4000000 in
set_option maxRecDepth 100000 in
theorem m_X3_addCode (l : Launch) (V : VEn) {i : Nat} (hi : i < 4) {a0 : Int32} {a1 : Int32} {u : PoS} {post : PoS → Prop} (h : wp_X3_addCode i a0 a1 u post) : KV l V yX3_addCode cX3_addCode 3 0 [.ref (eA V (7 + i)), .int a0, .int a1] u post := by
  refine KV_of (by decide) (Nat.le_of_ble_eq_true rfl) (lv := [(0, .ref (eA V (7 + i))), (1, .int a0), (2, .int a1)]) rfl ?_
  intro p e s m args below meth c C
  rw [wp_X3_addCode] at h
  refine a_aload_n C 0 dX3_addCode_0 rfl rfl ?_
  refine a_geti C 5 dX3_addCode_1 (by have := hi; omega) (lw_obj hi) rfl rfl ib_3 (by decide) bw_248 ?_
  refine a_aload_n C 0 dX3_addCode_4 rfl rfl ?_
  refine a_getr C 3 (r := (14 + 4 * i)) dX3_addCode_5 (by have := hi; omega) (lw_obj hi) rfl rfl ib_3 (by decide) bw_243 ?_
  refine a_alen C 300 dX3_addCode_8 (by have := hi; omega) (lay_lc hi) (by decide) ?_
  refine a_icmp_ge C 37 dX3_addCode_9 (by decide) (fun c3 => ?_) (fun c3 => ?_)
  · have h := h.1 c3
    exact a_vret C dX3_addCode_37 h
  · have h := h.2 c3
    refine a_aload_n C 0 dX3_addCode_12 rfl rfl ?_
    refine a_getr C 3 (r := (14 + 4 * i)) dX3_addCode_13 (by have := hi; omega) (lw_obj hi) rfl rfl ib_3 (by decide) bw_243 ?_
    refine a_aload_n C 0 dX3_addCode_16 rfl rfl ?_
    refine a_geti C 5 dX3_addCode_17 (by have := hi; omega) (lw_obj hi) rfl rfl ib_3 (by decide) bw_248 ?_
    refine a_iload_n C 2 dX3_addCode_20 rfl rfl ?_
    refine a_bipush C 64 dX3_addCode_21 (by decide) ?_
    refine a_imul C dX3_addCode_23 ?_
    refine a_iload_n C 1 dX3_addCode_24 rfl rfl ?_
    refine a_iadd C dX3_addCode_25 ?_
    refine b_iast C (Int32.toNatClampNeg (gI u (7 + i) 5)) dX3_addCode_26 (by have := hi; omega) (lay_lc hi) h.1 rfl ?_
    have h := h.2
    refine a_topu (fun z1 ez1 => ?_)
    have h := h z1 ez1
    refine a_aload_n C 0 dX3_addCode_27 rfl rfl ?_
    refine a_dup C dX3_addCode_28 rfl ?_
    refine a_geti C 5 dX3_addCode_29 (by have := hi; omega) (lw_obj hi) rfl rfl ib_3 (by decide) bw_248 ?_
    refine a_iconst C 1 dX3_addCode_32 (by decide) ?_
    refine a_iadd C dX3_addCode_33 ?_
    refine a_puti C (ty := .int) 5 dX3_addCode_34 (by have := hi; omega) (lw_obj hi) rfl rfl ib_3 (by decide) bw_248 tyX3 tyX3_ok nmX3 rfl (by decide +kernel) rfl rfl ?_
    refine a_topu (fun z2 ez2 => ?_)
    have h := h z2 ez2
    exact a_vret C dX3_addCode_37 h

/-! RainOnTheOne$Law.skipToHere(I)V -/
def wp_X3_skipToHere (i : Nat) (a0 : Int32) (u : PoS) (post : PoS → Prop) : Prop := ((a0 < 0 → post u) ∧ (¬ a0 < 0 → (((gI u (7 + i) 5) ≤ a0 → post u) ∧ (¬ (gI u (7 + i) 5) ≤ a0 → vp_in a0 300 ∧ vp_in a0 300 ∧ ∀ z1 : PoS, z1 = pI u (14 + 4 * i) (Int32.toNatClampNeg a0) (((gI u (7 + i) 5) * 64) + (irem (gI u (14 + 4 * i) (Int32.toNatClampNeg a0)) 64)) → post z1))))
theorem np_X3_skipToHere : yX3_skipToHere.cls ≠ "java/lang/invoke/MethodHandle" ∧ yX3_skipToHere.cls ≠ "java/lang/invoke/VarHandle" ∧ (parseMethodDescriptor yX3_skipToHere.desc).map (fun d => d.parameters.length) = some 1 := by decide +kernel
set_option maxHeartbeats 4000000 in
set_option maxRecDepth 100000 in
theorem m_X3_skipToHere (l : Launch) (V : VEn) {i : Nat} (hi : i < 4) {a0 : Int32} {u : PoS} {post : PoS → Prop} (h : wp_X3_skipToHere i a0 u post) : KV l V yX3_skipToHere cX3_skipToHere 2 0 [.ref (eA V (7 + i)), .int a0] u post := by
  refine KV_of (by decide) (Nat.le_of_ble_eq_true rfl) (lv := [(0, .ref (eA V (7 + i))), (1, .int a0)]) rfl ?_
  intro p e s m args below meth c C
  rw [wp_X3_skipToHere] at h
  refine a_iload_n C 1 dX3_skipToHere_0 rfl rfl ?_
  refine a_if_lt C 35 dX3_skipToHere_1 (by decide) (fun c3 => ?_) (fun c3 => ?_)
  · have h := h.1 c3
    exact a_vret C dX3_skipToHere_35 h
  · have h := h.2 c3
    refine a_iload_n C 1 dX3_skipToHere_4 rfl rfl ?_
    refine a_aload_n C 0 dX3_skipToHere_5 rfl rfl ?_
    refine a_geti C 5 dX3_skipToHere_6 (by have := hi; omega) (lw_obj hi) rfl rfl ib_3 (by decide) bw_248 ?_
    refine a_icmp_ge C 35 dX3_skipToHere_9 (by decide) (fun c2 => ?_) (fun c2 => ?_)
    · have h := h.1 c2
      exact a_vret C dX3_skipToHere_35 h
    · have h := h.2 c2
      refine a_aload_n C 0 dX3_skipToHere_12 rfl rfl ?_
      refine a_getr C 3 (r := (14 + 4 * i)) dX3_skipToHere_13 (by have := hi; omega) (lw_obj hi) rfl rfl ib_3 (by decide) bw_243 ?_
      refine a_iload_n C 1 dX3_skipToHere_16 rfl rfl ?_
      refine a_aload_n C 0 dX3_skipToHere_17 rfl rfl ?_
      refine a_geti C 5 dX3_skipToHere_18 (by have := hi; omega) (lw_obj hi) rfl rfl ib_3 (by decide) bw_248 ?_
      refine a_bipush C 64 dX3_skipToHere_21 (by decide) ?_
      refine a_imul C dX3_skipToHere_23 ?_
      refine a_aload_n C 0 dX3_skipToHere_24 rfl rfl ?_
      refine a_getr C 3 (r := (14 + 4 * i)) dX3_skipToHere_25 (by have := hi; omega) (lw_obj hi) rfl rfl ib_3 (by decide) bw_243 ?_
      refine a_iload_n C 1 dX3_skipToHere_28 rfl rfl ?_
      refine b_iald C (Int32.toNatClampNeg a0) dX3_skipToHere_29 (by have := hi; omega) (lay_lc hi) h.1 rfl ?_
      have h := h.2
      refine a_bipush C 64 dX3_skipToHere_30 (by decide) ?_
      refine b_irem C dX3_skipToHere_32 (by decide) ?_
      refine a_iadd C dX3_skipToHere_33 ?_
      refine b_iast C (Int32.toNatClampNeg a0) dX3_skipToHere_34 (by have := hi; omega) (lay_lc hi) h.1 rfl ?_
      have h := h.2
      refine a_topu (fun z1 ez1 => ?_)
      have h := h z1 ez1
      exact a_vret C dX3_skipToHere_35 h

/-! RainOnTheOne$Parting.between(III)I -/
def wl_X4_between_8 (k51 : Int32 → Int32 → Int32 → Int32 → PoS → Prop) (post : Int32 → PoS → Prop) : Nat → Int32 → Int32 → Int32 → Int32 → PoS → Prop
  | 0, _, _, _, _, _ => False
  | n + 1, v2, v3, v4, v5, u => ((29 ≤ v5 → k51 v2 v3 v4 v5 u) ∧ (¬ 29 ≤ v5 → wp_X1_has v4 v2 u (fun (r2 : Int32) (u3 : PoS) => ((¬ r2 = 0 → k51 v2 v3 v4 v5 u3) ∧ (r2 = 0 → vp_in v5 30 ∧ ∀ z4 : PoS, z4 = pI u3 45 (Int32.toNatClampNeg v5) v4 → wp_X1_beside v4 z4 (fun (r5 : Int32) (u6 : PoS) => ∀ x7 : Int32, x7 = (v4 ||| (r5 &&& v3)) → wl_X4_between_8 k51 post n v2 v3 x7 (v5 + 1) u6))))))
def wl_X4_between_74 (post : Int32 → PoS → Prop) : Nat → Int32 → Int32 → Int32 → Int32 → PoS → Prop
  | 0, _, _, _, _, _ => False
  | n + 1, v3, v6, v7, v8, u => ((v8 ≤ 0 → post v6 u) ∧ (¬ v8 ≤ 0 → wp_X1_beside (1 <<< (v7 &&& 31)) u (fun (r14 : Int32) (u15 : PoS) => vp_in v8 30 ∧ ∀ x16 : Int32, x16 = ((r14 &&& (gI u15 45 (Int32.toNatClampNeg v8))) &&& v3) → ∀ x17 : Int32, x17 = (v6 ||| (x16 &&& (-x16))) → wp_X1_lowest x16 u15 (fun (r18 : Int32) (u19 : PoS) => wl_X4_between_74 post n v3 x17 r18 (v8 + (-1)) u19))))
def wj_X4_between_51 (post : Int32 → PoS → Prop) (v2 : Int32) (v3 : Int32) (v4 : Int32) (v5 : Int32) (u : PoS) : Prop := wp_X1_has v4 v2 u (fun (r11 : Int32) (u12 : PoS) => ((¬ r11 = 0 → ∀ x13 : Int32, x13 = (v5 - 1) → (∃ n74, wl_X4_between_74 post n74 v3 0 v2 x13 u12)) ∧ (r11 = 0 → post (-1) u12)))
def wp_X4_between (a0 : Int32) (a1 : Int32) (a2 : Int32) (u : PoS) (post : Int32 → PoS → Prop) : Prop := ∀ x1 : Int32, x1 = (1 <<< (a0 &&& 31)) → (∃ n8, wl_X4_between_8 (fun (v210 : Int32) (v310 : Int32) (v410 : Int32) (v510 : Int32) (u10 : PoS) => wj_X4_between_51 post v210 v310 v410 v510 u10) post n8 a1 a2 x1 0 u)
set_option maxHeartbeats 4000000 in
set_option maxRecDepth 100000 in
theorem tl_X4_between_8 {p : Program} {l : Launch} {e : Env} {s : State} {m : MethodId} {args : Array Value} {below : List Frame} {meth : Method} {c : Code} {V : VEn} {k51 : Int32 → Int32 → Int32 → Int32 → PoS → Prop} {post : Int32 → PoS → Prop} (C : CxS p s m args meth c V cX4_between 10 RX4 (some .int)) (hk51 : ∀ (v2 : Int32) (v3 : Int32) (v4 : Int32) (v5 : Int32) (u : PoS), k51 v2 v3 v4 v5 u → AtS p l e (Rm 2) s m args below meth c V 10 0 0 (QI V below args s post) 51 [(0, .ref (eA V 44)), (2, .int v2), (3, .int v3), (4, .int v4), (5, .int v5)] [] u) : ∀ (n : Nat) (v2 : Int32) (v3 : Int32) (v4 : Int32) (v5 : Int32) (u : PoS), wl_X4_between_8 k51 post n v2 v3 v4 v5 u → AtS p l e (Rm 2) s m args below meth c V 10 0 0 (QI V below args s post) 8 [(0, .ref (eA V 44)), (2, .int v2), (3, .int v3), (4, .int v4), (5, .int v5)] [] u := by
  intro n
  induction n with
  | zero => intro v2 v3 v4 v5 u h; exact h.elim
  | succ n ih =>
    intro v2 v3 v4 v5 u h
    rw [wl_X4_between_8] at h
    refine a_iload C 4 dX4_between_8 rfl ?_
    refine a_bipush C 29 dX4_between_10 (by decide) ?_
    refine a_icmp_ge C 51 dX4_between_12 (by decide) (fun c9 => ?_) (fun c9 => ?_)
    · have h := h.1 c9
      exact hk51 _ _ _ _ _ h
    · have h := h.2 c9
      refine a_iload C 3 dX4_between_15 rfl ?_
      refine a_iload_n C 1 dX4_between_17 rfl rfl ?_
      refine a_callSi C dX4_between_18 (m_X1_has l V h) bw_885 bw_642 bw_129 bw_643 np_X1_has rfl rfl (by decide) (Nat.le_of_ble_eq_true rfl) ⟨Nat.zero_le _, Nat.zero_le _⟩ (fun r2 u3 h => ?_)
      refine a_if_ne C 51 dX4_between_21 (by decide) (fun c8 => ?_) (fun c8 => ?_)
      · have h := h.1 c8
        exact hk51 _ _ _ _ _ h
      · have h := h.2 c8
        refine a_aload_n C 0 dX4_between_24 rfl rfl ?_
        refine a_getr C 0 (r := 45) dX4_between_25 (by decide) rfl rfl rfl ib_4 (by decide) bw_226 ?_
        refine a_iload C 4 dX4_between_28 rfl ?_
        refine a_iload C 3 dX4_between_30 rfl ?_
        refine b_iast C (Int32.toNatClampNeg v5) dX4_between_32 (by decide) rfl h.1 rfl ?_
        have h := h.2
        refine a_topu (fun z4 ez4 => ?_)
        have h := h z4 ez4
        refine a_iload C 3 dX4_between_33 rfl ?_
        refine a_iload C 3 dX4_between_35 rfl ?_
        refine a_callSi C dX4_between_37 (m_X1_beside l V h) bw_884 bw_636 bw_129 bw_637 np_X1_beside rfl rfl (by decide) (Nat.le_of_ble_eq_true rfl) ⟨Nat.zero_le _, Nat.zero_le _⟩ (fun r5 u6 h => ?_)
        refine a_iload_n C 2 dX4_between_40 rfl rfl ?_
        refine a_iand C dX4_between_41 ?_
        refine a_ior C dX4_between_42 ?_
        refine a_topi (fun x7 ex7 => ?_)
        have h := h x7 ex7
        refine a_istore C [(4, .int x7), (0, .ref (eA V 44)), (2, .int v2), (3, .int v3), (5, .int v5)] dX4_between_43 (by decide) rfl ?_
        refine a_iinc C (v5 + 1) 4 [(5, .int (v5 + 1)), (4, .int x7), (0, .ref (eA V 44)), (2, .int v2), (3, .int v3)] dX4_between_45 rfl (congrArg (fun z => v5 + z) (show Int32.ofInt 1 = 1 by decide)) (by decide) rfl ?_
        refine a_goto C 8 dX4_between_48 (by decide) ?_
        refine a_sub [2, 3, 4, 1, 0] rfl ?_
        exact ih _ _ _ _ _ h
set_option maxHeartbeats 4000000 in
set_option maxRecDepth 100000 in
theorem tl_X4_between_74 {p : Program} {l : Launch} {e : Env} {s : State} {m : MethodId} {args : Array Value} {below : List Frame} {meth : Method} {c : Code} {V : VEn} {post : Int32 → PoS → Prop} (C : CxS p s m args meth c V cX4_between 10 RX4 (some .int)) : ∀ (n : Nat) (v3 : Int32) (v6 : Int32) (v7 : Int32) (v8 : Int32) (u : PoS), wl_X4_between_74 post n v3 v6 v7 v8 u → AtS p l e (Rm 2) s m args below meth c V 10 0 0 (QI V below args s post) 74 [(0, .ref (eA V 44)), (3, .int v3), (6, .int v6), (7, .int v7), (8, .int v8)] [] u := by
  intro n
  induction n with
  | zero => intro v3 v6 v7 v8 u h; exact h.elim
  | succ n ih =>
    intro v3 v6 v7 v8 u h
    rw [wl_X4_between_74] at h
    refine a_iload C 4 dX4_between_74 rfl ?_
    refine a_if_le C 122 dX4_between_76 (by decide) (fun c20 => ?_) (fun c20 => ?_)
    · have h := h.1 c20
      refine a_iload C 2 dX4_between_122 rfl ?_
      exact a_iret C dX4_between_124 h
    · have h := h.2 c20
      refine a_iconst C 1 dX4_between_79 (by decide) ?_
      refine a_iload C 3 dX4_between_80 rfl ?_
      refine a_ishl C dX4_between_82 ?_
      refine a_callSi C dX4_between_83 (m_X1_beside l V h) bw_884 bw_636 bw_129 bw_637 np_X1_beside rfl rfl (by decide) (Nat.le_of_ble_eq_true rfl) ⟨Nat.zero_le _, Nat.zero_le _⟩ (fun r14 u15 h => ?_)
      refine a_aload_n C 0 dX4_between_86 rfl rfl ?_
      refine a_getr C 0 (r := 45) dX4_between_87 (by decide) rfl rfl rfl ib_4 (by decide) bw_226 ?_
      refine a_iload C 4 dX4_between_90 rfl ?_
      refine b_iald C (Int32.toNatClampNeg v8) dX4_between_92 (by decide) rfl h.1 rfl ?_
      have h := h.2
      refine a_iand C dX4_between_93 ?_
      refine a_iload_n C 1 dX4_between_94 rfl rfl ?_
      refine a_iand C dX4_between_95 ?_
      refine a_topi (fun x16 ex16 => ?_)
      have h := h x16 ex16
      refine a_istore C [(9, .int x16), (0, .ref (eA V 44)), (3, .int v3), (6, .int v6), (7, .int v7), (8, .int v8)] dX4_between_96 (by decide) rfl ?_
      refine a_iload C 3 dX4_between_98 rfl ?_
      refine a_iload C 0 dX4_between_100 rfl ?_
      refine a_iload C 0 dX4_between_102 rfl ?_
      refine a_ineg C dX4_between_104 ?_
      refine a_iand C dX4_between_105 ?_
      refine a_ior C dX4_between_106 ?_
      refine a_topi (fun x17 ex17 => ?_)
      have h := h x17 ex17
      refine a_istore C [(6, .int x17), (9, .int x16), (0, .ref (eA V 44)), (3, .int v3), (7, .int v7), (8, .int v8)] dX4_between_107 (by decide) rfl ?_
      refine a_iload C 1 dX4_between_109 rfl ?_
      refine a_callSi C dX4_between_111 (m_X1_lowest l V h) bw_896 bw_736 bw_129 bw_737 np_X1_lowest rfl rfl (by decide) (Nat.le_of_ble_eq_true rfl) ⟨Nat.zero_le _, Nat.zero_le _⟩ (fun r18 u19 h => ?_)
      refine a_istore C [(7, .int r18), (6, .int x17), (9, .int x16), (0, .ref (eA V 44)), (3, .int v3), (8, .int v8)] dX4_between_114 (by decide) rfl ?_
      refine a_iinc C (v8 + (-1)) 5 [(8, .int (v8 + (-1))), (7, .int r18), (6, .int x17), (9, .int x16), (0, .ref (eA V 44)), (3, .int v3)] dX4_between_116 rfl (congrArg (fun z => v8 + z) (show Int32.ofInt (-1) = (-1) by decide)) (by decide) rfl ?_
      refine a_goto C 74 dX4_between_119 (by decide) ?_
      refine a_sub [4, 5, 2, 1, 0] rfl ?_
      exact ih _ _ _ _ _ h
set_option maxHeartbeats 4000000 in
set_option maxRecDepth 100000 in
theorem tj_X4_between_51 {p : Program} {l : Launch} {e : Env} {s : State} {m : MethodId} {args : Array Value} {below : List Frame} {meth : Method} {c : Code} {V : VEn} {post : Int32 → PoS → Prop} (C : CxS p s m args meth c V cX4_between 10 RX4 (some .int)) (v2 : Int32) (v3 : Int32) (v4 : Int32) (v5 : Int32) (u : PoS) (h : wj_X4_between_51 post v2 v3 v4 v5 u) : AtS p l e (Rm 2) s m args below meth c V 10 0 0 (QI V below args s post) 51 [(0, .ref (eA V 44)), (2, .int v2), (3, .int v3), (4, .int v4), (5, .int v5)] [] u := by
  rw [wj_X4_between_51] at h
  refine a_iload C 3 dX4_between_51 rfl ?_
  refine a_iload_n C 1 dX4_between_53 rfl rfl ?_
  refine a_callSi C dX4_between_54 (m_X1_has l V h) bw_885 bw_642 bw_129 bw_643 np_X1_has rfl rfl (by decide) (Nat.le_of_ble_eq_true rfl) ⟨Nat.zero_le _, Nat.zero_le _⟩ (fun r11 u12 h => ?_)
  refine a_if_ne C 62 dX4_between_57 (by decide) (fun c21 => ?_) (fun c21 => ?_)
  · have h := h.1 c21
    refine a_iconst C 0 dX4_between_62 (by decide) ?_
    refine a_istore C [(6, .int 0), (0, .ref (eA V 44)), (2, .int v2), (3, .int v3), (4, .int v4), (5, .int v5)] dX4_between_63 (by decide) rfl ?_
    refine a_iload_n C 2 dX4_between_65 rfl rfl ?_
    refine a_istore C [(7, .int v2), (6, .int 0), (0, .ref (eA V 44)), (2, .int v2), (3, .int v3), (4, .int v4), (5, .int v5)] dX4_between_66 (by decide) rfl ?_
    refine a_iload C 6 dX4_between_68 rfl ?_
    refine a_iconst C 1 dX4_between_70 (by decide) ?_
    refine a_isub C dX4_between_71 ?_
    refine a_topi (fun x13 ex13 => ?_)
    have h := h x13 ex13
    refine a_istore C [(8, .int x13), (7, .int v2), (6, .int 0), (0, .ref (eA V 44)), (2, .int v2), (3, .int v3), (4, .int v4), (5, .int v5)] dX4_between_72 (by decide) rfl ?_
    refine a_sub [3, 5, 2, 1, 0] rfl ?_
    obtain ⟨n74, h⟩ := h
    refine tl_X4_between_74 C n74 _ _ _ _ _ h
  · have h := h.2 c21
    refine a_iconst C (-1) dX4_between_60 (by decide) ?_
    exact a_iret C dX4_between_61 h
theorem np_X4_between : yX4_between.cls ≠ "java/lang/invoke/MethodHandle" ∧ yX4_between.cls ≠ "java/lang/invoke/VarHandle" ∧ (parseMethodDescriptor yX4_between.desc).map (fun d => d.parameters.length) = some 3 := by decide +kernel
set_option maxHeartbeats 4000000 in
set_option maxRecDepth 100000 in
theorem m_X4_between (l : Launch) (V : VEn) {a0 : Int32} {a1 : Int32} {a2 : Int32} {u : PoS} {post : Int32 → PoS → Prop} (h : wp_X4_between a0 a1 a2 u post) : KI l V yX4_between cX4_between 10 .int 2 [.ref (eA V 44), .int a0, .int a1, .int a2] u post := by
  refine KI_of (by decide) (Nat.le_of_ble_eq_true rfl) (lv := [(0, .ref (eA V 44)), (1, .int a0), (2, .int a1), (3, .int a2)]) rfl ?_
  intro p e s m args below meth c C
  rw [wp_X4_between] at h
  refine a_iconst C 1 dX4_between_0 (by decide) ?_
  refine a_iload_n C 1 dX4_between_1 rfl rfl ?_
  refine a_ishl C dX4_between_2 ?_
  refine a_topi (fun x1 ex1 => ?_)
  have h := h x1 ex1
  refine a_istore C [(4, .int x1), (0, .ref (eA V 44)), (1, .int a0), (2, .int a1), (3, .int a2)] dX4_between_3 (by decide) rfl ?_
  refine a_iconst C 0 dX4_between_5 (by decide) ?_
  refine a_istore C [(5, .int 0), (4, .int x1), (0, .ref (eA V 44)), (1, .int a0), (2, .int a1), (3, .int a2)] dX4_between_6 (by decide) rfl ?_
  refine a_sub [2, 4, 5, 1, 0] rfl ?_
  obtain ⟨n8, h⟩ := h
  refine tl_X4_between_8 C (fun v210 v310 v410 v510 u10 h => ?_) n8 _ _ _ _ _ h
  refine tj_X4_between_51 C _ _ _ _ _ h

theorem np_X4_parted : yX4_parted.cls ≠ "java/lang/invoke/MethodHandle" ∧ yX4_parted.cls ≠ "java/lang/invoke/VarHandle" ∧ (parseMethodDescriptor yX4_parted.desc).map (fun d => d.parameters.length) = some 4 := by decide +kernel
/-! RainOnTheOne$Parting.parted(IIII)Z -/
def wj_X4_parted_65 (rc_X4_parted : Int32 → Int32 → Int32 → Int32 → PoS → (Int32 → PoS → Prop) → Prop) (k20 : Int32 → Int32 → Int32 → Int32 → Int32 → Int32 → PoS → Prop) (post : Int32 → PoS → Prop) (v1 : Int32) (v2 : Int32) (v3 : Int32) (v4 : Int32) (v5 : Int32) (v6 : Int32) (u : PoS) : Prop := k20 v1 v2 v3 v4 v5 (v6 + 1) u
def wl_X4_parted_20 (rc_X4_parted : Int32 → Int32 → Int32 → Int32 → PoS → (Int32 → PoS → Prop) → Prop) (post : Int32 → PoS → Prop) : Nat → Int32 → Int32 → Int32 → Int32 → Int32 → Int32 → PoS → Prop
  | 0, _, _, _, _, _, _, _ => False
  | n + 1, v1, v2, v3, v4, v5, v6, u => ((30 ≤ v6 → post 0 u) ∧ (¬ 30 ≤ v6 → ((v4 ≤ 0 → post 0 u) ∧ (¬ v4 ≤ 0 → wp_X1_has v5 v6 u (fun (r3 : Int32) (u4 : PoS) => ((r3 = 0 → wj_X4_parted_65 rc_X4_parted (wl_X4_parted_20 rc_X4_parted post n) post v1 v2 v3 v4 v5 v6 u4) ∧ (¬ r3 = 0 → rc_X4_parted v1 v2 (v3 &&& ((1 <<< (v6 &&& 31)) ^^^ (-1))) (v4 - 1) u4 (fun (r5 : Int32) (u6 : PoS) => ((r5 = 0 → wj_X4_parted_65 rc_X4_parted (wl_X4_parted_20 rc_X4_parted post n) post v1 v2 v3 v4 v5 v6 u6) ∧ (¬ r5 = 0 → post 1 u6))))))))))
def wb_X4_parted (rc_X4_parted : Int32 → Int32 → Int32 → Int32 → PoS → (Int32 → PoS → Prop) → Prop) (a0 : Int32) (a1 : Int32) (a2 : Int32) (a3 : Int32) (u : PoS) (post : Int32 → PoS → Prop) : Prop := wp_X4_between a0 a1 a2 u (fun (r1 : Int32) (u2 : PoS) => ((¬ r1 = (-1) → (∃ n20, wl_X4_parted_20 rc_X4_parted post n20 a0 a1 a2 a3 r1 0 u2)) ∧ (r1 = (-1) → post 1 u2)))
set_option maxHeartbeats 4000000 in
set_option maxRecDepth 100000 in
theorem tj_X4_parted_65 {p : Program} {l : Launch} {e : Env} {s : State} {m : MethodId} {args : Array Value} {below : List Frame} {meth : Method} {c : Code} {V : VEn} {D : Nat} {rc_X4_parted : Int32 → Int32 → Int32 → Int32 → PoS → (Int32 → PoS → Prop) → Prop} {k20 : Int32 → Int32 → Int32 → Int32 → Int32 → Int32 → PoS → Prop} {post : Int32 → PoS → Prop} (C : CxS p s m args meth c V cX4_parted 7 RX4 (some .boolean)) (hD : 2 ≤ D) (hrc_X4_parted : ∀ (a0 : Int32) (a1 : Int32) (a2 : Int32) (a3 : Int32) (u : PoS) (post : Int32 → PoS → Prop), rc_X4_parted a0 a1 a2 a3 u post → KI l V yX4_parted cX4_parted 7 .boolean D [.ref (eA V 44), .int a0, .int a1, .int a2, .int a3] u post) (hk20 : ∀ (v1 : Int32) (v2 : Int32) (v3 : Int32) (v4 : Int32) (v5 : Int32) (v6 : Int32) (u : PoS), k20 v1 v2 v3 v4 v5 v6 u → AtS p l e (Rm (D + 1)) s m args below meth c V 7 0 0 (QI V below args s post) 20 [(0, .ref (eA V 44)), (1, .int v1), (2, .int v2), (3, .int v3), (4, .int v4), (5, .int v5), (6, .int v6)] [] u) (v1 : Int32) (v2 : Int32) (v3 : Int32) (v4 : Int32) (v5 : Int32) (v6 : Int32) (u : PoS) (h : wj_X4_parted_65 rc_X4_parted k20 post v1 v2 v3 v4 v5 v6 u) : AtS p l e (Rm (D + 1)) s m args below meth c V 7 0 0 (QI V below args s post) 65 [(0, .ref (eA V 44)), (1, .int v1), (2, .int v2), (3, .int v3), (4, .int v4), (5, .int v5), (6, .int v6)] [] u := by
  rw [wj_X4_parted_65] at h
  refine a_iinc C (v6 + 1) 6 [(6, .int (v6 + 1)), (0, .ref (eA V 44)), (1, .int v1), (2, .int v2), (3, .int v3), (4, .int v4), (5, .int v5)] dX4_parted_65 rfl (congrArg (fun z => v6 + z) (show Int32.ofInt 1 = 1 by decide)) (by decide) rfl ?_
  refine a_goto C 20 dX4_parted_68 (by decide) ?_
  refine a_sub [1, 2, 3, 4, 5, 6, 0] rfl ?_
  exact hk20 _ _ _ _ _ _ _ h
set_option maxHeartbeats 4000000 in
set_option maxRecDepth 100000 in
theorem tl_X4_parted_20 {p : Program} {l : Launch} {e : Env} {s : State} {m : MethodId} {args : Array Value} {below : List Frame} {meth : Method} {c : Code} {V : VEn} {D : Nat} {rc_X4_parted : Int32 → Int32 → Int32 → Int32 → PoS → (Int32 → PoS → Prop) → Prop} {post : Int32 → PoS → Prop} (C : CxS p s m args meth c V cX4_parted 7 RX4 (some .boolean)) (hD : 2 ≤ D) (hrc_X4_parted : ∀ (a0 : Int32) (a1 : Int32) (a2 : Int32) (a3 : Int32) (u : PoS) (post : Int32 → PoS → Prop), rc_X4_parted a0 a1 a2 a3 u post → KI l V yX4_parted cX4_parted 7 .boolean D [.ref (eA V 44), .int a0, .int a1, .int a2, .int a3] u post) : ∀ (n : Nat) (v1 : Int32) (v2 : Int32) (v3 : Int32) (v4 : Int32) (v5 : Int32) (v6 : Int32) (u : PoS), wl_X4_parted_20 rc_X4_parted post n v1 v2 v3 v4 v5 v6 u → AtS p l e (Rm (D + 1)) s m args below meth c V 7 0 0 (QI V below args s post) 20 [(0, .ref (eA V 44)), (1, .int v1), (2, .int v2), (3, .int v3), (4, .int v4), (5, .int v5), (6, .int v6)] [] u := by
  intro n
  induction n with
  | zero => intro v1 v2 v3 v4 v5 v6 u h; exact h.elim
  | succ n ih =>
    intro v1 v2 v3 v4 v5 v6 u h
    rw [wl_X4_parted_20] at h
    refine a_iload C 6 dX4_parted_20 rfl ?_
    refine a_bipush C 30 dX4_parted_22 (by decide) ?_
    refine a_icmp_ge C 71 dX4_parted_24 (by decide) (fun c10 => ?_) (fun c10 => ?_)
    · have h := h.1 c10
      refine a_iconst C 0 dX4_parted_71 (by decide) ?_
      exact a_zret C rfl dX4_parted_72 h
    · have h := h.2 c10
      refine a_iload C 4 dX4_parted_27 rfl ?_
      refine a_if_le C 71 dX4_parted_29 (by decide) (fun c9 => ?_) (fun c9 => ?_)
      · have h := h.1 c9
        refine a_iconst C 0 dX4_parted_71 (by decide) ?_
        exact a_zret C rfl dX4_parted_72 h
      · have h := h.2 c9
        refine a_iload C 5 dX4_parted_32 rfl ?_
        refine a_iload C 6 dX4_parted_34 rfl ?_
        refine a_callSi C dX4_parted_36 (m_X1_has l V h) bw_885 bw_642 bw_129 bw_643 np_X1_has rfl rfl (rm_ok (by omega) (by decide)) (Nat.le_of_ble_eq_true rfl) ⟨Nat.zero_le _, Nat.zero_le _⟩ (fun r3 u4 h => ?_)
        refine a_if_eq C 65 dX4_parted_39 (by decide) (fun c8 => ?_) (fun c8 => ?_)
        · have h := h.1 c8
          refine tj_X4_parted_65 C hD hrc_X4_parted ih _ _ _ _ _ _ _ h
        · have h := h.2 c8
          refine a_aload_n C 0 dX4_parted_42 rfl rfl ?_
          refine a_iload_n C 1 dX4_parted_43 rfl rfl ?_
          refine a_iload_n C 2 dX4_parted_44 rfl rfl ?_
          refine a_iload_n C 3 dX4_parted_45 rfl rfl ?_
          refine a_iconst C 1 dX4_parted_46 (by decide) ?_
          refine a_iload C 6 dX4_parted_47 rfl ?_
          refine a_ishl C dX4_parted_49 ?_
          refine a_iconst C (-1) dX4_parted_50 (by decide) ?_
          refine a_ixor C dX4_parted_51 ?_
          refine a_iand C dX4_parted_52 ?_
          refine a_iload C 4 dX4_parted_53 rfl ?_
          refine a_iconst C 1 dX4_parted_55 (by decide) ?_
          refine a_isub C dX4_parted_56 ?_
          refine a_callVi C dX4_parted_57 (hrc_X4_parted _ _ _ _ _ _ h) bw_888 bw_890 bw_31 bw_116 bw_891 (by decide) rfl rfl np_X4_parted rfl rfl (rm_ok (by omega) (by decide)) (Nat.le_of_ble_eq_true rfl) ⟨Nat.zero_le _, Nat.zero_le _⟩ (fun r5 u6 h => ?_)
          refine a_if_eq C 65 dX4_parted_60 (by decide) (fun c7 => ?_) (fun c7 => ?_)
          · have h := h.1 c7
            refine tj_X4_parted_65 C hD hrc_X4_parted ih _ _ _ _ _ _ _ h
          · have h := h.2 c7
            refine a_iconst C 1 dX4_parted_63 (by decide) ?_
            exact a_zret C rfl dX4_parted_64 h
set_option maxHeartbeats 4000000 in
set_option maxRecDepth 100000 in
theorem mb_X4_parted (l : Launch) (V : VEn) {D : Nat} {rc_X4_parted : Int32 → Int32 → Int32 → Int32 → PoS → (Int32 → PoS → Prop) → Prop} (hD : 2 ≤ D) (hrc_X4_parted : ∀ (a0 : Int32) (a1 : Int32) (a2 : Int32) (a3 : Int32) (u : PoS) (post : Int32 → PoS → Prop), rc_X4_parted a0 a1 a2 a3 u post → KI l V yX4_parted cX4_parted 7 .boolean D [.ref (eA V 44), .int a0, .int a1, .int a2, .int a3] u post) {a0 : Int32} {a1 : Int32} {a2 : Int32} {a3 : Int32} {u : PoS} {post : Int32 → PoS → Prop} (h : wb_X4_parted rc_X4_parted a0 a1 a2 a3 u post) : KI l V yX4_parted cX4_parted 7 .boolean (D + 1) [.ref (eA V 44), .int a0, .int a1, .int a2, .int a3] u post := by
  refine KI_of (by decide) (Nat.le_of_ble_eq_true rfl) (lv := [(0, .ref (eA V 44)), (1, .int a0), (2, .int a1), (3, .int a2), (4, .int a3)]) rfl ?_
  intro p e s m args below meth c C
  rw [wb_X4_parted] at h
  refine a_aload_n C 0 dX4_parted_0 rfl rfl ?_
  refine a_iload_n C 1 dX4_parted_1 rfl rfl ?_
  refine a_iload_n C 2 dX4_parted_2 rfl rfl ?_
  refine a_iload_n C 3 dX4_parted_3 rfl rfl ?_
  refine a_callVi C dX4_parted_4 (m_X4_between l V h) bw_892 bw_894 bw_32 bw_116 bw_895 (by decide) rfl rfl np_X4_between rfl rfl (rm_ok (by omega) (by decide)) (Nat.le_of_ble_eq_true rfl) ⟨Nat.zero_le _, Nat.zero_le _⟩ (fun r1 u2 h => ?_)
  refine a_istore C [(5, .int r1), (0, .ref (eA V 44)), (1, .int a0), (2, .int a1), (3, .int a2), (4, .int a3)] dX4_parted_7 (by decide) rfl ?_
  refine a_iload C 0 dX4_parted_9 rfl ?_
  refine a_iconst C (-1) dX4_parted_11 (by decide) ?_
  refine a_icmp_ne C 17 dX4_parted_12 (by decide) (fun c11 => ?_) (fun c11 => ?_)
  · have h := h.1 c11
    refine a_iconst C 0 dX4_parted_17 (by decide) ?_
    refine a_istore C [(6, .int 0), (5, .int r1), (0, .ref (eA V 44)), (1, .int a0), (2, .int a1), (3, .int a2), (4, .int a3)] dX4_parted_18 (by decide) rfl ?_
    refine a_sub [2, 3, 4, 5, 6, 1, 0] rfl ?_
    obtain ⟨n20, h⟩ := h
    refine tl_X4_parted_20 C hD hrc_X4_parted n20 _ _ _ _ _ _ _ h
  · have h := h.2 c11
    refine a_iconst C 1 dX4_parted_15 (by decide) ?_
    exact a_zret C rfl dX4_parted_16 h

def wR_parted : Nat → (Int32 → Int32 → Int32 → Int32 → PoS → (Int32 → PoS → Prop) → Prop)
  | 0 => (fun _ _ _ _ _ _ => False)
  | q + 1 => (wb_X4_parted (wR_parted q))
def wp_X4_parted (q : Nat) (a0 : Int32) (a1 : Int32) (a2 : Int32) (a3 : Int32) (u : PoS) (post : Int32 → PoS → Prop) : Prop := (wR_parted q) a0 a1 a2 a3 u post
theorem mR_parted (l : Launch) (V : VEn) : ∀ q : Nat, (∀ (a0 : Int32) (a1 : Int32) (a2 : Int32) (a3 : Int32) (u : PoS) (post : Int32 → PoS → Prop), (wR_parted q) a0 a1 a2 a3 u post → KI l V yX4_parted cX4_parted 7 .boolean (2 + 1 * q) [.ref (eA V 44), .int a0, .int a1, .int a2, .int a3] u post) := by
  intro q
  induction q with
  | zero => exact fun _ _ _ _ _ _ h => h.elim
  | succ q ih =>
    rw [show 2 + 1 * (q + 1) = 2 + 1 * q + 1 by omega]
    exact fun _ _ _ _ _ _ h => mb_X4_parted l V (D := 2 + 1 * q) (by omega) ih h
theorem m_X4_parted (l : Launch) (V : VEn) (q : Nat) (a0 : Int32) (a1 : Int32) (a2 : Int32) (a3 : Int32) (u : PoS) (post : Int32 → PoS → Prop) (h : wp_X4_parted q a0 a1 a2 a3 u post) : KI l V yX4_parted cX4_parted 7 .boolean (2 + 1 * q) [.ref (eA V 44), .int a0, .int a1, .int a2, .int a3] u post := (mR_parted l V q) a0 a1 a2 a3 u post h

/-! RainOnTheOne$Parting.fewest(III)I -/
def wl_X4_fewest_49 (post : Int32 → PoS → Prop) : Nat → Int32 → Int32 → Int32 → Int32 → Int32 → PoS → Prop
  | 0, _, _, _, _, _, _ => False
  | n + 1, v1, v2, v3, v6, v7, u => ((v6 ≤ v7 → post v6 u) ∧ (¬ v6 ≤ v7 → wp_X4_parted 7 v1 v2 v3 v7 u (fun (r14 : Int32) (u15 : PoS) => ((r14 = 0 → wl_X4_fewest_49 post n v1 v2 v3 v6 (v7 + 1) u15) ∧ (¬ r14 = 0 → post v7 u15)))))
def wp_X4_fewest (a0 : Int32) (a1 : Int32) (a2 : Int32) (u : PoS) (post : Int32 → PoS → Prop) : Prop := wp_X1_beside (1 <<< (a0 &&& 31)) u (fun (r1 : Int32) (u2 : PoS) => ∀ x3 : Int32, x3 = (r1 &&& a2) → wp_X1_beside (1 <<< (a1 &&& 31)) u2 (fun (r4 : Int32) (u5 : PoS) => ∀ x6 : Int32, x6 = (r4 &&& a2) → wp_X1_has x3 a1 u5 (fun (r7 : Int32) (u8 : PoS) => ((r7 = 0 → wp_J6_bitCount_0f7a4 x3 u8 (fun (r9 : Int32) (u10 : PoS) => wp_J6_bitCount_0f7a4 x6 u10 (fun (r11 : Int32) (u12 : PoS) => ∀ x13 : Int32, x13 = (imin r9 r11) → (∃ n49, wl_X4_fewest_49 post n49 a0 a1 a2 x13 0 u12)))) ∧ (¬ r7 = 0 → post (-1) u8)))))
set_option maxHeartbeats 4000000 in
set_option maxRecDepth 100000 in
theorem tl_X4_fewest_49 {p : Program} {l : Launch} {e : Env} {s : State} {m : MethodId} {args : Array Value} {below : List Frame} {meth : Method} {c : Code} {V : VEn} {post : Int32 → PoS → Prop} (C : CxS p s m args meth c V cX4_fewest 8 RX4 (some .int)) : ∀ (n : Nat) (v1 : Int32) (v2 : Int32) (v3 : Int32) (v6 : Int32) (v7 : Int32) (u : PoS), wl_X4_fewest_49 post n v1 v2 v3 v6 v7 u → AtS p l e (Rm 10) s m args below meth c V 8 0 0 (QI V below args s post) 49 [(0, .ref (eA V 44)), (1, .int v1), (2, .int v2), (3, .int v3), (6, .int v6), (7, .int v7)] [] u := by
  intro n
  induction n with
  | zero => intro v1 v2 v3 v6 v7 u h; exact h.elim
  | succ n ih =>
    intro v1 v2 v3 v6 v7 u h
    rw [wl_X4_fewest_49] at h
    refine a_iload C 5 dX4_fewest_49 rfl ?_
    refine a_iload C 4 dX4_fewest_51 rfl ?_
    refine a_icmp_ge C 77 dX4_fewest_53 (by decide) (fun c17 => ?_) (fun c17 => ?_)
    · have h := h.1 c17
      refine a_iload C 4 dX4_fewest_77 rfl ?_
      exact a_iret C dX4_fewest_79 h
    · have h := h.2 c17
      refine a_aload_n C 0 dX4_fewest_56 rfl rfl ?_
      refine a_iload_n C 1 dX4_fewest_57 rfl rfl ?_
      refine a_iload_n C 2 dX4_fewest_58 rfl rfl ?_
      refine a_iload_n C 3 dX4_fewest_59 rfl rfl ?_
      refine a_iload C 5 dX4_fewest_60 rfl ?_
      refine a_callVi C dX4_fewest_62 (m_X4_parted l V 7 _ _ _ _ _ _ h) bw_888 bw_890 bw_31 bw_116 bw_891 (by decide) rfl rfl np_X4_parted rfl rfl (by decide) (Nat.le_of_ble_eq_true rfl) ⟨Nat.zero_le _, Nat.zero_le _⟩ (fun r14 u15 h => ?_)
      refine a_if_eq C 71 dX4_fewest_65 (by decide) (fun c16 => ?_) (fun c16 => ?_)
      · have h := h.1 c16
        refine a_iinc C (v7 + 1) 5 [(7, .int (v7 + 1)), (0, .ref (eA V 44)), (1, .int v1), (2, .int v2), (3, .int v3), (6, .int v6)] dX4_fewest_71 rfl (congrArg (fun z => v7 + z) (show Int32.ofInt 1 = 1 by decide)) (by decide) rfl ?_
        refine a_goto C 49 dX4_fewest_74 (by decide) ?_
        refine a_sub [1, 2, 3, 4, 5, 0] rfl ?_
        exact ih _ _ _ _ _ _ h
      · have h := h.2 c16
        refine a_iload C 5 dX4_fewest_68 rfl ?_
        exact a_iret C dX4_fewest_70 h
theorem np_X4_fewest : yX4_fewest.cls ≠ "java/lang/invoke/MethodHandle" ∧ yX4_fewest.cls ≠ "java/lang/invoke/VarHandle" ∧ (parseMethodDescriptor yX4_fewest.desc).map (fun d => d.parameters.length) = some 3 := by decide +kernel
set_option maxHeartbeats 4000000 in
set_option maxRecDepth 100000 in
theorem m_X4_fewest (l : Launch) (V : VEn) {a0 : Int32} {a1 : Int32} {a2 : Int32} {u : PoS} {post : Int32 → PoS → Prop} (h : wp_X4_fewest a0 a1 a2 u post) : KI l V yX4_fewest cX4_fewest 8 .int 10 [.ref (eA V 44), .int a0, .int a1, .int a2] u post := by
  refine KI_of (by decide) (Nat.le_of_ble_eq_true rfl) (lv := [(0, .ref (eA V 44)), (1, .int a0), (2, .int a1), (3, .int a2)]) rfl ?_
  intro p e s m args below meth c C
  rw [wp_X4_fewest] at h
  refine a_iconst C 1 dX4_fewest_0 (by decide) ?_
  refine a_iload_n C 1 dX4_fewest_1 rfl rfl ?_
  refine a_ishl C dX4_fewest_2 ?_
  refine a_callSi C dX4_fewest_3 (m_X1_beside l V h) bw_884 bw_636 bw_129 bw_637 np_X1_beside rfl rfl (by decide) (Nat.le_of_ble_eq_true rfl) ⟨Nat.zero_le _, Nat.zero_le _⟩ (fun r1 u2 h => ?_)
  refine a_iload_n C 3 dX4_fewest_6 rfl rfl ?_
  refine a_iand C dX4_fewest_7 ?_
  refine a_topi (fun x3 ex3 => ?_)
  have h := h x3 ex3
  refine a_istore C [(4, .int x3), (0, .ref (eA V 44)), (1, .int a0), (2, .int a1), (3, .int a2)] dX4_fewest_8 (by decide) rfl ?_
  refine a_iconst C 1 dX4_fewest_10 (by decide) ?_
  refine a_iload_n C 3 dX4_fewest_11 rfl rfl ?_
  refine a_ishl C dX4_fewest_12 ?_
  refine a_callSi C dX4_fewest_13 (m_X1_beside l V h) bw_884 bw_636 bw_129 bw_637 np_X1_beside rfl rfl (by decide) (Nat.le_of_ble_eq_true rfl) ⟨Nat.zero_le _, Nat.zero_le _⟩ (fun r4 u5 h => ?_)
  refine a_iload_n C 4 dX4_fewest_16 rfl rfl ?_
  refine a_iand C dX4_fewest_17 ?_
  refine a_topi (fun x6 ex6 => ?_)
  have h := h x6 ex6
  refine a_istore C [(5, .int x6), (4, .int x3), (0, .ref (eA V 44)), (1, .int a0), (2, .int a1), (3, .int a2)] dX4_fewest_18 (by decide) rfl ?_
  refine a_iload C 1 dX4_fewest_20 rfl ?_
  refine a_iload_n C 4 dX4_fewest_22 rfl rfl ?_
  refine a_callSi C dX4_fewest_23 (m_X1_has l V h) bw_885 bw_642 bw_129 bw_643 np_X1_has rfl rfl (by decide) (Nat.le_of_ble_eq_true rfl) ⟨Nat.zero_le _, Nat.zero_le _⟩ (fun r7 u8 h => ?_)
  refine a_if_eq C 31 dX4_fewest_26 (by decide) (fun c18 => ?_) (fun c18 => ?_)
  · have h := h.1 c18
    refine a_iload C 1 dX4_fewest_31 rfl ?_
    refine a_callSi C dX4_fewest_33 (m_J6_bitCount_0f7a4 l V h) bw_886 bw_739 bw_131 bw_740 np_J6_bitCount_0f7a4 rfl rfl (by decide) (Nat.le_of_ble_eq_true rfl) ⟨Nat.zero_le _, Nat.zero_le _⟩ (fun r9 u10 h => ?_)
    refine a_iload C 0 dX4_fewest_36 rfl ?_
    refine a_callSi C dX4_fewest_38 (m_J6_bitCount_0f7a4 l V h) bw_886 bw_739 bw_131 bw_740 np_J6_bitCount_0f7a4 rfl rfl (by decide) (Nat.le_of_ble_eq_true rfl) ⟨Nat.zero_le _, Nat.zero_le _⟩ (fun r11 u12 h => ?_)
    refine b_mmin C dX4_fewest_41 bw_887 bw_441 bw_121 bw_442 (by decide) (Nat.le_of_ble_eq_true rfl) ⟨Nat.zero_le _, Nat.zero_le _⟩ ?_
    refine a_topi (fun x13 ex13 => ?_)
    have h := h x13 ex13
    refine a_istore C [(6, .int x13), (5, .int x6), (4, .int x3), (0, .ref (eA V 44)), (1, .int a0), (2, .int a1), (3, .int a2)] dX4_fewest_44 (by decide) rfl ?_
    refine a_iconst C 0 dX4_fewest_46 (by decide) ?_
    refine a_istore C [(7, .int 0), (6, .int x13), (5, .int x6), (4, .int x3), (0, .ref (eA V 44)), (1, .int a0), (2, .int a1), (3, .int a2)] dX4_fewest_47 (by decide) rfl ?_
    refine a_sub [4, 5, 6, 7, 1, 0] rfl ?_
    obtain ⟨n49, h⟩ := h
    refine tl_X4_fewest_49 C n49 _ _ _ _ _ _ h
  · have h := h.2 c18
    refine a_iconst C (-1) dX4_fewest_29 (by decide) ?_
    exact a_iret C dX4_fewest_30 h

/-! RainOnTheOne$Rain.written(IIII)I -/
def wp_X5_written (a0 : Int32) (a1 : Int32) (a2 : Int32) (a3 : Int32) (u : PoS) (post : Int32 → PoS → Prop) : Prop := post ((((((a0 * 5) + a1) * 30) + a2) * 10) + a3) u
theorem np_X5_written : yX5_written.cls ≠ "java/lang/invoke/MethodHandle" ∧ yX5_written.cls ≠ "java/lang/invoke/VarHandle" ∧ (parseMethodDescriptor yX5_written.desc).map (fun d => d.parameters.length) = some 4 := by decide +kernel
set_option maxHeartbeats 4000000 in
set_option maxRecDepth 100000 in
theorem m_X5_written (l : Launch) (V : VEn) {a0 : Int32} {a1 : Int32} {a2 : Int32} {a3 : Int32} {u : PoS} {post : Int32 → PoS → Prop} (h : wp_X5_written a0 a1 a2 a3 u post) : KI l V yX5_written cX5_written 4 .int 0 [.int a0, .int a1, .int a2, .int a3] u post := by
  refine KI_of (by decide) (Nat.le_of_ble_eq_true rfl) (lv := [(0, .int a0), (1, .int a1), (2, .int a2), (3, .int a3)]) rfl ?_
  intro p e s m args below meth c C
  rw [wp_X5_written] at h
  refine a_iload_n C 0 dX5_written_0 rfl rfl ?_
  refine a_iconst C 5 dX5_written_1 (by decide) ?_
  refine a_imul C dX5_written_2 ?_
  refine a_iload_n C 1 dX5_written_3 rfl rfl ?_
  refine a_iadd C dX5_written_4 ?_
  refine a_bipush C 30 dX5_written_5 (by decide) ?_
  refine a_imul C dX5_written_7 ?_
  refine a_iload_n C 2 dX5_written_8 rfl rfl ?_
  refine a_iadd C dX5_written_9 ?_
  refine a_bipush C 10 dX5_written_10 (by decide) ?_
  refine a_imul C dX5_written_12 ?_
  refine a_iload_n C 3 dX5_written_13 rfl rfl ?_
  refine a_iadd C dX5_written_14 ?_
  exact a_iret C dX5_written_15 h

/-! RainOnTheOne$Rain.waterIn(I)I -/
def wp_X5_waterIn (a0 : Int32) (u : PoS) (post : Int32 → PoS → Prop) : Prop := post (irem a0 10) u
theorem np_X5_waterIn : yX5_waterIn.cls ≠ "java/lang/invoke/MethodHandle" ∧ yX5_waterIn.cls ≠ "java/lang/invoke/VarHandle" ∧ (parseMethodDescriptor yX5_waterIn.desc).map (fun d => d.parameters.length) = some 1 := by decide +kernel
set_option maxHeartbeats 4000000 in
set_option maxRecDepth 100000 in
theorem m_X5_waterIn (l : Launch) (V : VEn) {a0 : Int32} {u : PoS} {post : Int32 → PoS → Prop} (h : wp_X5_waterIn a0 u post) : KI l V yX5_waterIn cX5_waterIn 1 .int 0 [.int a0] u post := by
  refine KI_of (by decide) (Nat.le_of_ble_eq_true rfl) (lv := [(0, .int a0)]) rfl ?_
  intro p e s m args below meth c C
  rw [wp_X5_waterIn] at h
  refine a_iload_n C 0 dX5_waterIn_0 rfl rfl ?_
  refine a_bipush C 10 dX5_waterIn_1 (by decide) ?_
  refine b_irem C dX5_waterIn_3 (by decide) ?_
  exact a_iret C dX5_waterIn_4 h

/-! RainOnTheOne$Rain.cellIn(I)I -/
def wp_X5_cellIn (a0 : Int32) (u : PoS) (post : Int32 → PoS → Prop) : Prop := post (irem (a0 / 10) 30) u
theorem np_X5_cellIn : yX5_cellIn.cls ≠ "java/lang/invoke/MethodHandle" ∧ yX5_cellIn.cls ≠ "java/lang/invoke/VarHandle" ∧ (parseMethodDescriptor yX5_cellIn.desc).map (fun d => d.parameters.length) = some 1 := by decide +kernel
set_option maxHeartbeats 4000000 in
set_option maxRecDepth 100000 in
theorem m_X5_cellIn (l : Launch) (V : VEn) {a0 : Int32} {u : PoS} {post : Int32 → PoS → Prop} (h : wp_X5_cellIn a0 u post) : KI l V yX5_cellIn cX5_cellIn 1 .int 0 [.int a0] u post := by
  refine KI_of (by decide) (Nat.le_of_ble_eq_true rfl) (lv := [(0, .int a0)]) rfl ?_
  intro p e s m args below meth c C
  rw [wp_X5_cellIn] at h
  refine a_iload_n C 0 dX5_cellIn_0 rfl rfl ?_
  refine a_bipush C 10 dX5_cellIn_1 (by decide) ?_
  refine a_idiv C dX5_cellIn_3 (by decide) ?_
  refine a_bipush C 30 dX5_cellIn_4 (by decide) ?_
  refine b_irem C dX5_cellIn_6 (by decide) ?_
  exact a_iret C dX5_cellIn_7 h

/-! RainOnTheOne$Rain.personIn(I)I -/
def wp_X5_personIn (a0 : Int32) (u : PoS) (post : Int32 → PoS → Prop) : Prop := post (irem ((a0 / 10) / 30) 5) u
theorem np_X5_personIn : yX5_personIn.cls ≠ "java/lang/invoke/MethodHandle" ∧ yX5_personIn.cls ≠ "java/lang/invoke/VarHandle" ∧ (parseMethodDescriptor yX5_personIn.desc).map (fun d => d.parameters.length) = some 1 := by decide +kernel
set_option maxHeartbeats 4000000 in
set_option maxRecDepth 100000 in
theorem m_X5_personIn (l : Launch) (V : VEn) {a0 : Int32} {u : PoS} {post : Int32 → PoS → Prop} (h : wp_X5_personIn a0 u post) : KI l V yX5_personIn cX5_personIn 1 .int 0 [.int a0] u post := by
  refine KI_of (by decide) (Nat.le_of_ble_eq_true rfl) (lv := [(0, .int a0)]) rfl ?_
  intro p e s m args below meth c C
  rw [wp_X5_personIn] at h
  refine a_iload_n C 0 dX5_personIn_0 rfl rfl ?_
  refine a_bipush C 10 dX5_personIn_1 (by decide) ?_
  refine a_idiv C dX5_personIn_3 (by decide) ?_
  refine a_bipush C 30 dX5_personIn_4 (by decide) ?_
  refine a_idiv C dX5_personIn_6 (by decide) ?_
  refine a_iconst C 5 dX5_personIn_7 (by decide) ?_
  refine b_irem C dX5_personIn_8 (by decide) ?_
  exact a_iret C dX5_personIn_9 h

/-! RainOnTheOne$Rain.minuteIn(I)I -/
def wp_X5_minuteIn (a0 : Int32) (u : PoS) (post : Int32 → PoS → Prop) : Prop := post (((a0 / 10) / 30) / 5) u
theorem np_X5_minuteIn : yX5_minuteIn.cls ≠ "java/lang/invoke/MethodHandle" ∧ yX5_minuteIn.cls ≠ "java/lang/invoke/VarHandle" ∧ (parseMethodDescriptor yX5_minuteIn.desc).map (fun d => d.parameters.length) = some 1 := by decide +kernel
set_option maxHeartbeats 4000000 in
set_option maxRecDepth 100000 in
theorem m_X5_minuteIn (l : Launch) (V : VEn) {a0 : Int32} {u : PoS} {post : Int32 → PoS → Prop} (h : wp_X5_minuteIn a0 u post) : KI l V yX5_minuteIn cX5_minuteIn 1 .int 0 [.int a0] u post := by
  refine KI_of (by decide) (Nat.le_of_ble_eq_true rfl) (lv := [(0, .int a0)]) rfl ?_
  intro p e s m args below meth c C
  rw [wp_X5_minuteIn] at h
  refine a_iload_n C 0 dX5_minuteIn_0 rfl rfl ?_
  refine a_bipush C 10 dX5_minuteIn_1 (by decide) ?_
  refine a_idiv C dX5_minuteIn_3 (by decide) ?_
  refine a_bipush C 30 dX5_minuteIn_4 (by decide) ?_
  refine a_idiv C dX5_minuteIn_6 (by decide) ?_
  refine a_iconst C 5 dX5_minuteIn_7 (by decide) ?_
  refine a_idiv C dX5_minuteIn_8 (by decide) ?_
  exact a_iret C dX5_minuteIn_9 h

/-! RainOnTheOne$Reader.addToken(III)V -/
def wp_X6_addToken (a0 : Int32) (a1 : Int32) (a2 : Int32) (u : PoS) (post : PoS → Prop) : Prop := ((301 ≤ (gI u 27 5) → post u) ∧ (¬ 301 ≤ (gI u 27 5) → vp_in (gI u 27 5) 301 ∧ ∀ z1 : PoS, z1 = pI u 28 (Int32.toNatClampNeg (gI u 27 5)) a0 → vp_in (gI z1 27 5) 301 ∧ ∀ z2 : PoS, z2 = pI z1 29 (Int32.toNatClampNeg (gI z1 27 5)) a1 → vp_in (gI z2 27 5) 301 ∧ ∀ z3 : PoS, z3 = pI z2 30 (Int32.toNatClampNeg (gI z2 27 5)) a2 → ∀ z4 : PoS, z4 = pI z3 27 5 ((gI z3 27 5) + 1) → post z4))
theorem np_X6_addToken : yX6_addToken.cls ≠ "java/lang/invoke/MethodHandle" ∧ yX6_addToken.cls ≠ "java/lang/invoke/VarHandle" ∧ (parseMethodDescriptor yX6_addToken.desc).map (fun d => d.parameters.length) = some 3 := by decide +kernel
set_option maxHeartbeats 4000000 in
set_option maxRecDepth 100000 in
theorem m_X6_addToken (l : Launch) (V : VEn) {a0 : Int32} {a1 : Int32} {a2 : Int32} {u : PoS} {post : PoS → Prop} (h : wp_X6_addToken a0 a1 a2 u post) : KV l V yX6_addToken cX6_addToken 4 0 [.ref (eA V 27), .int a0, .int a1, .int a2] u post := by
  refine KV_of (by decide) (Nat.le_of_ble_eq_true rfl) (lv := [(0, .ref (eA V 27)), (1, .int a0), (2, .int a1), (3, .int a2)]) rfl ?_
  intro p e s m args below meth c C
  rw [wp_X6_addToken] at h
  refine a_aload_n C 0 dX6_addToken_0 rfl rfl ?_
  refine a_geti C 5 dX6_addToken_1 (by decide) rfl rfl rfl ib_6 (by decide) bw_297 ?_
  refine a_aload_n C 0 dX6_addToken_4 rfl rfl ?_
  refine a_getr C 2 (r := 28) dX6_addToken_5 (by decide) rfl rfl rfl ib_6 (by decide) bw_294 ?_
  refine a_alen C 301 dX6_addToken_8 (by decide) rfl (by decide) ?_
  refine a_icmp_ge C 52 dX6_addToken_9 (by decide) (fun c5 => ?_) (fun c5 => ?_)
  · have h := h.1 c5
    exact a_vret C dX6_addToken_52 h
  · have h := h.2 c5
    refine a_aload_n C 0 dX6_addToken_12 rfl rfl ?_
    refine a_getr C 2 (r := 28) dX6_addToken_13 (by decide) rfl rfl rfl ib_6 (by decide) bw_294 ?_
    refine a_aload_n C 0 dX6_addToken_16 rfl rfl ?_
    refine a_geti C 5 dX6_addToken_17 (by decide) rfl rfl rfl ib_6 (by decide) bw_297 ?_
    refine a_iload_n C 1 dX6_addToken_20 rfl rfl ?_
    refine b_iast C (Int32.toNatClampNeg (gI u 27 5)) dX6_addToken_21 (by decide) rfl h.1 rfl ?_
    have h := h.2
    refine a_topu (fun z1 ez1 => ?_)
    have h := h z1 ez1
    refine a_aload_n C 0 dX6_addToken_22 rfl rfl ?_
    refine a_getr C 3 (r := 29) dX6_addToken_23 (by decide) rfl rfl rfl ib_6 (by decide) bw_295 ?_
    refine a_aload_n C 0 dX6_addToken_26 rfl rfl ?_
    refine a_geti C 5 dX6_addToken_27 (by decide) rfl rfl rfl ib_6 (by decide) bw_297 ?_
    refine a_iload_n C 2 dX6_addToken_30 rfl rfl ?_
    refine b_iast C (Int32.toNatClampNeg (gI z1 27 5)) dX6_addToken_31 (by decide) rfl h.1 rfl ?_
    have h := h.2
    refine a_topu (fun z2 ez2 => ?_)
    have h := h z2 ez2
    refine a_aload_n C 0 dX6_addToken_32 rfl rfl ?_
    refine a_getr C 4 (r := 30) dX6_addToken_33 (by decide) rfl rfl rfl ib_6 (by decide) bw_296 ?_
    refine a_aload_n C 0 dX6_addToken_36 rfl rfl ?_
    refine a_geti C 5 dX6_addToken_37 (by decide) rfl rfl rfl ib_6 (by decide) bw_297 ?_
    refine a_iload_n C 3 dX6_addToken_40 rfl rfl ?_
    refine b_iast C (Int32.toNatClampNeg (gI z2 27 5)) dX6_addToken_41 (by decide) rfl h.1 rfl ?_
    have h := h.2
    refine a_topu (fun z3 ez3 => ?_)
    have h := h z3 ez3
    refine a_aload_n C 0 dX6_addToken_42 rfl rfl ?_
    refine a_dup C dX6_addToken_43 rfl ?_
    refine a_geti C 5 dX6_addToken_44 (by decide) rfl rfl rfl ib_6 (by decide) bw_297 ?_
    refine a_iconst C 1 dX6_addToken_47 (by decide) ?_
    refine a_iadd C dX6_addToken_48 ?_
    refine a_puti C (ty := .int) 5 dX6_addToken_49 (by decide) rfl rfl rfl ib_6 (by decide) bw_297 tyX6 tyX6_ok nmX6 rfl (by decide +kernel) rfl rfl ?_
    refine a_topu (fun z4 ez4 => ?_)
    have h := h z4 ez4
    exact a_vret C dX6_addToken_52 h

/-! RainOnTheOne$Reader.isDigit(I)Z -/
def wp_X6_isDigit (a0 : Int32) (u : PoS) (post : Int32 → PoS → Prop) : Prop := ((a0 < 48 → post 0 u) ∧ (¬ a0 < 48 → ((57 < a0 → post 0 u) ∧ (¬ 57 < a0 → post 1 u))))
theorem np_X6_isDigit : yX6_isDigit.cls ≠ "java/lang/invoke/MethodHandle" ∧ yX6_isDigit.cls ≠ "java/lang/invoke/VarHandle" ∧ (parseMethodDescriptor yX6_isDigit.desc).map (fun d => d.parameters.length) = some 1 := by decide +kernel
set_option maxHeartbeats 4000000 in
set_option maxRecDepth 100000 in
theorem m_X6_isDigit (l : Launch) (V : VEn) {a0 : Int32} {u : PoS} {post : Int32 → PoS → Prop} (h : wp_X6_isDigit a0 u post) : KI l V yX6_isDigit cX6_isDigit 1 .boolean 0 [.int a0] u post := by
  refine KI_of (by decide) (Nat.le_of_ble_eq_true rfl) (lv := [(0, .int a0)]) rfl ?_
  intro p e s m args below meth c C
  rw [wp_X6_isDigit] at h
  refine a_iload_n C 0 dX6_isDigit_0 rfl rfl ?_
  refine a_bipush C 48 dX6_isDigit_1 (by decide) ?_
  refine a_icmp_lt C 16 dX6_isDigit_3 (by decide) (fun c2 => ?_) (fun c2 => ?_)
  · have h := h.1 c2
    refine a_iconst C 0 dX6_isDigit_16 (by decide) ?_
    exact a_zret C rfl dX6_isDigit_17 h
  · have h := h.2 c2
    refine a_iload_n C 0 dX6_isDigit_6 rfl rfl ?_
    refine a_bipush C 57 dX6_isDigit_7 (by decide) ?_
    refine a_icmp_gt C 16 dX6_isDigit_9 (by decide) (fun c1 => ?_) (fun c1 => ?_)
    · have h := h.1 c1
      refine a_iconst C 0 dX6_isDigit_16 (by decide) ?_
      exact a_zret C rfl dX6_isDigit_17 h
    · have h := h.2 c1
      refine a_iconst C 1 dX6_isDigit_12 (by decide) ?_
      refine a_goto C 17 dX6_isDigit_13 (by decide) ?_
      exact a_zret C rfl dX6_isDigit_17 h

/-! RainOnTheOne$Reader.isLetter(I)Z -/
def wj_X6_isLetter_12 (post : Int32 → PoS → Prop) (v0 : Int32) (u : PoS) : Prop := ((v0 < 65 → post 0 u) ∧ (¬ v0 < 65 → ((90 < v0 → post 0 u) ∧ (¬ 90 < v0 → post 1 u))))
def wp_X6_isLetter (a0 : Int32) (u : PoS) (post : Int32 → PoS → Prop) : Prop := ((a0 < 97 → wj_X6_isLetter_12 post a0 u) ∧ (¬ a0 < 97 → ((a0 ≤ 122 → post 1 u) ∧ (¬ a0 ≤ 122 → wj_X6_isLetter_12 post a0 u))))
set_option maxHeartbeats 4000000 in
set_option maxRecDepth 100000 in
theorem tj_X6_isLetter_12 {p : Program} {l : Launch} {e : Env} {s : State} {m : MethodId} {args : Array Value} {below : List Frame} {meth : Method} {c : Code} {V : VEn} {post : Int32 → PoS → Prop} (C : CxS p s m args meth c V cX6_isLetter 1 RX6 (some .boolean)) (v0 : Int32) (u : PoS) (h : wj_X6_isLetter_12 post v0 u) : AtS p l e (Rm 0) s m args below meth c V 1 0 0 (QI V below args s post) 12 [(0, .int v0)] [] u := by
  rw [wj_X6_isLetter_12] at h
  refine a_iload_n C 0 dX6_isLetter_12 rfl rfl ?_
  refine a_bipush C 65 dX6_isLetter_13 (by decide) ?_
  refine a_icmp_lt C 28 dX6_isLetter_15 (by decide) (fun c2 => ?_) (fun c2 => ?_)
  · have h := h.1 c2
    refine a_iconst C 0 dX6_isLetter_28 (by decide) ?_
    exact a_zret C rfl dX6_isLetter_29 h
  · have h := h.2 c2
    refine a_iload_n C 0 dX6_isLetter_18 rfl rfl ?_
    refine a_bipush C 90 dX6_isLetter_19 (by decide) ?_
    refine a_icmp_gt C 28 dX6_isLetter_21 (by decide) (fun c1 => ?_) (fun c1 => ?_)
    · have h := h.1 c1
      refine a_iconst C 0 dX6_isLetter_28 (by decide) ?_
      exact a_zret C rfl dX6_isLetter_29 h
    · have h := h.2 c1
      refine a_iconst C 1 dX6_isLetter_24 (by decide) ?_
      refine a_goto C 29 dX6_isLetter_25 (by decide) ?_
      exact a_zret C rfl dX6_isLetter_29 h
theorem np_X6_isLetter : yX6_isLetter.cls ≠ "java/lang/invoke/MethodHandle" ∧ yX6_isLetter.cls ≠ "java/lang/invoke/VarHandle" ∧ (parseMethodDescriptor yX6_isLetter.desc).map (fun d => d.parameters.length) = some 1 := by decide +kernel
set_option maxHeartbeats 4000000 in
set_option maxRecDepth 100000 in
theorem m_X6_isLetter (l : Launch) (V : VEn) {a0 : Int32} {u : PoS} {post : Int32 → PoS → Prop} (h : wp_X6_isLetter a0 u post) : KI l V yX6_isLetter cX6_isLetter 1 .boolean 0 [.int a0] u post := by
  refine KI_of (by decide) (Nat.le_of_ble_eq_true rfl) (lv := [(0, .int a0)]) rfl ?_
  intro p e s m args below meth c C
  rw [wp_X6_isLetter] at h
  refine a_iload_n C 0 dX6_isLetter_0 rfl rfl ?_
  refine a_bipush C 97 dX6_isLetter_1 (by decide) ?_
  refine a_icmp_lt C 12 dX6_isLetter_3 (by decide) (fun c4 => ?_) (fun c4 => ?_)
  · have h := h.1 c4
    refine tj_X6_isLetter_12 C _ _ h
  · have h := h.2 c4
    refine a_iload_n C 0 dX6_isLetter_6 rfl rfl ?_
    refine a_bipush C 122 dX6_isLetter_7 (by decide) ?_
    refine a_icmp_le C 24 dX6_isLetter_9 (by decide) (fun c3 => ?_) (fun c3 => ?_)
    · have h := h.1 c3
      refine a_iconst C 1 dX6_isLetter_24 (by decide) ?_
      refine a_goto C 29 dX6_isLetter_25 (by decide) ?_
      exact a_zret C rfl dX6_isLetter_29 h
    · have h := h.2 c3
      refine tj_X6_isLetter_12 C _ _ h

/-! RainOnTheOne$Reader.isAlike(II)Z -/
def wj_X6_isAlike_14 (post : Int32 → PoS → Prop) (v0 : Int32) (v1 : Int32) (u : PoS) : Prop := wp_X6_isLetter v0 u (fun (r3 : Int32) (u4 : PoS) => ((r3 = 0 → post 0 u4) ∧ (¬ r3 = 0 → wp_X6_isLetter v1 u4 (fun (r5 : Int32) (u6 : PoS) => ((r5 = 0 → post 0 u6) ∧ (¬ r5 = 0 → post 1 u6))))))
def wp_X6_isAlike (a0 : Int32) (a1 : Int32) (u : PoS) (post : Int32 → PoS → Prop) : Prop := wp_X6_isDigit a0 u (fun (r1 : Int32) (u2 : PoS) => ((r1 = 0 → wj_X6_isAlike_14 post a0 a1 u2) ∧ (¬ r1 = 0 → wp_X6_isDigit a1 u2 (fun (r9 : Int32) (u10 : PoS) => ((¬ r9 = 0 → post 1 u10) ∧ (r9 = 0 → wj_X6_isAlike_14 post a0 a1 u10))))))
set_option maxHeartbeats 4000000 in
set_option maxRecDepth 100000 in
theorem tj_X6_isAlike_14 {p : Program} {l : Launch} {e : Env} {s : State} {m : MethodId} {args : Array Value} {below : List Frame} {meth : Method} {c : Code} {V : VEn} {post : Int32 → PoS → Prop} (C : CxS p s m args meth c V cX6_isAlike 2 RX6 (some .boolean)) (v0 : Int32) (v1 : Int32) (u : PoS) (h : wj_X6_isAlike_14 post v0 v1 u) : AtS p l e (Rm 1) s m args below meth c V 2 0 0 (QI V below args s post) 14 [(0, .int v0), (1, .int v1)] [] u := by
  rw [wj_X6_isAlike_14] at h
  refine a_iload_n C 0 dX6_isAlike_14 rfl rfl ?_
  refine a_callSi C dX6_isAlike_15 (m_X6_isLetter l V h) bw_450 bw_451 bw_119 bw_452 np_X6_isLetter rfl rfl (by decide) (Nat.le_of_ble_eq_true rfl) ⟨Nat.zero_le _, Nat.zero_le _⟩ (fun r3 u4 h => ?_)
  refine a_if_eq C 32 dX6_isAlike_18 (by decide) (fun c8 => ?_) (fun c8 => ?_)
  · have h := h.1 c8
    refine a_iconst C 0 dX6_isAlike_32 (by decide) ?_
    exact a_zret C rfl dX6_isAlike_33 h
  · have h := h.2 c8
    refine a_iload_n C 1 dX6_isAlike_21 rfl rfl ?_
    refine a_callSi C dX6_isAlike_22 (m_X6_isLetter l V h) bw_450 bw_451 bw_119 bw_452 np_X6_isLetter rfl rfl (by decide) (Nat.le_of_ble_eq_true rfl) ⟨Nat.zero_le _, Nat.zero_le _⟩ (fun r5 u6 h => ?_)
    refine a_if_eq C 32 dX6_isAlike_25 (by decide) (fun c7 => ?_) (fun c7 => ?_)
    · have h := h.1 c7
      refine a_iconst C 0 dX6_isAlike_32 (by decide) ?_
      exact a_zret C rfl dX6_isAlike_33 h
    · have h := h.2 c7
      refine a_iconst C 1 dX6_isAlike_28 (by decide) ?_
      refine a_goto C 33 dX6_isAlike_29 (by decide) ?_
      exact a_zret C rfl dX6_isAlike_33 h
theorem np_X6_isAlike : yX6_isAlike.cls ≠ "java/lang/invoke/MethodHandle" ∧ yX6_isAlike.cls ≠ "java/lang/invoke/VarHandle" ∧ (parseMethodDescriptor yX6_isAlike.desc).map (fun d => d.parameters.length) = some 2 := by decide +kernel
set_option maxHeartbeats 4000000 in
set_option maxRecDepth 100000 in
theorem m_X6_isAlike (l : Launch) (V : VEn) {a0 : Int32} {a1 : Int32} {u : PoS} {post : Int32 → PoS → Prop} (h : wp_X6_isAlike a0 a1 u post) : KI l V yX6_isAlike cX6_isAlike 2 .boolean 1 [.int a0, .int a1] u post := by
  refine KI_of (by decide) (Nat.le_of_ble_eq_true rfl) (lv := [(0, .int a0), (1, .int a1)]) rfl ?_
  intro p e s m args below meth c C
  rw [wp_X6_isAlike] at h
  refine a_iload_n C 0 dX6_isAlike_0 rfl rfl ?_
  refine a_callSi C dX6_isAlike_1 (m_X6_isDigit l V h) bw_447 bw_448 bw_119 bw_449 np_X6_isDigit rfl rfl (by decide) (Nat.le_of_ble_eq_true rfl) ⟨Nat.zero_le _, Nat.zero_le _⟩ (fun r1 u2 h => ?_)
  refine a_if_eq C 14 dX6_isAlike_4 (by decide) (fun c12 => ?_) (fun c12 => ?_)
  · have h := h.1 c12
    refine tj_X6_isAlike_14 C _ _ _ h
  · have h := h.2 c12
    refine a_iload_n C 1 dX6_isAlike_7 rfl rfl ?_
    refine a_callSi C dX6_isAlike_8 (m_X6_isDigit l V h) bw_447 bw_448 bw_119 bw_449 np_X6_isDigit rfl rfl (by decide) (Nat.le_of_ble_eq_true rfl) ⟨Nat.zero_le _, Nat.zero_le _⟩ (fun r9 u10 h => ?_)
    refine a_if_ne C 28 dX6_isAlike_11 (by decide) (fun c11 => ?_) (fun c11 => ?_)
    · have h := h.1 c11
      refine a_iconst C 1 dX6_isAlike_28 (by decide) ?_
      refine a_goto C 33 dX6_isAlike_29 (by decide) ?_
      exact a_zret C rfl dX6_isAlike_33 h
    · have h := h.2 c11
      refine tj_X6_isAlike_14 C _ _ _ h

/-! RainOnTheOne$Reader.numberOf([III)I -/
def wl_X6_numberOf_5 (post : Int32 → PoS → Prop) : Nat → Int32 → Int32 → Int32 → PoS → Prop
  | 0, _, _, _, _ => False
  | n + 1, v2, v3, v4, u => ((v2 ≤ v4 → post v3 u) ∧ (¬ v2 ≤ v4 → vp_in v4 300 ∧ ∀ x1 : Int32, x1 = (imin 10000 (((v3 * 10) + (gI u 31 (Int32.toNatClampNeg v4))) - 48)) → wl_X6_numberOf_5 post n v2 x1 (v4 + 1) u))
def wp_X6_numberOf (a1 : Int32) (a2 : Int32) (u : PoS) (post : Int32 → PoS → Prop) : Prop := (∃ n5, wl_X6_numberOf_5 post n5 a2 0 a1 u)
set_option maxHeartbeats 4000000 in
set_option maxRecDepth 100000 in
theorem tl_X6_numberOf_5 {p : Program} {l : Launch} {e : Env} {s : State} {m : MethodId} {args : Array Value} {below : List Frame} {meth : Method} {c : Code} {V : VEn} {post : Int32 → PoS → Prop} (C : CxS p s m args meth c V cX6_numberOf 5 RX6 (some .int)) : ∀ (n : Nat) (v2 : Int32) (v3 : Int32) (v4 : Int32) (u : PoS), wl_X6_numberOf_5 post n v2 v3 v4 u → AtS p l e (Rm 1) s m args below meth c V 5 0 0 (QI V below args s post) 5 [(0, .ref (eA V 31)), (2, .int v2), (3, .int v3), (4, .int v4)] [] u := by
  intro n
  induction n with
  | zero => intro v2 v3 v4 u h; exact h.elim
  | succ n ih =>
    intro v2 v3 v4 u h
    rw [wl_X6_numberOf_5] at h
    refine a_iload C 3 dX6_numberOf_5 rfl ?_
    refine a_iload_n C 1 dX6_numberOf_7 rfl rfl ?_
    refine a_icmp_ge C 36 dX6_numberOf_8 (by decide) (fun c2 => ?_) (fun c2 => ?_)
    · have h := h.1 c2
      refine a_iload_n C 2 dX6_numberOf_36 rfl rfl ?_
      exact a_iret C dX6_numberOf_37 h
    · have h := h.2 c2
      refine a_sipush C 10000 dX6_numberOf_11 (by decide) ?_
      refine a_iload_n C 2 dX6_numberOf_14 rfl rfl ?_
      refine a_bipush C 10 dX6_numberOf_15 (by decide) ?_
      refine a_imul C dX6_numberOf_17 ?_
      refine a_aload_n C 0 dX6_numberOf_18 rfl rfl ?_
      refine a_iload C 3 dX6_numberOf_19 rfl ?_
      refine b_iald C (Int32.toNatClampNeg v4) dX6_numberOf_21 (by decide) rfl h.1 rfl ?_
      have h := h.2
      refine a_iadd C dX6_numberOf_22 ?_
      refine a_bipush C 48 dX6_numberOf_23 (by decide) ?_
      refine a_isub C dX6_numberOf_25 ?_
      refine b_mmin C dX6_numberOf_26 bw_440 bw_441 bw_121 bw_442 (by decide) (Nat.le_of_ble_eq_true rfl) ⟨Nat.zero_le _, Nat.zero_le _⟩ ?_
      refine a_topi (fun x1 ex1 => ?_)
      have h := h x1 ex1
      refine a_istore_n C [(3, .int x1), (0, .ref (eA V 31)), (2, .int v2), (4, .int v4)] dX6_numberOf_29 rfl (by decide) rfl ?_
      refine a_iinc C (v4 + 1) 3 [(4, .int (v4 + 1)), (3, .int x1), (0, .ref (eA V 31)), (2, .int v2)] dX6_numberOf_30 rfl (congrArg (fun z => v4 + z) (show Int32.ofInt 1 = 1 by decide)) (by decide) rfl ?_
      refine a_goto C 5 dX6_numberOf_33 (by decide) ?_
      refine a_sub [2, 3, 1, 0] rfl ?_
      exact ih _ _ _ _ h
theorem np_X6_numberOf : yX6_numberOf.cls ≠ "java/lang/invoke/MethodHandle" ∧ yX6_numberOf.cls ≠ "java/lang/invoke/VarHandle" ∧ (parseMethodDescriptor yX6_numberOf.desc).map (fun d => d.parameters.length) = some 3 := by decide +kernel
set_option maxHeartbeats 4000000 in
set_option maxRecDepth 100000 in
theorem m_X6_numberOf (l : Launch) (V : VEn) {a1 : Int32} {a2 : Int32} {u : PoS} {post : Int32 → PoS → Prop} (h : wp_X6_numberOf a1 a2 u post) : KI l V yX6_numberOf cX6_numberOf 5 .int 1 [.ref (eA V 31), .int a1, .int a2] u post := by
  refine KI_of (by decide) (Nat.le_of_ble_eq_true rfl) (lv := [(0, .ref (eA V 31)), (1, .int a1), (2, .int a2)]) rfl ?_
  intro p e s m args below meth c C
  rw [wp_X6_numberOf] at h
  refine a_iconst C 0 dX6_numberOf_0 (by decide) ?_
  refine a_istore_n C [(3, .int 0), (0, .ref (eA V 31)), (1, .int a1), (2, .int a2)] dX6_numberOf_1 rfl (by decide) rfl ?_
  refine a_iload_n C 2 dX6_numberOf_2 rfl rfl ?_
  refine a_istore C [(4, .int a1), (3, .int 0), (0, .ref (eA V 31)), (1, .int a1), (2, .int a2)] dX6_numberOf_3 (by decide) rfl ?_
  refine a_sub [2, 4, 1, 0] rfl ?_
  obtain ⟨n5, h⟩ := h
  refine tl_X6_numberOf_5 C n5 _ _ _ _ h
