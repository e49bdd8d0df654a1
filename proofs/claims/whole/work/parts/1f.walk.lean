/-! RainOnTheOneModel.clip(J)J -/
def wp_X12_clip (a0 : Int64) (u : PoS) (post : Int64 → PoS → Prop) : Prop := (((lg_cmp a0 1000000) ≤ 0 → ((0 ≤ (lg_cmp a0 (-1000000)) → post a0 u) ∧ (¬ 0 ≤ (lg_cmp a0 (-1000000)) → post (-1000000) u))) ∧ (¬ (lg_cmp a0 1000000) ≤ 0 → post 1000000 u))
theorem np_X12_clip : yX12_clip.cls ≠ "java/lang/invoke/MethodHandle" ∧ yX12_clip.cls ≠ "java/lang/invoke/VarHandle" ∧ (parseMethodDescriptor yX12_clip.desc).map (fun d => d.parameters.length) = some 1 := by decide +kernel
set_option maxHeartbeats 4000000 in
set_option maxRecDepth 100000 in
theorem m_X12_clip (l : Launch) (V : VEn) {a0 : Int64} {u : PoS} {post : Int64 → PoS → Prop} (h : wp_X12_clip a0 u post) : KL l V yX12_clip cX12_clip 2 .long 0 [.long a0] u post := by
  refine KL_of (by decide) (Nat.le_of_ble_eq_true rfl) (lv := [(0, .long a0)]) rfl ?_
  intro p e s m args below meth c C
  rw [wp_X12_clip] at h
  refine a_lload_n C 0 dX12_clip_0 rfl rfl ?_
  refine a_ldc2 C dX12_clip_1 bw_1434 ?_
  refine a_lcmp C dX12_clip_4 ?_
  refine a_if_le C 14 dX12_clip_5 (by decide) (fun c2 => ?_) (fun c2 => ?_)
  · have h := h.1 c2
    refine a_lload_n C 0 dX12_clip_14 rfl rfl ?_
    refine a_ldc2 C dX12_clip_15 bw_1435 ?_
    refine a_lcmp C dX12_clip_18 ?_
    refine a_if_ge C 28 dX12_clip_19 (by decide) (fun c1 => ?_) (fun c1 => ?_)
    · have h := h.1 c1
      refine a_lload_n C 0 dX12_clip_28 rfl rfl ?_
      exact a_lret C dX12_clip_29 h
    · have h := h.2 c1
      refine a_ldc2 C dX12_clip_22 bw_1435 ?_
      refine a_goto C 29 dX12_clip_25 (by decide) ?_
      exact a_lret C dX12_clip_29 h
  · have h := h.2 c2
    refine a_ldc2 C dX12_clip_8 bw_1434 ?_
    refine a_goto C 29 dX12_clip_11 (by decide) ?_
    exact a_lret C dX12_clip_29 h

/-! RainOnTheOneModel.two(IJJ)J -/
def wp_X12_two (a0 : Int32) (a1 : Int64) (a2 : Int64) (u : PoS) (post : Int64 → PoS → Prop) : Prop := ((a0 = 6 → wp_X12_clip (a1 + a2) u (fun (r1 : Int64) (u2 : PoS) => post r1 u2)) ∧ (a0 = 7 → wp_X12_clip (a1 - a2) u (fun (r3 : Int64) (u4 : PoS) => post r3 u4)) ∧ (a0 = 8 → wp_X12_clip (a1 * a2) u (fun (r5 : Int64) (u6 : PoS) => post r5 u6)) ∧ (¬ a0 = 6 → ¬ a0 = 7 → ¬ a0 = 8 → ((¬ (lg_cmp a2 0) = 0 → ¬ a2 = 0 ∧ wp_X12_clip (a1 / a2) u (fun (r7 : Int64) (u8 : PoS) => post r7 u8)) ∧ ((lg_cmp a2 0) = 0 → post 0 u))))
theorem np_X12_two : yX12_two.cls ≠ "java/lang/invoke/MethodHandle" ∧ yX12_two.cls ≠ "java/lang/invoke/VarHandle" ∧ (parseMethodDescriptor yX12_two.desc).map (fun d => d.parameters.length) = some 3 := by decide +kernel
set_option maxHeartbeats 4000000 in
set_option maxRecDepth 100000 in
theorem m_X12_two (l : Launch) (V : VEn) {a0 : Int32} {a1 : Int64} {a2 : Int64} {u : PoS} {post : Int64 → PoS → Prop} (h : wp_X12_two a0 a1 a2 u post) : KL l V yX12_two cX12_two 5 .long 1 [.int a0, .long a1, .long a2] u post := by
  refine KL_of (by decide) (Nat.le_of_ble_eq_true rfl) (lv := [(0, .int a0), (1, .long a1), (3, .long a2)]) rfl ?_
  intro p e s m args below meth c C
  rw [wp_X12_two] at h
  refine a_iload_n C 0 dX12_two_0 rfl rfl ?_
  obtain ⟨hs0, hs1, hs2, hd0⟩ := h
  by_cases hq0 : a0 = 6
  · have h := hs0 hq0
    refine a_tableIn C (off := 27) 28 dX12_two_1 (by rw [hq0]; decide) (by rw [hq0]; decide) (by rw [hq0]; decide +kernel) (by decide) ?_
    refine a_lload_n C 1 dX12_two_28 rfl rfl ?_
    refine a_lload_n C 2 dX12_two_29 rfl rfl ?_
    refine a_ladd C dX12_two_30 ?_
    refine a_callSl C dX12_two_31 (m_X12_clip l V h) bw_1439 bw_1440 bw_123 bw_1441 np_X12_clip rfl rfl (by decide) (Nat.le_of_ble_eq_true rfl) ⟨Nat.zero_le _, Nat.zero_le _⟩ (fun r1 u2 h => ?_)
    exact a_lret C dX12_two_34 h
  by_cases hq1 : a0 = 7
  · have h := hs1 hq1
    refine a_tableIn C (off := 34) 35 dX12_two_1 (by rw [hq1]; decide) (by rw [hq1]; decide) (by rw [hq1]; decide +kernel) (by decide) ?_
    refine a_lload_n C 1 dX12_two_35 rfl rfl ?_
    refine a_lload_n C 2 dX12_two_36 rfl rfl ?_
    refine a_lsub C dX12_two_37 ?_
    refine a_callSl C dX12_two_38 (m_X12_clip l V h) bw_1439 bw_1440 bw_123 bw_1441 np_X12_clip rfl rfl (by decide) (Nat.le_of_ble_eq_true rfl) ⟨Nat.zero_le _, Nat.zero_le _⟩ (fun r3 u4 h => ?_)
    exact a_lret C dX12_two_41 h
  by_cases hq2 : a0 = 8
  · have h := hs2 hq2
    refine a_tableIn C (off := 41) 42 dX12_two_1 (by rw [hq2]; decide) (by rw [hq2]; decide) (by rw [hq2]; decide +kernel) (by decide) ?_
    refine a_lload_n C 1 dX12_two_42 rfl rfl ?_
    refine a_lload_n C 2 dX12_two_43 rfl rfl ?_
    refine a_lmul C dX12_two_44 ?_
    refine a_callSl C dX12_two_45 (m_X12_clip l V h) bw_1439 bw_1440 bw_123 bw_1441 np_X12_clip rfl rfl (by decide) (Nat.le_of_ble_eq_true rfl) ⟨Nat.zero_le _, Nat.zero_le _⟩ (fun r5 u6 h => ?_)
    exact a_lret C dX12_two_48 h
  have h := hd0 hq0 hq1 hq2
  refine a_tableOut C 49 dX12_two_1 (tsw_out 6 8 (fun q h1 h2 => by rcases (show q = 6 ∨ q = 7 ∨ q = 8 by omega) with rfl | rfl | rfl <;> first | exact lv_neT hq0 (by decide) | exact lv_neT hq1 (by decide) | exact lv_neT hq2 (by decide))) (by decide) ?_
  refine a_lload_n C 2 dX12_two_49 rfl rfl ?_
  refine a_lconst C 0 dX12_two_50 (by decide) ?_
  refine a_lcmp C dX12_two_51 ?_
  refine a_if_ne C 59 dX12_two_52 (by decide) (fun c9 => ?_) (fun c9 => ?_)
  · have h := h.1 c9
    refine a_lload_n C 1 dX12_two_59 rfl rfl ?_
    refine a_lload_n C 2 dX12_two_60 rfl rfl ?_
    refine a_ldiv C dX12_two_61 h.1 ?_
    have h := h.2
    refine a_callSl C dX12_two_62 (m_X12_clip l V h) bw_1439 bw_1440 bw_123 bw_1441 np_X12_clip rfl rfl (by decide) (Nat.le_of_ble_eq_true rfl) ⟨Nat.zero_le _, Nat.zero_le _⟩ (fun r7 u8 h => ?_)
    exact a_lret C dX12_two_65 h
  · have h := h.2 c9
    refine a_lconst C 0 dX12_two_55 (by decide) ?_
    refine a_goto C 65 dX12_two_56 (by decide) ?_
    exact a_lret C dX12_two_65 h

/-! RainOnTheOneModel.isAsked(IJJ)Z -/
def wp_X12_isAsked (a0 : Int32) (a1 : Int64) (a2 : Int64) (u : PoS) (post : Int32 → PoS → Prop) : Prop := ((¬ a0 = 10 → ((¬ a0 = 11 → ((¬ a0 = 12 → ((¬ a0 = 13 → ((¬ a0 = 14 → (((lg_cmp a1 a2) = 0 → post 0 u) ∧ (¬ (lg_cmp a1 a2) = 0 → post 1 u))) ∧ (a0 = 14 → ((¬ (lg_cmp a1 a2) = 0 → post 0 u) ∧ ((lg_cmp a1 a2) = 0 → post 1 u))))) ∧ (a0 = 13 → (((lg_cmp a1 a2) < 0 → post 0 u) ∧ (¬ (lg_cmp a1 a2) < 0 → post 1 u))))) ∧ (a0 = 12 → (((lg_cmp a1 a2) ≤ 0 → post 0 u) ∧ (¬ (lg_cmp a1 a2) ≤ 0 → post 1 u))))) ∧ (a0 = 11 → ((0 < (lg_cmp a1 a2) → post 0 u) ∧ (¬ 0 < (lg_cmp a1 a2) → post 1 u))))) ∧ (a0 = 10 → ((0 ≤ (lg_cmp a1 a2) → post 0 u) ∧ (¬ 0 ≤ (lg_cmp a1 a2) → post 1 u))))
theorem np_X12_isAsked : yX12_isAsked.cls ≠ "java/lang/invoke/MethodHandle" ∧ yX12_isAsked.cls ≠ "java/lang/invoke/VarHandle" ∧ (parseMethodDescriptor yX12_isAsked.desc).map (fun d => d.parameters.length) = some 3 := by decide +kernel
set_option maxHeartbeats 4000000 in
set_option maxRecDepth 100000 in
theorem m_X12_isAsked (l : Launch) (V : VEn) {a0 : Int32} {a1 : Int64} {a2 : Int64} {u : PoS} {post : Int32 → PoS → Prop} (h : wp_X12_isAsked a0 a1 a2 u post) : KI l V yX12_isAsked cX12_isAsked 5 .boolean 0 [.int a0, .long a1, .long a2] u post := by
  refine KI_of (by decide) (Nat.le_of_ble_eq_true rfl) (lv := [(0, .int a0), (1, .long a1), (3, .long a2)]) rfl ?_
  intro p e s m args below meth c C
  rw [wp_X12_isAsked] at h
  refine a_iload_n C 0 dX12_isAsked_0 rfl rfl ?_
  refine a_bipush C 10 dX12_isAsked_1 (by decide) ?_
  refine a_icmp_ne C 20 dX12_isAsked_3 (by decide) (fun c11 => ?_) (fun c11 => ?_)
  · have h := h.1 c11
    refine a_iload_n C 0 dX12_isAsked_20 rfl rfl ?_
    refine a_bipush C 11 dX12_isAsked_21 (by decide) ?_
    refine a_icmp_ne C 40 dX12_isAsked_23 (by decide) (fun c9 => ?_) (fun c9 => ?_)
    · have h := h.1 c9
      refine a_iload_n C 0 dX12_isAsked_40 rfl rfl ?_
      refine a_bipush C 12 dX12_isAsked_41 (by decide) ?_
      refine a_icmp_ne C 60 dX12_isAsked_43 (by decide) (fun c7 => ?_) (fun c7 => ?_)
      · have h := h.1 c7
        refine a_iload_n C 0 dX12_isAsked_60 rfl rfl ?_
        refine a_bipush C 13 dX12_isAsked_61 (by decide) ?_
        refine a_icmp_ne C 80 dX12_isAsked_63 (by decide) (fun c5 => ?_) (fun c5 => ?_)
        · have h := h.1 c5
          refine a_iload_n C 0 dX12_isAsked_80 rfl rfl ?_
          refine a_bipush C 14 dX12_isAsked_81 (by decide) ?_
          refine a_icmp_ne C 100 dX12_isAsked_83 (by decide) (fun c3 => ?_) (fun c3 => ?_)
          · have h := h.1 c3
            refine a_lload_n C 1 dX12_isAsked_100 rfl rfl ?_
            refine a_lload_n C 2 dX12_isAsked_101 rfl rfl ?_
            refine a_lcmp C dX12_isAsked_102 ?_
            refine a_if_eq C 110 dX12_isAsked_103 (by decide) (fun c1 => ?_) (fun c1 => ?_)
            · have h := h.1 c1
              refine a_iconst C 0 dX12_isAsked_110 (by decide) ?_
              exact a_zret C rfl dX12_isAsked_111 h
            · have h := h.2 c1
              refine a_iconst C 1 dX12_isAsked_106 (by decide) ?_
              refine a_goto C 111 dX12_isAsked_107 (by decide) ?_
              exact a_zret C rfl dX12_isAsked_111 h
          · have h := h.2 c3
            refine a_lload_n C 1 dX12_isAsked_86 rfl rfl ?_
            refine a_lload_n C 2 dX12_isAsked_87 rfl rfl ?_
            refine a_lcmp C dX12_isAsked_88 ?_
            refine a_if_ne C 96 dX12_isAsked_89 (by decide) (fun c2 => ?_) (fun c2 => ?_)
            · have h := h.1 c2
              refine a_iconst C 0 dX12_isAsked_96 (by decide) ?_
              refine a_goto C 111 dX12_isAsked_97 (by decide) ?_
              exact a_zret C rfl dX12_isAsked_111 h
            · have h := h.2 c2
              refine a_iconst C 1 dX12_isAsked_92 (by decide) ?_
              refine a_goto C 111 dX12_isAsked_93 (by decide) ?_
              exact a_zret C rfl dX12_isAsked_111 h
        · have h := h.2 c5
          refine a_lload_n C 1 dX12_isAsked_66 rfl rfl ?_
          refine a_lload_n C 2 dX12_isAsked_67 rfl rfl ?_
          refine a_lcmp C dX12_isAsked_68 ?_
          refine a_if_lt C 76 dX12_isAsked_69 (by decide) (fun c4 => ?_) (fun c4 => ?_)
          · have h := h.1 c4
            refine a_iconst C 0 dX12_isAsked_76 (by decide) ?_
            refine a_goto C 111 dX12_isAsked_77 (by decide) ?_
            exact a_zret C rfl dX12_isAsked_111 h
          · have h := h.2 c4
            refine a_iconst C 1 dX12_isAsked_72 (by decide) ?_
            refine a_goto C 111 dX12_isAsked_73 (by decide) ?_
            exact a_zret C rfl dX12_isAsked_111 h
      · have h := h.2 c7
        refine a_lload_n C 1 dX12_isAsked_46 rfl rfl ?_
        refine a_lload_n C 2 dX12_isAsked_47 rfl rfl ?_
        refine a_lcmp C dX12_isAsked_48 ?_
        refine a_if_le C 56 dX12_isAsked_49 (by decide) (fun c6 => ?_) (fun c6 => ?_)
        · have h := h.1 c6
          refine a_iconst C 0 dX12_isAsked_56 (by decide) ?_
          refine a_goto C 111 dX12_isAsked_57 (by decide) ?_
          exact a_zret C rfl dX12_isAsked_111 h
        · have h := h.2 c6
          refine a_iconst C 1 dX12_isAsked_52 (by decide) ?_
          refine a_goto C 111 dX12_isAsked_53 (by decide) ?_
          exact a_zret C rfl dX12_isAsked_111 h
    · have h := h.2 c9
      refine a_lload_n C 1 dX12_isAsked_26 rfl rfl ?_
      refine a_lload_n C 2 dX12_isAsked_27 rfl rfl ?_
      refine a_lcmp C dX12_isAsked_28 ?_
      refine a_if_gt C 36 dX12_isAsked_29 (by decide) (fun c8 => ?_) (fun c8 => ?_)
      · have h := h.1 c8
        refine a_iconst C 0 dX12_isAsked_36 (by decide) ?_
        refine a_goto C 111 dX12_isAsked_37 (by decide) ?_
        exact a_zret C rfl dX12_isAsked_111 h
      · have h := h.2 c8
        refine a_iconst C 1 dX12_isAsked_32 (by decide) ?_
        refine a_goto C 111 dX12_isAsked_33 (by decide) ?_
        exact a_zret C rfl dX12_isAsked_111 h
  · have h := h.2 c11
    refine a_lload_n C 1 dX12_isAsked_6 rfl rfl ?_
    refine a_lload_n C 2 dX12_isAsked_7 rfl rfl ?_
    refine a_lcmp C dX12_isAsked_8 ?_
    refine a_if_ge C 16 dX12_isAsked_9 (by decide) (fun c10 => ?_) (fun c10 => ?_)
    · have h := h.1 c10
      refine a_iconst C 0 dX12_isAsked_16 (by decide) ?_
      refine a_goto C 111 dX12_isAsked_17 (by decide) ?_
      exact a_zret C rfl dX12_isAsked_111 h
    · have h := h.2 c10
      refine a_iconst C 1 dX12_isAsked_12 (by decide) ?_
      refine a_goto C 111 dX12_isAsked_13 (by decide) ?_
      exact a_zret C rfl dX12_isAsked_111 h

/-! RainOnTheOneModel.waterOf(J)J -/
def wp_X12_waterOf (a0 : Int64) (u : PoS) (post : Int64 → PoS → Prop) : Prop := (((lg_cmp a0 0) < 0 → post 0 u) ∧ (¬ (lg_cmp a0 0) < 0 → ((0 ≤ (lg_cmp a0 30) → post 0 u) ∧ (¬ 0 ≤ (lg_cmp a0 30) → vp_in (40 + (Int64.toInt32 a0)) 3703 ∧ post (Int32.toInt64 (gI u 49 (Int32.toNatClampNeg (40 + (Int64.toInt32 a0))))) u))))
theorem np_X12_waterOf : yX12_waterOf.cls ≠ "java/lang/invoke/MethodHandle" ∧ yX12_waterOf.cls ≠ "java/lang/invoke/VarHandle" ∧ (parseMethodDescriptor yX12_waterOf.desc).map (fun d => d.parameters.length) = some 1 := by decide +kernel
set_option maxHeartbeats 4000000 in
set_option maxRecDepth 100000 in
theorem m_X12_waterOf (l : Launch) (V : VEn) {a0 : Int64} {u : PoS} {post : Int64 → PoS → Prop} (h : wp_X12_waterOf a0 u post) : KL l V yX12_waterOf cX12_waterOf 3 .long 0 [.ref (eA V 48), .long a0] u post := by
  refine KL_of (by decide) (Nat.le_of_ble_eq_true rfl) (lv := [(0, .ref (eA V 48)), (1, .long a0)]) rfl ?_
  intro p e s m args below meth c C
  rw [wp_X12_waterOf] at h
  refine a_lload_n C 1 dX12_waterOf_0 rfl rfl ?_
  refine a_lconst C 0 dX12_waterOf_1 (by decide) ?_
  refine a_lcmp C dX12_waterOf_2 ?_
  refine a_if_lt C 28 dX12_waterOf_3 (by decide) (fun c2 => ?_) (fun c2 => ?_)
  · have h := h.1 c2
    refine a_lconst C 0 dX12_waterOf_28 (by decide) ?_
    exact a_lret C dX12_waterOf_29 h
  · have h := h.2 c2
    refine a_lload_n C 1 dX12_waterOf_6 rfl rfl ?_
    refine a_ldc2 C dX12_waterOf_7 bw_1429 ?_
    refine a_lcmp C dX12_waterOf_10 ?_
    refine a_if_ge C 28 dX12_waterOf_11 (by decide) (fun c1 => ?_) (fun c1 => ?_)
    · have h := h.1 c1
      refine a_lconst C 0 dX12_waterOf_28 (by decide) ?_
      exact a_lret C dX12_waterOf_29 h
    · have h := h.2 c1
      refine a_aload_n C 0 dX12_waterOf_14 rfl rfl ?_
      refine a_getr C 0 (r := 49) dX12_waterOf_15 (by decide) rfl rfl rfl ib_12 (by decide) bw_1022 ?_
      refine a_bipush C 40 dX12_waterOf_18 (by decide) ?_
      refine a_lload_n C 1 dX12_waterOf_20 rfl rfl ?_
      refine a_l2i C dX12_waterOf_21 ?_
      refine a_iadd C dX12_waterOf_22 ?_
      refine b_iald C (Int32.toNatClampNeg (40 + (Int64.toInt32 a0))) dX12_waterOf_23 (by decide) rfl h.1 rfl ?_
      have h := h.2
      refine a_i2l C dX12_waterOf_24 ?_
      refine a_goto C 29 dX12_waterOf_25 (by decide) ?_
      exact a_lret C dX12_waterOf_29 h

/-! RainOnTheOneModel.shareOf(JJ)J -/
def wj_X12_shareOf_17 (post : Int64 → PoS → Prop) (s0 : Int64) (u : PoS) : Prop := (((lg_cmp s0 1000000) ≤ 0 → ((0 ≤ (lg_cmp s0 (-1000000)) → post s0 u) ∧ (¬ 0 ≤ (lg_cmp s0 (-1000000)) → post (-1000000) u))) ∧ (¬ (lg_cmp s0 1000000) ≤ 0 → post 1000000 u))
def wp_X12_shareOf (a0 : Int64) (a1 : Int64) (u : PoS) (post : Int64 → PoS → Prop) : Prop := ((¬ (lg_cmp a1 0) = 0 → ¬ a1 = 0 ∧ wj_X12_shareOf_17 post ((100 * a0) / a1) u) ∧ ((lg_cmp a1 0) = 0 → wj_X12_shareOf_17 post 0 u))
set_option maxHeartbeats 4000000 in
set_option maxRecDepth 100000 in
theorem tj_X12_shareOf_17 {p : Program} {l : Launch} {e : Env} {s : State} {m : MethodId} {args : Array Value} {below : List Frame} {meth : Method} {c : Code} {V : VEn} {post : Int64 → PoS → Prop} (C : CxS p s m args meth c V cX12_shareOf 6 RX12 (some .long)) (s0 : Int64) (u : PoS) (h : wj_X12_shareOf_17 post s0 u) : AtS p l e (Rm 0) s m args below meth c V 6 0 0 (QL V below args s post) 17 [] [.long s0] u := by
  rw [wj_X12_shareOf_17] at h
  refine a_lstore C [(4, .long s0)] dX12_shareOf_17 (by decide) rfl ?_
  refine a_lload C 0 dX12_shareOf_19 rfl ?_
  refine a_ldc2 C dX12_shareOf_21 bw_1434 ?_
  refine a_lcmp C dX12_shareOf_24 ?_
  refine a_if_le C 34 dX12_shareOf_25 (by decide) (fun c2 => ?_) (fun c2 => ?_)
  · have h := h.1 c2
    refine a_lload C 0 dX12_shareOf_34 rfl ?_
    refine a_ldc2 C dX12_shareOf_36 bw_1435 ?_
    refine a_lcmp C dX12_shareOf_39 ?_
    refine a_if_ge C 49 dX12_shareOf_40 (by decide) (fun c1 => ?_) (fun c1 => ?_)
    · have h := h.1 c1
      refine a_lload C 0 dX12_shareOf_49 rfl ?_
      exact a_lret C dX12_shareOf_51 h
    · have h := h.2 c1
      refine a_ldc2 C dX12_shareOf_43 bw_1435 ?_
      refine a_goto C 51 dX12_shareOf_46 (by decide) ?_
      exact a_lret C dX12_shareOf_51 h
  · have h := h.2 c2
    refine a_ldc2 C dX12_shareOf_28 bw_1434 ?_
    refine a_goto C 51 dX12_shareOf_31 (by decide) ?_
    exact a_lret C dX12_shareOf_51 h
theorem np_X12_shareOf : yX12_shareOf.cls ≠ "java/lang/invoke/MethodHandle" ∧ yX12_shareOf.cls ≠ "java/lang/invoke/VarHandle" ∧ (parseMethodDescriptor yX12_shareOf.desc).map (fun d => d.parameters.length) = some 2 := by decide +kernel
set_option maxHeartbeats 4000000 in
set_option maxRecDepth 100000 in
theorem m_X12_shareOf (l : Launch) (V : VEn) {a0 : Int64} {a1 : Int64} {u : PoS} {post : Int64 → PoS → Prop} (h : wp_X12_shareOf a0 a1 u post) : KL l V yX12_shareOf cX12_shareOf 6 .long 0 [.long a0, .long a1] u post := by
  refine KL_of (by decide) (Nat.le_of_ble_eq_true rfl) (lv := [(0, .long a0), (2, .long a1)]) rfl ?_
  intro p e s m args below meth c C
  rw [wp_X12_shareOf] at h
  refine a_lload_n C 1 dX12_shareOf_0 rfl rfl ?_
  refine a_lconst C 0 dX12_shareOf_1 (by decide) ?_
  refine a_lcmp C dX12_shareOf_2 ?_
  refine a_if_ne C 10 dX12_shareOf_3 (by decide) (fun c3 => ?_) (fun c3 => ?_)
  · have h := h.1 c3
    refine a_ldc2 C dX12_shareOf_10 bw_1433 ?_
    refine a_lload_n C 0 dX12_shareOf_13 rfl rfl ?_
    refine a_lmul C dX12_shareOf_14 ?_
    refine a_lload_n C 1 dX12_shareOf_15 rfl rfl ?_
    refine a_ldiv C dX12_shareOf_16 h.1 ?_
    have h := h.2
    refine a_sub [] rfl ?_
    refine tj_X12_shareOf_17 C _ _ h
  · have h := h.2 c3
    refine a_lconst C 0 dX12_shareOf_6 (by decide) ?_
    refine a_goto C 17 dX12_shareOf_7 (by decide) ?_
    refine a_sub [] rfl ?_
    refine tj_X12_shareOf_17 C _ _ h

/-! RainOnTheOneModel.joined(IZZ)Z -/
def wp_X12_joined (a0 : Int32) (a1 : Int32) (a2 : Int32) (u : PoS) (post : Int32 → PoS → Prop) : Prop := ((¬ a0 = 21 → ((¬ a1 = 0 → post 1 u) ∧ (a1 = 0 → ((a2 = 0 → post 0 u) ∧ (¬ a2 = 0 → post 1 u))))) ∧ (a0 = 21 → ((a1 = 0 → post 0 u) ∧ (¬ a1 = 0 → ((a2 = 0 → post 0 u) ∧ (¬ a2 = 0 → post 1 u))))))
theorem np_X12_joined : yX12_joined.cls ≠ "java/lang/invoke/MethodHandle" ∧ yX12_joined.cls ≠ "java/lang/invoke/VarHandle" ∧ (parseMethodDescriptor yX12_joined.desc).map (fun d => d.parameters.length) = some 3 := by decide +kernel
set_option maxHeartbeats 4000000 in
set_option maxRecDepth 100000 in
theorem m_X12_joined (l : Launch) (V : VEn) {a0 : Int32} {a1 : Int32} {a2 : Int32} {u : PoS} {post : Int32 → PoS → Prop} (h : wp_X12_joined a0 a1 a2 u post) : KI l V yX12_joined cX12_joined 3 .boolean 0 [.int a0, .int a1, .int a2] u post := by
  refine KI_of (by decide) (Nat.le_of_ble_eq_true rfl) (lv := [(0, .int a0), (1, .int a1), (2, .int a2)]) rfl ?_
  intro p e s m args below meth c C
  rw [wp_X12_joined] at h
  refine a_iload_n C 0 dX12_joined_0 rfl rfl ?_
  refine a_bipush C 21 dX12_joined_1 (by decide) ?_
  refine a_icmp_ne C 22 dX12_joined_3 (by decide) (fun c5 => ?_) (fun c5 => ?_)
  · have h := h.1 c5
    refine a_iload_n C 1 dX12_joined_22 rfl rfl ?_
    refine a_if_ne C 30 dX12_joined_23 (by decide) (fun c2 => ?_) (fun c2 => ?_)
    · have h := h.1 c2
      refine a_iconst C 1 dX12_joined_30 (by decide) ?_
      refine a_goto C 35 dX12_joined_31 (by decide) ?_
      exact a_zret C rfl dX12_joined_35 h
    · have h := h.2 c2
      refine a_iload_n C 2 dX12_joined_26 rfl rfl ?_
      refine a_if_eq C 34 dX12_joined_27 (by decide) (fun c1 => ?_) (fun c1 => ?_)
      · have h := h.1 c1
        refine a_iconst C 0 dX12_joined_34 (by decide) ?_
        exact a_zret C rfl dX12_joined_35 h
      · have h := h.2 c1
        refine a_iconst C 1 dX12_joined_30 (by decide) ?_
        refine a_goto C 35 dX12_joined_31 (by decide) ?_
        exact a_zret C rfl dX12_joined_35 h
  · have h := h.2 c5
    refine a_iload_n C 1 dX12_joined_6 rfl rfl ?_
    refine a_if_eq C 18 dX12_joined_7 (by decide) (fun c4 => ?_) (fun c4 => ?_)
    · have h := h.1 c4
      refine a_iconst C 0 dX12_joined_18 (by decide) ?_
      refine a_goto C 35 dX12_joined_19 (by decide) ?_
      exact a_zret C rfl dX12_joined_35 h
    · have h := h.2 c4
      refine a_iload_n C 2 dX12_joined_10 rfl rfl ?_
      refine a_if_eq C 18 dX12_joined_11 (by decide) (fun c3 => ?_) (fun c3 => ?_)
      · have h := h.1 c3
        refine a_iconst C 0 dX12_joined_18 (by decide) ?_
        refine a_goto C 35 dX12_joined_19 (by decide) ?_
        exact a_zret C rfl dX12_joined_35 h
      · have h := h.2 c3
        refine a_iconst C 1 dX12_joined_14 (by decide) ?_
        refine a_goto C 35 dX12_joined_15 (by decide) ?_
        exact a_zret C rfl dX12_joined_35 h

/-! RainOnTheOneModel.summedUp(II)J -/
def wj_X12_summedUp_400 (k38 : Int32 → Int32 → Int32 → Int32 → Int32 → PoS → Prop) (post : Int64 → PoS → Prop) (v3 : Int32) (v4 : Int32) (v5 : Int32) (v6 : Int32) (v7 : Int32) (u : PoS) : Prop := k38 v3 v4 v5 v6 (v7 + 1) u
def wj_X12_summedUp_212 (k38 : Int32 → Int32 → Int32 → Int32 → Int32 → PoS → Prop) (post : Int64 → PoS → Prop) (v3 : Int32) (v4 : Int32) (v5 : Int32) (v6 : Int32) (v7 : Int32) (s0 : Int64) (s1 : Int32) (u : PoS) : Prop := vp_in s1 330 ∧ ∀ z8 : PoS, z8 = pL u 55 (Int32.toNatClampNeg s1) s0 → wj_X12_summedUp_400 k38 post v3 v4 v5 v6 v7 z8
def wj_X12_summedUp_172 (k38 : Int32 → Int32 → Int32 → Int32 → Int32 → PoS → Prop) (post : Int64 → PoS → Prop) (v3 : Int32) (v4 : Int32) (v5 : Int32) (v6 : Int32) (v7 : Int32) (v8 : Int32) (u : PoS) : Prop := ((¬ v8 = 5 → vp_in (v5 - 1) 330 ∧ wp_X12_waterOf (gL u 55 (Int32.toNatClampNeg (v5 - 1))) u (fun (r6 : Int64) (u7 : PoS) => wj_X12_summedUp_212 k38 post v3 v4 v5 v6 v7 r6 (v5 - 1) u7)) ∧ (v8 = 5 → vp_in (v5 - 1) 330 ∧ wj_X12_summedUp_212 k38 post v3 v4 v5 v6 v7 (-(gL u 55 (Int32.toNatClampNeg (v5 - 1)))) (v5 - 1) u))
def wj_X12_summedUp_363 (k38 : Int32 → Int32 → Int32 → Int32 → Int32 → PoS → Prop) (post : Int64 → PoS → Prop) (v3 : Int32) (v4 : Int32) (v5 : Int32) (v6 : Int32) (v7 : Int32) (s0 : Int32) (s1 : Int32) (u : PoS) : Prop := vp_in s1 330 ∧ ∀ z13 : PoS, z13 = pI u 56 (Int32.toNatClampNeg s1) (vp_nar .boolean s0) → wj_X12_summedUp_400 k38 post v3 v4 v5 v6 v7 z13
def wj_X12_summedUp_283 (k38 : Int32 → Int32 → Int32 → Int32 → Int32 → PoS → Prop) (post : Int64 → PoS → Prop) (v3 : Int32) (v4 : Int32) (v5 : Int32) (v6 : Int32) (v7 : Int32) (s0 : Int64) (s1 : Int32) (u : PoS) : Prop := vp_in s1 330 ∧ ∀ z22 : PoS, z22 = pL u 55 (Int32.toNatClampNeg s1) s0 → wj_X12_summedUp_400 k38 post v3 v4 v5 v6 v7 z22
def wj_X12_summedUp_112 (k38 : Int32 → Int32 → Int32 → Int32 → Int32 → PoS → Prop) (post : Int64 → PoS → Prop) (v3 : Int32) (v4 : Int32) (v5 : Int32) (v6 : Int32) (v7 : Int32) (s0 : Int64) (s1 : Int32) (u : PoS) : Prop := vp_in s1 330 ∧ ∀ z32 : PoS, z32 = pL u 55 (Int32.toNatClampNeg s1) s0 → wj_X12_summedUp_400 k38 post v3 v4 (v5 + 1) v6 v7 z32
def wl_X12_summedUp_38 (post : Int64 → PoS → Prop) : Nat → Int32 → Int32 → Int32 → Int32 → Int32 → PoS → Prop
  | 0, _, _, _, _, _, _ => False
  | n + 1, v3, v4, v5, v6, v7, u => vp_in (v3 + 2) 2724 ∧ (((gI u 51 (Int32.toNatClampNeg (v3 + 2))) ≤ v7 → post (gL u 55 0) u) ∧ (¬ (gI u 51 (Int32.toNatClampNeg (v3 + 2))) ≤ v7 → vp_in (v4 + (2 * v7)) 2724 ∧ ∀ x4 : Int32, x4 = (gI u 51 (Int32.toNatClampNeg (v4 + (2 * v7)))) → vp_in ((v4 + (2 * v7)) + 1) 2724 ∧ ∀ x5 : Int32, x5 = (gI u 51 (Int32.toNatClampNeg ((v4 + (2 * v7)) + 1))) → ((1 < x4 → ((¬ x4 = 3 → ((x4 = 5 → wj_X12_summedUp_172 (wl_X12_summedUp_38 post n) post v3 v4 v5 v6 v7 x4 u) ∧ (¬ x4 = 5 → ((¬ x4 = 2 → ((10 ≤ x4 → ((20 ≤ x4 → ((¬ x4 = 20 → vp_in ((v6 + (-1)) - 1) 330 ∧ vp_in (v6 + (-1)) 330 ∧ wp_X12_joined x4 (gI u 56 (Int32.toNatClampNeg ((v6 + (-1)) - 1))) (gI u 56 (Int32.toNatClampNeg (v6 + (-1)))) u (fun (r10 : Int32) (u11 : PoS) => vp_in ((v6 + (-1)) - 1) 330 ∧ ∀ z12 : PoS, z12 = pI u11 56 (Int32.toNatClampNeg ((v6 + (-1)) - 1)) (vp_nar .boolean r10) → wj_X12_summedUp_400 (wl_X12_summedUp_38 post n) post v3 v4 v5 (v6 + (-1)) v7 z12)) ∧ (x4 = 20 → vp_in (v6 - 1) 330 ∧ ((¬ (gI u 56 (Int32.toNatClampNeg (v6 - 1))) = 0 → wj_X12_summedUp_363 (wl_X12_summedUp_38 post n) post v3 v4 v5 v6 v7 0 (v6 - 1) u) ∧ ((gI u 56 (Int32.toNatClampNeg (v6 - 1))) = 0 → wj_X12_summedUp_363 (wl_X12_summedUp_38 post n) post v3 v4 v5 v6 v7 1 (v6 - 1) u))))) ∧ (¬ 20 ≤ x4 → vp_in (v5 + (-2)) 330 ∧ vp_in ((v5 + (-2)) + 1) 330 ∧ wp_X12_isAsked x4 (gL u 55 (Int32.toNatClampNeg (v5 + (-2)))) (gL u 55 (Int32.toNatClampNeg ((v5 + (-2)) + 1))) u (fun (r16 : Int32) (u17 : PoS) => vp_in v6 330 ∧ ∀ z18 : PoS, z18 = pI u17 56 (Int32.toNatClampNeg v6) (vp_nar .boolean r16) → wj_X12_summedUp_400 (wl_X12_summedUp_38 post n) post v3 v4 (v5 + (-2)) (v6 + 1) v7 z18)))) ∧ (¬ 10 ≤ x4 → ((¬ x4 = 4 → vp_in ((v5 + (-1)) - 1) 330 ∧ vp_in (v5 + (-1)) 330 ∧ wp_X12_two x4 (gL u 55 (Int32.toNatClampNeg ((v5 + (-1)) - 1))) (gL u 55 (Int32.toNatClampNeg (v5 + (-1)))) u (fun (r20 : Int64) (u21 : PoS) => wj_X12_summedUp_283 (wl_X12_summedUp_38 post n) post v3 v4 (v5 + (-1)) v6 v7 r20 ((v5 + (-1)) - 1) u21)) ∧ (x4 = 4 → vp_in ((v5 + (-1)) - 1) 330 ∧ vp_in (v5 + (-1)) 330 ∧ wp_X12_shareOf (gL u 55 (Int32.toNatClampNeg ((v5 + (-1)) - 1))) (gL u 55 (Int32.toNatClampNeg (v5 + (-1)))) u (fun (r23 : Int64) (u24 : PoS) => wj_X12_summedUp_283 (wl_X12_summedUp_38 post n) post v3 v4 (v5 + (-1)) v6 v7 r23 ((v5 + (-1)) - 1) u24)))))) ∧ (x4 = 2 → wj_X12_summedUp_172 (wl_X12_summedUp_38 post n) post v3 v4 v5 v6 v7 x4 u))))) ∧ (x4 = 3 → vp_in (v6 + (-1)) 330 ∧ ((¬ (gI u 56 (Int32.toNatClampNeg (v6 + (-1)))) = 0 → wj_X12_summedUp_400 (wl_X12_summedUp_38 post n) post v3 v4 (v5 + (-1)) (v6 + (-1)) v7 u) ∧ ((gI u 56 (Int32.toNatClampNeg (v6 + (-1)))) = 0 → vp_in (v5 + (-1)) 330 ∧ vp_in ((v5 + (-1)) - 1) 330 ∧ ∀ z29 : PoS, z29 = pL u 55 (Int32.toNatClampNeg ((v5 + (-1)) - 1)) (gL u 55 (Int32.toNatClampNeg (v5 + (-1)))) → wj_X12_summedUp_400 (wl_X12_summedUp_38 post n) post v3 v4 (v5 + (-1)) (v6 + (-1)) v7 z29))))) ∧ (¬ 1 < x4 → ((¬ x4 = 0 → vp_in x5 8 ∧ wj_X12_summedUp_112 (wl_X12_summedUp_38 post n) post v3 v4 v5 v6 v7 (Int32.toInt64 (gI u 54 (Int32.toNatClampNeg x5))) v5 u) ∧ (x4 = 0 → wj_X12_summedUp_112 (wl_X12_summedUp_38 post n) post v3 v4 v5 v6 v7 (Int32.toInt64 x5) v5 u))))))
def wp_X12_summedUp (a0 : Int32) (a1 : Int32) (u : PoS) (post : Int64 → PoS → Prop) : Prop := ∀ x1 : Int32, x1 = (((681 * a0) + 1) + (3 * a1)) → ∀ x2 : Int32, x2 = ((681 * a0) + 73) → vp_in (x1 + 1) 2724 ∧ ∀ x3 : Int32, x3 = (gI u 51 (Int32.toNatClampNeg (x1 + 1))) → (∃ n38, wl_X12_summedUp_38 post n38 x1 x2 0 0 x3 u)
set_option maxHeartbeats 4000000 in
set_option maxRecDepth 100000 in
theorem tj_X12_summedUp_400 {p : Program} {l : Launch} {e : Env} {s : State} {m : MethodId} {args : Array Value} {below : List Frame} {meth : Method} {c : Code} {V : VEn} {k38 : Int32 → Int32 → Int32 → Int32 → Int32 → PoS → Prop} {post : Int64 → PoS → Prop} (C : CxS p s m args meth c V cX12_summedUp 10 RX12 (some .long)) (hk38 : ∀ (v3 : Int32) (v4 : Int32) (v5 : Int32) (v6 : Int32) (v7 : Int32) (u : PoS), k38 v3 v4 v5 v6 v7 u → AtS p l e (Rm 2) s m args below meth c V 10 0 0 (QL V below args s post) 38 [(0, .ref (eA V 48)), (3, .int v3), (4, .int v4), (5, .int v5), (6, .int v6), (7, .int v7)] [] u) (v3 : Int32) (v4 : Int32) (v5 : Int32) (v6 : Int32) (v7 : Int32) (u : PoS) (h : wj_X12_summedUp_400 k38 post v3 v4 v5 v6 v7 u) : AtS p l e (Rm 2) s m args below meth c V 10 0 0 (QL V below args s post) 400 [(0, .ref (eA V 48)), (3, .int v3), (4, .int v4), (5, .int v5), (6, .int v6), (7, .int v7)] [] u := by
  rw [wj_X12_summedUp_400] at h
  refine a_iinc C (v7 + 1) 5 [(7, .int (v7 + 1)), (0, .ref (eA V 48)), (3, .int v3), (4, .int v4), (5, .int v5), (6, .int v6)] dX12_summedUp_400 rfl (congrArg (fun z => v7 + z) (show Int32.ofInt 1 = 1 by decide)) (by decide) rfl ?_
  refine a_goto C 38 dX12_summedUp_403 (by decide) ?_
  refine a_sub [1, 2, 3, 4, 5, 0] rfl ?_
  exact hk38 _ _ _ _ _ _ h
set_option maxHeartbeats 4000000 in
set_option maxRecDepth 100000 in
theorem tj_X12_summedUp_212 {p : Program} {l : Launch} {e : Env} {s : State} {m : MethodId} {args : Array Value} {below : List Frame} {meth : Method} {c : Code} {V : VEn} {k38 : Int32 → Int32 → Int32 → Int32 → Int32 → PoS → Prop} {post : Int64 → PoS → Prop} (C : CxS p s m args meth c V cX12_summedUp 10 RX12 (some .long)) (hk38 : ∀ (v3 : Int32) (v4 : Int32) (v5 : Int32) (v6 : Int32) (v7 : Int32) (u : PoS), k38 v3 v4 v5 v6 v7 u → AtS p l e (Rm 2) s m args below meth c V 10 0 0 (QL V below args s post) 38 [(0, .ref (eA V 48)), (3, .int v3), (4, .int v4), (5, .int v5), (6, .int v6), (7, .int v7)] [] u) (v3 : Int32) (v4 : Int32) (v5 : Int32) (v6 : Int32) (v7 : Int32) (s0 : Int64) (s1 : Int32) (u : PoS) (h : wj_X12_summedUp_212 k38 post v3 v4 v5 v6 v7 s0 s1 u) : AtS p l e (Rm 2) s m args below meth c V 10 0 0 (QL V below args s post) 212 [(0, .ref (eA V 48)), (3, .int v3), (4, .int v4), (5, .int v5), (6, .int v6), (7, .int v7)] [.long s0, .int s1, .ref (eA V 55)] u := by
  rw [wj_X12_summedUp_212] at h
  refine b_last C (Int32.toNatClampNeg s1) dX12_summedUp_212 (by decide) rfl h.1 rfl ?_
  have h := h.2
  refine a_topu (fun z8 ez8 => ?_)
  have h := h z8 ez8
  refine a_goto C 400 dX12_summedUp_213 (by decide) ?_
  refine tj_X12_summedUp_400 C hk38 _ _ _ _ _ _ h
set_option maxHeartbeats 4000000 in
set_option maxRecDepth 100000 in
theorem tj_X12_summedUp_172 {p : Program} {l : Launch} {e : Env} {s : State} {m : MethodId} {args : Array Value} {below : List Frame} {meth : Method} {c : Code} {V : VEn} {k38 : Int32 → Int32 → Int32 → Int32 → Int32 → PoS → Prop} {post : Int64 → PoS → Prop} (C : CxS p s m args meth c V cX12_summedUp 10 RX12 (some .long)) (hk38 : ∀ (v3 : Int32) (v4 : Int32) (v5 : Int32) (v6 : Int32) (v7 : Int32) (u : PoS), k38 v3 v4 v5 v6 v7 u → AtS p l e (Rm 2) s m args below meth c V 10 0 0 (QL V below args s post) 38 [(0, .ref (eA V 48)), (3, .int v3), (4, .int v4), (5, .int v5), (6, .int v6), (7, .int v7)] [] u) (v3 : Int32) (v4 : Int32) (v5 : Int32) (v6 : Int32) (v7 : Int32) (v8 : Int32) (u : PoS) (h : wj_X12_summedUp_172 k38 post v3 v4 v5 v6 v7 v8 u) : AtS p l e (Rm 2) s m args below meth c V 10 0 0 (QL V below args s post) 172 [(0, .ref (eA V 48)), (3, .int v3), (4, .int v4), (5, .int v5), (6, .int v6), (7, .int v7), (8, .int v8)] [] u := by
  rw [wj_X12_summedUp_172] at h
  refine a_aload_n C 0 dX12_summedUp_172 rfl rfl ?_
  refine a_getr C 21 (r := 55) dX12_summedUp_173 (by decide) rfl rfl rfl ib_12 (by decide) bw_1043 ?_
  refine a_iload C 3 dX12_summedUp_176 rfl ?_
  refine a_iconst C 1 dX12_summedUp_178 (by decide) ?_
  refine a_isub C dX12_summedUp_179 ?_
  refine a_iload C 6 dX12_summedUp_180 rfl ?_
  refine a_iconst C 5 dX12_summedUp_182 (by decide) ?_
  refine a_icmp_ne C 199 dX12_summedUp_183 (by decide) (fun c9 => ?_) (fun c9 => ?_)
  · have h := h.1 c9
    refine a_aload_n C 0 dX12_summedUp_199 rfl rfl ?_
    refine a_aload_n C 0 dX12_summedUp_200 rfl rfl ?_
    refine a_getr C 21 (r := 55) dX12_summedUp_201 (by decide) rfl rfl rfl ib_12 (by decide) bw_1043 ?_
    refine a_iload C 3 dX12_summedUp_204 rfl ?_
    refine a_iconst C 1 dX12_summedUp_206 (by decide) ?_
    refine a_isub C dX12_summedUp_207 ?_
    refine b_lald C (Int32.toNatClampNeg (v5 - 1)) dX12_summedUp_208 (by decide) rfl h.1 rfl ?_
    have h := h.2
    refine a_callVl C dX12_summedUp_209 (m_X12_waterOf l V h) bw_1425 bw_1427 bw_85 bw_123 bw_1428 (by decide) rfl rfl np_X12_waterOf rfl rfl (by decide) (Nat.le_of_ble_eq_true rfl) ⟨Nat.zero_le _, Nat.zero_le _⟩ (fun r6 u7 h => ?_)
    refine a_sub [0, 1, 2, 3, 4, 5] rfl ?_
    refine tj_X12_summedUp_212 C hk38 _ _ _ _ _ _ _ _ h
  · have h := h.2 c9
    refine a_aload_n C 0 dX12_summedUp_186 rfl rfl ?_
    refine a_getr C 21 (r := 55) dX12_summedUp_187 (by decide) rfl rfl rfl ib_12 (by decide) bw_1043 ?_
    refine a_iload C 3 dX12_summedUp_190 rfl ?_
    refine a_iconst C 1 dX12_summedUp_192 (by decide) ?_
    refine a_isub C dX12_summedUp_193 ?_
    refine b_lald C (Int32.toNatClampNeg (v5 - 1)) dX12_summedUp_194 (by decide) rfl h.1 rfl ?_
    have h := h.2
    refine a_lneg C dX12_summedUp_195 ?_
    refine a_goto C 212 dX12_summedUp_196 (by decide) ?_
    refine a_sub [0, 1, 2, 3, 4, 5] rfl ?_
    refine tj_X12_summedUp_212 C hk38 _ _ _ _ _ _ _ _ h
set_option maxHeartbeats 4000000 in
set_option maxRecDepth 100000 in
theorem tj_X12_summedUp_363 {p : Program} {l : Launch} {e : Env} {s : State} {m : MethodId} {args : Array Value} {below : List Frame} {meth : Method} {c : Code} {V : VEn} {k38 : Int32 → Int32 → Int32 → Int32 → Int32 → PoS → Prop} {post : Int64 → PoS → Prop} (C : CxS p s m args meth c V cX12_summedUp 10 RX12 (some .long)) (hk38 : ∀ (v3 : Int32) (v4 : Int32) (v5 : Int32) (v6 : Int32) (v7 : Int32) (u : PoS), k38 v3 v4 v5 v6 v7 u → AtS p l e (Rm 2) s m args below meth c V 10 0 0 (QL V below args s post) 38 [(0, .ref (eA V 48)), (3, .int v3), (4, .int v4), (5, .int v5), (6, .int v6), (7, .int v7)] [] u) (v3 : Int32) (v4 : Int32) (v5 : Int32) (v6 : Int32) (v7 : Int32) (s0 : Int32) (s1 : Int32) (u : PoS) (h : wj_X12_summedUp_363 k38 post v3 v4 v5 v6 v7 s0 s1 u) : AtS p l e (Rm 2) s m args below meth c V 10 0 0 (QL V below args s post) 363 [(0, .ref (eA V 48)), (3, .int v3), (4, .int v4), (5, .int v5), (6, .int v6), (7, .int v7)] [.int s0, .int s1, .ref (eA V 56)] u := by
  rw [wj_X12_summedUp_363] at h
  refine b_zast C (Int32.toNatClampNeg s1) dX12_summedUp_363 (by decide) rfl h.1 rfl ?_
  have h := h.2
  refine a_topu (fun z13 ez13 => ?_)
  have h := h z13 ez13
  refine a_goto C 400 dX12_summedUp_364 (by decide) ?_
  refine tj_X12_summedUp_400 C hk38 _ _ _ _ _ _ h
set_option maxHeartbeats 4000000 in
set_option maxRecDepth 100000 in
theorem tj_X12_summedUp_283 {p : Program} {l : Launch} {e : Env} {s : State} {m : MethodId} {args : Array Value} {below : List Frame} {meth : Method} {c : Code} {V : VEn} {k38 : Int32 → Int32 → Int32 → Int32 → Int32 → PoS → Prop} {post : Int64 → PoS → Prop} (C : CxS p s m args meth c V cX12_summedUp 10 RX12 (some .long)) (hk38 : ∀ (v3 : Int32) (v4 : Int32) (v5 : Int32) (v6 : Int32) (v7 : Int32) (u : PoS), k38 v3 v4 v5 v6 v7 u → AtS p l e (Rm 2) s m args below meth c V 10 0 0 (QL V below args s post) 38 [(0, .ref (eA V 48)), (3, .int v3), (4, .int v4), (5, .int v5), (6, .int v6), (7, .int v7)] [] u) (v3 : Int32) (v4 : Int32) (v5 : Int32) (v6 : Int32) (v7 : Int32) (s0 : Int64) (s1 : Int32) (u : PoS) (h : wj_X12_summedUp_283 k38 post v3 v4 v5 v6 v7 s0 s1 u) : AtS p l e (Rm 2) s m args below meth c V 10 0 0 (QL V below args s post) 283 [(0, .ref (eA V 48)), (3, .int v3), (4, .int v4), (5, .int v5), (6, .int v6), (7, .int v7)] [.long s0, .int s1, .ref (eA V 55)] u := by
  rw [wj_X12_summedUp_283] at h
  refine b_last C (Int32.toNatClampNeg s1) dX12_summedUp_283 (by decide) rfl h.1 rfl ?_
  have h := h.2
  refine a_topu (fun z22 ez22 => ?_)
  have h := h z22 ez22
  refine a_goto C 400 dX12_summedUp_284 (by decide) ?_
  refine tj_X12_summedUp_400 C hk38 _ _ _ _ _ _ h
set_option maxHeartbeats 4000000 in
set_option maxRecDepth 100000 in
theorem tj_X12_summedUp_112 {p : Program} {l : Launch} {e : Env} {s : State} {m : MethodId} {args : Array Value} {below : List Frame} {meth : Method} {c : Code} {V : VEn} {k38 : Int32 → Int32 → Int32 → Int32 → Int32 → PoS → Prop} {post : Int64 → PoS → Prop} (C : CxS p s m args meth c V cX12_summedUp 10 RX12 (some .long)) (hk38 : ∀ (v3 : Int32) (v4 : Int32) (v5 : Int32) (v6 : Int32) (v7 : Int32) (u : PoS), k38 v3 v4 v5 v6 v7 u → AtS p l e (Rm 2) s m args below meth c V 10 0 0 (QL V below args s post) 38 [(0, .ref (eA V 48)), (3, .int v3), (4, .int v4), (5, .int v5), (6, .int v6), (7, .int v7)] [] u) (v3 : Int32) (v4 : Int32) (v5 : Int32) (v6 : Int32) (v7 : Int32) (s0 : Int64) (s1 : Int32) (u : PoS) (h : wj_X12_summedUp_112 k38 post v3 v4 v5 v6 v7 s0 s1 u) : AtS p l e (Rm 2) s m args below meth c V 10 0 0 (QL V below args s post) 112 [(0, .ref (eA V 48)), (3, .int v3), (4, .int v4), (5, .int v5), (6, .int v6), (7, .int v7)] [.long s0, .int s1, .ref (eA V 55)] u := by
  rw [wj_X12_summedUp_112] at h
  refine b_last C (Int32.toNatClampNeg s1) dX12_summedUp_112 (by decide) rfl h.1 rfl ?_
  have h := h.2
  refine a_topu (fun z32 ez32 => ?_)
  have h := h z32 ez32
  refine a_iinc C (v5 + 1) 3 [(5, .int (v5 + 1)), (0, .ref (eA V 48)), (3, .int v3), (4, .int v4), (6, .int v6), (7, .int v7)] dX12_summedUp_113 rfl (congrArg (fun z => v5 + z) (show Int32.ofInt 1 = 1 by decide)) (by decide) rfl ?_
  refine a_goto C 400 dX12_summedUp_116 (by decide) ?_
  refine a_sub [1, 2, 3, 0, 4, 5] rfl ?_
  refine tj_X12_summedUp_400 C hk38 _ _ _ _ _ _ h
set_option maxHeartbeats 4000000 in
set_option maxRecDepth 100000 in
theorem tl_X12_summedUp_38 {p : Program} {l : Launch} {e : Env} {s : State} {m : MethodId} {args : Array Value} {below : List Frame} {meth : Method} {c : Code} {V : VEn} {post : Int64 → PoS → Prop} (C : CxS p s m args meth c V cX12_summedUp 10 RX12 (some .long)) : ∀ (n : Nat) (v3 : Int32) (v4 : Int32) (v5 : Int32) (v6 : Int32) (v7 : Int32) (u : PoS), wl_X12_summedUp_38 post n v3 v4 v5 v6 v7 u → AtS p l e (Rm 2) s m args below meth c V 10 0 0 (QL V below args s post) 38 [(0, .ref (eA V 48)), (3, .int v3), (4, .int v4), (5, .int v5), (6, .int v6), (7, .int v7)] [] u := by
  intro n
  induction n with
  | zero => intro v3 v4 v5 v6 v7 u h; exact h.elim
  | succ n ih =>
    intro v3 v4 v5 v6 v7 u h
    rw [wl_X12_summedUp_38] at h
    refine a_iload C 5 dX12_summedUp_38 rfl ?_
    refine a_aload_n C 0 dX12_summedUp_40 rfl rfl ?_
    refine a_getr C 2 (r := 51) dX12_summedUp_41 (by decide) rfl rfl rfl ib_12 (by decide) bw_1024 ?_
    refine a_iload_n C 1 dX12_summedUp_44 rfl rfl ?_
    refine a_iconst C 2 dX12_summedUp_45 (by decide) ?_
    refine a_iadd C dX12_summedUp_46 ?_
    refine b_iald C (Int32.toNatClampNeg (v3 + 2)) dX12_summedUp_47 (by decide) rfl h.1 rfl ?_
    have h := h.2
    refine a_icmp_ge C 406 dX12_summedUp_48 (by decide) (fun c35 => ?_) (fun c35 => ?_)
    · have h := h.1 c35
      refine a_aload_n C 0 dX12_summedUp_406 rfl rfl ?_
      refine a_getr C 21 (r := 55) dX12_summedUp_407 (by decide) rfl rfl rfl ib_12 (by decide) bw_1043 ?_
      refine a_iconst C 0 dX12_summedUp_410 (by decide) ?_
      refine b_lald C 0 dX12_summedUp_411 (by decide) rfl (vp_lit (by decide)) (by decide) ?_
      exact a_lret C dX12_summedUp_412 h
    · have h := h.2 c35
      refine a_aload_n C 0 dX12_summedUp_51 rfl rfl ?_
      refine a_getr C 2 (r := 51) dX12_summedUp_52 (by decide) rfl rfl rfl ib_12 (by decide) bw_1024 ?_
      refine a_iload C 2 dX12_summedUp_55 rfl ?_
      refine a_iconst C 2 dX12_summedUp_57 (by decide) ?_
      refine a_iload C 5 dX12_summedUp_58 rfl ?_
      refine a_imul C dX12_summedUp_60 ?_
      refine a_iadd C dX12_summedUp_61 ?_
      refine b_iald C (Int32.toNatClampNeg (v4 + (2 * v7))) dX12_summedUp_62 (by decide) rfl h.1 rfl ?_
      have h := h.2
      refine a_topi (fun x4 ex4 => ?_)
      have h := h x4 ex4
      refine a_istore C [(8, .int x4), (0, .ref (eA V 48)), (3, .int v3), (4, .int v4), (5, .int v5), (6, .int v6), (7, .int v7)] dX12_summedUp_63 (by decide) rfl ?_
      refine a_aload_n C 1 dX12_summedUp_65 rfl rfl ?_
      refine a_getr C 2 (r := 51) dX12_summedUp_66 (by decide) rfl rfl rfl ib_12 (by decide) bw_1024 ?_
      refine a_iload C 3 dX12_summedUp_69 rfl ?_
      refine a_iconst C 2 dX12_summedUp_71 (by decide) ?_
      refine a_iload C 6 dX12_summedUp_72 rfl ?_
      refine a_imul C dX12_summedUp_74 ?_
      refine a_iadd C dX12_summedUp_75 ?_
      refine a_iconst C 1 dX12_summedUp_76 (by decide) ?_
      refine a_iadd C dX12_summedUp_77 ?_
      refine b_iald C (Int32.toNatClampNeg ((v4 + (2 * v7)) + 1)) dX12_summedUp_78 (by decide) rfl h.1 rfl ?_
      have h := h.2
      refine a_topi (fun x5 ex5 => ?_)
      have h := h x5 ex5
      refine a_istore C [(9, .int x5), (8, .int x4), (0, .ref (eA V 48)), (3, .int v3), (4, .int v4), (5, .int v5), (6, .int v6), (7, .int v7)] dX12_summedUp_79 (by decide) rfl ?_
      refine a_iload C 1 dX12_summedUp_81 rfl ?_
      refine a_iconst C 1 dX12_summedUp_83 (by decide) ?_
      refine a_icmp_gt C 119 dX12_summedUp_84 (by decide) (fun c34 => ?_) (fun c34 => ?_)
      · have h := h.1 c34
        refine a_iload C 1 dX12_summedUp_119 rfl ?_
        refine a_iconst C 3 dX12_summedUp_121 (by decide) ?_
        refine a_icmp_ne C 160 dX12_summedUp_122 (by decide) (fun c31 => ?_) (fun c31 => ?_)
        · have h := h.1 c31
          refine a_iload C 1 dX12_summedUp_160 rfl ?_
          refine a_iconst C 5 dX12_summedUp_162 (by decide) ?_
          refine a_icmp_eq C 172 dX12_summedUp_163 (by decide) (fun c28 => ?_) (fun c28 => ?_)
          · have h := h.1 c28
            refine a_sub [2, 3, 4, 5, 6, 7, 1] rfl ?_
            refine tj_X12_summedUp_172 C ih _ _ _ _ _ _ _ h
          · have h := h.2 c28
            refine a_iload C 1 dX12_summedUp_166 rfl ?_
            refine a_iconst C 2 dX12_summedUp_168 (by decide) ?_
            refine a_icmp_ne C 216 dX12_summedUp_169 (by decide) (fun c27 => ?_) (fun c27 => ?_)
            · have h := h.1 c27
              refine a_iload C 1 dX12_summedUp_216 rfl ?_
              refine a_bipush C 10 dX12_summedUp_218 (by decide) ?_
              refine a_icmp_ge C 287 dX12_summedUp_220 (by decide) (fun c26 => ?_) (fun c26 => ?_)
              · have h := h.1 c26
                refine a_iload C 1 dX12_summedUp_287 rfl ?_
                refine a_bipush C 20 dX12_summedUp_289 (by decide) ?_
                refine a_icmp_ge C 331 dX12_summedUp_291 (by decide) (fun c19 => ?_) (fun c19 => ?_)
                · have h := h.1 c19
                  refine a_iload C 1 dX12_summedUp_331 rfl ?_
                  refine a_bipush C 20 dX12_summedUp_333 (by decide) ?_
                  refine a_icmp_ne C 367 dX12_summedUp_335 (by decide) (fun c15 => ?_) (fun c15 => ?_)
                  · have h := h.1 c15
                    refine a_iinc C (v6 + (-1)) 6 [(6, .int (v6 + (-1))), (9, .int x5), (8, .int x4), (0, .ref (eA V 48)), (3, .int v3), (4, .int v4), (5, .int v5), (7, .int v7)] dX12_summedUp_367 rfl (congrArg (fun z => v6 + z) (show Int32.ofInt (-1) = (-1) by decide)) (by decide) rfl ?_
                    refine a_aload_n C 3 dX12_summedUp_370 rfl rfl ?_
                    refine a_getr C 22 (r := 56) dX12_summedUp_371 (by decide) rfl rfl rfl ib_12 (by decide) bw_1044 ?_
                    refine a_iload C 0 dX12_summedUp_374 rfl ?_
                    refine a_iconst C 1 dX12_summedUp_376 (by decide) ?_
                    refine a_isub C dX12_summedUp_377 ?_
                    refine a_iload C 2 dX12_summedUp_378 rfl ?_
                    refine a_aload_n C 3 dX12_summedUp_380 rfl rfl ?_
                    refine a_getr C 22 (r := 56) dX12_summedUp_381 (by decide) rfl rfl rfl ib_12 (by decide) bw_1044 ?_
                    refine a_iload C 0 dX12_summedUp_384 rfl ?_
                    refine a_iconst C 1 dX12_summedUp_386 (by decide) ?_
                    refine a_isub C dX12_summedUp_387 ?_
                    refine b_zald C (Int32.toNatClampNeg ((v6 + (-1)) - 1)) dX12_summedUp_388 (by decide) rfl h.1 rfl ?_
                    have h := h.2
                    refine a_aload_n C 3 dX12_summedUp_389 rfl rfl ?_
                    refine a_getr C 22 (r := 56) dX12_summedUp_390 (by decide) rfl rfl rfl ib_12 (by decide) bw_1044 ?_
                    refine a_iload C 0 dX12_summedUp_393 rfl ?_
                    refine b_zald C (Int32.toNatClampNeg (v6 + (-1))) dX12_summedUp_395 (by decide) rfl h.1 rfl ?_
                    have h := h.2
                    refine a_callSi C dX12_summedUp_396 (m_X12_joined l V h) bw_1445 bw_1446 bw_123 bw_1447 np_X12_joined rfl rfl (by decide) (Nat.le_of_ble_eq_true rfl) ⟨Nat.zero_le _, Nat.zero_le _⟩ (fun r10 u11 h => ?_)
                    refine b_zast C (Int32.toNatClampNeg ((v6 + (-1)) - 1)) dX12_summedUp_399 (by decide) rfl h.1 rfl ?_
                    have h := h.2
                    refine a_topu (fun z12 ez12 => ?_)
                    have h := h z12 ez12
                    refine a_sub [3, 4, 5, 6, 0, 7] rfl ?_
                    refine tj_X12_summedUp_400 C ih _ _ _ _ _ _ h
                  · have h := h.2 c15
                    refine a_aload_n C 2 dX12_summedUp_338 rfl rfl ?_
                    refine a_getr C 22 (r := 56) dX12_summedUp_339 (by decide) rfl rfl rfl ib_12 (by decide) bw_1044 ?_
                    refine a_iload C 6 dX12_summedUp_342 rfl ?_
                    refine a_iconst C 1 dX12_summedUp_344 (by decide) ?_
                    refine a_isub C dX12_summedUp_345 ?_
                    refine a_aload_n C 2 dX12_summedUp_346 rfl rfl ?_
                    refine a_getr C 22 (r := 56) dX12_summedUp_347 (by decide) rfl rfl rfl ib_12 (by decide) bw_1044 ?_
                    refine a_iload C 6 dX12_summedUp_350 rfl ?_
                    refine a_iconst C 1 dX12_summedUp_352 (by decide) ?_
                    refine a_isub C dX12_summedUp_353 ?_
                    refine b_zald C (Int32.toNatClampNeg (v6 - 1)) dX12_summedUp_354 (by decide) rfl h.1 rfl ?_
                    have h := h.2
                    refine a_if_ne C 362 dX12_summedUp_355 (by decide) (fun c14 => ?_) (fun c14 => ?_)
                    · have h := h.1 c14
                      refine a_iconst C 0 dX12_summedUp_362 (by decide) ?_
                      refine a_sub [2, 3, 4, 5, 6, 7] rfl ?_
                      refine tj_X12_summedUp_363 C ih _ _ _ _ _ _ _ _ h
                    · have h := h.2 c14
                      refine a_iconst C 1 dX12_summedUp_358 (by decide) ?_
                      refine a_goto C 363 dX12_summedUp_359 (by decide) ?_
                      refine a_sub [2, 3, 4, 5, 6, 7] rfl ?_
                      refine tj_X12_summedUp_363 C ih _ _ _ _ _ _ _ _ h
                · have h := h.2 c19
                  refine a_iinc C (v5 + (-2)) 5 [(5, .int (v5 + (-2))), (9, .int x5), (8, .int x4), (0, .ref (eA V 48)), (3, .int v3), (4, .int v4), (6, .int v6), (7, .int v7)] dX12_summedUp_294 rfl (congrArg (fun z => v5 + z) (show Int32.ofInt (-2) = (-2) by decide)) (by decide) rfl ?_
                  refine a_aload_n C 3 dX12_summedUp_297 rfl rfl ?_
                  refine a_getr C 22 (r := 56) dX12_summedUp_298 (by decide) rfl rfl rfl ib_12 (by decide) bw_1044 ?_
                  refine a_iload C 6 dX12_summedUp_301 rfl ?_
                  refine a_iload C 2 dX12_summedUp_303 rfl ?_
                  refine a_aload_n C 3 dX12_summedUp_305 rfl rfl ?_
                  refine a_getr C 21 (r := 55) dX12_summedUp_306 (by decide) rfl rfl rfl ib_12 (by decide) bw_1043 ?_
                  refine a_iload C 0 dX12_summedUp_309 rfl ?_
                  refine b_lald C (Int32.toNatClampNeg (v5 + (-2))) dX12_summedUp_311 (by decide) rfl h.1 rfl ?_
                  have h := h.2
                  refine a_aload_n C 3 dX12_summedUp_312 rfl rfl ?_
                  refine a_getr C 21 (r := 55) dX12_summedUp_313 (by decide) rfl rfl rfl ib_12 (by decide) bw_1043 ?_
                  refine a_iload C 0 dX12_summedUp_316 rfl ?_
                  refine a_iconst C 1 dX12_summedUp_318 (by decide) ?_
                  refine a_iadd C dX12_summedUp_319 ?_
                  refine b_lald C (Int32.toNatClampNeg ((v5 + (-2)) + 1)) dX12_summedUp_320 (by decide) rfl h.1 rfl ?_
                  have h := h.2
                  refine a_callSi C dX12_summedUp_321 (m_X12_isAsked l V h) bw_1442 bw_1443 bw_123 bw_1444 np_X12_isAsked rfl rfl (by decide) (Nat.le_of_ble_eq_true rfl) ⟨Nat.zero_le _, Nat.zero_le _⟩ (fun r16 u17 h => ?_)
                  refine b_zast C (Int32.toNatClampNeg v6) dX12_summedUp_324 (by decide) rfl h.1 rfl ?_
                  have h := h.2
                  refine a_topu (fun z18 ez18 => ?_)
                  have h := h z18 ez18
                  refine a_iinc C (v6 + 1) 6 [(6, .int (v6 + 1)), (5, .int (v5 + (-2))), (9, .int x5), (8, .int x4), (0, .ref (eA V 48)), (3, .int v3), (4, .int v4), (7, .int v7)] dX12_summedUp_325 rfl (congrArg (fun z => v6 + z) (show Int32.ofInt 1 = 1 by decide)) (by decide) rfl ?_
                  refine a_goto C 400 dX12_summedUp_328 (by decide) ?_
                  refine a_sub [4, 5, 6, 1, 0, 7] rfl ?_
                  refine tj_X12_summedUp_400 C ih _ _ _ _ _ _ h
              · have h := h.2 c26
                refine a_iinc C (v5 + (-1)) 5 [(5, .int (v5 + (-1))), (9, .int x5), (8, .int x4), (0, .ref (eA V 48)), (3, .int v3), (4, .int v4), (6, .int v6), (7, .int v7)] dX12_summedUp_223 rfl (congrArg (fun z => v5 + z) (show Int32.ofInt (-1) = (-1) by decide)) (by decide) rfl ?_
                refine a_aload_n C 3 dX12_summedUp_226 rfl rfl ?_
                refine a_getr C 21 (r := 55) dX12_summedUp_227 (by decide) rfl rfl rfl ib_12 (by decide) bw_1043 ?_
                refine a_iload C 0 dX12_summedUp_230 rfl ?_
                refine a_iconst C 1 dX12_summedUp_232 (by decide) ?_
                refine a_isub C dX12_summedUp_233 ?_
                refine a_iload C 2 dX12_summedUp_234 rfl ?_
                refine a_iconst C 4 dX12_summedUp_236 (by decide) ?_
                refine a_icmp_ne C 262 dX12_summedUp_237 (by decide) (fun c25 => ?_) (fun c25 => ?_)
                · have h := h.1 c25
                  refine a_iload C 2 dX12_summedUp_262 rfl ?_
                  refine a_aload_n C 3 dX12_summedUp_264 rfl rfl ?_
                  refine a_getr C 21 (r := 55) dX12_summedUp_265 (by decide) rfl rfl rfl ib_12 (by decide) bw_1043 ?_
                  refine a_iload C 0 dX12_summedUp_268 rfl ?_
                  refine a_iconst C 1 dX12_summedUp_270 (by decide) ?_
                  refine a_isub C dX12_summedUp_271 ?_
                  refine b_lald C (Int32.toNatClampNeg ((v5 + (-1)) - 1)) dX12_summedUp_272 (by decide) rfl h.1 rfl ?_
                  have h := h.2
                  refine a_aload_n C 3 dX12_summedUp_273 rfl rfl ?_
                  refine a_getr C 21 (r := 55) dX12_summedUp_274 (by decide) rfl rfl rfl ib_12 (by decide) bw_1043 ?_
                  refine a_iload C 0 dX12_summedUp_277 rfl ?_
                  refine b_lald C (Int32.toNatClampNeg (v5 + (-1))) dX12_summedUp_279 (by decide) rfl h.1 rfl ?_
                  have h := h.2
                  refine a_callSl C dX12_summedUp_280 (m_X12_two l V h) bw_1436 bw_1437 bw_123 bw_1438 np_X12_two rfl rfl (by decide) (Nat.le_of_ble_eq_true rfl) ⟨Nat.zero_le _, Nat.zero_le _⟩ (fun r20 u21 h => ?_)
                  refine a_sub [3, 4, 5, 0, 6, 7] rfl ?_
                  refine tj_X12_summedUp_283 C ih _ _ _ _ _ _ _ _ h
                · have h := h.2 c25
                  refine a_aload_n C 3 dX12_summedUp_240 rfl rfl ?_
                  refine a_getr C 21 (r := 55) dX12_summedUp_241 (by decide) rfl rfl rfl ib_12 (by decide) bw_1043 ?_
                  refine a_iload C 0 dX12_summedUp_244 rfl ?_
                  refine a_iconst C 1 dX12_summedUp_246 (by decide) ?_
                  refine a_isub C dX12_summedUp_247 ?_
                  refine b_lald C (Int32.toNatClampNeg ((v5 + (-1)) - 1)) dX12_summedUp_248 (by decide) rfl h.1 rfl ?_
                  have h := h.2
                  refine a_aload_n C 3 dX12_summedUp_249 rfl rfl ?_
                  refine a_getr C 21 (r := 55) dX12_summedUp_250 (by decide) rfl rfl rfl ib_12 (by decide) bw_1043 ?_
                  refine a_iload C 0 dX12_summedUp_253 rfl ?_
                  refine b_lald C (Int32.toNatClampNeg (v5 + (-1))) dX12_summedUp_255 (by decide) rfl h.1 rfl ?_
                  have h := h.2
                  refine a_callSl C dX12_summedUp_256 (m_X12_shareOf l V h) bw_1430 bw_1431 bw_123 bw_1432 np_X12_shareOf rfl rfl (by decide) (Nat.le_of_ble_eq_true rfl) ⟨Nat.zero_le _, Nat.zero_le _⟩ (fun r23 u24 h => ?_)
                  refine a_goto C 283 dX12_summedUp_259 (by decide) ?_
                  refine a_sub [3, 4, 5, 0, 6, 7] rfl ?_
                  refine tj_X12_summedUp_283 C ih _ _ _ _ _ _ _ _ h
            · have h := h.2 c27
              refine a_sub [2, 3, 4, 5, 6, 7, 1] rfl ?_
              refine tj_X12_summedUp_172 C ih _ _ _ _ _ _ _ h
        · have h := h.2 c31
          refine a_iinc C (v5 + (-1)) 5 [(5, .int (v5 + (-1))), (9, .int x5), (8, .int x4), (0, .ref (eA V 48)), (3, .int v3), (4, .int v4), (6, .int v6), (7, .int v7)] dX12_summedUp_125 rfl (congrArg (fun z => v5 + z) (show Int32.ofInt (-1) = (-1) by decide)) (by decide) rfl ?_
          refine a_iinc C (v6 + (-1)) 6 [(6, .int (v6 + (-1))), (5, .int (v5 + (-1))), (9, .int x5), (8, .int x4), (0, .ref (eA V 48)), (3, .int v3), (4, .int v4), (7, .int v7)] dX12_summedUp_128 rfl (congrArg (fun z => v6 + z) (show Int32.ofInt (-1) = (-1) by decide)) (by decide) rfl ?_
          refine a_aload_n C 4 dX12_summedUp_131 rfl rfl ?_
          refine a_getr C 22 (r := 56) dX12_summedUp_132 (by decide) rfl rfl rfl ib_12 (by decide) bw_1044 ?_
          refine a_iload C 0 dX12_summedUp_135 rfl ?_
          refine b_zald C (Int32.toNatClampNeg (v6 + (-1))) dX12_summedUp_137 (by decide) rfl h.1 rfl ?_
          have h := h.2
          refine a_if_ne C 400 dX12_summedUp_138 (by decide) (fun c30 => ?_) (fun c30 => ?_)
          · have h := h.1 c30
            refine a_sub [4, 5, 6, 1, 0, 7] rfl ?_
            refine tj_X12_summedUp_400 C ih _ _ _ _ _ _ h
          · have h := h.2 c30
            refine a_aload_n C 4 dX12_summedUp_141 rfl rfl ?_
            refine a_getr C 21 (r := 55) dX12_summedUp_142 (by decide) rfl rfl rfl ib_12 (by decide) bw_1043 ?_
            refine a_iload C 1 dX12_summedUp_145 rfl ?_
            refine a_iconst C 1 dX12_summedUp_147 (by decide) ?_
            refine a_isub C dX12_summedUp_148 ?_
            refine a_aload_n C 4 dX12_summedUp_149 rfl rfl ?_
            refine a_getr C 21 (r := 55) dX12_summedUp_150 (by decide) rfl rfl rfl ib_12 (by decide) bw_1043 ?_
            refine a_iload C 1 dX12_summedUp_153 rfl ?_
            refine b_lald C (Int32.toNatClampNeg (v5 + (-1))) dX12_summedUp_155 (by decide) rfl h.1 rfl ?_
            have h := h.2
            refine b_last C (Int32.toNatClampNeg ((v5 + (-1)) - 1)) dX12_summedUp_156 (by decide) rfl h.1 rfl ?_
            have h := h.2
            refine a_topu (fun z29 ez29 => ?_)
            have h := h z29 ez29
            refine a_goto C 400 dX12_summedUp_157 (by decide) ?_
            refine a_sub [4, 5, 6, 1, 0, 7] rfl ?_
            refine tj_X12_summedUp_400 C ih _ _ _ _ _ _ h
      · have h := h.2 c34
        refine a_aload_n C 2 dX12_summedUp_87 rfl rfl ?_
        refine a_getr C 21 (r := 55) dX12_summedUp_88 (by decide) rfl rfl rfl ib_12 (by decide) bw_1043 ?_
        refine a_iload C 5 dX12_summedUp_91 rfl ?_
        refine a_iload C 1 dX12_summedUp_93 rfl ?_
        refine a_if_ne C 104 dX12_summedUp_95 (by decide) (fun c33 => ?_) (fun c33 => ?_)
        · have h := h.1 c33
          refine a_aload_n C 2 dX12_summedUp_104 rfl rfl ?_
          refine a_getr C 20 (r := 54) dX12_summedUp_105 (by decide) rfl rfl rfl ib_12 (by decide) bw_1042 ?_
          refine a_iload C 0 dX12_summedUp_108 rfl ?_
          refine b_iald C (Int32.toNatClampNeg x5) dX12_summedUp_110 (by decide) rfl h.1 rfl ?_
          have h := h.2
          refine a_i2l C dX12_summedUp_111 ?_
          refine a_sub [2, 3, 4, 5, 6, 7] rfl ?_
          refine tj_X12_summedUp_112 C ih _ _ _ _ _ _ _ _ h
        · have h := h.2 c33
          refine a_iload C 0 dX12_summedUp_98 rfl ?_
          refine a_i2l C dX12_summedUp_100 ?_
          refine a_goto C 112 dX12_summedUp_101 (by decide) ?_
          refine a_sub [2, 3, 4, 5, 6, 7] rfl ?_
          refine tj_X12_summedUp_112 C ih _ _ _ _ _ _ _ _ h
theorem np_X12_summedUp : yX12_summedUp.cls ≠ "java/lang/invoke/MethodHandle" ∧ yX12_summedUp.cls ≠ "java/lang/invoke/VarHandle" ∧ (parseMethodDescriptor yX12_summedUp.desc).map (fun d => d.parameters.length) = some 2 := by decide +kernel
set_option maxHeartbeats 4000000 in
set_option maxRecDepth 100000 in
theorem m_X12_summedUp (l : Launch) (V : VEn) {a0 : Int32} {a1 : Int32} {u : PoS} {post : Int64 → PoS → Prop} (h : wp_X12_summedUp a0 a1 u post) : KL l V yX12_summedUp cX12_summedUp 10 .long 2 [.ref (eA V 48), .int a0, .int a1] u post := by
  refine KL_of (by decide) (Nat.le_of_ble_eq_true rfl) (lv := [(0, .ref (eA V 48)), (1, .int a0), (2, .int a1)]) rfl ?_
  intro p e s m args below meth c C
  rw [wp_X12_summedUp] at h
  refine a_sipush C 681 dX12_summedUp_0 (by decide) ?_
  refine a_iload_n C 1 dX12_summedUp_3 rfl rfl ?_
  refine a_imul C dX12_summedUp_4 ?_
  refine a_iconst C 1 dX12_summedUp_5 (by decide) ?_
  refine a_iadd C dX12_summedUp_6 ?_
  refine a_iconst C 3 dX12_summedUp_7 (by decide) ?_
  refine a_iload_n C 2 dX12_summedUp_8 rfl rfl ?_
  refine a_imul C dX12_summedUp_9 ?_
  refine a_iadd C dX12_summedUp_10 ?_
  refine a_topi (fun x1 ex1 => ?_)
  have h := h x1 ex1
  refine a_istore_n C [(3, .int x1), (0, .ref (eA V 48)), (1, .int a0), (2, .int a1)] dX12_summedUp_11 rfl (by decide) rfl ?_
  refine a_sipush C 681 dX12_summedUp_12 (by decide) ?_
  refine a_iload_n C 2 dX12_summedUp_15 rfl rfl ?_
  refine a_imul C dX12_summedUp_16 ?_
  refine a_bipush C 73 dX12_summedUp_17 (by decide) ?_
  refine a_iadd C dX12_summedUp_19 ?_
  refine a_topi (fun x2 ex2 => ?_)
  have h := h x2 ex2
  refine a_istore C [(4, .int x2), (3, .int x1), (0, .ref (eA V 48)), (1, .int a0), (2, .int a1)] dX12_summedUp_20 (by decide) rfl ?_
  refine a_iconst C 0 dX12_summedUp_22 (by decide) ?_
  refine a_istore C [(5, .int 0), (4, .int x2), (3, .int x1), (0, .ref (eA V 48)), (1, .int a0), (2, .int a1)] dX12_summedUp_23 (by decide) rfl ?_
  refine a_iconst C 0 dX12_summedUp_25 (by decide) ?_
  refine a_istore C [(6, .int 0), (5, .int 0), (4, .int x2), (3, .int x1), (0, .ref (eA V 48)), (1, .int a0), (2, .int a1)] dX12_summedUp_26 (by decide) rfl ?_
  refine a_aload_n C 4 dX12_summedUp_28 rfl rfl ?_
  refine a_getr C 2 (r := 51) dX12_summedUp_29 (by decide) rfl rfl rfl ib_12 (by decide) bw_1024 ?_
  refine a_iload_n C 3 dX12_summedUp_32 rfl rfl ?_
  refine a_iconst C 1 dX12_summedUp_33 (by decide) ?_
  refine a_iadd C dX12_summedUp_34 ?_
  refine b_iald C (Int32.toNatClampNeg (x1 + 1)) dX12_summedUp_35 (by decide) rfl h.1 rfl ?_
  have h := h.2
  refine a_topi (fun x3 ex3 => ?_)
  have h := h x3 ex3
  refine a_istore C [(7, .int x3), (6, .int 0), (5, .int 0), (4, .int x2), (3, .int x1), (0, .ref (eA V 48)), (1, .int a0), (2, .int a1)] dX12_summedUp_36 (by decide) rfl ?_
  refine a_sub [5, 4, 3, 2, 1, 0] rfl ?_
  obtain ⟨n38, h⟩ := h
  refine tl_X12_summedUp_38 C n38 _ _ _ _ _ _ h

/-! RainOnTheOneModel.says(IIIII)I -/
def wl_X12_says_3 (k64 : Int32 → Int32 → Int32 → PoS → Prop) (k43 : Int32 → Int32 → Int32 → Int32 → PoS → Prop) (post : Int32 → PoS → Prop) : Nat → Int32 → Int32 → Int32 → Int32 → Int32 → Int32 → PoS → Prop
  | 0, _, _, _, _, _, _, _ => False
  | n + 1, v1, v2, v3, v4, v5, v6, u => ((v1 < 0 → k64 v3 v4 v5 u) ∧ (¬ v1 < 0 → vp_in (681 * v1) 2724 ∧ (((gI u 51 (Int32.toNatClampNeg (681 * v1))) ≤ v6 → k64 v3 v4 v5 u) ∧ (¬ (gI u 51 (Int32.toNatClampNeg (681 * v1))) ≤ v6 → vp_in (((681 * v1) + 1) + (3 * v6)) 2724 ∧ ((¬ (gI u 51 (Int32.toNatClampNeg (((681 * v1) + 1) + (3 * v6)))) = v2 → wl_X12_says_3 k64 k43 post n v1 v2 v3 v4 v5 (v6 + 1) u) ∧ ((gI u 51 (Int32.toNatClampNeg (((681 * v1) + 1) + (3 * v6)))) = v2 → k43 v1 v4 v5 v6 u))))))
def wj_X12_says_64 (post : Int32 → PoS → Prop) (v3 : Int32) (v4 : Int32) (v5 : Int32) (u : PoS) : Prop := wp_X12_held (Int32.toInt64 v3) v4 v5 u (fun (r5 : Int32) (u6 : PoS) => post r5 u6)
def wp_X12_says (a0 : Int32) (a1 : Int32) (a2 : Int32) (a3 : Int32) (a4 : Int32) (u : PoS) (post : Int32 → PoS → Prop) : Prop := (∃ n3, wl_X12_says_3 (fun (v34 : Int32) (v44 : Int32) (v54 : Int32) (u4 : PoS) => wj_X12_says_64 post v34 v44 v54 u4) (fun (v17 : Int32) (v47 : Int32) (v57 : Int32) (v67 : Int32) (u7 : PoS) => wp_X12_summedUp v17 v67 u7 (fun (r8 : Int64) (u9 : PoS) => wp_X12_held r8 v47 v57 u9 (fun (r10 : Int32) (u11 : PoS) => post r10 u11))) post n3 a0 a1 a2 a3 a4 0 u)
set_option maxHeartbeats 4000000 in
set_option maxRecDepth 100000 in
theorem tl_X12_says_3 {p : Program} {l : Launch} {e : Env} {s : State} {m : MethodId} {args : Array Value} {below : List Frame} {meth : Method} {c : Code} {V : VEn} {k64 : Int32 → Int32 → Int32 → PoS → Prop} {k43 : Int32 → Int32 → Int32 → Int32 → PoS → Prop} {post : Int32 → PoS → Prop} (C : CxS p s m args meth c V cX12_says 7 RX12 (some .int)) (hk64 : ∀ (v3 : Int32) (v4 : Int32) (v5 : Int32) (u : PoS), k64 v3 v4 v5 u → AtS p l e (Rm 3) s m args below meth c V 7 0 0 (QI V below args s post) 64 [(3, .int v3), (4, .int v4), (5, .int v5)] [] u) (hk43 : ∀ (v1 : Int32) (v4 : Int32) (v5 : Int32) (v6 : Int32) (u : PoS), k43 v1 v4 v5 v6 u → AtS p l e (Rm 3) s m args below meth c V 7 0 0 (QI V below args s post) 43 [(0, .ref (eA V 48)), (1, .int v1), (4, .int v4), (5, .int v5), (6, .int v6)] [] u) : ∀ (n : Nat) (v1 : Int32) (v2 : Int32) (v3 : Int32) (v4 : Int32) (v5 : Int32) (v6 : Int32) (u : PoS), wl_X12_says_3 k64 k43 post n v1 v2 v3 v4 v5 v6 u → AtS p l e (Rm 3) s m args below meth c V 7 0 0 (QI V below args s post) 3 [(0, .ref (eA V 48)), (1, .int v1), (2, .int v2), (3, .int v3), (4, .int v4), (5, .int v5), (6, .int v6)] [] u := by
  intro n
  induction n with
  | zero => intro v1 v2 v3 v4 v5 v6 u h; exact h.elim
  | succ n ih =>
    intro v1 v2 v3 v4 v5 v6 u h
    rw [wl_X12_says_3] at h
    refine a_iload_n C 1 dX12_says_3 rfl rfl ?_
    refine a_if_lt C 64 dX12_says_4 (by decide) (fun c3 => ?_) (fun c3 => ?_)
    · have h := h.1 c3
      refine a_sub [3, 4, 5] rfl ?_
      exact hk64 _ _ _ _ h
    · have h := h.2 c3
      refine a_iload C 6 dX12_says_7 rfl ?_
      refine a_aload_n C 0 dX12_says_9 rfl rfl ?_
      refine a_getr C 2 (r := 51) dX12_says_10 (by decide) rfl rfl rfl ib_12 (by decide) bw_1024 ?_
      refine a_sipush C 681 dX12_says_13 (by decide) ?_
      refine a_iload_n C 1 dX12_says_16 rfl rfl ?_
      refine a_imul C dX12_says_17 ?_
      refine b_iald C (Int32.toNatClampNeg (681 * v1)) dX12_says_18 (by decide) rfl h.1 rfl ?_
      have h := h.2
      refine a_icmp_ge C 64 dX12_says_19 (by decide) (fun c2 => ?_) (fun c2 => ?_)
      · have h := h.1 c2
        refine a_sub [3, 4, 5] rfl ?_
        exact hk64 _ _ _ _ h
      · have h := h.2 c2
        refine a_aload_n C 0 dX12_says_22 rfl rfl ?_
        refine a_getr C 2 (r := 51) dX12_says_23 (by decide) rfl rfl rfl ib_12 (by decide) bw_1024 ?_
        refine a_sipush C 681 dX12_says_26 (by decide) ?_
        refine a_iload_n C 1 dX12_says_29 rfl rfl ?_
        refine a_imul C dX12_says_30 ?_
        refine a_iconst C 1 dX12_says_31 (by decide) ?_
        refine a_iadd C dX12_says_32 ?_
        refine a_iconst C 3 dX12_says_33 (by decide) ?_
        refine a_iload C 6 dX12_says_34 rfl ?_
        refine a_imul C dX12_says_36 ?_
        refine a_iadd C dX12_says_37 ?_
        refine b_iald C (Int32.toNatClampNeg (((681 * v1) + 1) + (3 * v6))) dX12_says_38 (by decide) rfl h.1 rfl ?_
        have h := h.2
        refine a_iload_n C 2 dX12_says_39 rfl rfl ?_
        refine a_icmp_ne C 58 dX12_says_40 (by decide) (fun c1 => ?_) (fun c1 => ?_)
        · have h := h.1 c1
          refine a_iinc C (v6 + 1) 6 [(6, .int (v6 + 1)), (0, .ref (eA V 48)), (1, .int v1), (2, .int v2), (3, .int v3), (4, .int v4), (5, .int v5)] dX12_says_58 rfl (congrArg (fun z => v6 + z) (show Int32.ofInt 1 = 1 by decide)) (by decide) rfl ?_
          refine a_goto C 3 dX12_says_61 (by decide) ?_
          refine a_sub [1, 2, 3, 4, 5, 6, 0] rfl ?_
          exact ih _ _ _ _ _ _ _ h
        · have h := h.2 c1
          refine a_sub [0, 1, 4, 5, 6] rfl ?_
          exact hk43 _ _ _ _ _ h
set_option maxHeartbeats 4000000 in
set_option maxRecDepth 100000 in
theorem tj_X12_says_64 {p : Program} {l : Launch} {e : Env} {s : State} {m : MethodId} {args : Array Value} {below : List Frame} {meth : Method} {c : Code} {V : VEn} {post : Int32 → PoS → Prop} (C : CxS p s m args meth c V cX12_says 7 RX12 (some .int)) (v3 : Int32) (v4 : Int32) (v5 : Int32) (u : PoS) (h : wj_X12_says_64 post v3 v4 v5 u) : AtS p l e (Rm 3) s m args below meth c V 7 0 0 (QI V below args s post) 64 [(3, .int v3), (4, .int v4), (5, .int v5)] [] u := by
  rw [wj_X12_says_64] at h
  refine a_iload_n C 0 dX12_says_64 rfl rfl ?_
  refine a_i2l C dX12_says_65 ?_
  refine a_iload C 1 dX12_says_66 rfl ?_
  refine a_iload C 2 dX12_says_68 rfl ?_
  refine a_callSi C dX12_says_70 (m_X12_held l V h) bw_1448 bw_1449 bw_123 bw_1450 np_X12_held rfl rfl (by decide) (Nat.le_of_ble_eq_true rfl) ⟨Nat.zero_le _, Nat.zero_le _⟩ (fun r5 u6 h => ?_)
  exact a_iret C dX12_says_73 h
theorem np_X12_says : yX12_says.cls ≠ "java/lang/invoke/MethodHandle" ∧ yX12_says.cls ≠ "java/lang/invoke/VarHandle" ∧ (parseMethodDescriptor yX12_says.desc).map (fun d => d.parameters.length) = some 5 := by decide +kernel
set_option maxHeartbeats 4000000 in
set_option maxRecDepth 100000 in
theorem m_X12_says (l : Launch) (V : VEn) {a0 : Int32} {a1 : Int32} {a2 : Int32} {a3 : Int32} {a4 : Int32} {u : PoS} {post : Int32 → PoS → Prop} (h : wp_X12_says a0 a1 a2 a3 a4 u post) : KI l V yX12_says cX12_says 7 .int 3 [.ref (eA V 48), .int a0, .int a1, .int a2, .int a3, .int a4] u post := by
  refine KI_of (by decide) (Nat.le_of_ble_eq_true rfl) (lv := [(0, .ref (eA V 48)), (1, .int a0), (2, .int a1), (3, .int a2), (4, .int a3), (5, .int a4)]) rfl ?_
  intro p e s m args below meth c C
  rw [wp_X12_says] at h
  refine a_iconst C 0 dX12_says_0 (by decide) ?_
  refine a_istore C [(6, .int 0), (0, .ref (eA V 48)), (1, .int a0), (2, .int a1), (3, .int a2), (4, .int a3), (5, .int a4)] dX12_says_1 (by decide) rfl ?_
  refine a_sub [1, 2, 3, 4, 5, 6, 0] rfl ?_
  obtain ⟨n3, h⟩ := h
  refine tl_X12_says_3 C (fun v34 v44 v54 u4 h => ?_) (fun v17 v47 v57 v67 u7 h => ?_) n3 _ _ _ _ _ _ _ h
  · refine tj_X12_says_64 C _ _ _ _ h
  · refine a_aload_n C 0 dX12_says_43 rfl rfl ?_
    refine a_iload_n C 1 dX12_says_44 rfl rfl ?_
    refine a_iload C 4 dX12_says_45 rfl ?_
    refine a_callVl C dX12_says_47 (m_X12_summedUp l V h) bw_1421 bw_1423 bw_84 bw_123 bw_1424 (by decide) rfl rfl np_X12_summedUp rfl rfl (by decide) (Nat.le_of_ble_eq_true rfl) ⟨Nat.zero_le _, Nat.zero_le _⟩ (fun r8 u9 h => ?_)
    refine a_iload C 2 dX12_says_50 rfl ?_
    refine a_iload C 3 dX12_says_52 rfl ?_
    refine a_callSi C dX12_says_54 (m_X12_held l V h) bw_1448 bw_1449 bw_123 bw_1450 np_X12_held rfl rfl (by decide) (Nat.le_of_ble_eq_true rfl) ⟨Nat.zero_le _, Nat.zero_le _⟩ (fun r10 u11 h => ?_)
    exact a_iret C dX12_says_57 h

/-! RainOnTheOneModel.layFar(II)V -/
def wl_X12_layFar_2 (k21 : Int32 → Int32 → PoS → Prop) (post : PoS → Prop) : Nat → Int32 → Int32 → Int32 → PoS → Prop
  | 0, _, _, _, _ => False
  | n + 1, v1, v2, v3, u => ((30 ≤ v3 → k21 v1 v2 u) ∧ (¬ 30 ≤ v3 → vp_in v3 30 ∧ ∀ z1 : PoS, z1 = pI u 57 (Int32.toNatClampNeg v3) (-1) → wl_X12_layFar_2 k21 post n v1 v2 (v3 + 1) z1))
def wj_X12_layFar_75 (k50 : Int32 → Int32 → Int32 → Int32 → Int32 → PoS → Prop) (post : PoS → Prop) (v2 : Int32) (v3 : Int32) (v4 : Int32) (v5 : Int32) (v6 : Int32) (u : PoS) : Prop := k50 v2 v3 v4 v5 (v6 + 1) u
def wl_X12_layFar_50 (k81 : Int32 → Int32 → Int32 → Int32 → PoS → Prop) (post : PoS → Prop) : Nat → Int32 → Int32 → Int32 → Int32 → Int32 → PoS → Prop
  | 0, _, _, _, _, _, _ => False
  | n + 1, v2, v3, v4, v5, v6, u => ((30 ≤ v6 → k81 v2 v3 v4 v5 u) ∧ (¬ 30 ≤ v6 → wp_X12_has v3 v6 u (fun (r6 : Int32) (u7 : PoS) => ((r6 = 0 → wj_X12_layFar_75 (wl_X12_layFar_50 k81 post n) post v2 v3 v4 v5 v6 u7) ∧ (¬ r6 = 0 → vp_in v6 30 ∧ ∀ z8 : PoS, z8 = pI u7 57 (Int32.toNatClampNeg v6) v5 → wj_X12_layFar_75 (wl_X12_layFar_50 k81 post n) post v2 v3 v4 v5 v6 z8)))))
def wl_X12_layFar_43 (post : PoS → Prop) : Nat → Int32 → Int32 → Int32 → Int32 → PoS → Prop
  | 0, _, _, _, _, _ => False
  | n + 1, v2, v3, v4, v5, u => ((v3 = 0 → post u) ∧ (¬ v3 = 0 → (∃ n50, wl_X12_layFar_50 (fun (v211 : Int32) (v311 : Int32) (v411 : Int32) (v511 : Int32) (u11 : PoS) => wp_X12_aside v311 u11 (fun (r12 : Int32) (u13 : PoS) => ∀ x14 : Int32, x14 = ((r12 &&& v211) &&& (v411 ^^^ (-1))) → ∀ x15 : Int32, x15 = (v411 ||| x14) → wl_X12_layFar_43 post n v211 x14 x15 (v511 + 1) u13)) post n50 v2 v3 v4 v5 0 u)))
def wj_X12_layFar_36 (post : PoS → Prop) (v2 : Int32) (s0 : Int32) (u : PoS) : Prop := (∃ n43, wl_X12_layFar_43 post n43 v2 s0 s0 0 u)
def wp_X12_layFar (a0 : Int32) (a1 : Int32) (u : PoS) (post : PoS → Prop) : Prop := (∃ n2, wl_X12_layFar_2 (fun (v13 : Int32) (v23 : Int32) (u3 : PoS) => wp_X12_has v23 v13 u3 (fun (r4 : Int32) (u5 : PoS) => ((r4 = 0 → wj_X12_layFar_36 post v23 0 u5) ∧ (¬ r4 = 0 → wj_X12_layFar_36 post v23 (1 <<< (v13 &&& 31)) u5)))) post n2 a0 a1 0 u)
set_option maxHeartbeats 4000000 in
set_option maxRecDepth 100000 in
theorem tl_X12_layFar_2 {p : Program} {l : Launch} {e : Env} {s : State} {m : MethodId} {args : Array Value} {below : List Frame} {meth : Method} {c : Code} {V : VEn} {k21 : Int32 → Int32 → PoS → Prop} {post : PoS → Prop} (C : CxS p s m args meth c V cX12_layFar 7 RX12 none) (hk21 : ∀ (v1 : Int32) (v2 : Int32) (u : PoS), k21 v1 v2 u → AtS p l e (Rm 1) s m args below meth c V 7 0 0 (QV V below args s post) 21 [(0, .ref (eA V 48)), (1, .int v1), (2, .int v2)] [] u) : ∀ (n : Nat) (v1 : Int32) (v2 : Int32) (v3 : Int32) (u : PoS), wl_X12_layFar_2 k21 post n v1 v2 v3 u → AtS p l e (Rm 1) s m args below meth c V 7 0 0 (QV V below args s post) 2 [(0, .ref (eA V 48)), (1, .int v1), (2, .int v2), (3, .int v3)] [] u := by
  intro n
  induction n with
  | zero => intro v1 v2 v3 u h; exact h.elim
  | succ n ih =>
    intro v1 v2 v3 u h
    rw [wl_X12_layFar_2] at h
    refine a_iload_n C 3 dX12_layFar_2 rfl rfl ?_
    refine a_bipush C 30 dX12_layFar_3 (by decide) ?_
    refine a_icmp_ge C 21 dX12_layFar_5 (by decide) (fun c2 => ?_) (fun c2 => ?_)
    · have h := h.1 c2
      refine a_sub [0, 1, 2] rfl ?_
      exact hk21 _ _ _ h
    · have h := h.2 c2
      refine a_aload_n C 0 dX12_layFar_8 rfl rfl ?_
      refine a_getr C 23 (r := 57) dX12_layFar_9 (by decide) rfl rfl rfl ib_12 (by decide) bw_1045 ?_
      refine a_iload_n C 3 dX12_layFar_12 rfl rfl ?_
      refine a_iconst C (-1) dX12_layFar_13 (by decide) ?_
      refine b_iast C (Int32.toNatClampNeg v3) dX12_layFar_14 (by decide) rfl h.1 rfl ?_
      have h := h.2
      refine a_topu (fun z1 ez1 => ?_)
      have h := h z1 ez1
      refine a_iinc C (v3 + 1) 3 [(3, .int (v3 + 1)), (0, .ref (eA V 48)), (1, .int v1), (2, .int v2)] dX12_layFar_15 rfl (congrArg (fun z => v3 + z) (show Int32.ofInt 1 = 1 by decide)) (by decide) rfl ?_
      refine a_goto C 2 dX12_layFar_18 (by decide) ?_
      refine a_sub [1, 2, 3, 0] rfl ?_
      exact ih _ _ _ _ h
set_option maxHeartbeats 4000000 in
set_option maxRecDepth 100000 in
theorem tj_X12_layFar_75 {p : Program} {l : Launch} {e : Env} {s : State} {m : MethodId} {args : Array Value} {below : List Frame} {meth : Method} {c : Code} {V : VEn} {k50 : Int32 → Int32 → Int32 → Int32 → Int32 → PoS → Prop} {post : PoS → Prop} (C : CxS p s m args meth c V cX12_layFar 7 RX12 none) (hk50 : ∀ (v2 : Int32) (v3 : Int32) (v4 : Int32) (v5 : Int32) (v6 : Int32) (u : PoS), k50 v2 v3 v4 v5 v6 u → AtS p l e (Rm 1) s m args below meth c V 7 0 0 (QV V below args s post) 50 [(0, .ref (eA V 48)), (2, .int v2), (3, .int v3), (4, .int v4), (5, .int v5), (6, .int v6)] [] u) (v2 : Int32) (v3 : Int32) (v4 : Int32) (v5 : Int32) (v6 : Int32) (u : PoS) (h : wj_X12_layFar_75 k50 post v2 v3 v4 v5 v6 u) : AtS p l e (Rm 1) s m args below meth c V 7 0 0 (QV V below args s post) 75 [(0, .ref (eA V 48)), (2, .int v2), (3, .int v3), (4, .int v4), (5, .int v5), (6, .int v6)] [] u := by
  rw [wj_X12_layFar_75] at h
  refine a_iinc C (v6 + 1) 5 [(6, .int (v6 + 1)), (0, .ref (eA V 48)), (2, .int v2), (3, .int v3), (4, .int v4), (5, .int v5)] dX12_layFar_75 rfl (congrArg (fun z => v6 + z) (show Int32.ofInt 1 = 1 by decide)) (by decide) rfl ?_
  refine a_goto C 50 dX12_layFar_78 (by decide) ?_
  refine a_sub [1, 2, 3, 4, 5, 0] rfl ?_
  exact hk50 _ _ _ _ _ _ h
set_option maxHeartbeats 4000000 in
set_option maxRecDepth 100000 in
theorem tl_X12_layFar_50 {p : Program} {l : Launch} {e : Env} {s : State} {m : MethodId} {args : Array Value} {below : List Frame} {meth : Method} {c : Code} {V : VEn} {k81 : Int32 → Int32 → Int32 → Int32 → PoS → Prop} {post : PoS → Prop} (C : CxS p s m args meth c V cX12_layFar 7 RX12 none) (hk81 : ∀ (v2 : Int32) (v3 : Int32) (v4 : Int32) (v5 : Int32) (u : PoS), k81 v2 v3 v4 v5 u → AtS p l e (Rm 1) s m args below meth c V 7 0 0 (QV V below args s post) 81 [(0, .ref (eA V 48)), (2, .int v2), (3, .int v3), (4, .int v4), (5, .int v5)] [] u) : ∀ (n : Nat) (v2 : Int32) (v3 : Int32) (v4 : Int32) (v5 : Int32) (v6 : Int32) (u : PoS), wl_X12_layFar_50 k81 post n v2 v3 v4 v5 v6 u → AtS p l e (Rm 1) s m args below meth c V 7 0 0 (QV V below args s post) 50 [(0, .ref (eA V 48)), (2, .int v2), (3, .int v3), (4, .int v4), (5, .int v5), (6, .int v6)] [] u := by
  intro n
  induction n with
  | zero => intro v2 v3 v4 v5 v6 u h; exact h.elim
  | succ n ih =>
    intro v2 v3 v4 v5 v6 u h
    rw [wl_X12_layFar_50] at h
    refine a_iload C 5 dX12_layFar_50 rfl ?_
    refine a_bipush C 30 dX12_layFar_52 (by decide) ?_
    refine a_icmp_ge C 81 dX12_layFar_54 (by decide) (fun c10 => ?_) (fun c10 => ?_)
    · have h := h.1 c10
      refine a_sub [0, 1, 2, 3, 4] rfl ?_
      exact hk81 _ _ _ _ _ h
    · have h := h.2 c10
      refine a_iload_n C 2 dX12_layFar_57 rfl rfl ?_
      refine a_iload C 5 dX12_layFar_58 rfl ?_
      refine a_callSi C dX12_layFar_60 (m_X12_has l V h) bw_1240 bw_1241 bw_123 bw_1242 np_X12_has rfl rfl (by decide) (Nat.le_of_ble_eq_true rfl) ⟨Nat.zero_le _, Nat.zero_le _⟩ (fun r6 u7 h => ?_)
      refine a_if_eq C 75 dX12_layFar_63 (by decide) (fun c9 => ?_) (fun c9 => ?_)
      · have h := h.1 c9
        refine tj_X12_layFar_75 C ih _ _ _ _ _ _ h
      · have h := h.2 c9
        refine a_aload_n C 0 dX12_layFar_66 rfl rfl ?_
        refine a_getr C 23 (r := 57) dX12_layFar_67 (by decide) rfl rfl rfl ib_12 (by decide) bw_1045 ?_
        refine a_iload C 5 dX12_layFar_70 rfl ?_
        refine a_iload C 4 dX12_layFar_72 rfl ?_
        refine b_iast C (Int32.toNatClampNeg v6) dX12_layFar_74 (by decide) rfl h.1 rfl ?_
        have h := h.2
        refine a_topu (fun z8 ez8 => ?_)
        have h := h z8 ez8
        refine tj_X12_layFar_75 C ih _ _ _ _ _ _ h
set_option maxHeartbeats 4000000 in
set_option maxRecDepth 100000 in
theorem tl_X12_layFar_43 {p : Program} {l : Launch} {e : Env} {s : State} {m : MethodId} {args : Array Value} {below : List Frame} {meth : Method} {c : Code} {V : VEn} {post : PoS → Prop} (C : CxS p s m args meth c V cX12_layFar 7 RX12 none) : ∀ (n : Nat) (v2 : Int32) (v3 : Int32) (v4 : Int32) (v5 : Int32) (u : PoS), wl_X12_layFar_43 post n v2 v3 v4 v5 u → AtS p l e (Rm 1) s m args below meth c V 7 0 0 (QV V below args s post) 43 [(0, .ref (eA V 48)), (2, .int v2), (3, .int v3), (4, .int v4), (5, .int v5)] [] u := by
  intro n
  induction n with
  | zero => intro v2 v3 v4 v5 u h; exact h.elim
  | succ n ih =>
    intro v2 v3 v4 v5 u h
    rw [wl_X12_layFar_43] at h
    refine a_iload_n C 2 dX12_layFar_43 rfl rfl ?_
    refine a_if_eq C 105 dX12_layFar_44 (by decide) (fun c16 => ?_) (fun c16 => ?_)
    · have h := h.1 c16
      exact a_vret C dX12_layFar_105 h
    · have h := h.2 c16
      refine a_iconst C 0 dX12_layFar_47 (by decide) ?_
      refine a_istore C [(6, .int 0), (0, .ref (eA V 48)), (2, .int v2), (3, .int v3), (4, .int v4), (5, .int v5)] dX12_layFar_48 (by decide) rfl ?_
      refine a_sub [1, 2, 3, 4, 5, 0] rfl ?_
      obtain ⟨n50, h⟩ := h
      refine tl_X12_layFar_50 C (fun v211 v311 v411 v511 u11 h => ?_) n50 _ _ _ _ _ _ h
      refine a_iload_n C 2 dX12_layFar_81 rfl rfl ?_
      refine a_callSi C dX12_layFar_82 (m_X12_aside l V h) bw_1403 bw_1404 bw_123 bw_1405 np_X12_aside rfl rfl (by decide) (Nat.le_of_ble_eq_true rfl) ⟨Nat.zero_le _, Nat.zero_le _⟩ (fun r12 u13 h => ?_)
      refine a_iload_n C 1 dX12_layFar_85 rfl rfl ?_
      refine a_iand C dX12_layFar_86 ?_
      refine a_iload C 3 dX12_layFar_87 rfl ?_
      refine a_iconst C (-1) dX12_layFar_89 (by decide) ?_
      refine a_ixor C dX12_layFar_90 ?_
      refine a_iand C dX12_layFar_91 ?_
      refine a_topi (fun x14 ex14 => ?_)
      have h := h x14 ex14
      refine a_istore_n C [(3, .int x14), (0, .ref (eA V 48)), (2, .int v211), (4, .int v411), (5, .int v511)] dX12_layFar_92 rfl (by decide) rfl ?_
      refine a_iload C 3 dX12_layFar_93 rfl ?_
      refine a_iload_n C 0 dX12_layFar_95 rfl rfl ?_
      refine a_ior C dX12_layFar_96 ?_
      refine a_topi (fun x15 ex15 => ?_)
      have h := h x15 ex15
      refine a_istore C [(4, .int x15), (3, .int x14), (0, .ref (eA V 48)), (2, .int v211), (5, .int v511)] dX12_layFar_97 (by decide) rfl ?_
      refine a_iinc C (v511 + 1) 4 [(5, .int (v511 + 1)), (4, .int x15), (3, .int x14), (0, .ref (eA V 48)), (2, .int v211)] dX12_layFar_99 rfl (congrArg (fun z => v511 + z) (show Int32.ofInt 1 = 1 by decide)) (by decide) rfl ?_
      refine a_goto C 43 dX12_layFar_102 (by decide) ?_
      refine a_sub [3, 4, 2, 1, 0] rfl ?_
      exact ih _ _ _ _ _ h
set_option maxHeartbeats 4000000 in
set_option maxRecDepth 100000 in
theorem tj_X12_layFar_36 {p : Program} {l : Launch} {e : Env} {s : State} {m : MethodId} {args : Array Value} {below : List Frame} {meth : Method} {c : Code} {V : VEn} {post : PoS → Prop} (C : CxS p s m args meth c V cX12_layFar 7 RX12 none) (v2 : Int32) (s0 : Int32) (u : PoS) (h : wj_X12_layFar_36 post v2 s0 u) : AtS p l e (Rm 1) s m args below meth c V 7 0 0 (QV V below args s post) 36 [(0, .ref (eA V 48)), (2, .int v2)] [.int s0] u := by
  rw [wj_X12_layFar_36] at h
  refine a_istore_n C [(3, .int s0), (0, .ref (eA V 48)), (2, .int v2)] dX12_layFar_36 rfl (by decide) rfl ?_
  refine a_iload_n C 0 dX12_layFar_37 rfl rfl ?_
  refine a_istore C [(4, .int s0), (3, .int s0), (0, .ref (eA V 48)), (2, .int v2)] dX12_layFar_38 (by decide) rfl ?_
  refine a_iconst C 0 dX12_layFar_40 (by decide) ?_
  refine a_istore C [(5, .int 0), (4, .int s0), (3, .int s0), (0, .ref (eA V 48)), (2, .int v2)] dX12_layFar_41 (by decide) rfl ?_
  refine a_sub [3, 4, 2, 1, 0] rfl ?_
  obtain ⟨n43, h⟩ := h
  refine tl_X12_layFar_43 C n43 _ _ _ _ _ h
theorem np_X12_layFar : yX12_layFar.cls ≠ "java/lang/invoke/MethodHandle" ∧ yX12_layFar.cls ≠ "java/lang/invoke/VarHandle" ∧ (parseMethodDescriptor yX12_layFar.desc).map (fun d => d.parameters.length) = some 2 := by decide +kernel
set_option maxHeartbeats 4000000 in
set_option maxRecDepth 100000 in
theorem m_X12_layFar (l : Launch) (V : VEn) {a0 : Int32} {a1 : Int32} {u : PoS} {post : PoS → Prop} (h : wp_X12_layFar a0 a1 u post) : KV l V yX12_layFar cX12_layFar 7 1 [.ref (eA V 48), .int a0, .int a1] u post := by
  refine KV_of (by decide) (Nat.le_of_ble_eq_true rfl) (lv := [(0, .ref (eA V 48)), (1, .int a0), (2, .int a1)]) rfl ?_
  intro p e s m args below meth c C
  rw [wp_X12_layFar] at h
  refine a_iconst C 0 dX12_layFar_0 (by decide) ?_
  refine a_istore_n C [(3, .int 0), (0, .ref (eA V 48)), (1, .int a0), (2, .int a1)] dX12_layFar_1 rfl (by decide) rfl ?_
  refine a_sub [1, 2, 3, 0] rfl ?_
  obtain ⟨n2, h⟩ := h
  refine tl_X12_layFar_2 C (fun v13 v23 u3 h => ?_) n2 _ _ _ _ h
  refine a_iload_n C 2 dX12_layFar_21 rfl rfl ?_
  refine a_iload_n C 1 dX12_layFar_22 rfl rfl ?_
  refine a_callSi C dX12_layFar_23 (m_X12_has l V h) bw_1240 bw_1241 bw_123 bw_1242 np_X12_has rfl rfl (by decide) (Nat.le_of_ble_eq_true rfl) ⟨Nat.zero_le _, Nat.zero_le _⟩ (fun r4 u5 h => ?_)
  refine a_if_eq C 35 dX12_layFar_26 (by decide) (fun c17 => ?_) (fun c17 => ?_)
  · have h := h.1 c17
    refine a_iconst C 0 dX12_layFar_35 (by decide) ?_
    refine a_sub [0, 2] rfl ?_
    refine tj_X12_layFar_36 C _ _ _ h
  · have h := h.2 c17
    refine a_iconst C 1 dX12_layFar_29 (by decide) ?_
    refine a_iload_n C 1 dX12_layFar_30 rfl rfl ?_
    refine a_ishl C dX12_layFar_31 ?_
    refine a_goto C 36 dX12_layFar_32 (by decide) ?_
    refine a_sub [0, 2] rfl ?_
    refine tj_X12_layFar_36 C _ _ _ h

/-! RainOnTheOneModel.stepsOf(II)I -/
def wp_X12_stepsOf (a0 : Int32) (a1 : Int32) (u : PoS) (post : Int32 → PoS → Prop) : Prop := wp_X12_free u (fun (r1 : Int32) (u2 : PoS) => wp_X12_layFar a0 r1 u2 (fun (u4 : PoS) => vp_in a1 30 ∧ post (gI u4 57 (Int32.toNatClampNeg a1)) u4))
theorem np_X12_stepsOf : yX12_stepsOf.cls ≠ "java/lang/invoke/MethodHandle" ∧ yX12_stepsOf.cls ≠ "java/lang/invoke/VarHandle" ∧ (parseMethodDescriptor yX12_stepsOf.desc).map (fun d => d.parameters.length) = some 2 := by decide +kernel
set_option maxHeartbeats 4000000 in
set_option maxRecDepth 100000 in
theorem m_X12_stepsOf (l : Launch) (V : VEn) {a0 : Int32} {a1 : Int32} {u : PoS} {post : Int32 → PoS → Prop} (h : wp_X12_stepsOf a0 a1 u post) : KI l V yX12_stepsOf cX12_stepsOf 3 .int 4 [.ref (eA V 48), .int a0, .int a1] u post := by
  refine KI_of (by decide) (Nat.le_of_ble_eq_true rfl) (lv := [(0, .ref (eA V 48)), (1, .int a0), (2, .int a1)]) rfl ?_
  intro p e s m args below meth c C
  rw [wp_X12_stepsOf] at h
  refine a_aload_n C 0 dX12_stepsOf_0 rfl rfl ?_
  refine a_iload_n C 1 dX12_stepsOf_1 rfl rfl ?_
  refine a_aload_n C 0 dX12_stepsOf_2 rfl rfl ?_
  refine a_callVi C dX12_stepsOf_3 (m_X12_free l V h) bw_1395 bw_1397 bw_79 bw_123 bw_1398 (by decide) rfl rfl np_X12_free rfl rfl (by decide) (Nat.le_of_ble_eq_true rfl) ⟨Nat.zero_le _, Nat.zero_le _⟩ (fun r1 u2 h => ?_)
  refine a_callVv C dX12_stepsOf_6 (m_X12_layFar l V h) bw_1399 bw_1401 bw_80 bw_123 bw_1402 (by decide) rfl rfl np_X12_layFar rfl rfl (by decide) (Nat.le_of_ble_eq_true rfl) ⟨Nat.zero_le _, Nat.zero_le _⟩ (fun u4 h => ?_)
  refine a_aload_n C 0 dX12_stepsOf_9 rfl rfl ?_
  refine a_getr C 23 (r := 57) dX12_stepsOf_10 (by decide) rfl rfl rfl ib_12 (by decide) bw_1045 ?_
  refine a_iload_n C 2 dX12_stepsOf_13 rfl rfl ?_
  refine b_iald C (Int32.toNatClampNeg a1) dX12_stepsOf_14 (by decide) rfl h.1 rfl ?_
  have h := h.2
  exact a_iret C dX12_stepsOf_15 h

/-! RainOnTheOneModel.name(I)V -/
def wp_X12_name (a0 : Int32) (u : PoS) (post : PoS → Prop) : Prop := wp_X12_get a0 0 u (fun (r1 : Int32) (u2 : PoS) => ∀ z3 : PoS, z3 = pI u2 54 0 (gI u2 49 6) → ∀ z4 : PoS, z4 = pI z3 54 1 a0 → wp_X12_get a0 2 z4 (fun (r5 : Int32) (u6 : PoS) => ∀ z7 : PoS, z7 = pI u6 54 2 r5 → wp_X12_get a0 3 z7 (fun (r8 : Int32) (u9 : PoS) => ∀ z10 : PoS, z10 = pI u9 54 3 r8 → ∀ z11 : PoS, z11 = pI z10 54 4 r1 → vp_in (70 + r1) 3703 ∧ ∀ z12 : PoS, z12 = pI z11 54 5 (gI z11 49 (Int32.toNatClampNeg (70 + r1))) → vp_in (40 + r1) 3703 ∧ ∀ z13 : PoS, z13 = pI z12 54 6 (gI z12 49 (Int32.toNatClampNeg (40 + r1))) → post z13)))
theorem np_X12_name : yX12_name.cls ≠ "java/lang/invoke/MethodHandle" ∧ yX12_name.cls ≠ "java/lang/invoke/VarHandle" ∧ (parseMethodDescriptor yX12_name.desc).map (fun d => d.parameters.length) = some 1 := by decide +kernel
set_option maxHeartbeats 4000000 in
set_option maxRecDepth 100000 in
theorem m_X12_name (l : Launch) (V : VEn) {a0 : Int32} {u : PoS} {post : PoS → Prop} (h : wp_X12_name a0 u post) : KV l V yX12_name cX12_name 3 1 [.ref (eA V 48), .int a0] u post := by
  refine KV_of (by decide) (Nat.le_of_ble_eq_true rfl) (lv := [(0, .ref (eA V 48)), (1, .int a0)]) rfl ?_
  intro p e s m args below meth c C
  rw [wp_X12_name] at h
  refine a_aload_n C 0 dX12_name_0 rfl rfl ?_
  refine a_iload_n C 1 dX12_name_1 rfl rfl ?_
  refine a_iconst C 0 dX12_name_2 (by decide) ?_
  refine a_callVi C dX12_name_3 (m_X12_get l V h) bw_1158 bw_1160 bw_42 bw_123 bw_1161 (by decide) rfl rfl np_X12_get rfl rfl (by decide) (Nat.le_of_ble_eq_true rfl) ⟨Nat.zero_le _, Nat.zero_le _⟩ (fun r1 u2 h => ?_)
  refine a_istore_n C [(2, .int r1), (0, .ref (eA V 48)), (1, .int a0)] dX12_name_6 rfl (by decide) rfl ?_
  refine a_aload_n C 1 dX12_name_7 rfl rfl ?_
  refine a_getr C 20 (r := 54) dX12_name_8 (by decide) rfl rfl rfl ib_12 (by decide) bw_1042 ?_
  refine a_iconst C 0 dX12_name_11 (by decide) ?_
  refine a_aload_n C 1 dX12_name_12 rfl rfl ?_
  refine a_getr C 0 (r := 49) dX12_name_13 (by decide) rfl rfl rfl ib_12 (by decide) bw_1022 ?_
  refine a_bipush C 6 dX12_name_16 (by decide) ?_
  refine b_iald C 6 dX12_name_18 (by decide) rfl (vp_lit (by decide)) (by decide) ?_
  refine b_iast C 0 dX12_name_19 (by decide) rfl (vp_lit (by decide)) (by decide) ?_
  refine a_topu (fun z3 ez3 => ?_)
  have h := h z3 ez3
  refine a_aload_n C 1 dX12_name_20 rfl rfl ?_
  refine a_getr C 20 (r := 54) dX12_name_21 (by decide) rfl rfl rfl ib_12 (by decide) bw_1042 ?_
  refine a_iconst C 1 dX12_name_24 (by decide) ?_
  refine a_iload_n C 2 dX12_name_25 rfl rfl ?_
  refine b_iast C 1 dX12_name_26 (by decide) rfl (vp_lit (by decide)) (by decide) ?_
  refine a_topu (fun z4 ez4 => ?_)
  have h := h z4 ez4
  refine a_aload_n C 1 dX12_name_27 rfl rfl ?_
  refine a_getr C 20 (r := 54) dX12_name_28 (by decide) rfl rfl rfl ib_12 (by decide) bw_1042 ?_
  refine a_iconst C 2 dX12_name_31 (by decide) ?_
  refine a_aload_n C 1 dX12_name_32 rfl rfl ?_
  refine a_iload_n C 2 dX12_name_33 rfl rfl ?_
  refine a_iconst C 2 dX12_name_34 (by decide) ?_
  refine a_callVi C dX12_name_35 (m_X12_get l V h) bw_1158 bw_1160 bw_42 bw_123 bw_1161 (by decide) rfl rfl np_X12_get rfl rfl (by decide) (Nat.le_of_ble_eq_true rfl) ⟨Nat.zero_le _, Nat.zero_le _⟩ (fun r5 u6 h => ?_)
  refine b_iast C 2 dX12_name_38 (by decide) rfl (vp_lit (by decide)) (by decide) ?_
  refine a_topu (fun z7 ez7 => ?_)
  have h := h z7 ez7
  refine a_aload_n C 1 dX12_name_39 rfl rfl ?_
  refine a_getr C 20 (r := 54) dX12_name_40 (by decide) rfl rfl rfl ib_12 (by decide) bw_1042 ?_
  refine a_iconst C 3 dX12_name_43 (by decide) ?_
  refine a_aload_n C 1 dX12_name_44 rfl rfl ?_
  refine a_iload_n C 2 dX12_name_45 rfl rfl ?_
  refine a_iconst C 3 dX12_name_46 (by decide) ?_
  refine a_callVi C dX12_name_47 (m_X12_get l V h) bw_1158 bw_1160 bw_42 bw_123 bw_1161 (by decide) rfl rfl np_X12_get rfl rfl (by decide) (Nat.le_of_ble_eq_true rfl) ⟨Nat.zero_le _, Nat.zero_le _⟩ (fun r8 u9 h => ?_)
  refine b_iast C 3 dX12_name_50 (by decide) rfl (vp_lit (by decide)) (by decide) ?_
  refine a_topu (fun z10 ez10 => ?_)
  have h := h z10 ez10
  refine a_aload_n C 1 dX12_name_51 rfl rfl ?_
  refine a_getr C 20 (r := 54) dX12_name_52 (by decide) rfl rfl rfl ib_12 (by decide) bw_1042 ?_
  refine a_iconst C 4 dX12_name_55 (by decide) ?_
  refine a_iload_n C 0 dX12_name_56 rfl rfl ?_
  refine b_iast C 4 dX12_name_57 (by decide) rfl (vp_lit (by decide)) (by decide) ?_
  refine a_topu (fun z11 ez11 => ?_)
  have h := h z11 ez11
  refine a_aload_n C 1 dX12_name_58 rfl rfl ?_
  refine a_getr C 20 (r := 54) dX12_name_59 (by decide) rfl rfl rfl ib_12 (by decide) bw_1042 ?_
  refine a_iconst C 5 dX12_name_62 (by decide) ?_
  refine a_aload_n C 1 dX12_name_63 rfl rfl ?_
  refine a_getr C 0 (r := 49) dX12_name_64 (by decide) rfl rfl rfl ib_12 (by decide) bw_1022 ?_
  refine a_bipush C 70 dX12_name_67 (by decide) ?_
  refine a_iload_n C 0 dX12_name_69 rfl rfl ?_
  refine a_iadd C dX12_name_70 ?_
  refine b_iald C (Int32.toNatClampNeg (70 + r1)) dX12_name_71 (by decide) rfl h.1 rfl ?_
  have h := h.2
  refine b_iast C 5 dX12_name_72 (by decide) rfl (vp_lit (by decide)) (by decide) ?_
  refine a_topu (fun z12 ez12 => ?_)
  have h := h z12 ez12
  refine a_aload_n C 1 dX12_name_73 rfl rfl ?_
  refine a_getr C 20 (r := 54) dX12_name_74 (by decide) rfl rfl rfl ib_12 (by decide) bw_1042 ?_
  refine a_bipush C 6 dX12_name_77 (by decide) ?_
  refine a_aload_n C 1 dX12_name_79 rfl rfl ?_
  refine a_getr C 0 (r := 49) dX12_name_80 (by decide) rfl rfl rfl ib_12 (by decide) bw_1022 ?_
  refine a_bipush C 40 dX12_name_83 (by decide) ?_
  refine a_iload_n C 0 dX12_name_85 rfl rfl ?_
  refine a_iadd C dX12_name_86 ?_
  refine b_iald C (Int32.toNatClampNeg (40 + r1)) dX12_name_87 (by decide) rfl h.1 rfl ?_
  have h := h.2
  refine b_iast C 6 dX12_name_88 (by decide) rfl (vp_lit (by decide)) (by decide) ?_
  refine a_topu (fun z13 ez13 => ?_)
  have h := h z13 ez13
  exact a_vret C dX12_name_89 h

/-! RainOnTheOneModel.wantsOf(II)I -/
def wj_X12_wantsOf_40 (post : Int32 → PoS → Prop) (v1 : Int32) (s0 : Int32) (s1 : Int32) (u : PoS) : Prop := vp_in s1 8 ∧ ∀ z7 : PoS, z7 = pI u 54 (Int32.toNatClampNeg s1) s0 → wp_X12_says v1 0 (99 - (gI z7 54 7)) (-999) 999 z7 (fun (r8 : Int32) (u9 : PoS) => post r8 u9)
def wp_X12_wantsOf (a0 : Int32) (a1 : Int32) (u : PoS) (post : Int32 → PoS → Prop) : Prop := wp_X12_get a1 0 u (fun (r1 : Int32) (u2 : PoS) => wp_X12_stepsOf (gI u 49 7) r1 u2 (fun (r3 : Int32) (u4 : PoS) => wp_X12_name a1 u4 (fun (u6 : PoS) => ((¬ r3 = (-1) → wj_X12_wantsOf_40 post a0 r3 7 u6) ∧ (r3 = (-1) → wj_X12_wantsOf_40 post a0 99 7 u6)))))
set_option maxHeartbeats 4000000 in
set_option maxRecDepth 100000 in
theorem tj_X12_wantsOf_40 {p : Program} {l : Launch} {e : Env} {s : State} {m : MethodId} {args : Array Value} {below : List Frame} {meth : Method} {c : Code} {V : VEn} {post : Int32 → PoS → Prop} (C : CxS p s m args meth c V cX12_wantsOf 4 RX12 (some .int)) (v1 : Int32) (s0 : Int32) (s1 : Int32) (u : PoS) (h : wj_X12_wantsOf_40 post v1 s0 s1 u) : AtS p l e (Rm 5) s m args below meth c V 4 0 0 (QI V below args s post) 40 [(0, .ref (eA V 48)), (1, .int v1)] [.int s0, .int s1, .ref (eA V 54)] u := by
  rw [wj_X12_wantsOf_40] at h
  refine b_iast C (Int32.toNatClampNeg s1) dX12_wantsOf_40 (by decide) rfl h.1 rfl ?_
  have h := h.2
  refine a_topu (fun z7 ez7 => ?_)
  have h := h z7 ez7
  refine a_aload_n C 0 dX12_wantsOf_41 rfl rfl ?_
  refine a_iload_n C 1 dX12_wantsOf_42 rfl rfl ?_
  refine a_iconst C 0 dX12_wantsOf_43 (by decide) ?_
  refine a_bipush C 99 dX12_wantsOf_44 (by decide) ?_
  refine a_aload_n C 0 dX12_wantsOf_46 rfl rfl ?_
  refine a_getr C 20 (r := 54) dX12_wantsOf_47 (by decide) rfl rfl rfl ib_12 (by decide) bw_1042 ?_
  refine a_bipush C 7 dX12_wantsOf_50 (by decide) ?_
  refine b_iald C 7 dX12_wantsOf_52 (by decide) rfl (vp_lit (by decide)) (by decide) ?_
  refine a_isub C dX12_wantsOf_53 ?_
  refine a_sipush C (-999) dX12_wantsOf_54 (by decide) ?_
  refine a_sipush C 999 dX12_wantsOf_57 (by decide) ?_
  refine a_callVi C dX12_wantsOf_60 (m_X12_says l V h) bw_1417 bw_1419 bw_83 bw_123 bw_1420 (by decide) rfl rfl np_X12_says rfl rfl (by decide) (Nat.le_of_ble_eq_true rfl) ⟨Nat.zero_le _, Nat.zero_le _⟩ (fun r8 u9 h => ?_)
  exact a_iret C dX12_wantsOf_63 h
theorem np_X12_wantsOf : yX12_wantsOf.cls ≠ "java/lang/invoke/MethodHandle" ∧ yX12_wantsOf.cls ≠ "java/lang/invoke/VarHandle" ∧ (parseMethodDescriptor yX12_wantsOf.desc).map (fun d => d.parameters.length) = some 2 := by decide +kernel
set_option maxHeartbeats 4000000 in
set_option maxRecDepth 100000 in
theorem m_X12_wantsOf (l : Launch) (V : VEn) {a0 : Int32} {a1 : Int32} {u : PoS} {post : Int32 → PoS → Prop} (h : wp_X12_wantsOf a0 a1 u post) : KI l V yX12_wantsOf cX12_wantsOf 4 .int 5 [.ref (eA V 48), .int a0, .int a1] u post := by
  refine KI_of (by decide) (Nat.le_of_ble_eq_true rfl) (lv := [(0, .ref (eA V 48)), (1, .int a0), (2, .int a1)]) rfl ?_
  intro p e s m args below meth c C
  rw [wp_X12_wantsOf] at h
  refine a_aload_n C 0 dX12_wantsOf_0 rfl rfl ?_
  refine a_aload_n C 0 dX12_wantsOf_1 rfl rfl ?_
  refine a_getr C 0 (r := 49) dX12_wantsOf_2 (by decide) rfl rfl rfl ib_12 (by decide) bw_1022 ?_
  refine a_bipush C 7 dX12_wantsOf_5 (by decide) ?_
  refine b_iald C 7 dX12_wantsOf_7 (by decide) rfl (vp_lit (by decide)) (by decide) ?_
  refine a_aload_n C 0 dX12_wantsOf_8 rfl rfl ?_
  refine a_iload_n C 2 dX12_wantsOf_9 rfl rfl ?_
  refine a_iconst C 0 dX12_wantsOf_10 (by decide) ?_
  refine a_callVi C dX12_wantsOf_11 (m_X12_get l V h) bw_1158 bw_1160 bw_42 bw_123 bw_1161 (by decide) rfl rfl np_X12_get rfl rfl (by decide) (Nat.le_of_ble_eq_true rfl) ⟨Nat.zero_le _, Nat.zero_le _⟩ (fun r1 u2 h => ?_)
  refine a_callVi C dX12_wantsOf_14 (m_X12_stepsOf l V h) bw_1391 bw_1393 bw_78 bw_123 bw_1394 (by decide) rfl rfl np_X12_stepsOf rfl rfl (by decide) (Nat.le_of_ble_eq_true rfl) ⟨Nat.zero_le _, Nat.zero_le _⟩ (fun r3 u4 h => ?_)
  refine a_istore_n C [(3, .int r3), (0, .ref (eA V 48)), (1, .int a0), (2, .int a1)] dX12_wantsOf_17 rfl (by decide) rfl ?_
  refine a_aload_n C 1 dX12_wantsOf_18 rfl rfl ?_
  refine a_iload_n C 3 dX12_wantsOf_19 rfl rfl ?_
  refine a_callVv C dX12_wantsOf_20 (m_X12_name l V h) bw_1413 bw_1415 bw_82 bw_123 bw_1416 (by decide) rfl rfl np_X12_name rfl rfl (by decide) (Nat.le_of_ble_eq_true rfl) ⟨Nat.zero_le _, Nat.zero_le _⟩ (fun u6 h => ?_)
  refine a_aload_n C 1 dX12_wantsOf_23 rfl rfl ?_
  refine a_getr C 20 (r := 54) dX12_wantsOf_24 (by decide) rfl rfl rfl ib_12 (by decide) bw_1042 ?_
  refine a_bipush C 7 dX12_wantsOf_27 (by decide) ?_
  refine a_iload_n C 0 dX12_wantsOf_29 rfl rfl ?_
  refine a_iconst C (-1) dX12_wantsOf_30 (by decide) ?_
  refine a_icmp_ne C 39 dX12_wantsOf_31 (by decide) (fun c10 => ?_) (fun c10 => ?_)
  · have h := h.1 c10
    refine a_iload_n C 0 dX12_wantsOf_39 rfl rfl ?_
    refine a_sub [1, 2] rfl ?_
    refine tj_X12_wantsOf_40 C _ _ _ _ h
  · have h := h.2 c10
    refine a_bipush C 99 dX12_wantsOf_34 (by decide) ?_
    refine a_goto C 40 dX12_wantsOf_36 (by decide) ?_
    refine a_sub [1, 2] rfl ?_
    refine tj_X12_wantsOf_40 C _ _ _ _ h

/-! RainOnTheOneModel.poursOf(I)I -/
def wp_X12_poursOf (a0 : Int32) (u : PoS) (post : Int32 → PoS → Prop) : Prop := wp_X12_name a0 u (fun (u2 : PoS) => wp_X12_says (gI u2 49 2) 1 3 0 9 u2 (fun (r3 : Int32) (u4 : PoS) => post r3 u4))
theorem np_X12_poursOf : yX12_poursOf.cls ≠ "java/lang/invoke/MethodHandle" ∧ yX12_poursOf.cls ≠ "java/lang/invoke/VarHandle" ∧ (parseMethodDescriptor yX12_poursOf.desc).map (fun d => d.parameters.length) = some 1 := by decide +kernel
set_option maxHeartbeats 4000000 in
set_option maxRecDepth 100000 in
theorem m_X12_poursOf (l : Launch) (V : VEn) {a0 : Int32} {u : PoS} {post : Int32 → PoS → Prop} (h : wp_X12_poursOf a0 u post) : KI l V yX12_poursOf cX12_poursOf 2 .int 4 [.ref (eA V 48), .int a0] u post := by
  refine KI_of (by decide) (Nat.le_of_ble_eq_true rfl) (lv := [(0, .ref (eA V 48)), (1, .int a0)]) rfl ?_
  intro p e s m args below meth c C
  rw [wp_X12_poursOf] at h
  refine a_aload_n C 0 dX12_poursOf_0 rfl rfl ?_
  refine a_iload_n C 1 dX12_poursOf_1 rfl rfl ?_
  refine a_callVv C dX12_poursOf_2 (m_X12_name l V h) bw_1413 bw_1415 bw_82 bw_123 bw_1416 (by decide) rfl rfl np_X12_name rfl rfl (by decide) (Nat.le_of_ble_eq_true rfl) ⟨Nat.zero_le _, Nat.zero_le _⟩ (fun u2 h => ?_)
  refine a_aload_n C 0 dX12_poursOf_5 rfl rfl ?_
  refine a_aload_n C 0 dX12_poursOf_6 rfl rfl ?_
  refine a_getr C 0 (r := 49) dX12_poursOf_7 (by decide) rfl rfl rfl ib_12 (by decide) bw_1022 ?_
  refine a_iconst C 2 dX12_poursOf_10 (by decide) ?_
  refine b_iald C 2 dX12_poursOf_11 (by decide) rfl (vp_lit (by decide)) (by decide) ?_
  refine a_iconst C 1 dX12_poursOf_12 (by decide) ?_
  refine a_iconst C 3 dX12_poursOf_13 (by decide) ?_
  refine a_iconst C 0 dX12_poursOf_14 (by decide) ?_
  refine a_bipush C 9 dX12_poursOf_15 (by decide) ?_
  refine a_callVi C dX12_poursOf_17 (m_X12_says l V h) bw_1417 bw_1419 bw_83 bw_123 bw_1420 (by decide) rfl rfl np_X12_says rfl rfl (by decide) (Nat.le_of_ble_eq_true rfl) ⟨Nat.zero_le _, Nat.zero_le _⟩ (fun r3 u4 h => ?_)
  exact a_iret C dX12_poursOf_20 h

/-! RainOnTheOneModel.goesFor()I -/
def wj_X12_goesFor_81 (k6 : Int32 → Int32 → Int32 → PoS → Prop) (post : Int32 → PoS → Prop) (v1 : Int32) (v2 : Int32) (v3 : Int32) (u : PoS) : Prop := k6 v1 v2 (v3 + 1) u
def wj_X12_goesFor_76 (k6 : Int32 → Int32 → Int32 → PoS → Prop) (post : Int32 → PoS → Prop) (v3 : Int32) (v4 : Int32) (u : PoS) : Prop := wj_X12_goesFor_81 k6 post v3 v4 v3 u
def wl_X12_goesFor_6 (post : Int32 → PoS → Prop) : Nat → Int32 → Int32 → Int32 → PoS → Prop
  | 0, _, _, _, _ => False
  | n + 1, v1, v2, v3, u => (((gI u 49 0) ≤ v3 → post v1 u) ∧ (¬ (gI u 49 0) ≤ v3 → wp_X12_get v3 1 u (fun (r1 : Int32) (u2 : PoS) => ((r1 = 0 → wj_X12_goesFor_81 (wl_X12_goesFor_6 post n) post v1 v2 v3 u2) ∧ (¬ r1 = 0 → wp_X12_get v3 0 u2 (fun (r3 : Int32) (u4 : PoS) => wp_X12_stepsOf (gI u2 49 7) r3 u4 (fun (r5 : Int32) (u6 : PoS) => ((¬ r5 = (-1) → wp_X12_wantsOf (gI u6 49 2) v3 u6 (fun (r7 : Int32) (u8 : PoS) => ((v1 = (-1) → wj_X12_goesFor_76 (wl_X12_goesFor_6 post n) post v3 r7 u8) ∧ (¬ v1 = (-1) → ((v2 < r7 → wj_X12_goesFor_76 (wl_X12_goesFor_6 post n) post v3 r7 u8) ∧ (¬ v2 < r7 → wj_X12_goesFor_81 (wl_X12_goesFor_6 post n) post v1 v2 v3 u8)))))) ∧ (r5 = (-1) → wj_X12_goesFor_81 (wl_X12_goesFor_6 post n) post v1 v2 v3 u6)))))))))
def wp_X12_goesFor (u : PoS) (post : Int32 → PoS → Prop) : Prop := (∃ n6, wl_X12_goesFor_6 post n6 (-1) 0 0 u)
set_option maxHeartbeats 4000000 in
set_option maxRecDepth 100000 in
theorem tj_X12_goesFor_81 {p : Program} {l : Launch} {e : Env} {s : State} {m : MethodId} {args : Array Value} {below : List Frame} {meth : Method} {c : Code} {V : VEn} {k6 : Int32 → Int32 → Int32 → PoS → Prop} {post : Int32 → PoS → Prop} (C : CxS p s m args meth c V cX12_goesFor 5 RX12 (some .int)) (hk6 : ∀ (v1 : Int32) (v2 : Int32) (v3 : Int32) (u : PoS), k6 v1 v2 v3 u → AtS p l e (Rm 6) s m args below meth c V 5 0 0 (QI V below args s post) 6 [(0, .ref (eA V 48)), (1, .int v1), (2, .int v2), (3, .int v3)] [] u) (v1 : Int32) (v2 : Int32) (v3 : Int32) (u : PoS) (h : wj_X12_goesFor_81 k6 post v1 v2 v3 u) : AtS p l e (Rm 6) s m args below meth c V 5 0 0 (QI V below args s post) 81 [(0, .ref (eA V 48)), (1, .int v1), (2, .int v2), (3, .int v3)] [] u := by
  rw [wj_X12_goesFor_81] at h
  refine a_iinc C (v3 + 1) 3 [(3, .int (v3 + 1)), (0, .ref (eA V 48)), (1, .int v1), (2, .int v2)] dX12_goesFor_81 rfl (congrArg (fun z => v3 + z) (show Int32.ofInt 1 = 1 by decide)) (by decide) rfl ?_
  refine a_goto C 6 dX12_goesFor_84 (by decide) ?_
  refine a_sub [1, 2, 3, 0] rfl ?_
  exact hk6 _ _ _ _ h
set_option maxHeartbeats 4000000 in
set_option maxRecDepth 100000 in
theorem tj_X12_goesFor_76 {p : Program} {l : Launch} {e : Env} {s : State} {m : MethodId} {args : Array Value} {below : List Frame} {meth : Method} {c : Code} {V : VEn} {k6 : Int32 → Int32 → Int32 → PoS → Prop} {post : Int32 → PoS → Prop} (C : CxS p s m args meth c V cX12_goesFor 5 RX12 (some .int)) (hk6 : ∀ (v1 : Int32) (v2 : Int32) (v3 : Int32) (u : PoS), k6 v1 v2 v3 u → AtS p l e (Rm 6) s m args below meth c V 5 0 0 (QI V below args s post) 6 [(0, .ref (eA V 48)), (1, .int v1), (2, .int v2), (3, .int v3)] [] u) (v3 : Int32) (v4 : Int32) (u : PoS) (h : wj_X12_goesFor_76 k6 post v3 v4 u) : AtS p l e (Rm 6) s m args below meth c V 5 0 0 (QI V below args s post) 76 [(0, .ref (eA V 48)), (3, .int v3), (4, .int v4)] [] u := by
  rw [wj_X12_goesFor_76] at h
  refine a_iload C 2 dX12_goesFor_76 rfl ?_
  refine a_istore_n C [(2, .int v4), (0, .ref (eA V 48)), (3, .int v3), (4, .int v4)] dX12_goesFor_78 rfl (by decide) rfl ?_
  refine a_iload_n C 2 dX12_goesFor_79 rfl rfl ?_
  refine a_istore_n C [(1, .int v3), (2, .int v4), (0, .ref (eA V 48)), (3, .int v3), (4, .int v4)] dX12_goesFor_80 rfl (by decide) rfl ?_
  refine a_sub [2, 0, 1, 3] rfl ?_
  refine tj_X12_goesFor_81 C hk6 _ _ _ _ h
set_option maxHeartbeats 4000000 in
set_option maxRecDepth 100000 in
theorem tl_X12_goesFor_6 {p : Program} {l : Launch} {e : Env} {s : State} {m : MethodId} {args : Array Value} {below : List Frame} {meth : Method} {c : Code} {V : VEn} {post : Int32 → PoS → Prop} (C : CxS p s m args meth c V cX12_goesFor 5 RX12 (some .int)) : ∀ (n : Nat) (v1 : Int32) (v2 : Int32) (v3 : Int32) (u : PoS), wl_X12_goesFor_6 post n v1 v2 v3 u → AtS p l e (Rm 6) s m args below meth c V 5 0 0 (QI V below args s post) 6 [(0, .ref (eA V 48)), (1, .int v1), (2, .int v2), (3, .int v3)] [] u := by
  intro n
  induction n with
  | zero => intro v1 v2 v3 u h; exact h.elim
  | succ n ih =>
    intro v1 v2 v3 u h
    rw [wl_X12_goesFor_6] at h
    refine a_iload_n C 3 dX12_goesFor_6 rfl rfl ?_
    refine a_aload_n C 0 dX12_goesFor_7 rfl rfl ?_
    refine a_getr C 0 (r := 49) dX12_goesFor_8 (by decide) rfl rfl rfl ib_12 (by decide) bw_1022 ?_
    refine a_iconst C 0 dX12_goesFor_11 (by decide) ?_
    refine b_iald C 0 dX12_goesFor_12 (by decide) rfl (vp_lit (by decide)) (by decide) ?_
    refine a_icmp_ge C 87 dX12_goesFor_13 (by decide) (fun c13 => ?_) (fun c13 => ?_)
    · have h := h.1 c13
      refine a_iload_n C 1 dX12_goesFor_87 rfl rfl ?_
      exact a_iret C dX12_goesFor_88 h
    · have h := h.2 c13
      refine a_aload_n C 0 dX12_goesFor_16 rfl rfl ?_
      refine a_iload_n C 3 dX12_goesFor_17 rfl rfl ?_
      refine a_iconst C 1 dX12_goesFor_18 (by decide) ?_
      refine a_callVi C dX12_goesFor_19 (m_X12_get l V h) bw_1158 bw_1160 bw_42 bw_123 bw_1161 (by decide) rfl rfl np_X12_get rfl rfl (by decide) (Nat.le_of_ble_eq_true rfl) ⟨Nat.zero_le _, Nat.zero_le _⟩ (fun r1 u2 h => ?_)
      refine a_if_eq C 81 dX12_goesFor_22 (by decide) (fun c12 => ?_) (fun c12 => ?_)
      · have h := h.1 c12
        refine tj_X12_goesFor_81 C ih _ _ _ _ h
      · have h := h.2 c12
        refine a_aload_n C 0 dX12_goesFor_25 rfl rfl ?_
        refine a_aload_n C 0 dX12_goesFor_26 rfl rfl ?_
        refine a_getr C 0 (r := 49) dX12_goesFor_27 (by decide) rfl rfl rfl ib_12 (by decide) bw_1022 ?_
        refine a_bipush C 7 dX12_goesFor_30 (by decide) ?_
        refine b_iald C 7 dX12_goesFor_32 (by decide) rfl (vp_lit (by decide)) (by decide) ?_
        refine a_aload_n C 0 dX12_goesFor_33 rfl rfl ?_
        refine a_iload_n C 3 dX12_goesFor_34 rfl rfl ?_
        refine a_iconst C 0 dX12_goesFor_35 (by decide) ?_
        refine a_callVi C dX12_goesFor_36 (m_X12_get l V h) bw_1158 bw_1160 bw_42 bw_123 bw_1161 (by decide) rfl rfl np_X12_get rfl rfl (by decide) (Nat.le_of_ble_eq_true rfl) ⟨Nat.zero_le _, Nat.zero_le _⟩ (fun r3 u4 h => ?_)
        refine a_callVi C dX12_goesFor_39 (m_X12_stepsOf l V h) bw_1391 bw_1393 bw_78 bw_123 bw_1394 (by decide) rfl rfl np_X12_stepsOf rfl rfl (by decide) (Nat.le_of_ble_eq_true rfl) ⟨Nat.zero_le _, Nat.zero_le _⟩ (fun r5 u6 h => ?_)
        refine a_iconst C (-1) dX12_goesFor_42 (by decide) ?_
        refine a_icmp_ne C 49 dX12_goesFor_43 (by decide) (fun c11 => ?_) (fun c11 => ?_)
        · have h := h.1 c11
          refine a_aload_n C 0 dX12_goesFor_49 rfl rfl ?_
          refine a_aload_n C 0 dX12_goesFor_50 rfl rfl ?_
          refine a_getr C 0 (r := 49) dX12_goesFor_51 (by decide) rfl rfl rfl ib_12 (by decide) bw_1022 ?_
          refine a_iconst C 2 dX12_goesFor_54 (by decide) ?_
          refine b_iald C 2 dX12_goesFor_55 (by decide) rfl (vp_lit (by decide)) (by decide) ?_
          refine a_iload_n C 3 dX12_goesFor_56 rfl rfl ?_
          refine a_callVi C dX12_goesFor_57 (m_X12_wantsOf l V h) bw_1409 bw_1411 bw_81 bw_123 bw_1412 (by decide) rfl rfl np_X12_wantsOf rfl rfl (by decide) (Nat.le_of_ble_eq_true rfl) ⟨Nat.zero_le _, Nat.zero_le _⟩ (fun r7 u8 h => ?_)
          refine a_istore C [(4, .int r7), (0, .ref (eA V 48)), (1, .int v1), (2, .int v2), (3, .int v3)] dX12_goesFor_60 (by decide) rfl ?_
          refine a_iload_n C 2 dX12_goesFor_62 rfl rfl ?_
          refine a_iconst C (-1) dX12_goesFor_63 (by decide) ?_
          refine a_icmp_eq C 76 dX12_goesFor_64 (by decide) (fun c10 => ?_) (fun c10 => ?_)
          · have h := h.1 c10
            refine a_sub [1, 4, 0] rfl ?_
            refine tj_X12_goesFor_76 C ih _ _ _ h
          · have h := h.2 c10
            refine a_iload C 0 dX12_goesFor_67 rfl ?_
            refine a_iload_n C 3 dX12_goesFor_69 rfl rfl ?_
            refine a_icmp_gt C 76 dX12_goesFor_70 (by decide) (fun c9 => ?_) (fun c9 => ?_)
            · have h := h.1 c9
              refine a_sub [1, 4, 0] rfl ?_
              refine tj_X12_goesFor_76 C ih _ _ _ h
            · have h := h.2 c9
              refine a_goto C 81 dX12_goesFor_73 (by decide) ?_
              refine a_sub [1, 2, 3, 4] rfl ?_
              refine tj_X12_goesFor_81 C ih _ _ _ _ h
        · have h := h.2 c11
          refine a_goto C 81 dX12_goesFor_46 (by decide) ?_
          refine tj_X12_goesFor_81 C ih _ _ _ _ h
theorem np_X12_goesFor : yX12_goesFor.cls ≠ "java/lang/invoke/MethodHandle" ∧ yX12_goesFor.cls ≠ "java/lang/invoke/VarHandle" ∧ (parseMethodDescriptor yX12_goesFor.desc).map (fun d => d.parameters.length) = some 0 := by decide +kernel
set_option maxHeartbeats 4000000 in
set_option maxRecDepth 100000 in
theorem m_X12_goesFor (l : Launch) (V : VEn) {u : PoS} {post : Int32 → PoS → Prop} (h : wp_X12_goesFor  u post) : KI l V yX12_goesFor cX12_goesFor 5 .int 6 [.ref (eA V 48)] u post := by
  refine KI_of (by decide) (Nat.le_of_ble_eq_true rfl) (lv := [(0, .ref (eA V 48))]) rfl ?_
  intro p e s m args below meth c C
  rw [wp_X12_goesFor] at h
  refine a_iconst C (-1) dX12_goesFor_0 (by decide) ?_
  refine a_istore_n C [(1, .int (-1)), (0, .ref (eA V 48))] dX12_goesFor_1 rfl (by decide) rfl ?_
  refine a_iconst C 0 dX12_goesFor_2 (by decide) ?_
  refine a_istore_n C [(2, .int 0), (1, .int (-1)), (0, .ref (eA V 48))] dX12_goesFor_3 rfl (by decide) rfl ?_
  refine a_iconst C 0 dX12_goesFor_4 (by decide) ?_
  refine a_istore_n C [(3, .int 0), (2, .int 0), (1, .int (-1)), (0, .ref (eA V 48))] dX12_goesFor_5 rfl (by decide) rfl ?_
  refine a_sub [3, 2, 1, 0] rfl ?_
  obtain ⟨n6, h⟩ := h
  refine tl_X12_goesFor_6 C n6 _ _ _ _ h

/-! RainOnTheOneModel.write(II)V -/
def wj_X12_write_67 (post : PoS → Prop) (v1 : Int32) (v2 : Int32) (u : PoS) : Prop := vp_in (3643 + (2 * (gI u 49 9))) 3703 ∧ ∀ z1 : PoS, z1 = pI u 49 (Int32.toNatClampNeg (3643 + (2 * (gI u 49 9)))) (gI u 49 6) → wp_X12_get v1 0 z1 (fun (r2 : Int32) (u3 : PoS) => vp_in ((3643 + (2 * (gI z1 49 9))) + 1) 3703 ∧ ∀ z4 : PoS, z4 = pI u3 49 (Int32.toNatClampNeg ((3643 + (2 * (gI z1 49 9))) + 1)) ((((v1 * 30) + r2) * 100) + v2) → ∀ z5 : PoS, z5 = pI z4 49 9 ((gI z4 49 9) + 1) → post z5)
def wl_X12_write_22 (k56 : Int32 → Int32 → PoS → Prop) (post : PoS → Prop) : Nat → Int32 → Int32 → Int32 → PoS → Prop
  | 0, _, _, _, _ => False
  | n + 1, v1, v2, v3, u => ((60 ≤ v3 → k56 v1 v2 u) ∧ (¬ 60 ≤ v3 → vp_in (3643 + v3) 3703 ∧ vp_in ((3643 + v3) - 2) 3703 ∧ ∀ z6 : PoS, z6 = pI u 49 (Int32.toNatClampNeg ((3643 + v3) - 2)) (gI u 49 (Int32.toNatClampNeg (3643 + v3))) → wl_X12_write_22 k56 post n v1 v2 (v3 + 1) z6))
def wp_X12_write (a0 : Int32) (a1 : Int32) (u : PoS) (post : PoS → Prop) : Prop := ((¬ (gI u 48 24) = 0 → ((¬ (gI u 49 9) = 30 → wj_X12_write_67 post a0 a1 u) ∧ ((gI u 49 9) = 30 → (∃ n22, wl_X12_write_22 (fun (v18 : Int32) (v28 : Int32) (u8 : PoS) => ∀ z9 : PoS, z9 = pI u8 49 9 ((gI u8 49 9) - 1) → wj_X12_write_67 post v18 v28 z9) post n22 a0 a1 2 u)))) ∧ ((gI u 48 24) = 0 → post u))
set_option maxHeartbeats 4000000 in
set_option maxRecDepth 100000 in
theorem tj_X12_write_67 {p : Program} {l : Launch} {e : Env} {s : State} {m : MethodId} {args : Array Value} {below : List Frame} {meth : Method} {c : Code} {V : VEn} {post : PoS → Prop} (C : CxS p s m args meth c V cX12_write 4 RX12 none) (v1 : Int32) (v2 : Int32) (u : PoS) (h : wj_X12_write_67 post v1 v2 u) : AtS p l e (Rm 1) s m args below meth c V 4 0 0 (QV V below args s post) 67 [(0, .ref (eA V 48)), (1, .int v1), (2, .int v2)] [] u := by
  rw [wj_X12_write_67] at h
  refine a_aload_n C 0 dX12_write_67 rfl rfl ?_
  refine a_getr C 0 (r := 49) dX12_write_68 (by decide) rfl rfl rfl ib_12 (by decide) bw_1022 ?_
  refine a_sipush C 3643 dX12_write_71 (by decide) ?_
  refine a_iconst C 2 dX12_write_74 (by decide) ?_
  refine a_aload_n C 0 dX12_write_75 rfl rfl ?_
  refine a_getr C 0 (r := 49) dX12_write_76 (by decide) rfl rfl rfl ib_12 (by decide) bw_1022 ?_
  refine a_bipush C 9 dX12_write_79 (by decide) ?_
  refine b_iald C 9 dX12_write_81 (by decide) rfl (vp_lit (by decide)) (by decide) ?_
  refine a_imul C dX12_write_82 ?_
  refine a_iadd C dX12_write_83 ?_
  refine a_aload_n C 0 dX12_write_84 rfl rfl ?_
  refine a_getr C 0 (r := 49) dX12_write_85 (by decide) rfl rfl rfl ib_12 (by decide) bw_1022 ?_
  refine a_bipush C 6 dX12_write_88 (by decide) ?_
  refine b_iald C 6 dX12_write_90 (by decide) rfl (vp_lit (by decide)) (by decide) ?_
  refine b_iast C (Int32.toNatClampNeg (3643 + (2 * (gI u 49 9)))) dX12_write_91 (by decide) rfl h.1 rfl ?_
  have h := h.2
  refine a_topu (fun z1 ez1 => ?_)
  have h := h z1 ez1
  refine a_aload_n C 0 dX12_write_92 rfl rfl ?_
  refine a_getr C 0 (r := 49) dX12_write_93 (by decide) rfl rfl rfl ib_12 (by decide) bw_1022 ?_
  refine a_sipush C 3643 dX12_write_96 (by decide) ?_
  refine a_iconst C 2 dX12_write_99 (by decide) ?_
  refine a_aload_n C 0 dX12_write_100 rfl rfl ?_
  refine a_getr C 0 (r := 49) dX12_write_101 (by decide) rfl rfl rfl ib_12 (by decide) bw_1022 ?_
  refine a_bipush C 9 dX12_write_104 (by decide) ?_
  refine b_iald C 9 dX12_write_106 (by decide) rfl (vp_lit (by decide)) (by decide) ?_
  refine a_imul C dX12_write_107 ?_
  refine a_iadd C dX12_write_108 ?_
  refine a_iconst C 1 dX12_write_109 (by decide) ?_
  refine a_iadd C dX12_write_110 ?_
  refine a_iload_n C 1 dX12_write_111 rfl rfl ?_
  refine a_bipush C 30 dX12_write_112 (by decide) ?_
  refine a_imul C dX12_write_114 ?_
  refine a_aload_n C 0 dX12_write_115 rfl rfl ?_
  refine a_iload_n C 1 dX12_write_116 rfl rfl ?_
  refine a_iconst C 0 dX12_write_117 (by decide) ?_
  refine a_callVi C dX12_write_118 (m_X12_get l V h) bw_1158 bw_1160 bw_42 bw_123 bw_1161 (by decide) rfl rfl np_X12_get rfl rfl (by decide) (Nat.le_of_ble_eq_true rfl) ⟨Nat.zero_le _, Nat.zero_le _⟩ (fun r2 u3 h => ?_)
  refine a_iadd C dX12_write_121 ?_
  refine a_bipush C 100 dX12_write_122 (by decide) ?_
  refine a_imul C dX12_write_124 ?_
  refine a_iload_n C 2 dX12_write_125 rfl rfl ?_
  refine a_iadd C dX12_write_126 ?_
  refine b_iast C (Int32.toNatClampNeg ((3643 + (2 * (gI z1 49 9))) + 1)) dX12_write_127 (by decide) rfl h.1 rfl ?_
  have h := h.2
  refine a_topu (fun z4 ez4 => ?_)
  have h := h z4 ez4
  refine a_aload_n C 0 dX12_write_128 rfl rfl ?_
  refine a_getr C 0 (r := 49) dX12_write_129 (by decide) rfl rfl rfl ib_12 (by decide) bw_1022 ?_
  refine a_bipush C 9 dX12_write_132 (by decide) ?_
  refine a_dup2 C dX12_write_134 rfl rfl ?_
  refine b_iald C 9 dX12_write_135 (by decide) rfl (vp_lit (by decide)) (by decide) ?_
  refine a_iconst C 1 dX12_write_136 (by decide) ?_
  refine a_iadd C dX12_write_137 ?_
  refine b_iast C 9 dX12_write_138 (by decide) rfl (vp_lit (by decide)) (by decide) ?_
  refine a_topu (fun z5 ez5 => ?_)
  have h := h z5 ez5
  exact a_vret C dX12_write_139 h
set_option maxHeartbeats 4000000 in
set_option maxRecDepth 100000 in
theorem tl_X12_write_22 {p : Program} {l : Launch} {e : Env} {s : State} {m : MethodId} {args : Array Value} {below : List Frame} {meth : Method} {c : Code} {V : VEn} {k56 : Int32 → Int32 → PoS → Prop} {post : PoS → Prop} (C : CxS p s m args meth c V cX12_write 4 RX12 none) (hk56 : ∀ (v1 : Int32) (v2 : Int32) (u : PoS), k56 v1 v2 u → AtS p l e (Rm 1) s m args below meth c V 4 0 0 (QV V below args s post) 56 [(0, .ref (eA V 48)), (1, .int v1), (2, .int v2)] [] u) : ∀ (n : Nat) (v1 : Int32) (v2 : Int32) (v3 : Int32) (u : PoS), wl_X12_write_22 k56 post n v1 v2 v3 u → AtS p l e (Rm 1) s m args below meth c V 4 0 0 (QV V below args s post) 22 [(0, .ref (eA V 48)), (1, .int v1), (2, .int v2), (3, .int v3)] [] u := by
  intro n
  induction n with
  | zero => intro v1 v2 v3 u h; exact h.elim
  | succ n ih =>
    intro v1 v2 v3 u h
    rw [wl_X12_write_22] at h
    refine a_iload_n C 3 dX12_write_22 rfl rfl ?_
    refine a_bipush C 60 dX12_write_23 (by decide) ?_
    refine a_icmp_ge C 56 dX12_write_25 (by decide) (fun c7 => ?_) (fun c7 => ?_)
    · have h := h.1 c7
      refine a_sub [0, 1, 2] rfl ?_
      exact hk56 _ _ _ h
    · have h := h.2 c7
      refine a_aload_n C 0 dX12_write_28 rfl rfl ?_
      refine a_getr C 0 (r := 49) dX12_write_29 (by decide) rfl rfl rfl ib_12 (by decide) bw_1022 ?_
      refine a_sipush C 3643 dX12_write_32 (by decide) ?_
      refine a_iload_n C 3 dX12_write_35 rfl rfl ?_
      refine a_iadd C dX12_write_36 ?_
      refine a_iconst C 2 dX12_write_37 (by decide) ?_
      refine a_isub C dX12_write_38 ?_
      refine a_aload_n C 0 dX12_write_39 rfl rfl ?_
      refine a_getr C 0 (r := 49) dX12_write_40 (by decide) rfl rfl rfl ib_12 (by decide) bw_1022 ?_
      refine a_sipush C 3643 dX12_write_43 (by decide) ?_
      refine a_iload_n C 3 dX12_write_46 rfl rfl ?_
      refine a_iadd C dX12_write_47 ?_
      refine b_iald C (Int32.toNatClampNeg (3643 + v3)) dX12_write_48 (by decide) rfl h.1 rfl ?_
      have h := h.2
      refine b_iast C (Int32.toNatClampNeg ((3643 + v3) - 2)) dX12_write_49 (by decide) rfl h.1 rfl ?_
      have h := h.2
      refine a_topu (fun z6 ez6 => ?_)
      have h := h z6 ez6
      refine a_iinc C (v3 + 1) 3 [(3, .int (v3 + 1)), (0, .ref (eA V 48)), (1, .int v1), (2, .int v2)] dX12_write_50 rfl (congrArg (fun z => v3 + z) (show Int32.ofInt 1 = 1 by decide)) (by decide) rfl ?_
      refine a_goto C 22 dX12_write_53 (by decide) ?_
      refine a_sub [1, 2, 3, 0] rfl ?_
      exact ih _ _ _ _ h
theorem np_X12_write : yX12_write.cls ≠ "java/lang/invoke/MethodHandle" ∧ yX12_write.cls ≠ "java/lang/invoke/VarHandle" ∧ (parseMethodDescriptor yX12_write.desc).map (fun d => d.parameters.length) = some 2 := by decide +kernel
set_option maxHeartbeats 4000000 in
set_option maxRecDepth 100000 in
theorem m_X12_write (l : Launch) (V : VEn) {a0 : Int32} {a1 : Int32} {u : PoS} {post : PoS → Prop} (h : wp_X12_write a0 a1 u post) : KV l V yX12_write cX12_write 4 1 [.ref (eA V 48), .int a0, .int a1] u post := by
  refine KV_of (by decide) (Nat.le_of_ble_eq_true rfl) (lv := [(0, .ref (eA V 48)), (1, .int a0), (2, .int a1)]) rfl ?_
  intro p e s m args below meth c C
  rw [wp_X12_write] at h
  refine a_aload_n C 0 dX12_write_0 rfl rfl ?_
  refine a_geti C 24 dX12_write_1 (by decide) rfl rfl rfl ib_12 (by decide) bw_1046 ?_
  refine a_if_ne C 8 dX12_write_4 (by decide) (fun c11 => ?_) (fun c11 => ?_)
  · have h := h.1 c11
    refine a_aload_n C 0 dX12_write_8 rfl rfl ?_
    refine a_getr C 0 (r := 49) dX12_write_9 (by decide) rfl rfl rfl ib_12 (by decide) bw_1022 ?_
    refine a_bipush C 9 dX12_write_12 (by decide) ?_
    refine b_iald C 9 dX12_write_14 (by decide) rfl (vp_lit (by decide)) (by decide) ?_
    refine a_bipush C 30 dX12_write_15 (by decide) ?_
    refine a_icmp_ne C 67 dX12_write_17 (by decide) (fun c10 => ?_) (fun c10 => ?_)
    · have h := h.1 c10
      refine tj_X12_write_67 C _ _ _ h
    · have h := h.2 c10
      refine a_iconst C 2 dX12_write_20 (by decide) ?_
      refine a_istore_n C [(3, .int 2), (0, .ref (eA V 48)), (1, .int a0), (2, .int a1)] dX12_write_21 rfl (by decide) rfl ?_
      refine a_sub [1, 2, 3, 0] rfl ?_
      obtain ⟨n22, h⟩ := h
      refine tl_X12_write_22 C (fun v18 v28 u8 h => ?_) n22 _ _ _ _ h
      refine a_aload_n C 0 dX12_write_56 rfl rfl ?_
      refine a_getr C 0 (r := 49) dX12_write_57 (by decide) rfl rfl rfl ib_12 (by decide) bw_1022 ?_
      refine a_bipush C 9 dX12_write_60 (by decide) ?_
      refine a_dup2 C dX12_write_62 rfl rfl ?_
      refine b_iald C 9 dX12_write_63 (by decide) rfl (vp_lit (by decide)) (by decide) ?_
      refine a_iconst C 1 dX12_write_64 (by decide) ?_
      refine a_isub C dX12_write_65 ?_
      refine b_iast C 9 dX12_write_66 (by decide) rfl (vp_lit (by decide)) (by decide) ?_
      refine a_topu (fun z9 ez9 => ?_)
      have h := h z9 ez9
      refine tj_X12_write_67 C _ _ _ h
  · have h := h.2 c11
    exact a_vret C dX12_write_7 h

/-! RainOnTheOneModel.anew()V -/
def wp_X12_anew (u : PoS) (post : PoS → Prop) : Prop := ∀ z1 : PoS, z1 = pI u 49 8 (Int64.toInt32 (lrem (((Int32.toInt64 (gI u 49 8)) * 487) + 373) 30671)) → post z1
theorem np_X12_anew : yX12_anew.cls ≠ "java/lang/invoke/MethodHandle" ∧ yX12_anew.cls ≠ "java/lang/invoke/VarHandle" ∧ (parseMethodDescriptor yX12_anew.desc).map (fun d => d.parameters.length) = some 0 := by decide +kernel
set_option maxHeartbeats 4000000 in
set_option maxRecDepth 100000 in
theorem m_X12_anew (l : Launch) (V : VEn) {u : PoS} {post : PoS → Prop} (h : wp_X12_anew  u post) : KV l V yX12_anew cX12_anew 1 0 [.ref (eA V 48)] u post := by
  refine KV_of (by decide) (Nat.le_of_ble_eq_true rfl) (lv := [(0, .ref (eA V 48))]) rfl ?_
  intro p e s m args below meth c C
  rw [wp_X12_anew] at h
  refine a_aload_n C 0 dX12_anew_0 rfl rfl ?_
  refine a_getr C 0 (r := 49) dX12_anew_1 (by decide) rfl rfl rfl ib_12 (by decide) bw_1022 ?_
  refine a_bipush C 8 dX12_anew_4 (by decide) ?_
  refine a_aload_n C 0 dX12_anew_6 rfl rfl ?_
  refine a_getr C 0 (r := 49) dX12_anew_7 (by decide) rfl rfl rfl ib_12 (by decide) bw_1022 ?_
  refine a_bipush C 8 dX12_anew_10 (by decide) ?_
  refine b_iald C 8 dX12_anew_12 (by decide) rfl (vp_lit (by decide)) (by decide) ?_
  refine a_i2l C dX12_anew_13 ?_
  refine a_ldc2 C dX12_anew_14 bw_1372 ?_
  refine a_lmul C dX12_anew_17 ?_
  refine a_ldc2 C dX12_anew_18 bw_1373 ?_
  refine a_ladd C dX12_anew_21 ?_
  refine a_ldc2 C dX12_anew_22 bw_1374 ?_
  refine b_lrem C dX12_anew_25 (by decide) ?_
  refine a_l2i C dX12_anew_26 ?_
  refine b_iast C 8 dX12_anew_27 (by decide) rfl (vp_lit (by decide)) (by decide) ?_
  refine a_topu (fun z1 ez1 => ?_)
  have h := h z1 ez1
  exact a_vret C dX12_anew_28 h

/-! RainOnTheOneModel.drawnBy(I)I -/
def wp_X12_drawnBy (a0 : Int32) (u : PoS) (post : Int32 → PoS → Prop) : Prop := ¬ a0 = 0 ∧ ∀ x1 : Int32, x1 = (irem (gI u 49 8) a0) → wp_X12_anew u (fun (u3 : PoS) => post x1 u3)
theorem np_X12_drawnBy : yX12_drawnBy.cls ≠ "java/lang/invoke/MethodHandle" ∧ yX12_drawnBy.cls ≠ "java/lang/invoke/VarHandle" ∧ (parseMethodDescriptor yX12_drawnBy.desc).map (fun d => d.parameters.length) = some 1 := by decide +kernel
set_option maxHeartbeats 4000000 in
set_option maxRecDepth 100000 in
theorem m_X12_drawnBy (l : Launch) (V : VEn) {a0 : Int32} {u : PoS} {post : Int32 → PoS → Prop} (h : wp_X12_drawnBy a0 u post) : KI l V yX12_drawnBy cX12_drawnBy 3 .int 1 [.ref (eA V 48), .int a0] u post := by
  refine KI_of (by decide) (Nat.le_of_ble_eq_true rfl) (lv := [(0, .ref (eA V 48)), (1, .int a0)]) rfl ?_
  intro p e s m args below meth c C
  rw [wp_X12_drawnBy] at h
  refine a_aload_n C 0 dX12_drawnBy_0 rfl rfl ?_
  refine a_getr C 0 (r := 49) dX12_drawnBy_1 (by decide) rfl rfl rfl ib_12 (by decide) bw_1022 ?_
  refine a_bipush C 8 dX12_drawnBy_4 (by decide) ?_
  refine b_iald C 8 dX12_drawnBy_6 (by decide) rfl (vp_lit (by decide)) (by decide) ?_
  refine a_iload_n C 1 dX12_drawnBy_7 rfl rfl ?_
  refine b_irem C dX12_drawnBy_8 h.1 ?_
  have h := h.2
  refine a_topi (fun x1 ex1 => ?_)
  have h := h x1 ex1
  refine a_istore_n C [(2, .int x1), (0, .ref (eA V 48)), (1, .int a0)] dX12_drawnBy_9 rfl (by decide) rfl ?_
  refine a_aload_n C 1 dX12_drawnBy_10 rfl rfl ?_
  refine a_callVv C dX12_drawnBy_11 (m_X12_anew l V h) bw_1368 bw_1370 bw_74 bw_123 bw_1371 (by decide) rfl rfl np_X12_anew rfl rfl (by decide) (Nat.le_of_ble_eq_true rfl) ⟨Nat.zero_le _, Nat.zero_le _⟩ (fun u3 h => ?_)
  refine a_iload_n C 0 dX12_drawnBy_14 rfl rfl ?_
  exact a_iret C dX12_drawnBy_15 h

/-! RainOnTheOneModel.rain(I)V -/
def wp_X12_rain (a0 : Int32) (u : PoS) (post : PoS → Prop) : Prop := wp_X12_get a0 0 u (fun (r1 : Int32) (u2 : PoS) => wp_X12_poursOf a0 u2 (fun (r3 : Int32) (u4 : PoS) => vp_in (40 + r1) 3703 ∧ wp_X12_held (Int32.toInt64 r3) 0 (99 - (gI u4 49 (Int32.toNatClampNeg (40 + r1)))) u4 (fun (r5 : Int32) (u6 : PoS) => vp_in (40 + r1) 3703 ∧ vp_in (40 + r1) 3703 ∧ ∀ z7 : PoS, z7 = pI u6 49 (Int32.toNatClampNeg (40 + r1)) ((gI u6 49 (Int32.toNatClampNeg (40 + r1))) + r5) → wp_X12_get a0 2 z7 (fun (r8 : Int32) (u9 : PoS) => wp_X12_held (Int32.toInt64 (r8 + 3)) 0 99 u9 (fun (r10 : Int32) (u11 : PoS) => wp_X12_put a0 2 r10 u11 (fun (u13 : PoS) => wp_X12_get a0 3 u13 (fun (r14 : Int32) (u15 : PoS) => wp_X12_held (Int32.toInt64 (r14 + 1)) 0 999 u15 (fun (r16 : Int32) (u17 : PoS) => wp_X12_put a0 3 r16 u17 (fun (u19 : PoS) => ∀ z20 : PoS, z20 = pI u19 48 25 ((gI u19 48 25) + 1) → wp_X12_write a0 r5 z20 (fun (u22 : PoS) => post u22))))))))))
theorem np_X12_rain : yX12_rain.cls ≠ "java/lang/invoke/MethodHandle" ∧ yX12_rain.cls ≠ "java/lang/invoke/VarHandle" ∧ (parseMethodDescriptor yX12_rain.desc).map (fun d => d.parameters.length) = some 1 := by decide +kernel
set_option maxHeartbeats 4000000 in
set_option maxRecDepth 100000 in
theorem m_X12_rain (l : Launch) (V : VEn) {a0 : Int32} {u : PoS} {post : PoS → Prop} (h : wp_X12_rain a0 u post) : KV l V yX12_rain cX12_rain 4 5 [.ref (eA V 48), .int a0] u post := by
  refine KV_of (by decide) (Nat.le_of_ble_eq_true rfl) (lv := [(0, .ref (eA V 48)), (1, .int a0)]) rfl ?_
  intro p e s m args below meth c C
  rw [wp_X12_rain] at h
  refine a_aload_n C 0 dX12_rain_0 rfl rfl ?_
  refine a_iload_n C 1 dX12_rain_1 rfl rfl ?_
  refine a_iconst C 0 dX12_rain_2 (by decide) ?_
  refine a_callVi C dX12_rain_3 (m_X12_get l V h) bw_1158 bw_1160 bw_42 bw_123 bw_1161 (by decide) rfl rfl np_X12_get rfl rfl (by decide) (Nat.le_of_ble_eq_true rfl) ⟨Nat.zero_le _, Nat.zero_le _⟩ (fun r1 u2 h => ?_)
  refine a_istore_n C [(2, .int r1), (0, .ref (eA V 48)), (1, .int a0)] dX12_rain_6 rfl (by decide) rfl ?_
  refine a_aload_n C 1 dX12_rain_7 rfl rfl ?_
  refine a_iload_n C 2 dX12_rain_8 rfl rfl ?_
  refine a_callVi C dX12_rain_9 (m_X12_poursOf l V h) bw_1455 bw_1457 bw_87 bw_123 bw_1458 (by decide) rfl rfl np_X12_poursOf rfl rfl (by decide) (Nat.le_of_ble_eq_true rfl) ⟨Nat.zero_le _, Nat.zero_le _⟩ (fun r3 u4 h => ?_)
  refine a_i2l C dX12_rain_12 ?_
  refine a_iconst C 0 dX12_rain_13 (by decide) ?_
  refine a_bipush C 99 dX12_rain_14 (by decide) ?_
  refine a_aload_n C 1 dX12_rain_16 rfl rfl ?_
  refine a_getr C 0 (r := 49) dX12_rain_17 (by decide) rfl rfl rfl ib_12 (by decide) bw_1022 ?_
  refine a_bipush C 40 dX12_rain_20 (by decide) ?_
  refine a_iload_n C 0 dX12_rain_22 rfl rfl ?_
  refine a_iadd C dX12_rain_23 ?_
  refine b_iald C (Int32.toNatClampNeg (40 + r1)) dX12_rain_24 (by decide) rfl h.1 rfl ?_
  have h := h.2
  refine a_isub C dX12_rain_25 ?_
  refine a_callSi C dX12_rain_26 (m_X12_held l V h) bw_1448 bw_1449 bw_123 bw_1450 np_X12_held rfl rfl (by decide) (Nat.le_of_ble_eq_true rfl) ⟨Nat.zero_le _, Nat.zero_le _⟩ (fun r5 u6 h => ?_)
  refine a_istore_n C [(3, .int r5), (2, .int r1), (0, .ref (eA V 48)), (1, .int a0)] dX12_rain_29 rfl (by decide) rfl ?_
  refine a_aload_n C 2 dX12_rain_30 rfl rfl ?_
  refine a_getr C 0 (r := 49) dX12_rain_31 (by decide) rfl rfl rfl ib_12 (by decide) bw_1022 ?_
  refine a_bipush C 40 dX12_rain_34 (by decide) ?_
  refine a_iload_n C 1 dX12_rain_36 rfl rfl ?_
  refine a_iadd C dX12_rain_37 ?_
  refine a_dup2 C dX12_rain_38 rfl rfl ?_
  refine b_iald C (Int32.toNatClampNeg (40 + r1)) dX12_rain_39 (by decide) rfl h.1 rfl ?_
  have h := h.2
  refine a_iload_n C 0 dX12_rain_40 rfl rfl ?_
  refine a_iadd C dX12_rain_41 ?_
  refine b_iast C (Int32.toNatClampNeg (40 + r1)) dX12_rain_42 (by decide) rfl h.1 rfl ?_
  have h := h.2
  refine a_topu (fun z7 ez7 => ?_)
  have h := h z7 ez7
  refine a_aload_n C 2 dX12_rain_43 rfl rfl ?_
  refine a_iload_n C 3 dX12_rain_44 rfl rfl ?_
  refine a_iconst C 2 dX12_rain_45 (by decide) ?_
  refine a_aload_n C 2 dX12_rain_46 rfl rfl ?_
  refine a_iload_n C 3 dX12_rain_47 rfl rfl ?_
  refine a_iconst C 2 dX12_rain_48 (by decide) ?_
  refine a_callVi C dX12_rain_49 (m_X12_get l V h) bw_1158 bw_1160 bw_42 bw_123 bw_1161 (by decide) rfl rfl np_X12_get rfl rfl (by decide) (Nat.le_of_ble_eq_true rfl) ⟨Nat.zero_le _, Nat.zero_le _⟩ (fun r8 u9 h => ?_)
  refine a_iconst C 3 dX12_rain_52 (by decide) ?_
  refine a_iadd C dX12_rain_53 ?_
  refine a_i2l C dX12_rain_54 ?_
  refine a_iconst C 0 dX12_rain_55 (by decide) ?_
  refine a_bipush C 99 dX12_rain_56 (by decide) ?_
  refine a_callSi C dX12_rain_58 (m_X12_held l V h) bw_1448 bw_1449 bw_123 bw_1450 np_X12_held rfl rfl (by decide) (Nat.le_of_ble_eq_true rfl) ⟨Nat.zero_le _, Nat.zero_le _⟩ (fun r10 u11 h => ?_)
  refine a_callVv C dX12_rain_61 (m_X12_put l V h) bw_1150 bw_1152 bw_40 bw_123 bw_1153 (by decide) rfl rfl np_X12_put rfl rfl (by decide) (Nat.le_of_ble_eq_true rfl) ⟨Nat.zero_le _, Nat.zero_le _⟩ (fun u13 h => ?_)
  refine a_aload_n C 2 dX12_rain_64 rfl rfl ?_
  refine a_iload_n C 3 dX12_rain_65 rfl rfl ?_
  refine a_iconst C 3 dX12_rain_66 (by decide) ?_
  refine a_aload_n C 2 dX12_rain_67 rfl rfl ?_
  refine a_iload_n C 3 dX12_rain_68 rfl rfl ?_
  refine a_iconst C 3 dX12_rain_69 (by decide) ?_
  refine a_callVi C dX12_rain_70 (m_X12_get l V h) bw_1158 bw_1160 bw_42 bw_123 bw_1161 (by decide) rfl rfl np_X12_get rfl rfl (by decide) (Nat.le_of_ble_eq_true rfl) ⟨Nat.zero_le _, Nat.zero_le _⟩ (fun r14 u15 h => ?_)
  refine a_iconst C 1 dX12_rain_73 (by decide) ?_
  refine a_iadd C dX12_rain_74 ?_
  refine a_i2l C dX12_rain_75 ?_
  refine a_iconst C 0 dX12_rain_76 (by decide) ?_
  refine a_sipush C 999 dX12_rain_77 (by decide) ?_
  refine a_callSi C dX12_rain_80 (m_X12_held l V h) bw_1448 bw_1449 bw_123 bw_1450 np_X12_held rfl rfl (by decide) (Nat.le_of_ble_eq_true rfl) ⟨Nat.zero_le _, Nat.zero_le _⟩ (fun r16 u17 h => ?_)
  refine a_callVv C dX12_rain_83 (m_X12_put l V h) bw_1150 bw_1152 bw_40 bw_123 bw_1153 (by decide) rfl rfl np_X12_put rfl rfl (by decide) (Nat.le_of_ble_eq_true rfl) ⟨Nat.zero_le _, Nat.zero_le _⟩ (fun u19 h => ?_)
  refine a_aload_n C 2 dX12_rain_86 rfl rfl ?_
  refine a_dup C dX12_rain_87 rfl ?_
  refine a_geti C 25 dX12_rain_88 (by decide) rfl rfl rfl ib_12 (by decide) bw_1047 ?_
  refine a_iconst C 1 dX12_rain_91 (by decide) ?_
  refine a_iadd C dX12_rain_92 ?_
  refine a_puti C (ty := .int) 25 dX12_rain_93 (by decide) rfl rfl rfl ib_12 (by decide) bw_1047 tyX12 tyX12_ok nmX12 rfl (by decide +kernel) rfl rfl ?_
  refine a_topu (fun z20 ez20 => ?_)
  have h := h z20 ez20
  refine a_aload_n C 2 dX12_rain_96 rfl rfl ?_
  refine a_iload_n C 3 dX12_rain_97 rfl rfl ?_
  refine a_iload_n C 0 dX12_rain_98 rfl rfl ?_
  refine a_callVv C dX12_rain_99 (m_X12_write l V h) bw_1459 bw_1461 bw_88 bw_123 bw_1462 (by decide) rfl rfl np_X12_write rfl rfl (by decide) (Nat.le_of_ble_eq_true rfl) ⟨Nat.zero_le _, Nat.zero_le _⟩ (fun u22 h => ?_)
  exact a_vret C dX12_rain_102 h

/-! RainOnTheOneModel.nextTo(II)I -/
def wj_X12_nextTo_39 (k11 : Int32 → Int32 → PoS → Prop) (post : Int32 → PoS → Prop) (v1 : Int32) (v3 : Int32) (u : PoS) : Prop := k11 v1 (v3 + 1) u
def wl_X12_nextTo_11 (post : Int32 → PoS → Prop) : Nat → Int32 → Int32 → PoS → Prop
  | 0, _, _, _ => False
  | n + 1, v1, v3, u => wp_X12_beside v1 u (fun (r5 : Int32) (u6 : PoS) => wp_X12_has r5 v3 u6 (fun (r7 : Int32) (u8 : PoS) => ((r7 = 0 → wj_X12_nextTo_39 (wl_X12_nextTo_11 post n) post v1 v3 u8) ∧ (¬ r7 = 0 → vp_in v3 30 ∧ vp_in v1 30 ∧ (((gI u8 57 (Int32.toNatClampNeg v3)) = ((gI u8 57 (Int32.toNatClampNeg v1)) - 1) → post v3 u8) ∧ (¬ (gI u8 57 (Int32.toNatClampNeg v3)) = ((gI u8 57 (Int32.toNatClampNeg v1)) - 1) → wj_X12_nextTo_39 (wl_X12_nextTo_11 post n) post v1 v3 u8))))))
def wp_X12_nextTo (a0 : Int32) (a1 : Int32) (u : PoS) (post : Int32 → PoS → Prop) : Prop := wp_X12_free u (fun (r1 : Int32) (u2 : PoS) => wp_X12_layFar a1 r1 u2 (fun (u4 : PoS) => (∃ n11, wl_X12_nextTo_11 post n11 a0 0 u4)))
set_option maxHeartbeats 4000000 in
set_option maxRecDepth 100000 in
theorem tj_X12_nextTo_39 {p : Program} {l : Launch} {e : Env} {s : State} {m : MethodId} {args : Array Value} {below : List Frame} {meth : Method} {c : Code} {V : VEn} {k11 : Int32 → Int32 → PoS → Prop} {post : Int32 → PoS → Prop} (C : CxS p s m args meth c V cX12_nextTo 4 RX12 (some .int)) (hk11 : ∀ (v1 : Int32) (v3 : Int32) (u : PoS), k11 v1 v3 u → AtS p l e (Rm 4) s m args below meth c V 4 0 0 (QI V below args s post) 11 [(0, .ref (eA V 48)), (1, .int v1), (3, .int v3)] [] u) (v1 : Int32) (v3 : Int32) (u : PoS) (h : wj_X12_nextTo_39 k11 post v1 v3 u) : AtS p l e (Rm 4) s m args below meth c V 4 0 0 (QI V below args s post) 39 [(0, .ref (eA V 48)), (1, .int v1), (3, .int v3)] [] u := by
  rw [wj_X12_nextTo_39] at h
  refine a_iinc C (v3 + 1) 2 [(3, .int (v3 + 1)), (0, .ref (eA V 48)), (1, .int v1)] dX12_nextTo_39 rfl (congrArg (fun z => v3 + z) (show Int32.ofInt 1 = 1 by decide)) (by decide) rfl ?_
  refine a_goto C 11 dX12_nextTo_42 (by decide) ?_
  refine a_sub [1, 2, 0] rfl ?_
  exact hk11 _ _ _ h
set_option maxHeartbeats 4000000 in
set_option maxRecDepth 100000 in
theorem tl_X12_nextTo_11 {p : Program} {l : Launch} {e : Env} {s : State} {m : MethodId} {args : Array Value} {below : List Frame} {meth : Method} {c : Code} {V : VEn} {post : Int32 → PoS → Prop} (C : CxS p s m args meth c V cX12_nextTo 4 RX12 (some .int)) : ∀ (n : Nat) (v1 : Int32) (v3 : Int32) (u : PoS), wl_X12_nextTo_11 post n v1 v3 u → AtS p l e (Rm 4) s m args below meth c V 4 0 0 (QI V below args s post) 11 [(0, .ref (eA V 48)), (1, .int v1), (3, .int v3)] [] u := by
  intro n
  induction n with
  | zero => intro v1 v3 u h; exact h.elim
  | succ n ih =>
    intro v1 v3 u h
    rw [wl_X12_nextTo_11] at h
    refine a_iload_n C 1 dX12_nextTo_11 rfl rfl ?_
    refine a_callSi C dX12_nextTo_12 (m_X12_beside l V h) bw_1346 bw_1347 bw_123 bw_1348 np_X12_beside rfl rfl (by decide) (Nat.le_of_ble_eq_true rfl) ⟨Nat.zero_le _, Nat.zero_le _⟩ (fun r5 u6 h => ?_)
    refine a_iload_n C 2 dX12_nextTo_15 rfl rfl ?_
    refine a_callSi C dX12_nextTo_16 (m_X12_has l V h) bw_1240 bw_1241 bw_123 bw_1242 np_X12_has rfl rfl (by decide) (Nat.le_of_ble_eq_true rfl) ⟨Nat.zero_le _, Nat.zero_le _⟩ (fun r7 u8 h => ?_)
    refine a_if_eq C 39 dX12_nextTo_19 (by decide) (fun c10 => ?_) (fun c10 => ?_)
    · have h := h.1 c10
      refine tj_X12_nextTo_39 C ih _ _ _ h
    · have h := h.2 c10
      refine a_aload_n C 0 dX12_nextTo_22 rfl rfl ?_
      refine a_getr C 23 (r := 57) dX12_nextTo_23 (by decide) rfl rfl rfl ib_12 (by decide) bw_1045 ?_
      refine a_iload_n C 2 dX12_nextTo_26 rfl rfl ?_
      refine b_iald C (Int32.toNatClampNeg v3) dX12_nextTo_27 (by decide) rfl h.1 rfl ?_
      have h := h.2
      refine a_aload_n C 0 dX12_nextTo_28 rfl rfl ?_
      refine a_getr C 23 (r := 57) dX12_nextTo_29 (by decide) rfl rfl rfl ib_12 (by decide) bw_1045 ?_
      refine a_iload_n C 1 dX12_nextTo_32 rfl rfl ?_
      refine b_iald C (Int32.toNatClampNeg v1) dX12_nextTo_33 (by decide) rfl h.1 rfl ?_
      have h := h.2
      refine a_iconst C 1 dX12_nextTo_34 (by decide) ?_
      refine a_isub C dX12_nextTo_35 ?_
      refine a_icmp_eq C 45 dX12_nextTo_36 (by decide) (fun c9 => ?_) (fun c9 => ?_)
      · have h := h.1 c9
        refine a_iload_n C 2 dX12_nextTo_45 rfl rfl ?_
        exact a_iret C dX12_nextTo_46 h
      · have h := h.2 c9
        refine tj_X12_nextTo_39 C ih _ _ _ h
theorem np_X12_nextTo : yX12_nextTo.cls ≠ "java/lang/invoke/MethodHandle" ∧ yX12_nextTo.cls ≠ "java/lang/invoke/VarHandle" ∧ (parseMethodDescriptor yX12_nextTo.desc).map (fun d => d.parameters.length) = some 2 := by decide +kernel
set_option maxHeartbeats 4000000 in
set_option maxRecDepth 100000 in
theorem m_X12_nextTo (l : Launch) (V : VEn) {a0 : Int32} {a1 : Int32} {u : PoS} {post : Int32 → PoS → Prop} (h : wp_X12_nextTo a0 a1 u post) : KI l V yX12_nextTo cX12_nextTo 4 .int 4 [.ref (eA V 48), .int a0, .int a1] u post := by
  refine KI_of (by decide) (Nat.le_of_ble_eq_true rfl) (lv := [(0, .ref (eA V 48)), (1, .int a0), (2, .int a1)]) rfl ?_
  intro p e s m args below meth c C
  rw [wp_X12_nextTo] at h
  refine a_aload_n C 0 dX12_nextTo_0 rfl rfl ?_
  refine a_iload_n C 2 dX12_nextTo_1 rfl rfl ?_
  refine a_aload_n C 0 dX12_nextTo_2 rfl rfl ?_
  refine a_callVi C dX12_nextTo_3 (m_X12_free l V h) bw_1395 bw_1397 bw_79 bw_123 bw_1398 (by decide) rfl rfl np_X12_free rfl rfl (by decide) (Nat.le_of_ble_eq_true rfl) ⟨Nat.zero_le _, Nat.zero_le _⟩ (fun r1 u2 h => ?_)
  refine a_callVv C dX12_nextTo_6 (m_X12_layFar l V h) bw_1399 bw_1401 bw_80 bw_123 bw_1402 (by decide) rfl rfl np_X12_layFar rfl rfl (by decide) (Nat.le_of_ble_eq_true rfl) ⟨Nat.zero_le _, Nat.zero_le _⟩ (fun u4 h => ?_)
  refine a_iconst C 0 dX12_nextTo_9 (by decide) ?_
  refine a_istore_n C [(3, .int 0), (0, .ref (eA V 48)), (1, .int a0), (2, .int a1)] dX12_nextTo_10 rfl (by decide) rfl ?_
  refine a_sub [1, 2, 0] rfl ?_
  obtain ⟨n11, h⟩ := h
  refine tl_X12_nextTo_11 C n11 _ _ _ h

/-! RainOnTheOneModel.goOn(I)V -/
def wp_X12_goOn (a0 : Int32) (u : PoS) (post : PoS → Prop) : Prop := ((a0 = (-1) → wp_X12_drawnBy 4 u (fun (r1 : Int32) (u2 : PoS) => wp_X12_sideOf (gI u 49 7) r1 u2 (fun (r3 : Int32) (u4 : PoS) => wp_X12_isFree r3 u4 (fun (r5 : Int32) (u6 : PoS) => ((r5 = 0 → post u6) ∧ (¬ r5 = 0 → ∀ z7 : PoS, z7 = pI u6 49 7 r3 → post z7)))))) ∧ (¬ a0 = (-1) → wp_X12_get a0 0 u (fun (r9 : Int32) (u10 : PoS) => wp_X12_nextTo (gI u 49 7) r9 u10 (fun (r11 : Int32) (u12 : PoS) => ∀ z13 : PoS, z13 = pI u12 49 7 r11 → post z13))))
theorem np_X12_goOn : yX12_goOn.cls ≠ "java/lang/invoke/MethodHandle" ∧ yX12_goOn.cls ≠ "java/lang/invoke/VarHandle" ∧ (parseMethodDescriptor yX12_goOn.desc).map (fun d => d.parameters.length) = some 1 := by decide +kernel
set_option maxHeartbeats 4000000 in
set_option maxRecDepth 100000 in
theorem m_X12_goOn (l : Launch) (V : VEn) {a0 : Int32} {u : PoS} {post : PoS → Prop} (h : wp_X12_goOn a0 u post) : KV l V yX12_goOn cX12_goOn 3 5 [.ref (eA V 48), .int a0] u post := by
  refine KV_of (by decide) (Nat.le_of_ble_eq_true rfl) (lv := [(0, .ref (eA V 48)), (1, .int a0)]) rfl ?_
  intro p e s m args below meth c C
  rw [wp_X12_goOn] at h
  refine a_iload_n C 1 dX12_goOn_0 rfl rfl ?_
  refine a_iconst C (-1) dX12_goOn_1 (by decide) ?_
  refine a_icmp_eq C 30 dX12_goOn_2 (by decide) (fun c14 => ?_) (fun c14 => ?_)
  · have h := h.1 c14
    refine a_aload_n C 0 dX12_goOn_30 rfl rfl ?_
    refine a_getr C 0 (r := 49) dX12_goOn_31 (by decide) rfl rfl rfl ib_12 (by decide) bw_1022 ?_
    refine a_bipush C 7 dX12_goOn_34 (by decide) ?_
    refine b_iald C 7 dX12_goOn_36 (by decide) rfl (vp_lit (by decide)) (by decide) ?_
    refine a_aload_n C 0 dX12_goOn_37 rfl rfl ?_
    refine a_iconst C 4 dX12_goOn_38 (by decide) ?_
    refine a_callVi C dX12_goOn_39 (m_X12_drawnBy l V h) bw_1364 bw_1366 bw_73 bw_123 bw_1367 (by decide) rfl rfl np_X12_drawnBy rfl rfl (by decide) (Nat.le_of_ble_eq_true rfl) ⟨Nat.zero_le _, Nat.zero_le _⟩ (fun r1 u2 h => ?_)
    refine a_callSi C dX12_goOn_42 (m_X12_sideOf l V h) bw_1349 bw_1350 bw_123 bw_1351 np_X12_sideOf rfl rfl (by decide) (Nat.le_of_ble_eq_true rfl) ⟨Nat.zero_le _, Nat.zero_le _⟩ (fun r3 u4 h => ?_)
    refine a_istore_n C [(2, .int r3), (0, .ref (eA V 48)), (1, .int a0)] dX12_goOn_45 rfl (by decide) rfl ?_
    refine a_aload_n C 1 dX12_goOn_46 rfl rfl ?_
    refine a_iload_n C 0 dX12_goOn_47 rfl rfl ?_
    refine a_callVi C dX12_goOn_48 (m_X12_isFree l V h) bw_1140 bw_1142 bw_39 bw_123 bw_1143 (by decide) rfl rfl np_X12_isFree rfl rfl (by decide) (Nat.le_of_ble_eq_true rfl) ⟨Nat.zero_le _, Nat.zero_le _⟩ (fun r5 u6 h => ?_)
    refine a_if_eq C 62 dX12_goOn_51 (by decide) (fun c8 => ?_) (fun c8 => ?_)
    · have h := h.1 c8
      exact a_vret C dX12_goOn_62 h
    · have h := h.2 c8
      refine a_aload_n C 1 dX12_goOn_54 rfl rfl ?_
      refine a_getr C 0 (r := 49) dX12_goOn_55 (by decide) rfl rfl rfl ib_12 (by decide) bw_1022 ?_
      refine a_bipush C 7 dX12_goOn_58 (by decide) ?_
      refine a_iload_n C 0 dX12_goOn_60 rfl rfl ?_
      refine b_iast C 7 dX12_goOn_61 (by decide) rfl (vp_lit (by decide)) (by decide) ?_
      refine a_topu (fun z7 ez7 => ?_)
      have h := h z7 ez7
      exact a_vret C dX12_goOn_62 h
  · have h := h.2 c14
    refine a_aload_n C 0 dX12_goOn_5 rfl rfl ?_
    refine a_getr C 0 (r := 49) dX12_goOn_6 (by decide) rfl rfl rfl ib_12 (by decide) bw_1022 ?_
    refine a_bipush C 7 dX12_goOn_9 (by decide) ?_
    refine a_aload_n C 0 dX12_goOn_11 rfl rfl ?_
    refine a_aload_n C 0 dX12_goOn_12 rfl rfl ?_
    refine a_getr C 0 (r := 49) dX12_goOn_13 (by decide) rfl rfl rfl ib_12 (by decide) bw_1022 ?_
    refine a_bipush C 7 dX12_goOn_16 (by decide) ?_
    refine b_iald C 7 dX12_goOn_18 (by decide) rfl (vp_lit (by decide)) (by decide) ?_
    refine a_aload_n C 0 dX12_goOn_19 rfl rfl ?_
    refine a_iload_n C 1 dX12_goOn_20 rfl rfl ?_
    refine a_iconst C 0 dX12_goOn_21 (by decide) ?_
    refine a_callVi C dX12_goOn_22 (m_X12_get l V h) bw_1158 bw_1160 bw_42 bw_123 bw_1161 (by decide) rfl rfl np_X12_get rfl rfl (by decide) (Nat.le_of_ble_eq_true rfl) ⟨Nat.zero_le _, Nat.zero_le _⟩ (fun r9 u10 h => ?_)
    refine a_callVi C dX12_goOn_25 (m_X12_nextTo l V h) bw_1467 bw_1469 bw_90 bw_123 bw_1470 (by decide) rfl rfl np_X12_nextTo rfl rfl (by decide) (Nat.le_of_ble_eq_true rfl) ⟨Nat.zero_le _, Nat.zero_le _⟩ (fun r11 u12 h => ?_)
    refine b_iast C 7 dX12_goOn_28 (by decide) rfl (vp_lit (by decide)) (by decide) ?_
    refine a_topu (fun z13 ez13 => ?_)
    have h := h z13 ez13
    exact a_vret C dX12_goOn_29 h

/-! RainOnTheOneModel.pass()V -/
def wj_X12_pass_91 (k51 : Int32 → Int32 → Int32 → PoS → Prop) (post : PoS → Prop) (v1 : Int32) (v2 : Int32) (v3 : Int32) (u : PoS) : Prop := k51 v1 v2 (v3 + 1) u
def wj_X12_pass_70 (k51 : Int32 → Int32 → Int32 → PoS → Prop) (post : PoS → Prop) (v1 : Int32) (v2 : Int32) (v3 : Int32) (u : PoS) : Prop := wp_X12_get v3 2 u (fun (r5 : Int32) (u6 : PoS) => wp_X12_held (Int32.toInt64 (r5 - 1)) 0 99 u6 (fun (r7 : Int32) (u8 : PoS) => wp_X12_put v3 2 r7 u8 (fun (u10 : PoS) => wj_X12_pass_91 k51 post v1 v2 v3 u10)))
def wl_X12_pass_51 (k97 : PoS → Prop) (post : PoS → Prop) : Nat → Int32 → Int32 → Int32 → PoS → Prop
  | 0, _, _, _, _ => False
  | n + 1, v1, v2, v3, u => (((gI u 49 0) ≤ v3 → k97  u) ∧ (¬ (gI u 49 0) ≤ v3 → ((v2 = 0 → wj_X12_pass_70 (wl_X12_pass_51 k97 post n) post v1 v2 v3 u) ∧ (¬ v2 = 0 → ((v3 = v1 → wj_X12_pass_91 (wl_X12_pass_51 k97 post n) post v1 v2 v3 u) ∧ (¬ v3 = v1 → wj_X12_pass_70 (wl_X12_pass_51 k97 post n) post v1 v2 v3 u))))))
def wj_X12_pass_49 (post : PoS → Prop) (v1 : Int32) (v2 : Int32) (u : PoS) : Prop := (∃ n51, wl_X12_pass_51 (fun (u14 : PoS) => ∀ z15 : PoS, z15 = pI u14 49 6 ((gI u14 49 6) + 1) → post z15) post n51 v1 v2 0 u)
def wj_X12_pass_31 (post : PoS → Prop) (v1 : Int32) (s0 : Int32) (u : PoS) : Prop := ((s0 = 0 → wp_X12_goOn v1 u (fun (u4 : PoS) => wj_X12_pass_49 post v1 s0 u4)) ∧ (¬ s0 = 0 → wp_X12_rain v1 u (fun (u17 : PoS) => wj_X12_pass_49 post v1 s0 u17)))
def wj_X12_pass_30 (post : PoS → Prop) (v1 : Int32) (u : PoS) : Prop := wj_X12_pass_31 post v1 0 u
def wp_X12_pass (u : PoS) (post : PoS → Prop) : Prop := wp_X12_goesFor u (fun (r1 : Int32) (u2 : PoS) => ((r1 = (-1) → wj_X12_pass_30 post r1 u2) ∧ (¬ r1 = (-1) → wp_X12_get r1 0 u2 (fun (r19 : Int32) (u20 : PoS) => ((¬ r19 = (gI u20 49 7) → wj_X12_pass_30 post r1 u20) ∧ (r19 = (gI u20 49 7) → wj_X12_pass_31 post r1 1 u20))))))
set_option maxHeartbeats 4000000 in
set_option maxRecDepth 100000 in
theorem tj_X12_pass_91 {p : Program} {l : Launch} {e : Env} {s : State} {m : MethodId} {args : Array Value} {below : List Frame} {meth : Method} {c : Code} {V : VEn} {k51 : Int32 → Int32 → Int32 → PoS → Prop} {post : PoS → Prop} (C : CxS p s m args meth c V cX12_pass 4 RX12 none) (hk51 : ∀ (v1 : Int32) (v2 : Int32) (v3 : Int32) (u : PoS), k51 v1 v2 v3 u → AtS p l e (Rm 7) s m args below meth c V 4 0 0 (QV V below args s post) 51 [(0, .ref (eA V 48)), (1, .int v1), (2, .int v2), (3, .int v3)] [] u) (v1 : Int32) (v2 : Int32) (v3 : Int32) (u : PoS) (h : wj_X12_pass_91 k51 post v1 v2 v3 u) : AtS p l e (Rm 7) s m args below meth c V 4 0 0 (QV V below args s post) 91 [(0, .ref (eA V 48)), (1, .int v1), (2, .int v2), (3, .int v3)] [] u := by
  rw [wj_X12_pass_91] at h
  refine a_iinc C (v3 + 1) 3 [(3, .int (v3 + 1)), (0, .ref (eA V 48)), (1, .int v1), (2, .int v2)] dX12_pass_91 rfl (congrArg (fun z => v3 + z) (show Int32.ofInt 1 = 1 by decide)) (by decide) rfl ?_
  refine a_goto C 51 dX12_pass_94 (by decide) ?_
  refine a_sub [1, 2, 3, 0] rfl ?_
  exact hk51 _ _ _ _ h
set_option maxHeartbeats 4000000 in
set_option maxRecDepth 100000 in
theorem tj_X12_pass_70 {p : Program} {l : Launch} {e : Env} {s : State} {m : MethodId} {args : Array Value} {below : List Frame} {meth : Method} {c : Code} {V : VEn} {k51 : Int32 → Int32 → Int32 → PoS → Prop} {post : PoS → Prop} (C : CxS p s m args meth c V cX12_pass 4 RX12 none) (hk51 : ∀ (v1 : Int32) (v2 : Int32) (v3 : Int32) (u : PoS), k51 v1 v2 v3 u → AtS p l e (Rm 7) s m args below meth c V 4 0 0 (QV V below args s post) 51 [(0, .ref (eA V 48)), (1, .int v1), (2, .int v2), (3, .int v3)] [] u) (v1 : Int32) (v2 : Int32) (v3 : Int32) (u : PoS) (h : wj_X12_pass_70 k51 post v1 v2 v3 u) : AtS p l e (Rm 7) s m args below meth c V 4 0 0 (QV V below args s post) 70 [(0, .ref (eA V 48)), (1, .int v1), (2, .int v2), (3, .int v3)] [] u := by
  rw [wj_X12_pass_70] at h
  refine a_aload_n C 0 dX12_pass_70 rfl rfl ?_
  refine a_iload_n C 3 dX12_pass_71 rfl rfl ?_
  refine a_iconst C 2 dX12_pass_72 (by decide) ?_
  refine a_aload_n C 0 dX12_pass_73 rfl rfl ?_
  refine a_iload_n C 3 dX12_pass_74 rfl rfl ?_
  refine a_iconst C 2 dX12_pass_75 (by decide) ?_
  refine a_callVi C dX12_pass_76 (m_X12_get l V h) bw_1158 bw_1160 bw_42 bw_123 bw_1161 (by decide) rfl rfl np_X12_get rfl rfl (by decide) (Nat.le_of_ble_eq_true rfl) ⟨Nat.zero_le _, Nat.zero_le _⟩ (fun r5 u6 h => ?_)
  refine a_iconst C 1 dX12_pass_79 (by decide) ?_
  refine a_isub C dX12_pass_80 ?_
  refine a_i2l C dX12_pass_81 ?_
  refine a_iconst C 0 dX12_pass_82 (by decide) ?_
  refine a_bipush C 99 dX12_pass_83 (by decide) ?_
  refine a_callSi C dX12_pass_85 (m_X12_held l V h) bw_1448 bw_1449 bw_123 bw_1450 np_X12_held rfl rfl (by decide) (Nat.le_of_ble_eq_true rfl) ⟨Nat.zero_le _, Nat.zero_le _⟩ (fun r7 u8 h => ?_)
  refine a_callVv C dX12_pass_88 (m_X12_put l V h) bw_1150 bw_1152 bw_40 bw_123 bw_1153 (by decide) rfl rfl np_X12_put rfl rfl (by decide) (Nat.le_of_ble_eq_true rfl) ⟨Nat.zero_le _, Nat.zero_le _⟩ (fun u10 h => ?_)
  refine tj_X12_pass_91 C hk51 _ _ _ _ h
set_option maxHeartbeats 4000000 in
set_option maxRecDepth 100000 in
theorem tl_X12_pass_51 {p : Program} {l : Launch} {e : Env} {s : State} {m : MethodId} {args : Array Value} {below : List Frame} {meth : Method} {c : Code} {V : VEn} {k97 : PoS → Prop} {post : PoS → Prop} (C : CxS p s m args meth c V cX12_pass 4 RX12 none) (hk97 : ∀ (u : PoS), k97  u → AtS p l e (Rm 7) s m args below meth c V 4 0 0 (QV V below args s post) 97 [(0, .ref (eA V 48))] [] u) : ∀ (n : Nat) (v1 : Int32) (v2 : Int32) (v3 : Int32) (u : PoS), wl_X12_pass_51 k97 post n v1 v2 v3 u → AtS p l e (Rm 7) s m args below meth c V 4 0 0 (QV V below args s post) 51 [(0, .ref (eA V 48)), (1, .int v1), (2, .int v2), (3, .int v3)] [] u := by
  intro n
  induction n with
  | zero => intro v1 v2 v3 u h; exact h.elim
  | succ n ih =>
    intro v1 v2 v3 u h
    rw [wl_X12_pass_51] at h
    refine a_iload_n C 3 dX12_pass_51 rfl rfl ?_
    refine a_aload_n C 0 dX12_pass_52 rfl rfl ?_
    refine a_getr C 0 (r := 49) dX12_pass_53 (by decide) rfl rfl rfl ib_12 (by decide) bw_1022 ?_
    refine a_iconst C 0 dX12_pass_56 (by decide) ?_
    refine b_iald C 0 dX12_pass_57 (by decide) rfl (vp_lit (by decide)) (by decide) ?_
    refine a_icmp_ge C 97 dX12_pass_58 (by decide) (fun c13 => ?_) (fun c13 => ?_)
    · have h := h.1 c13
      refine a_sub [0] rfl ?_
      exact hk97 _ h
    · have h := h.2 c13
      refine a_iload_n C 2 dX12_pass_61 rfl rfl ?_
      refine a_if_eq C 70 dX12_pass_62 (by decide) (fun c12 => ?_) (fun c12 => ?_)
      · have h := h.1 c12
        refine tj_X12_pass_70 C ih _ _ _ _ h
      · have h := h.2 c12
        refine a_iload_n C 3 dX12_pass_65 rfl rfl ?_
        refine a_iload_n C 1 dX12_pass_66 rfl rfl ?_
        refine a_icmp_eq C 91 dX12_pass_67 (by decide) (fun c11 => ?_) (fun c11 => ?_)
        · have h := h.1 c11
          refine tj_X12_pass_91 C ih _ _ _ _ h
        · have h := h.2 c11
          refine tj_X12_pass_70 C ih _ _ _ _ h
set_option maxHeartbeats 4000000 in
set_option maxRecDepth 100000 in
theorem tj_X12_pass_49 {p : Program} {l : Launch} {e : Env} {s : State} {m : MethodId} {args : Array Value} {below : List Frame} {meth : Method} {c : Code} {V : VEn} {post : PoS → Prop} (C : CxS p s m args meth c V cX12_pass 4 RX12 none) (v1 : Int32) (v2 : Int32) (u : PoS) (h : wj_X12_pass_49 post v1 v2 u) : AtS p l e (Rm 7) s m args below meth c V 4 0 0 (QV V below args s post) 49 [(0, .ref (eA V 48)), (1, .int v1), (2, .int v2)] [] u := by
  rw [wj_X12_pass_49] at h
  refine a_iconst C 0 dX12_pass_49 (by decide) ?_
  refine a_istore_n C [(3, .int 0), (0, .ref (eA V 48)), (1, .int v1), (2, .int v2)] dX12_pass_50 rfl (by decide) rfl ?_
  refine a_sub [1, 2, 3, 0] rfl ?_
  obtain ⟨n51, h⟩ := h
  refine tl_X12_pass_51 C (fun u14 h => ?_) n51 _ _ _ _ h
  refine a_aload_n C 0 dX12_pass_97 rfl rfl ?_
  refine a_getr C 0 (r := 49) dX12_pass_98 (by decide) rfl rfl rfl ib_12 (by decide) bw_1022 ?_
  refine a_bipush C 6 dX12_pass_101 (by decide) ?_
  refine a_dup2 C dX12_pass_103 rfl rfl ?_
  refine b_iald C 6 dX12_pass_104 (by decide) rfl (vp_lit (by decide)) (by decide) ?_
  refine a_iconst C 1 dX12_pass_105 (by decide) ?_
  refine a_iadd C dX12_pass_106 ?_
  refine b_iast C 6 dX12_pass_107 (by decide) rfl (vp_lit (by decide)) (by decide) ?_
  refine a_topu (fun z15 ez15 => ?_)
  have h := h z15 ez15
  exact a_vret C dX12_pass_108 h
set_option maxHeartbeats 4000000 in
set_option maxRecDepth 100000 in
theorem tj_X12_pass_31 {p : Program} {l : Launch} {e : Env} {s : State} {m : MethodId} {args : Array Value} {below : List Frame} {meth : Method} {c : Code} {V : VEn} {post : PoS → Prop} (C : CxS p s m args meth c V cX12_pass 4 RX12 none) (v1 : Int32) (s0 : Int32) (u : PoS) (h : wj_X12_pass_31 post v1 s0 u) : AtS p l e (Rm 7) s m args below meth c V 4 0 0 (QV V below args s post) 31 [(0, .ref (eA V 48)), (1, .int v1)] [.int s0] u := by
  rw [wj_X12_pass_31] at h
  refine a_istore_n C [(2, .int s0), (0, .ref (eA V 48)), (1, .int v1)] dX12_pass_31 rfl (by decide) rfl ?_
  refine a_iload_n C 0 dX12_pass_32 rfl rfl ?_
  refine a_if_eq C 44 dX12_pass_33 (by decide) (fun c18 => ?_) (fun c18 => ?_)
  · have h := h.1 c18
    refine a_aload_n C 1 dX12_pass_44 rfl rfl ?_
    refine a_iload_n C 2 dX12_pass_45 rfl rfl ?_
    refine a_callVv C dX12_pass_46 (m_X12_goOn l V h) bw_1463 bw_1465 bw_89 bw_123 bw_1466 (by decide) rfl rfl np_X12_goOn rfl rfl (by decide) (Nat.le_of_ble_eq_true rfl) ⟨Nat.zero_le _, Nat.zero_le _⟩ (fun u4 h => ?_)
    refine a_sub [1, 2, 0] rfl ?_
    refine tj_X12_pass_49 C _ _ _ h
  · have h := h.2 c18
    refine a_aload_n C 1 dX12_pass_36 rfl rfl ?_
    refine a_iload_n C 2 dX12_pass_37 rfl rfl ?_
    refine a_callVv C dX12_pass_38 (m_X12_rain l V h) bw_1451 bw_1453 bw_86 bw_123 bw_1454 (by decide) rfl rfl np_X12_rain rfl rfl (by decide) (Nat.le_of_ble_eq_true rfl) ⟨Nat.zero_le _, Nat.zero_le _⟩ (fun u17 h => ?_)
    refine a_goto C 49 dX12_pass_41 (by decide) ?_
    refine a_sub [1, 2, 0] rfl ?_
    refine tj_X12_pass_49 C _ _ _ h
set_option maxHeartbeats 4000000 in
set_option maxRecDepth 100000 in
theorem tj_X12_pass_30 {p : Program} {l : Launch} {e : Env} {s : State} {m : MethodId} {args : Array Value} {below : List Frame} {meth : Method} {c : Code} {V : VEn} {post : PoS → Prop} (C : CxS p s m args meth c V cX12_pass 4 RX12 none) (v1 : Int32) (u : PoS) (h : wj_X12_pass_30 post v1 u) : AtS p l e (Rm 7) s m args below meth c V 4 0 0 (QV V below args s post) 30 [(0, .ref (eA V 48)), (1, .int v1)] [] u := by
  rw [wj_X12_pass_30] at h
  refine a_iconst C 0 dX12_pass_30 (by decide) ?_
  refine tj_X12_pass_31 C _ _ _ h
theorem np_X12_pass : yX12_pass.cls ≠ "java/lang/invoke/MethodHandle" ∧ yX12_pass.cls ≠ "java/lang/invoke/VarHandle" ∧ (parseMethodDescriptor yX12_pass.desc).map (fun d => d.parameters.length) = some 0 := by decide +kernel
set_option maxHeartbeats 4000000 in
set_option maxRecDepth 100000 in
theorem m_X12_pass (l : Launch) (V : VEn) {u : PoS} {post : PoS → Prop} (h : wp_X12_pass  u post) : KV l V yX12_pass cX12_pass 4 7 [.ref (eA V 48)] u post := by
  refine KV_of (by decide) (Nat.le_of_ble_eq_true rfl) (lv := [(0, .ref (eA V 48))]) rfl ?_
  intro p e s m args below meth c C
  rw [wp_X12_pass] at h
  refine a_aload_n C 0 dX12_pass_0 rfl rfl ?_
  refine a_callVi C dX12_pass_1 (m_X12_goesFor l V h) bw_1387 bw_1389 bw_77 bw_123 bw_1390 (by decide) rfl rfl np_X12_goesFor rfl rfl (by decide) (Nat.le_of_ble_eq_true rfl) ⟨Nat.zero_le _, Nat.zero_le _⟩ (fun r1 u2 h => ?_)
  refine a_istore_n C [(1, .int r1), (0, .ref (eA V 48))] dX12_pass_4 rfl (by decide) rfl ?_
  refine a_iload_n C 0 dX12_pass_5 rfl rfl ?_
  refine a_iconst C (-1) dX12_pass_6 (by decide) ?_
  refine a_icmp_eq C 30 dX12_pass_7 (by decide) (fun c22 => ?_) (fun c22 => ?_)
  · have h := h.1 c22
    refine a_sub [1, 0] rfl ?_
    refine tj_X12_pass_30 C _ _ h
  · have h := h.2 c22
    refine a_aload_n C 1 dX12_pass_10 rfl rfl ?_
    refine a_iload_n C 0 dX12_pass_11 rfl rfl ?_
    refine a_iconst C 0 dX12_pass_12 (by decide) ?_
    refine a_callVi C dX12_pass_13 (m_X12_get l V h) bw_1158 bw_1160 bw_42 bw_123 bw_1161 (by decide) rfl rfl np_X12_get rfl rfl (by decide) (Nat.le_of_ble_eq_true rfl) ⟨Nat.zero_le _, Nat.zero_le _⟩ (fun r19 u20 h => ?_)
    refine a_aload_n C 1 dX12_pass_16 rfl rfl ?_
    refine a_getr C 0 (r := 49) dX12_pass_17 (by decide) rfl rfl rfl ib_12 (by decide) bw_1022 ?_
    refine a_bipush C 7 dX12_pass_20 (by decide) ?_
    refine b_iald C 7 dX12_pass_22 (by decide) rfl (vp_lit (by decide)) (by decide) ?_
    refine a_icmp_ne C 30 dX12_pass_23 (by decide) (fun c21 => ?_) (fun c21 => ?_)
    · have h := h.1 c21
      refine a_sub [1, 0] rfl ?_
      refine tj_X12_pass_30 C _ _ h
    · have h := h.2 c21
      refine a_iconst C 1 dX12_pass_26 (by decide) ?_
      refine a_goto C 31 dX12_pass_27 (by decide) ?_
      refine a_sub [1, 0] rfl ?_
      refine tj_X12_pass_31 C _ _ _ h

/-! RainOnTheOneModel.keep()V -/
def wl_X12_keep_84 (k114 : Int32 → PoS → Prop) (post : PoS → Prop) : Nat → Int32 → Int32 → PoS → Prop
  | 0, _, _, _ => False
  | n + 1, v1, v2, u => ((4 ≤ v2 → k114 v1 u) ∧ (¬ 4 ≤ v2 → vp_in (6 + v2) 3703 ∧ vp_in ((v1 + 1) + v2) 3703 ∧ ∀ z3 : PoS, z3 = pI u 49 (Int32.toNatClampNeg ((v1 + 1) + v2)) (gI u 49 (Int32.toNatClampNeg (6 + v2))) → wl_X12_keep_84 k114 post n v1 (v2 + 1) z3))
def wl_X12_keep_123 (k154 : Int32 → Int32 → PoS → Prop) (post : PoS → Prop) : Nat → Int32 → Int32 → Int32 → PoS → Prop
  | 0, _, _, _, _ => False
  | n + 1, v1, v2, v3, u => ((4 ≤ v3 → k154 v1 v2 u) ∧ (¬ 4 ≤ v3 → wp_X12_get v2 v3 u (fun (r6 : Int32) (u7 : PoS) => vp_in (((v1 + 5) + (4 * v2)) + v3) 3703 ∧ ∀ z8 : PoS, z8 = pI u7 49 (Int32.toNatClampNeg (((v1 + 5) + (4 * v2)) + v3)) r6 → wl_X12_keep_123 k154 post n v1 v2 (v3 + 1) z8)))
def wl_X12_keep_116 (k160 : Int32 → PoS → Prop) (post : PoS → Prop) : Nat → Int32 → Int32 → PoS → Prop
  | 0, _, _, _ => False
  | n + 1, v1, v2, u => ((5 ≤ v2 → k160 v1 u) ∧ (¬ 5 ≤ v2 → (∃ n123, wl_X12_keep_123 (fun (v110 : Int32) (v210 : Int32) (u10 : PoS) => wl_X12_keep_116 k160 post n v110 (v210 + 1) u10) post n123 v1 v2 0 u)))
def wl_X12_keep_162 (k194 : Int32 → PoS → Prop) (post : PoS → Prop) : Nat → Int32 → Int32 → PoS → Prop
  | 0, _, _, _ => False
  | n + 1, v1, v2, u => ((30 ≤ v2 → k194 v1 u) ∧ (¬ 30 ≤ v2 → vp_in (40 + v2) 3703 ∧ vp_in ((v1 + 25) + v2) 3703 ∧ ∀ z13 : PoS, z13 = pI u 49 (Int32.toNatClampNeg ((v1 + 25) + v2)) (gI u 49 (Int32.toNatClampNeg (40 + v2))) → wl_X12_keep_162 k194 post n v1 (v2 + 1) z13))
def wl_X12_keep_196 (k229 : PoS → Prop) (post : PoS → Prop) : Nat → Int32 → Int32 → PoS → Prop
  | 0, _, _, _ => False
  | n + 1, v1, v2, u => ((60 ≤ v2 → k229  u) ∧ (¬ 60 ≤ v2 → vp_in (3643 + v2) 3703 ∧ vp_in ((v1 + 55) + v2) 3703 ∧ ∀ z16 : PoS, z16 = pI u 49 (Int32.toNatClampNeg ((v1 + 55) + v2)) (gI u 49 (Int32.toNatClampNeg (3643 + v2))) → wl_X12_keep_196 k229 post n v1 (v2 + 1) z16))
def wj_X12_keep_56 (post : PoS → Prop) (u : PoS) : Prop := ∀ x1 : Int32, x1 = (193 + (115 * (gI u 49 3))) → vp_in x1 3703 ∧ ∀ z2 : PoS, z2 = pI u 49 (Int32.toNatClampNeg x1) (gI u 49 0) → (∃ n84, wl_X12_keep_84 (fun (v15 : Int32) (u5 : PoS) => (∃ n116, wl_X12_keep_116 (fun (v112 : Int32) (u12 : PoS) => (∃ n162, wl_X12_keep_162 (fun (v115 : Int32) (u15 : PoS) => (∃ n196, wl_X12_keep_196 (fun (u18 : PoS) => ∀ z19 : PoS, z19 = pI u18 49 3 ((gI u18 49 3) + 1) → post z19) post n196 v115 0 u15)) post n162 v112 0 u12)) post n116 v15 0 u5)) post n84 x1 0 z2)
def wl_X12_keep_13 (k46 : PoS → Prop) (post : PoS → Prop) : Nat → Int32 → PoS → Prop
  | 0, _, _ => False
  | n + 1, v1, u => ((3335 ≤ v1 → k46  u) ∧ (¬ 3335 ≤ v1 → vp_in (308 + v1) 3703 ∧ vp_in (193 + v1) 3703 ∧ ∀ z20 : PoS, z20 = pI u 49 (Int32.toNatClampNeg (193 + v1)) (gI u 49 (Int32.toNatClampNeg (308 + v1))) → wl_X12_keep_13 k46 post n (v1 + 1) z20))
def wp_X12_keep (u : PoS) (post : PoS → Prop) : Prop := ((¬ (gI u 49 3) = 30 → wj_X12_keep_56 post  u) ∧ ((gI u 49 3) = 30 → (∃ n13, wl_X12_keep_13 (fun (u22 : PoS) => ∀ z23 : PoS, z23 = pI u22 49 3 ((gI u22 49 3) - 1) → wj_X12_keep_56 post  z23) post n13 0 u)))
set_option maxHeartbeats 4000000 in
set_option maxRecDepth 100000 in
theorem tl_X12_keep_84 {p : Program} {l : Launch} {e : Env} {s : State} {m : MethodId} {args : Array Value} {below : List Frame} {meth : Method} {c : Code} {V : VEn} {k114 : Int32 → PoS → Prop} {post : PoS → Prop} (C : CxS p s m args meth c V cX12_keep 4 RX12 none) (hk114 : ∀ (v1 : Int32) (u : PoS), k114 v1 u → AtS p l e (Rm 1) s m args below meth c V 4 0 0 (QV V below args s post) 114 [(0, .ref (eA V 48)), (1, .int v1)] [] u) : ∀ (n : Nat) (v1 : Int32) (v2 : Int32) (u : PoS), wl_X12_keep_84 k114 post n v1 v2 u → AtS p l e (Rm 1) s m args below meth c V 4 0 0 (QV V below args s post) 84 [(0, .ref (eA V 48)), (1, .int v1), (2, .int v2)] [] u := by
  intro n
  induction n with
  | zero => intro v1 v2 u h; exact h.elim
  | succ n ih =>
    intro v1 v2 u h
    rw [wl_X12_keep_84] at h
    refine a_iload_n C 2 dX12_keep_84 rfl rfl ?_
    refine a_iconst C 4 dX12_keep_85 (by decide) ?_
    refine a_icmp_ge C 114 dX12_keep_86 (by decide) (fun c4 => ?_) (fun c4 => ?_)
    · have h := h.1 c4
      refine a_sub [0, 1] rfl ?_
      exact hk114 _ _ h
    · have h := h.2 c4
      refine a_aload_n C 0 dX12_keep_89 rfl rfl ?_
      refine a_getr C 0 (r := 49) dX12_keep_90 (by decide) rfl rfl rfl ib_12 (by decide) bw_1022 ?_
      refine a_iload_n C 1 dX12_keep_93 rfl rfl ?_
      refine a_iconst C 1 dX12_keep_94 (by decide) ?_
      refine a_iadd C dX12_keep_95 ?_
      refine a_iload_n C 2 dX12_keep_96 rfl rfl ?_
      refine a_iadd C dX12_keep_97 ?_
      refine a_aload_n C 0 dX12_keep_98 rfl rfl ?_
      refine a_getr C 0 (r := 49) dX12_keep_99 (by decide) rfl rfl rfl ib_12 (by decide) bw_1022 ?_
      refine a_bipush C 6 dX12_keep_102 (by decide) ?_
      refine a_iload_n C 2 dX12_keep_104 rfl rfl ?_
      refine a_iadd C dX12_keep_105 ?_
      refine b_iald C (Int32.toNatClampNeg (6 + v2)) dX12_keep_106 (by decide) rfl h.1 rfl ?_
      have h := h.2
      refine b_iast C (Int32.toNatClampNeg ((v1 + 1) + v2)) dX12_keep_107 (by decide) rfl h.1 rfl ?_
      have h := h.2
      refine a_topu (fun z3 ez3 => ?_)
      have h := h z3 ez3
      refine a_iinc C (v2 + 1) 2 [(2, .int (v2 + 1)), (0, .ref (eA V 48)), (1, .int v1)] dX12_keep_108 rfl (congrArg (fun z => v2 + z) (show Int32.ofInt 1 = 1 by decide)) (by decide) rfl ?_
      refine a_goto C 84 dX12_keep_111 (by decide) ?_
      refine a_sub [1, 2, 0] rfl ?_
      exact ih _ _ _ h
set_option maxHeartbeats 4000000 in
set_option maxRecDepth 100000 in
theorem tl_X12_keep_123 {p : Program} {l : Launch} {e : Env} {s : State} {m : MethodId} {args : Array Value} {below : List Frame} {meth : Method} {c : Code} {V : VEn} {k154 : Int32 → Int32 → PoS → Prop} {post : PoS → Prop} (C : CxS p s m args meth c V cX12_keep 4 RX12 none) (hk154 : ∀ (v1 : Int32) (v2 : Int32) (u : PoS), k154 v1 v2 u → AtS p l e (Rm 1) s m args below meth c V 4 0 0 (QV V below args s post) 154 [(0, .ref (eA V 48)), (1, .int v1), (2, .int v2)] [] u) : ∀ (n : Nat) (v1 : Int32) (v2 : Int32) (v3 : Int32) (u : PoS), wl_X12_keep_123 k154 post n v1 v2 v3 u → AtS p l e (Rm 1) s m args below meth c V 4 0 0 (QV V below args s post) 123 [(0, .ref (eA V 48)), (1, .int v1), (2, .int v2), (3, .int v3)] [] u := by
  intro n
  induction n with
  | zero => intro v1 v2 v3 u h; exact h.elim
  | succ n ih =>
    intro v1 v2 v3 u h
    rw [wl_X12_keep_123] at h
    refine a_iload_n C 3 dX12_keep_123 rfl rfl ?_
    refine a_iconst C 4 dX12_keep_124 (by decide) ?_
    refine a_icmp_ge C 154 dX12_keep_125 (by decide) (fun c9 => ?_) (fun c9 => ?_)
    · have h := h.1 c9
      refine a_sub [0, 1, 2] rfl ?_
      exact hk154 _ _ _ h
    · have h := h.2 c9
      refine a_aload_n C 0 dX12_keep_128 rfl rfl ?_
      refine a_getr C 0 (r := 49) dX12_keep_129 (by decide) rfl rfl rfl ib_12 (by decide) bw_1022 ?_
      refine a_iload_n C 1 dX12_keep_132 rfl rfl ?_
      refine a_iconst C 5 dX12_keep_133 (by decide) ?_
      refine a_iadd C dX12_keep_134 ?_
      refine a_iconst C 4 dX12_keep_135 (by decide) ?_
      refine a_iload_n C 2 dX12_keep_136 rfl rfl ?_
      refine a_imul C dX12_keep_137 ?_
      refine a_iadd C dX12_keep_138 ?_
      refine a_iload_n C 3 dX12_keep_139 rfl rfl ?_
      refine a_iadd C dX12_keep_140 ?_
      refine a_aload_n C 0 dX12_keep_141 rfl rfl ?_
      refine a_iload_n C 2 dX12_keep_142 rfl rfl ?_
      refine a_iload_n C 3 dX12_keep_143 rfl rfl ?_
      refine a_callVi C dX12_keep_144 (m_X12_get l V h) bw_1158 bw_1160 bw_42 bw_123 bw_1161 (by decide) rfl rfl np_X12_get rfl rfl (by decide) (Nat.le_of_ble_eq_true rfl) ⟨Nat.zero_le _, Nat.zero_le _⟩ (fun r6 u7 h => ?_)
      refine b_iast C (Int32.toNatClampNeg (((v1 + 5) + (4 * v2)) + v3)) dX12_keep_147 (by decide) rfl h.1 rfl ?_
      have h := h.2
      refine a_topu (fun z8 ez8 => ?_)
      have h := h z8 ez8
      refine a_iinc C (v3 + 1) 3 [(3, .int (v3 + 1)), (0, .ref (eA V 48)), (1, .int v1), (2, .int v2)] dX12_keep_148 rfl (congrArg (fun z => v3 + z) (show Int32.ofInt 1 = 1 by decide)) (by decide) rfl ?_
      refine a_goto C 123 dX12_keep_151 (by decide) ?_
      refine a_sub [1, 2, 3, 0] rfl ?_
      exact ih _ _ _ _ h
set_option maxHeartbeats 4000000 in
set_option maxRecDepth 100000 in
theorem tl_X12_keep_116 {p : Program} {l : Launch} {e : Env} {s : State} {m : MethodId} {args : Array Value} {below : List Frame} {meth : Method} {c : Code} {V : VEn} {k160 : Int32 → PoS → Prop} {post : PoS → Prop} (C : CxS p s m args meth c V cX12_keep 4 RX12 none) (hk160 : ∀ (v1 : Int32) (u : PoS), k160 v1 u → AtS p l e (Rm 1) s m args below meth c V 4 0 0 (QV V below args s post) 160 [(0, .ref (eA V 48)), (1, .int v1)] [] u) : ∀ (n : Nat) (v1 : Int32) (v2 : Int32) (u : PoS), wl_X12_keep_116 k160 post n v1 v2 u → AtS p l e (Rm 1) s m args below meth c V 4 0 0 (QV V below args s post) 116 [(0, .ref (eA V 48)), (1, .int v1), (2, .int v2)] [] u := by
  intro n
  induction n with
  | zero => intro v1 v2 u h; exact h.elim
  | succ n ih =>
    intro v1 v2 u h
    rw [wl_X12_keep_116] at h
    refine a_iload_n C 2 dX12_keep_116 rfl rfl ?_
    refine a_iconst C 5 dX12_keep_117 (by decide) ?_
    refine a_icmp_ge C 160 dX12_keep_118 (by decide) (fun c11 => ?_) (fun c11 => ?_)
    · have h := h.1 c11
      refine a_sub [0, 1] rfl ?_
      exact hk160 _ _ h
    · have h := h.2 c11
      refine a_iconst C 0 dX12_keep_121 (by decide) ?_
      refine a_istore_n C [(3, .int 0), (0, .ref (eA V 48)), (1, .int v1), (2, .int v2)] dX12_keep_122 rfl (by decide) rfl ?_
      refine a_sub [1, 2, 3, 0] rfl ?_
      obtain ⟨n123, h⟩ := h
      refine tl_X12_keep_123 C (fun v110 v210 u10 h => ?_) n123 _ _ _ _ h
      refine a_iinc C (v210 + 1) 2 [(2, .int (v210 + 1)), (0, .ref (eA V 48)), (1, .int v110)] dX12_keep_154 rfl (congrArg (fun z => v210 + z) (show Int32.ofInt 1 = 1 by decide)) (by decide) rfl ?_
      refine a_goto C 116 dX12_keep_157 (by decide) ?_
      refine a_sub [1, 2, 0] rfl ?_
      exact ih _ _ _ h
set_option maxHeartbeats 4000000 in
set_option maxRecDepth 100000 in
theorem tl_X12_keep_162 {p : Program} {l : Launch} {e : Env} {s : State} {m : MethodId} {args : Array Value} {below : List Frame} {meth : Method} {c : Code} {V : VEn} {k194 : Int32 → PoS → Prop} {post : PoS → Prop} (C : CxS p s m args meth c V cX12_keep 4 RX12 none) (hk194 : ∀ (v1 : Int32) (u : PoS), k194 v1 u → AtS p l e (Rm 1) s m args below meth c V 4 0 0 (QV V below args s post) 194 [(0, .ref (eA V 48)), (1, .int v1)] [] u) : ∀ (n : Nat) (v1 : Int32) (v2 : Int32) (u : PoS), wl_X12_keep_162 k194 post n v1 v2 u → AtS p l e (Rm 1) s m args below meth c V 4 0 0 (QV V below args s post) 162 [(0, .ref (eA V 48)), (1, .int v1), (2, .int v2)] [] u := by
  intro n
  induction n with
  | zero => intro v1 v2 u h; exact h.elim
  | succ n ih =>
    intro v1 v2 u h
    rw [wl_X12_keep_162] at h
    refine a_iload_n C 2 dX12_keep_162 rfl rfl ?_
    refine a_bipush C 30 dX12_keep_163 (by decide) ?_
    refine a_icmp_ge C 194 dX12_keep_165 (by decide) (fun c14 => ?_) (fun c14 => ?_)
    · have h := h.1 c14
      refine a_sub [0, 1] rfl ?_
      exact hk194 _ _ h
    · have h := h.2 c14
      refine a_aload_n C 0 dX12_keep_168 rfl rfl ?_
      refine a_getr C 0 (r := 49) dX12_keep_169 (by decide) rfl rfl rfl ib_12 (by decide) bw_1022 ?_
      refine a_iload_n C 1 dX12_keep_172 rfl rfl ?_
      refine a_bipush C 25 dX12_keep_173 (by decide) ?_
      refine a_iadd C dX12_keep_175 ?_
      refine a_iload_n C 2 dX12_keep_176 rfl rfl ?_
      refine a_iadd C dX12_keep_177 ?_
      refine a_aload_n C 0 dX12_keep_178 rfl rfl ?_
      refine a_getr C 0 (r := 49) dX12_keep_179 (by decide) rfl rfl rfl ib_12 (by decide) bw_1022 ?_
      refine a_bipush C 40 dX12_keep_182 (by decide) ?_
      refine a_iload_n C 2 dX12_keep_184 rfl rfl ?_
      refine a_iadd C dX12_keep_185 ?_
      refine b_iald C (Int32.toNatClampNeg (40 + v2)) dX12_keep_186 (by decide) rfl h.1 rfl ?_
      have h := h.2
      refine b_iast C (Int32.toNatClampNeg ((v1 + 25) + v2)) dX12_keep_187 (by decide) rfl h.1 rfl ?_
      have h := h.2
      refine a_topu (fun z13 ez13 => ?_)
      have h := h z13 ez13
      refine a_iinc C (v2 + 1) 2 [(2, .int (v2 + 1)), (0, .ref (eA V 48)), (1, .int v1)] dX12_keep_188 rfl (congrArg (fun z => v2 + z) (show Int32.ofInt 1 = 1 by decide)) (by decide) rfl ?_
      refine a_goto C 162 dX12_keep_191 (by decide) ?_
      refine a_sub [1, 2, 0] rfl ?_
      exact ih _ _ _ h
set_option maxHeartbeats 4000000 in
set_option maxRecDepth 100000 in
theorem tl_X12_keep_196 {p : Program} {l : Launch} {e : Env} {s : State} {m : MethodId} {args : Array Value} {below : List Frame} {meth : Method} {c : Code} {V : VEn} {k229 : PoS → Prop} {post : PoS → Prop} (C : CxS p s m args meth c V cX12_keep 4 RX12 none) (hk229 : ∀ (u : PoS), k229  u → AtS p l e (Rm 1) s m args below meth c V 4 0 0 (QV V below args s post) 229 [(0, .ref (eA V 48))] [] u) : ∀ (n : Nat) (v1 : Int32) (v2 : Int32) (u : PoS), wl_X12_keep_196 k229 post n v1 v2 u → AtS p l e (Rm 1) s m args below meth c V 4 0 0 (QV V below args s post) 196 [(0, .ref (eA V 48)), (1, .int v1), (2, .int v2)] [] u := by
  intro n
  induction n with
  | zero => intro v1 v2 u h; exact h.elim
  | succ n ih =>
    intro v1 v2 u h
    rw [wl_X12_keep_196] at h
    refine a_iload_n C 2 dX12_keep_196 rfl rfl ?_
    refine a_bipush C 60 dX12_keep_197 (by decide) ?_
    refine a_icmp_ge C 229 dX12_keep_199 (by decide) (fun c17 => ?_) (fun c17 => ?_)
    · have h := h.1 c17
      refine a_sub [0] rfl ?_
      exact hk229 _ h
    · have h := h.2 c17
      refine a_aload_n C 0 dX12_keep_202 rfl rfl ?_
      refine a_getr C 0 (r := 49) dX12_keep_203 (by decide) rfl rfl rfl ib_12 (by decide) bw_1022 ?_
      refine a_iload_n C 1 dX12_keep_206 rfl rfl ?_
      refine a_bipush C 55 dX12_keep_207 (by decide) ?_
      refine a_iadd C dX12_keep_209 ?_
      refine a_iload_n C 2 dX12_keep_210 rfl rfl ?_
      refine a_iadd C dX12_keep_211 ?_
      refine a_aload_n C 0 dX12_keep_212 rfl rfl ?_
      refine a_getr C 0 (r := 49) dX12_keep_213 (by decide) rfl rfl rfl ib_12 (by decide) bw_1022 ?_
      refine a_sipush C 3643 dX12_keep_216 (by decide) ?_
      refine a_iload_n C 2 dX12_keep_219 rfl rfl ?_
      refine a_iadd C dX12_keep_220 ?_
      refine b_iald C (Int32.toNatClampNeg (3643 + v2)) dX12_keep_221 (by decide) rfl h.1 rfl ?_
      have h := h.2
      refine b_iast C (Int32.toNatClampNeg ((v1 + 55) + v2)) dX12_keep_222 (by decide) rfl h.1 rfl ?_
      have h := h.2
      refine a_topu (fun z16 ez16 => ?_)
      have h := h z16 ez16
      refine a_iinc C (v2 + 1) 2 [(2, .int (v2 + 1)), (0, .ref (eA V 48)), (1, .int v1)] dX12_keep_223 rfl (congrArg (fun z => v2 + z) (show Int32.ofInt 1 = 1 by decide)) (by decide) rfl ?_
      refine a_goto C 196 dX12_keep_226 (by decide) ?_
      refine a_sub [1, 2, 0] rfl ?_
      exact ih _ _ _ h
set_option maxHeartbeats 4000000 in
set_option maxRecDepth 100000 in
theorem tj_X12_keep_56 {p : Program} {l : Launch} {e : Env} {s : State} {m : MethodId} {args : Array Value} {below : List Frame} {meth : Method} {c : Code} {V : VEn} {post : PoS → Prop} (C : CxS p s m args meth c V cX12_keep 4 RX12 none) (u : PoS) (h : wj_X12_keep_56 post  u) : AtS p l e (Rm 1) s m args below meth c V 4 0 0 (QV V below args s post) 56 [(0, .ref (eA V 48))] [] u := by
  rw [wj_X12_keep_56] at h
  refine a_sipush C 193 dX12_keep_56 (by decide) ?_
  refine a_bipush C 115 dX12_keep_59 (by decide) ?_
  refine a_aload_n C 0 dX12_keep_61 rfl rfl ?_
  refine a_getr C 0 (r := 49) dX12_keep_62 (by decide) rfl rfl rfl ib_12 (by decide) bw_1022 ?_
  refine a_iconst C 3 dX12_keep_65 (by decide) ?_
  refine b_iald C 3 dX12_keep_66 (by decide) rfl (vp_lit (by decide)) (by decide) ?_
  refine a_imul C dX12_keep_67 ?_
  refine a_iadd C dX12_keep_68 ?_
  refine a_topi (fun x1 ex1 => ?_)
  have h := h x1 ex1
  refine a_istore_n C [(1, .int x1), (0, .ref (eA V 48))] dX12_keep_69 rfl (by decide) rfl ?_
  refine a_aload_n C 1 dX12_keep_70 rfl rfl ?_
  refine a_getr C 0 (r := 49) dX12_keep_71 (by decide) rfl rfl rfl ib_12 (by decide) bw_1022 ?_
  refine a_iload_n C 0 dX12_keep_74 rfl rfl ?_
  refine a_aload_n C 1 dX12_keep_75 rfl rfl ?_
  refine a_getr C 0 (r := 49) dX12_keep_76 (by decide) rfl rfl rfl ib_12 (by decide) bw_1022 ?_
  refine a_iconst C 0 dX12_keep_79 (by decide) ?_
  refine b_iald C 0 dX12_keep_80 (by decide) rfl (vp_lit (by decide)) (by decide) ?_
  refine b_iast C (Int32.toNatClampNeg x1) dX12_keep_81 (by decide) rfl h.1 rfl ?_
  have h := h.2
  refine a_topu (fun z2 ez2 => ?_)
  have h := h z2 ez2
  refine a_iconst C 0 dX12_keep_82 (by decide) ?_
  refine a_istore_n C [(2, .int 0), (1, .int x1), (0, .ref (eA V 48))] dX12_keep_83 rfl (by decide) rfl ?_
  refine a_sub [2, 1, 0] rfl ?_
  obtain ⟨n84, h⟩ := h
  refine tl_X12_keep_84 C (fun v15 u5 h => ?_) n84 _ _ _ h
  refine a_iconst C 0 dX12_keep_114 (by decide) ?_
  refine a_istore_n C [(2, .int 0), (0, .ref (eA V 48)), (1, .int v15)] dX12_keep_115 rfl (by decide) rfl ?_
  refine a_sub [1, 2, 0] rfl ?_
  obtain ⟨n116, h⟩ := h
  refine tl_X12_keep_116 C (fun v112 u12 h => ?_) n116 _ _ _ h
  refine a_iconst C 0 dX12_keep_160 (by decide) ?_
  refine a_istore_n C [(2, .int 0), (0, .ref (eA V 48)), (1, .int v112)] dX12_keep_161 rfl (by decide) rfl ?_
  refine a_sub [1, 2, 0] rfl ?_
  obtain ⟨n162, h⟩ := h
  refine tl_X12_keep_162 C (fun v115 u15 h => ?_) n162 _ _ _ h
  refine a_iconst C 0 dX12_keep_194 (by decide) ?_
  refine a_istore_n C [(2, .int 0), (0, .ref (eA V 48)), (1, .int v115)] dX12_keep_195 rfl (by decide) rfl ?_
  refine a_sub [1, 2, 0] rfl ?_
  obtain ⟨n196, h⟩ := h
  refine tl_X12_keep_196 C (fun u18 h => ?_) n196 _ _ _ h
  refine a_aload_n C 0 dX12_keep_229 rfl rfl ?_
  refine a_getr C 0 (r := 49) dX12_keep_230 (by decide) rfl rfl rfl ib_12 (by decide) bw_1022 ?_
  refine a_iconst C 3 dX12_keep_233 (by decide) ?_
  refine a_dup2 C dX12_keep_234 rfl rfl ?_
  refine b_iald C 3 dX12_keep_235 (by decide) rfl (vp_lit (by decide)) (by decide) ?_
  refine a_iconst C 1 dX12_keep_236 (by decide) ?_
  refine a_iadd C dX12_keep_237 ?_
  refine b_iast C 3 dX12_keep_238 (by decide) rfl (vp_lit (by decide)) (by decide) ?_
  refine a_topu (fun z19 ez19 => ?_)
  have h := h z19 ez19
  exact a_vret C dX12_keep_239 h
set_option maxHeartbeats 4000000 in
set_option maxRecDepth 100000 in
theorem tl_X12_keep_13 {p : Program} {l : Launch} {e : Env} {s : State} {m : MethodId} {args : Array Value} {below : List Frame} {meth : Method} {c : Code} {V : VEn} {k46 : PoS → Prop} {post : PoS → Prop} (C : CxS p s m args meth c V cX12_keep 4 RX12 none) (hk46 : ∀ (u : PoS), k46  u → AtS p l e (Rm 1) s m args below meth c V 4 0 0 (QV V below args s post) 46 [(0, .ref (eA V 48))] [] u) : ∀ (n : Nat) (v1 : Int32) (u : PoS), wl_X12_keep_13 k46 post n v1 u → AtS p l e (Rm 1) s m args below meth c V 4 0 0 (QV V below args s post) 13 [(0, .ref (eA V 48)), (1, .int v1)] [] u := by
  intro n
  induction n with
  | zero => intro v1 u h; exact h.elim
  | succ n ih =>
    intro v1 u h
    rw [wl_X12_keep_13] at h
    refine a_iload_n C 1 dX12_keep_13 rfl rfl ?_
    refine a_sipush C 3335 dX12_keep_14 (by decide) ?_
    refine a_icmp_ge C 46 dX12_keep_17 (by decide) (fun c21 => ?_) (fun c21 => ?_)
    · have h := h.1 c21
      refine a_sub [0] rfl ?_
      exact hk46 _ h
    · have h := h.2 c21
      refine a_aload_n C 0 dX12_keep_20 rfl rfl ?_
      refine a_getr C 0 (r := 49) dX12_keep_21 (by decide) rfl rfl rfl ib_12 (by decide) bw_1022 ?_
      refine a_sipush C 193 dX12_keep_24 (by decide) ?_
      refine a_iload_n C 1 dX12_keep_27 rfl rfl ?_
      refine a_iadd C dX12_keep_28 ?_
      refine a_aload_n C 0 dX12_keep_29 rfl rfl ?_
      refine a_getr C 0 (r := 49) dX12_keep_30 (by decide) rfl rfl rfl ib_12 (by decide) bw_1022 ?_
      refine a_sipush C 308 dX12_keep_33 (by decide) ?_
      refine a_iload_n C 1 dX12_keep_36 rfl rfl ?_
      refine a_iadd C dX12_keep_37 ?_
      refine b_iald C (Int32.toNatClampNeg (308 + v1)) dX12_keep_38 (by decide) rfl h.1 rfl ?_
      have h := h.2
      refine b_iast C (Int32.toNatClampNeg (193 + v1)) dX12_keep_39 (by decide) rfl h.1 rfl ?_
      have h := h.2
      refine a_topu (fun z20 ez20 => ?_)
      have h := h z20 ez20
      refine a_iinc C (v1 + 1) 1 [(1, .int (v1 + 1)), (0, .ref (eA V 48))] dX12_keep_40 rfl (congrArg (fun z => v1 + z) (show Int32.ofInt 1 = 1 by decide)) (by decide) rfl ?_
      refine a_goto C 13 dX12_keep_43 (by decide) ?_
      refine a_sub [1, 0] rfl ?_
      exact ih _ _ h
theorem np_X12_keep : yX12_keep.cls ≠ "java/lang/invoke/MethodHandle" ∧ yX12_keep.cls ≠ "java/lang/invoke/VarHandle" ∧ (parseMethodDescriptor yX12_keep.desc).map (fun d => d.parameters.length) = some 0 := by decide +kernel
set_option maxHeartbeats 4000000 in
set_option maxRecDepth 100000 in
theorem m_X12_keep (l : Launch) (V : VEn) {u : PoS} {post : PoS → Prop} (h : wp_X12_keep  u post) : KV l V yX12_keep cX12_keep 4 1 [.ref (eA V 48)] u post := by
  refine KV_of (by decide) (Nat.le_of_ble_eq_true rfl) (lv := [(0, .ref (eA V 48))]) rfl ?_
  intro p e s m args below meth c C
  rw [wp_X12_keep] at h
  refine a_aload_n C 0 dX12_keep_0 rfl rfl ?_
  refine a_getr C 0 (r := 49) dX12_keep_1 (by decide) rfl rfl rfl ib_12 (by decide) bw_1022 ?_
  refine a_iconst C 3 dX12_keep_4 (by decide) ?_
  refine b_iald C 3 dX12_keep_5 (by decide) rfl (vp_lit (by decide)) (by decide) ?_
  refine a_bipush C 30 dX12_keep_6 (by decide) ?_
  refine a_icmp_ne C 56 dX12_keep_8 (by decide) (fun c24 => ?_) (fun c24 => ?_)
  · have h := h.1 c24
    refine tj_X12_keep_56 C _ h
  · have h := h.2 c24
    refine a_iconst C 0 dX12_keep_11 (by decide) ?_
    refine a_istore_n C [(1, .int 0), (0, .ref (eA V 48))] dX12_keep_12 rfl (by decide) rfl ?_
    refine a_sub [1, 0] rfl ?_
    obtain ⟨n13, h⟩ := h
    refine tl_X12_keep_13 C (fun u22 h => ?_) n13 _ _ h
    refine a_aload_n C 0 dX12_keep_46 rfl rfl ?_
    refine a_getr C 0 (r := 49) dX12_keep_47 (by decide) rfl rfl rfl ib_12 (by decide) bw_1022 ?_
    refine a_iconst C 3 dX12_keep_50 (by decide) ?_
    refine a_dup2 C dX12_keep_51 rfl rfl ?_
    refine b_iald C 3 dX12_keep_52 (by decide) rfl (vp_lit (by decide)) (by decide) ?_
    refine a_iconst C 1 dX12_keep_53 (by decide) ?_
    refine a_isub C dX12_keep_54 ?_
    refine b_iast C 3 dX12_keep_55 (by decide) rfl (vp_lit (by decide)) (by decide) ?_
    refine a_topu (fun z23 ez23 => ?_)
    have h := h z23 ez23
    refine tj_X12_keep_56 C _ h

/-! RainOnTheOneModel.undo()I -/
def wl_X12_undo_37 (k67 : Int32 → PoS → Prop) (post : Int32 → PoS → Prop) : Nat → Int32 → Int32 → PoS → Prop
  | 0, _, _, _ => False
  | n + 1, v1, v2, u => ((4 ≤ v2 → k67 v1 u) ∧ (¬ 4 ≤ v2 → vp_in ((v1 + 1) + v2) 3703 ∧ vp_in (6 + v2) 3703 ∧ ∀ z3 : PoS, z3 = pI u 49 (Int32.toNatClampNeg (6 + v2)) (gI u 49 (Int32.toNatClampNeg ((v1 + 1) + v2))) → wl_X12_undo_37 k67 post n v1 (v2 + 1) z3))
def wl_X12_undo_96 (k137 : Int32 → Int32 → PoS → Prop) (post : Int32 → PoS → Prop) : Nat → Int32 → Int32 → Int32 → PoS → Prop
  | 0, _, _, _, _ => False
  | n + 1, v1, v2, v3, u => ((4 ≤ v3 → k137 v1 v2 u) ∧ (¬ 4 ≤ v3 → vp_in v1 3703 ∧ (((gI u 49 (Int32.toNatClampNeg v1)) ≤ v2 → k137 v1 v2 u) ∧ (¬ (gI u 49 (Int32.toNatClampNeg v1)) ≤ v2 → vp_in (((v1 + 5) + (4 * v2)) + v3) 3703 ∧ wp_X12_put v2 v3 (gI u 49 (Int32.toNatClampNeg (((v1 + 5) + (4 * v2)) + v3))) u (fun (u7 : PoS) => wl_X12_undo_96 k137 post n v1 v2 (v3 + 1) u7)))))
def wj_X12_undo_137 (k69 : Int32 → Int32 → PoS → Prop) (post : Int32 → PoS → Prop) (v1 : Int32) (v2 : Int32) (u : PoS) : Prop := k69 v1 (v2 + 1) u
def wj_X12_undo_94 (k69 : Int32 → Int32 → PoS → Prop) (post : Int32 → PoS → Prop) (v1 : Int32) (v2 : Int32) (u : PoS) : Prop := (∃ n96, wl_X12_undo_96 (fun (v110 : Int32) (v210 : Int32) (u10 : PoS) => wj_X12_undo_137 k69 post v110 v210 u10) post n96 v1 v2 0 u)
def wl_X12_undo_69 (k143 : Int32 → PoS → Prop) (post : Int32 → PoS → Prop) : Nat → Int32 → Int32 → PoS → Prop
  | 0, _, _, _ => False
  | n + 1, v1, v2, u => (((gI u 49 0) ≤ v2 → k143 v1 u) ∧ (¬ (gI u 49 0) ≤ v2 → vp_in v1 3703 ∧ ((v2 < (gI u 49 (Int32.toNatClampNeg v1)) → wj_X12_undo_94 (wl_X12_undo_69 k143 post n) post v1 v2 u) ∧ (¬ v2 < (gI u 49 (Int32.toNatClampNeg v1)) → wp_X12_begin v2 u (fun (u12 : PoS) => wj_X12_undo_94 (wl_X12_undo_69 k143 post n) post v1 v2 u12)))))
def wl_X12_undo_145 (k177 : Int32 → PoS → Prop) (post : Int32 → PoS → Prop) : Nat → Int32 → Int32 → PoS → Prop
  | 0, _, _, _ => False
  | n + 1, v1, v2, u => ((30 ≤ v2 → k177 v1 u) ∧ (¬ 30 ≤ v2 → vp_in ((v1 + 25) + v2) 3703 ∧ vp_in (40 + v2) 3703 ∧ ∀ z16 : PoS, z16 = pI u 49 (Int32.toNatClampNeg (40 + v2)) (gI u 49 (Int32.toNatClampNeg ((v1 + 25) + v2))) → wl_X12_undo_145 k177 post n v1 (v2 + 1) z16))
def wl_X12_undo_179 (post : Int32 → PoS → Prop) : Nat → Int32 → Int32 → PoS → Prop
  | 0, _, _, _ => False
  | n + 1, v1, v2, u => ((60 ≤ v2 → post (gI u 49 3) u) ∧ (¬ 60 ≤ v2 → vp_in ((v1 + 55) + v2) 3703 ∧ vp_in (3643 + v2) 3703 ∧ ∀ z19 : PoS, z19 = pI u 49 (Int32.toNatClampNeg (3643 + v2)) (gI u 49 (Int32.toNatClampNeg ((v1 + 55) + v2))) → wl_X12_undo_179 post n v1 (v2 + 1) z19))
def wp_X12_undo (u : PoS) (post : Int32 → PoS → Prop) : Prop := ((¬ (gI u 49 3) = 0 → ∀ z1 : PoS, z1 = pI u 49 3 ((gI u 49 3) - 1) → ∀ x2 : Int32, x2 = (193 + (115 * (gI z1 49 3))) → (∃ n37, wl_X12_undo_37 (fun (v15 : Int32) (u5 : PoS) => (∃ n69, wl_X12_undo_69 (fun (v115 : Int32) (u15 : PoS) => (∃ n145, wl_X12_undo_145 (fun (v118 : Int32) (u18 : PoS) => (∃ n179, wl_X12_undo_179 post n179 v118 0 u18)) post n145 v115 0 u15)) post n69 v15 0 u5)) post n37 x2 0 z1)) ∧ ((gI u 49 3) = 0 → post (-1) u))
set_option maxHeartbeats 4000000 in
set_option maxRecDepth 100000 in
theorem tl_X12_undo_37 {p : Program} {l : Launch} {e : Env} {s : State} {m : MethodId} {args : Array Value} {below : List Frame} {meth : Method} {c : Code} {V : VEn} {k67 : Int32 → PoS → Prop} {post : Int32 → PoS → Prop} (C : CxS p s m args meth c V cX12_undo 4 RX12 (some .int)) (hk67 : ∀ (v1 : Int32) (u : PoS), k67 v1 u → AtS p l e (Rm 2) s m args below meth c V 4 0 0 (QI V below args s post) 67 [(0, .ref (eA V 48)), (1, .int v1)] [] u) : ∀ (n : Nat) (v1 : Int32) (v2 : Int32) (u : PoS), wl_X12_undo_37 k67 post n v1 v2 u → AtS p l e (Rm 2) s m args below meth c V 4 0 0 (QI V below args s post) 37 [(0, .ref (eA V 48)), (1, .int v1), (2, .int v2)] [] u := by
  intro n
  induction n with
  | zero => intro v1 v2 u h; exact h.elim
  | succ n ih =>
    intro v1 v2 u h
    rw [wl_X12_undo_37] at h
    refine a_iload_n C 2 dX12_undo_37 rfl rfl ?_
    refine a_iconst C 4 dX12_undo_38 (by decide) ?_
    refine a_icmp_ge C 67 dX12_undo_39 (by decide) (fun c4 => ?_) (fun c4 => ?_)
    · have h := h.1 c4
      refine a_sub [0, 1] rfl ?_
      exact hk67 _ _ h
    · have h := h.2 c4
      refine a_aload_n C 0 dX12_undo_42 rfl rfl ?_
      refine a_getr C 0 (r := 49) dX12_undo_43 (by decide) rfl rfl rfl ib_12 (by decide) bw_1022 ?_
      refine a_bipush C 6 dX12_undo_46 (by decide) ?_
      refine a_iload_n C 2 dX12_undo_48 rfl rfl ?_
      refine a_iadd C dX12_undo_49 ?_
      refine a_aload_n C 0 dX12_undo_50 rfl rfl ?_
      refine a_getr C 0 (r := 49) dX12_undo_51 (by decide) rfl rfl rfl ib_12 (by decide) bw_1022 ?_
      refine a_iload_n C 1 dX12_undo_54 rfl rfl ?_
      refine a_iconst C 1 dX12_undo_55 (by decide) ?_
      refine a_iadd C dX12_undo_56 ?_
      refine a_iload_n C 2 dX12_undo_57 rfl rfl ?_
      refine a_iadd C dX12_undo_58 ?_
      refine b_iald C (Int32.toNatClampNeg ((v1 + 1) + v2)) dX12_undo_59 (by decide) rfl h.1 rfl ?_
      have h := h.2
      refine b_iast C (Int32.toNatClampNeg (6 + v2)) dX12_undo_60 (by decide) rfl h.1 rfl ?_
      have h := h.2
      refine a_topu (fun z3 ez3 => ?_)
      have h := h z3 ez3
      refine a_iinc C (v2 + 1) 2 [(2, .int (v2 + 1)), (0, .ref (eA V 48)), (1, .int v1)] dX12_undo_61 rfl (congrArg (fun z => v2 + z) (show Int32.ofInt 1 = 1 by decide)) (by decide) rfl ?_
      refine a_goto C 37 dX12_undo_64 (by decide) ?_
      refine a_sub [1, 2, 0] rfl ?_
      exact ih _ _ _ h
set_option maxHeartbeats 4000000 in
set_option maxRecDepth 100000 in
theorem tl_X12_undo_96 {p : Program} {l : Launch} {e : Env} {s : State} {m : MethodId} {args : Array Value} {below : List Frame} {meth : Method} {c : Code} {V : VEn} {k137 : Int32 → Int32 → PoS → Prop} {post : Int32 → PoS → Prop} (C : CxS p s m args meth c V cX12_undo 4 RX12 (some .int)) (hk137 : ∀ (v1 : Int32) (v2 : Int32) (u : PoS), k137 v1 v2 u → AtS p l e (Rm 2) s m args below meth c V 4 0 0 (QI V below args s post) 137 [(0, .ref (eA V 48)), (1, .int v1), (2, .int v2)] [] u) : ∀ (n : Nat) (v1 : Int32) (v2 : Int32) (v3 : Int32) (u : PoS), wl_X12_undo_96 k137 post n v1 v2 v3 u → AtS p l e (Rm 2) s m args below meth c V 4 0 0 (QI V below args s post) 96 [(0, .ref (eA V 48)), (1, .int v1), (2, .int v2), (3, .int v3)] [] u := by
  intro n
  induction n with
  | zero => intro v1 v2 v3 u h; exact h.elim
  | succ n ih =>
    intro v1 v2 v3 u h
    rw [wl_X12_undo_96] at h
    refine a_iload_n C 3 dX12_undo_96 rfl rfl ?_
    refine a_iconst C 4 dX12_undo_97 (by decide) ?_
    refine a_icmp_ge C 137 dX12_undo_98 (by decide) (fun c9 => ?_) (fun c9 => ?_)
    · have h := h.1 c9
      refine a_sub [0, 1, 2] rfl ?_
      exact hk137 _ _ _ h
    · have h := h.2 c9
      refine a_iload_n C 2 dX12_undo_101 rfl rfl ?_
      refine a_aload_n C 0 dX12_undo_102 rfl rfl ?_
      refine a_getr C 0 (r := 49) dX12_undo_103 (by decide) rfl rfl rfl ib_12 (by decide) bw_1022 ?_
      refine a_iload_n C 1 dX12_undo_106 rfl rfl ?_
      refine b_iald C (Int32.toNatClampNeg v1) dX12_undo_107 (by decide) rfl h.1 rfl ?_
      have h := h.2
      refine a_icmp_ge C 137 dX12_undo_108 (by decide) (fun c8 => ?_) (fun c8 => ?_)
      · have h := h.1 c8
        refine a_sub [0, 1, 2] rfl ?_
        exact hk137 _ _ _ h
      · have h := h.2 c8
        refine a_aload_n C 0 dX12_undo_111 rfl rfl ?_
        refine a_iload_n C 2 dX12_undo_112 rfl rfl ?_
        refine a_iload_n C 3 dX12_undo_113 rfl rfl ?_
        refine a_aload_n C 0 dX12_undo_114 rfl rfl ?_
        refine a_getr C 0 (r := 49) dX12_undo_115 (by decide) rfl rfl rfl ib_12 (by decide) bw_1022 ?_
        refine a_iload_n C 1 dX12_undo_118 rfl rfl ?_
        refine a_iconst C 5 dX12_undo_119 (by decide) ?_
        refine a_iadd C dX12_undo_120 ?_
        refine a_iconst C 4 dX12_undo_121 (by decide) ?_
        refine a_iload_n C 2 dX12_undo_122 rfl rfl ?_
        refine a_imul C dX12_undo_123 ?_
        refine a_iadd C dX12_undo_124 ?_
        refine a_iload_n C 3 dX12_undo_125 rfl rfl ?_
        refine a_iadd C dX12_undo_126 ?_
        refine b_iald C (Int32.toNatClampNeg (((v1 + 5) + (4 * v2)) + v3)) dX12_undo_127 (by decide) rfl h.1 rfl ?_
        have h := h.2
        refine a_callVv C dX12_undo_128 (m_X12_put l V h) bw_1150 bw_1152 bw_40 bw_123 bw_1153 (by decide) rfl rfl np_X12_put rfl rfl (by decide) (Nat.le_of_ble_eq_true rfl) ⟨Nat.zero_le _, Nat.zero_le _⟩ (fun u7 h => ?_)
        refine a_iinc C (v3 + 1) 3 [(3, .int (v3 + 1)), (0, .ref (eA V 48)), (1, .int v1), (2, .int v2)] dX12_undo_131 rfl (congrArg (fun z => v3 + z) (show Int32.ofInt 1 = 1 by decide)) (by decide) rfl ?_
        refine a_goto C 96 dX12_undo_134 (by decide) ?_
        refine a_sub [1, 2, 3, 0] rfl ?_
        exact ih _ _ _ _ h
set_option maxHeartbeats 4000000 in
set_option maxRecDepth 100000 in
theorem tj_X12_undo_137 {p : Program} {l : Launch} {e : Env} {s : State} {m : MethodId} {args : Array Value} {below : List Frame} {meth : Method} {c : Code} {V : VEn} {k69 : Int32 → Int32 → PoS → Prop} {post : Int32 → PoS → Prop} (C : CxS p s m args meth c V cX12_undo 4 RX12 (some .int)) (hk69 : ∀ (v1 : Int32) (v2 : Int32) (u : PoS), k69 v1 v2 u → AtS p l e (Rm 2) s m args below meth c V 4 0 0 (QI V below args s post) 69 [(0, .ref (eA V 48)), (1, .int v1), (2, .int v2)] [] u) (v1 : Int32) (v2 : Int32) (u : PoS) (h : wj_X12_undo_137 k69 post v1 v2 u) : AtS p l e (Rm 2) s m args below meth c V 4 0 0 (QI V below args s post) 137 [(0, .ref (eA V 48)), (1, .int v1), (2, .int v2)] [] u := by
  rw [wj_X12_undo_137] at h
  refine a_iinc C (v2 + 1) 2 [(2, .int (v2 + 1)), (0, .ref (eA V 48)), (1, .int v1)] dX12_undo_137 rfl (congrArg (fun z => v2 + z) (show Int32.ofInt 1 = 1 by decide)) (by decide) rfl ?_
  refine a_goto C 69 dX12_undo_140 (by decide) ?_
  refine a_sub [1, 2, 0] rfl ?_
  exact hk69 _ _ _ h
set_option maxHeartbeats 4000000 in
set_option maxRecDepth 100000 in
theorem tj_X12_undo_94 {p : Program} {l : Launch} {e : Env} {s : State} {m : MethodId} {args : Array Value} {below : List Frame} {meth : Method} {c : Code} {V : VEn} {k69 : Int32 → Int32 → PoS → Prop} {post : Int32 → PoS → Prop} (C : CxS p s m args meth c V cX12_undo 4 RX12 (some .int)) (hk69 : ∀ (v1 : Int32) (v2 : Int32) (u : PoS), k69 v1 v2 u → AtS p l e (Rm 2) s m args below meth c V 4 0 0 (QI V below args s post) 69 [(0, .ref (eA V 48)), (1, .int v1), (2, .int v2)] [] u) (v1 : Int32) (v2 : Int32) (u : PoS) (h : wj_X12_undo_94 k69 post v1 v2 u) : AtS p l e (Rm 2) s m args below meth c V 4 0 0 (QI V below args s post) 94 [(0, .ref (eA V 48)), (1, .int v1), (2, .int v2)] [] u := by
  rw [wj_X12_undo_94] at h
  refine a_iconst C 0 dX12_undo_94 (by decide) ?_
  refine a_istore_n C [(3, .int 0), (0, .ref (eA V 48)), (1, .int v1), (2, .int v2)] dX12_undo_95 rfl (by decide) rfl ?_
  refine a_sub [1, 2, 3, 0] rfl ?_
  obtain ⟨n96, h⟩ := h
  refine tl_X12_undo_96 C (fun v110 v210 u10 h => ?_) n96 _ _ _ _ h
  refine tj_X12_undo_137 C hk69 _ _ _ h
set_option maxHeartbeats 4000000 in
set_option maxRecDepth 100000 in
theorem tl_X12_undo_69 {p : Program} {l : Launch} {e : Env} {s : State} {m : MethodId} {args : Array Value} {below : List Frame} {meth : Method} {c : Code} {V : VEn} {k143 : Int32 → PoS → Prop} {post : Int32 → PoS → Prop} (C : CxS p s m args meth c V cX12_undo 4 RX12 (some .int)) (hk143 : ∀ (v1 : Int32) (u : PoS), k143 v1 u → AtS p l e (Rm 2) s m args below meth c V 4 0 0 (QI V below args s post) 143 [(0, .ref (eA V 48)), (1, .int v1)] [] u) : ∀ (n : Nat) (v1 : Int32) (v2 : Int32) (u : PoS), wl_X12_undo_69 k143 post n v1 v2 u → AtS p l e (Rm 2) s m args below meth c V 4 0 0 (QI V below args s post) 69 [(0, .ref (eA V 48)), (1, .int v1), (2, .int v2)] [] u := by
  intro n
  induction n with
  | zero => intro v1 v2 u h; exact h.elim
  | succ n ih =>
    intro v1 v2 u h
    rw [wl_X12_undo_69] at h
    refine a_iload_n C 2 dX12_undo_69 rfl rfl ?_
    refine a_aload_n C 0 dX12_undo_70 rfl rfl ?_
    refine a_getr C 0 (r := 49) dX12_undo_71 (by decide) rfl rfl rfl ib_12 (by decide) bw_1022 ?_
    refine a_iconst C 0 dX12_undo_74 (by decide) ?_
    refine b_iald C 0 dX12_undo_75 (by decide) rfl (vp_lit (by decide)) (by decide) ?_
    refine a_icmp_ge C 143 dX12_undo_76 (by decide) (fun c14 => ?_) (fun c14 => ?_)
    · have h := h.1 c14
      refine a_sub [0, 1] rfl ?_
      exact hk143 _ _ h
    · have h := h.2 c14
      refine a_iload_n C 2 dX12_undo_79 rfl rfl ?_
      refine a_aload_n C 0 dX12_undo_80 rfl rfl ?_
      refine a_getr C 0 (r := 49) dX12_undo_81 (by decide) rfl rfl rfl ib_12 (by decide) bw_1022 ?_
      refine a_iload_n C 1 dX12_undo_84 rfl rfl ?_
      refine b_iald C (Int32.toNatClampNeg v1) dX12_undo_85 (by decide) rfl h.1 rfl ?_
      have h := h.2
      refine a_icmp_lt C 94 dX12_undo_86 (by decide) (fun c13 => ?_) (fun c13 => ?_)
      · have h := h.1 c13
        refine tj_X12_undo_94 C ih _ _ _ h
      · have h := h.2 c13
        refine a_aload_n C 0 dX12_undo_89 rfl rfl ?_
        refine a_iload_n C 2 dX12_undo_90 rfl rfl ?_
        refine a_callVv C dX12_undo_91 (m_X12_begin l V h) bw_1154 bw_1156 bw_41 bw_123 bw_1157 (by decide) rfl rfl np_X12_begin rfl rfl (by decide) (Nat.le_of_ble_eq_true rfl) ⟨Nat.zero_le _, Nat.zero_le _⟩ (fun u12 h => ?_)
        refine tj_X12_undo_94 C ih _ _ _ h
set_option maxHeartbeats 4000000 in
set_option maxRecDepth 100000 in
theorem tl_X12_undo_145 {p : Program} {l : Launch} {e : Env} {s : State} {m : MethodId} {args : Array Value} {below : List Frame} {meth : Method} {c : Code} {V : VEn} {k177 : Int32 → PoS → Prop} {post : Int32 → PoS → Prop} (C : CxS p s m args meth c V cX12_undo 4 RX12 (some .int)) (hk177 : ∀ (v1 : Int32) (u : PoS), k177 v1 u → AtS p l e (Rm 2) s m args below meth c V 4 0 0 (QI V below args s post) 177 [(0, .ref (eA V 48)), (1, .int v1)] [] u) : ∀ (n : Nat) (v1 : Int32) (v2 : Int32) (u : PoS), wl_X12_undo_145 k177 post n v1 v2 u → AtS p l e (Rm 2) s m args below meth c V 4 0 0 (QI V below args s post) 145 [(0, .ref (eA V 48)), (1, .int v1), (2, .int v2)] [] u := by
  intro n
  induction n with
  | zero => intro v1 v2 u h; exact h.elim
  | succ n ih =>
    intro v1 v2 u h
    rw [wl_X12_undo_145] at h
    refine a_iload_n C 2 dX12_undo_145 rfl rfl ?_
    refine a_bipush C 30 dX12_undo_146 (by decide) ?_
    refine a_icmp_ge C 177 dX12_undo_148 (by decide) (fun c17 => ?_) (fun c17 => ?_)
    · have h := h.1 c17
      refine a_sub [0, 1] rfl ?_
      exact hk177 _ _ h
    · have h := h.2 c17
      refine a_aload_n C 0 dX12_undo_151 rfl rfl ?_
      refine a_getr C 0 (r := 49) dX12_undo_152 (by decide) rfl rfl rfl ib_12 (by decide) bw_1022 ?_
      refine a_bipush C 40 dX12_undo_155 (by decide) ?_
      refine a_iload_n C 2 dX12_undo_157 rfl rfl ?_
      refine a_iadd C dX12_undo_158 ?_
      refine a_aload_n C 0 dX12_undo_159 rfl rfl ?_
      refine a_getr C 0 (r := 49) dX12_undo_160 (by decide) rfl rfl rfl ib_12 (by decide) bw_1022 ?_
      refine a_iload_n C 1 dX12_undo_163 rfl rfl ?_
      refine a_bipush C 25 dX12_undo_164 (by decide) ?_
      refine a_iadd C dX12_undo_166 ?_
      refine a_iload_n C 2 dX12_undo_167 rfl rfl ?_
      refine a_iadd C dX12_undo_168 ?_
      refine b_iald C (Int32.toNatClampNeg ((v1 + 25) + v2)) dX12_undo_169 (by decide) rfl h.1 rfl ?_
      have h := h.2
      refine b_iast C (Int32.toNatClampNeg (40 + v2)) dX12_undo_170 (by decide) rfl h.1 rfl ?_
      have h := h.2
      refine a_topu (fun z16 ez16 => ?_)
      have h := h z16 ez16
      refine a_iinc C (v2 + 1) 2 [(2, .int (v2 + 1)), (0, .ref (eA V 48)), (1, .int v1)] dX12_undo_171 rfl (congrArg (fun z => v2 + z) (show Int32.ofInt 1 = 1 by decide)) (by decide) rfl ?_
      refine a_goto C 145 dX12_undo_174 (by decide) ?_
      refine a_sub [1, 2, 0] rfl ?_
      exact ih _ _ _ h
set_option maxHeartbeats 4000000 in
set_option maxRecDepth 100000 in
theorem tl_X12_undo_179 {p : Program} {l : Launch} {e : Env} {s : State} {m : MethodId} {args : Array Value} {below : List Frame} {meth : Method} {c : Code} {V : VEn} {post : Int32 → PoS → Prop} (C : CxS p s m args meth c V cX12_undo 4 RX12 (some .int)) : ∀ (n : Nat) (v1 : Int32) (v2 : Int32) (u : PoS), wl_X12_undo_179 post n v1 v2 u → AtS p l e (Rm 2) s m args below meth c V 4 0 0 (QI V below args s post) 179 [(0, .ref (eA V 48)), (1, .int v1), (2, .int v2)] [] u := by
  intro n
  induction n with
  | zero => intro v1 v2 u h; exact h.elim
  | succ n ih =>
    intro v1 v2 u h
    rw [wl_X12_undo_179] at h
    refine a_iload_n C 2 dX12_undo_179 rfl rfl ?_
    refine a_bipush C 60 dX12_undo_180 (by decide) ?_
    refine a_icmp_ge C 212 dX12_undo_182 (by decide) (fun c20 => ?_) (fun c20 => ?_)
    · have h := h.1 c20
      refine a_aload_n C 0 dX12_undo_212 rfl rfl ?_
      refine a_getr C 0 (r := 49) dX12_undo_213 (by decide) rfl rfl rfl ib_12 (by decide) bw_1022 ?_
      refine a_iconst C 3 dX12_undo_216 (by decide) ?_
      refine b_iald C 3 dX12_undo_217 (by decide) rfl (vp_lit (by decide)) (by decide) ?_
      exact a_iret C dX12_undo_218 h
    · have h := h.2 c20
      refine a_aload_n C 0 dX12_undo_185 rfl rfl ?_
      refine a_getr C 0 (r := 49) dX12_undo_186 (by decide) rfl rfl rfl ib_12 (by decide) bw_1022 ?_
      refine a_sipush C 3643 dX12_undo_189 (by decide) ?_
      refine a_iload_n C 2 dX12_undo_192 rfl rfl ?_
      refine a_iadd C dX12_undo_193 ?_
      refine a_aload_n C 0 dX12_undo_194 rfl rfl ?_
      refine a_getr C 0 (r := 49) dX12_undo_195 (by decide) rfl rfl rfl ib_12 (by decide) bw_1022 ?_
      refine a_iload_n C 1 dX12_undo_198 rfl rfl ?_
      refine a_bipush C 55 dX12_undo_199 (by decide) ?_
      refine a_iadd C dX12_undo_201 ?_
      refine a_iload_n C 2 dX12_undo_202 rfl rfl ?_
      refine a_iadd C dX12_undo_203 ?_
      refine b_iald C (Int32.toNatClampNeg ((v1 + 55) + v2)) dX12_undo_204 (by decide) rfl h.1 rfl ?_
      have h := h.2
      refine b_iast C (Int32.toNatClampNeg (3643 + v2)) dX12_undo_205 (by decide) rfl h.1 rfl ?_
      have h := h.2
      refine a_topu (fun z19 ez19 => ?_)
      have h := h z19 ez19
      refine a_iinc C (v2 + 1) 2 [(2, .int (v2 + 1)), (0, .ref (eA V 48)), (1, .int v1)] dX12_undo_206 rfl (congrArg (fun z => v2 + z) (show Int32.ofInt 1 = 1 by decide)) (by decide) rfl ?_
      refine a_goto C 179 dX12_undo_209 (by decide) ?_
      refine a_sub [1, 2, 0] rfl ?_
      exact ih _ _ _ h
theorem np_X12_undo : yX12_undo.cls ≠ "java/lang/invoke/MethodHandle" ∧ yX12_undo.cls ≠ "java/lang/invoke/VarHandle" ∧ (parseMethodDescriptor yX12_undo.desc).map (fun d => d.parameters.length) = some 0 := by decide +kernel
set_option maxHeartbeats 4000000 in
set_option maxRecDepth 100000 in
theorem m_X12_undo (l : Launch) (V : VEn) {u : PoS} {post : Int32 → PoS → Prop} (h : wp_X12_undo  u post) : KI l V yX12_undo cX12_undo 4 .int 2 [.ref (eA V 48)] u post := by
  refine KI_of (by decide) (Nat.le_of_ble_eq_true rfl) (lv := [(0, .ref (eA V 48))]) rfl ?_
  intro p e s m args below meth c C
  rw [wp_X12_undo] at h
  refine a_aload_n C 0 dX12_undo_0 rfl rfl ?_
  refine a_getr C 0 (r := 49) dX12_undo_1 (by decide) rfl rfl rfl ib_12 (by decide) bw_1022 ?_
  refine a_iconst C 3 dX12_undo_4 (by decide) ?_
  refine b_iald C 3 dX12_undo_5 (by decide) rfl (vp_lit (by decide)) (by decide) ?_
  refine a_if_ne C 11 dX12_undo_6 (by decide) (fun c21 => ?_) (fun c21 => ?_)
  · have h := h.1 c21
    refine a_aload_n C 0 dX12_undo_11 rfl rfl ?_
    refine a_getr C 0 (r := 49) dX12_undo_12 (by decide) rfl rfl rfl ib_12 (by decide) bw_1022 ?_
    refine a_iconst C 3 dX12_undo_15 (by decide) ?_
    refine a_dup2 C dX12_undo_16 rfl rfl ?_
    refine b_iald C 3 dX12_undo_17 (by decide) rfl (vp_lit (by decide)) (by decide) ?_
    refine a_iconst C 1 dX12_undo_18 (by decide) ?_
    refine a_isub C dX12_undo_19 ?_
    refine b_iast C 3 dX12_undo_20 (by decide) rfl (vp_lit (by decide)) (by decide) ?_
    refine a_topu (fun z1 ez1 => ?_)
    have h := h z1 ez1
    refine a_sipush C 193 dX12_undo_21 (by decide) ?_
    refine a_bipush C 115 dX12_undo_24 (by decide) ?_
    refine a_aload_n C 0 dX12_undo_26 rfl rfl ?_
    refine a_getr C 0 (r := 49) dX12_undo_27 (by decide) rfl rfl rfl ib_12 (by decide) bw_1022 ?_
    refine a_iconst C 3 dX12_undo_30 (by decide) ?_
    refine b_iald C 3 dX12_undo_31 (by decide) rfl (vp_lit (by decide)) (by decide) ?_
    refine a_imul C dX12_undo_32 ?_
    refine a_iadd C dX12_undo_33 ?_
    refine a_topi (fun x2 ex2 => ?_)
    have h := h x2 ex2
    refine a_istore_n C [(1, .int x2), (0, .ref (eA V 48))] dX12_undo_34 rfl (by decide) rfl ?_
    refine a_iconst C 0 dX12_undo_35 (by decide) ?_
    refine a_istore_n C [(2, .int 0), (1, .int x2), (0, .ref (eA V 48))] dX12_undo_36 rfl (by decide) rfl ?_
    refine a_sub [2, 1, 0] rfl ?_
    obtain ⟨n37, h⟩ := h
    refine tl_X12_undo_37 C (fun v15 u5 h => ?_) n37 _ _ _ h
    refine a_iconst C 0 dX12_undo_67 (by decide) ?_
    refine a_istore_n C [(2, .int 0), (0, .ref (eA V 48)), (1, .int v15)] dX12_undo_68 rfl (by decide) rfl ?_
    refine a_sub [1, 2, 0] rfl ?_
    obtain ⟨n69, h⟩ := h
    refine tl_X12_undo_69 C (fun v115 u15 h => ?_) n69 _ _ _ h
    refine a_iconst C 0 dX12_undo_143 (by decide) ?_
    refine a_istore_n C [(2, .int 0), (0, .ref (eA V 48)), (1, .int v115)] dX12_undo_144 rfl (by decide) rfl ?_
    refine a_sub [1, 2, 0] rfl ?_
    obtain ⟨n145, h⟩ := h
    refine tl_X12_undo_145 C (fun v118 u18 h => ?_) n145 _ _ _ h
    refine a_iconst C 0 dX12_undo_177 (by decide) ?_
    refine a_istore_n C [(2, .int 0), (0, .ref (eA V 48)), (1, .int v118)] dX12_undo_178 rfl (by decide) rfl ?_
    refine a_sub [1, 2, 0] rfl ?_
    obtain ⟨n179, h⟩ := h
    refine tl_X12_undo_179 C n179 _ _ _ h
  · have h := h.2 c21
    refine a_iconst C (-1) dX12_undo_9 (by decide) ?_
    exact a_iret C dX12_undo_10 h

/-! RainOnTheOneModel.canWalk(II)Z -/
def wp_X12_canWalk (a0 : Int32) (a1 : Int32) (u : PoS) (post : Int32 → PoS → Prop) : Prop := wp_X12_isPerson a0 u (fun (r1 : Int32) (u2 : PoS) => ((r1 = 0 → post 0 u2) ∧ (¬ r1 = 0 → wp_X12_isFree a1 u2 (fun (r3 : Int32) (u4 : PoS) => ((r3 = 0 → post 0 u4) ∧ (¬ r3 = 0 → wp_X12_get a0 0 u4 (fun (r5 : Int32) (u6 : PoS) => wp_X12_beside r5 u6 (fun (r7 : Int32) (u8 : PoS) => wp_X12_has r7 a1 u8 (fun (r9 : Int32) (u10 : PoS) => ((r9 = 0 → post 0 u10) ∧ (¬ r9 = 0 → post 1 u10)))))))))))
theorem np_X12_canWalk : yX12_canWalk.cls ≠ "java/lang/invoke/MethodHandle" ∧ yX12_canWalk.cls ≠ "java/lang/invoke/VarHandle" ∧ (parseMethodDescriptor yX12_canWalk.desc).map (fun d => d.parameters.length) = some 2 := by decide +kernel
set_option maxHeartbeats 4000000 in
set_option maxRecDepth 100000 in
theorem m_X12_canWalk (l : Launch) (V : VEn) {a0 : Int32} {a1 : Int32} {u : PoS} {post : Int32 → PoS → Prop} (h : wp_X12_canWalk a0 a1 u post) : KI l V yX12_canWalk cX12_canWalk 3 .boolean 3 [.ref (eA V 48), .int a0, .int a1] u post := by
  refine KI_of (by decide) (Nat.le_of_ble_eq_true rfl) (lv := [(0, .ref (eA V 48)), (1, .int a0), (2, .int a1)]) rfl ?_
  intro p e s m args below meth c C
  rw [wp_X12_canWalk] at h
  refine a_aload_n C 0 dX12_canWalk_0 rfl rfl ?_
  refine a_iload_n C 1 dX12_canWalk_1 rfl rfl ?_
  refine a_callVi C dX12_canWalk_2 (m_X12_isPerson l V h) bw_1342 bw_1344 bw_71 bw_123 bw_1345 (by decide) rfl rfl np_X12_isPerson rfl rfl (by decide) (Nat.le_of_ble_eq_true rfl) ⟨Nat.zero_le _, Nat.zero_le _⟩ (fun r1 u2 h => ?_)
  refine a_if_eq C 36 dX12_canWalk_5 (by decide) (fun c13 => ?_) (fun c13 => ?_)
  · have h := h.1 c13
    refine a_iconst C 0 dX12_canWalk_36 (by decide) ?_
    exact a_zret C rfl dX12_canWalk_37 h
  · have h := h.2 c13
    refine a_aload_n C 0 dX12_canWalk_8 rfl rfl ?_
    refine a_iload_n C 2 dX12_canWalk_9 rfl rfl ?_
    refine a_callVi C dX12_canWalk_10 (m_X12_isFree l V h) bw_1140 bw_1142 bw_39 bw_123 bw_1143 (by decide) rfl rfl np_X12_isFree rfl rfl (by decide) (Nat.le_of_ble_eq_true rfl) ⟨Nat.zero_le _, Nat.zero_le _⟩ (fun r3 u4 h => ?_)
    refine a_if_eq C 36 dX12_canWalk_13 (by decide) (fun c12 => ?_) (fun c12 => ?_)
    · have h := h.1 c12
      refine a_iconst C 0 dX12_canWalk_36 (by decide) ?_
      exact a_zret C rfl dX12_canWalk_37 h
    · have h := h.2 c12
      refine a_aload_n C 0 dX12_canWalk_16 rfl rfl ?_
      refine a_iload_n C 1 dX12_canWalk_17 rfl rfl ?_
      refine a_iconst C 0 dX12_canWalk_18 (by decide) ?_
      refine a_callVi C dX12_canWalk_19 (m_X12_get l V h) bw_1158 bw_1160 bw_42 bw_123 bw_1161 (by decide) rfl rfl np_X12_get rfl rfl (by decide) (Nat.le_of_ble_eq_true rfl) ⟨Nat.zero_le _, Nat.zero_le _⟩ (fun r5 u6 h => ?_)
      refine a_callSi C dX12_canWalk_22 (m_X12_beside l V h) bw_1346 bw_1347 bw_123 bw_1348 np_X12_beside rfl rfl (by decide) (Nat.le_of_ble_eq_true rfl) ⟨Nat.zero_le _, Nat.zero_le _⟩ (fun r7 u8 h => ?_)
      refine a_iload_n C 2 dX12_canWalk_25 rfl rfl ?_
      refine a_callSi C dX12_canWalk_26 (m_X12_has l V h) bw_1240 bw_1241 bw_123 bw_1242 np_X12_has rfl rfl (by decide) (Nat.le_of_ble_eq_true rfl) ⟨Nat.zero_le _, Nat.zero_le _⟩ (fun r9 u10 h => ?_)
      refine a_if_eq C 36 dX12_canWalk_29 (by decide) (fun c11 => ?_) (fun c11 => ?_)
      · have h := h.1 c11
        refine a_iconst C 0 dX12_canWalk_36 (by decide) ?_
        exact a_zret C rfl dX12_canWalk_37 h
      · have h := h.2 c11
        refine a_iconst C 1 dX12_canWalk_32 (by decide) ?_
        refine a_goto C 37 dX12_canWalk_33 (by decide) ?_
        exact a_zret C rfl dX12_canWalk_37 h

/-! RainOnTheOneModel.walk(II)Z -/
def wp_X12_walk (a0 : Int32) (a1 : Int32) (u : PoS) (post : Int32 → PoS → Prop) : Prop := wp_X12_canWalk a0 a1 u (fun (r1 : Int32) (u2 : PoS) => ((¬ r1 = 0 → wp_X12_keep u2 (fun (u4 : PoS) => wp_X12_put a0 0 a1 u4 (fun (u6 : PoS) => post 1 u6))) ∧ (r1 = 0 → post 0 u2)))
theorem np_X12_walk : yX12_walk.cls ≠ "java/lang/invoke/MethodHandle" ∧ yX12_walk.cls ≠ "java/lang/invoke/VarHandle" ∧ (parseMethodDescriptor yX12_walk.desc).map (fun d => d.parameters.length) = some 2 := by decide +kernel
set_option maxHeartbeats 4000000 in
set_option maxRecDepth 100000 in
theorem m_X12_walk (l : Launch) (V : VEn) {a0 : Int32} {a1 : Int32} {u : PoS} {post : Int32 → PoS → Prop} (h : wp_X12_walk a0 a1 u post) : KI l V yX12_walk cX12_walk 3 .boolean 4 [.ref (eA V 48), .int a0, .int a1] u post := by
  refine KI_of (by decide) (Nat.le_of_ble_eq_true rfl) (lv := [(0, .ref (eA V 48)), (1, .int a0), (2, .int a1)]) rfl ?_
  intro p e s m args below meth c C
  rw [wp_X12_walk] at h
  refine a_aload_n C 0 dX12_walk_0 rfl rfl ?_
  refine a_iload_n C 1 dX12_walk_1 rfl rfl ?_
  refine a_iload_n C 2 dX12_walk_2 rfl rfl ?_
  refine a_callVi C dX12_walk_3 (m_X12_canWalk l V h) bw_1338 bw_1340 bw_70 bw_123 bw_1341 (by decide) rfl rfl np_X12_canWalk rfl rfl (by decide) (Nat.le_of_ble_eq_true rfl) ⟨Nat.zero_le _, Nat.zero_le _⟩ (fun r1 u2 h => ?_)
  refine a_if_ne C 11 dX12_walk_6 (by decide) (fun c7 => ?_) (fun c7 => ?_)
  · have h := h.1 c7
    refine a_aload_n C 0 dX12_walk_11 rfl rfl ?_
    refine a_callVv C dX12_walk_12 (m_X12_keep l V h) bw_1352 bw_1354 bw_72 bw_123 bw_1355 (by decide) rfl rfl np_X12_keep rfl rfl (by decide) (Nat.le_of_ble_eq_true rfl) ⟨Nat.zero_le _, Nat.zero_le _⟩ (fun u4 h => ?_)
    refine a_aload_n C 0 dX12_walk_15 rfl rfl ?_
    refine a_iload_n C 1 dX12_walk_16 rfl rfl ?_
    refine a_iconst C 0 dX12_walk_17 (by decide) ?_
    refine a_iload_n C 2 dX12_walk_18 rfl rfl ?_
    refine a_callVv C dX12_walk_19 (m_X12_put l V h) bw_1150 bw_1152 bw_40 bw_123 bw_1153 (by decide) rfl rfl np_X12_put rfl rfl (by decide) (Nat.le_of_ble_eq_true rfl) ⟨Nat.zero_le _, Nat.zero_le _⟩ (fun u6 h => ?_)
    refine a_iconst C 1 dX12_walk_22 (by decide) ?_
    exact a_zret C rfl dX12_walk_23 h
  · have h := h.2 c7
    refine a_iconst C 0 dX12_walk_9 (by decide) ?_
    exact a_zret C rfl dX12_walk_10 h

/-! RainOnTheOneModel.hat(IZ)Z -/
def wj_X12_hat_45 (post : Int32 → PoS → Prop) (s0 : Int32) (s1 : Int32) (s2 : Int32) (u : PoS) : Prop := wp_X12_put s2 s1 s0 u (fun (u8 : PoS) => post 1 u8)
def wj_X12_hat_23 (post : Int32 → PoS → Prop) (v1 : Int32) (v2 : Int32) (s0 : Int32) (u : PoS) : Prop := ((¬ s0 = v2 → wp_X12_keep u (fun (u6 : PoS) => ((v2 = 0 → wj_X12_hat_45 post 0 1 v1 u6) ∧ (¬ v2 = 0 → wj_X12_hat_45 post 1 1 v1 u6)))) ∧ (s0 = v2 → post 0 u))
def wp_X12_hat (a0 : Int32) (a1 : Int32) (u : PoS) (post : Int32 → PoS → Prop) : Prop := wp_X12_isPerson a0 u (fun (r1 : Int32) (u2 : PoS) => ((r1 = 0 → post 0 u2) ∧ (¬ r1 = 0 → wp_X12_get a0 1 u2 (fun (r3 : Int32) (u4 : PoS) => ((¬ r3 = 1 → wj_X12_hat_23 post a0 a1 0 u4) ∧ (r3 = 1 → wj_X12_hat_23 post a0 a1 1 u4))))))
set_option maxHeartbeats 4000000 in
set_option maxRecDepth 100000 in
theorem tj_X12_hat_45 {p : Program} {l : Launch} {e : Env} {s : State} {m : MethodId} {args : Array Value} {below : List Frame} {meth : Method} {c : Code} {V : VEn} {post : Int32 → PoS → Prop} (C : CxS p s m args meth c V cX12_hat 3 RX12 (some .boolean)) (s0 : Int32) (s1 : Int32) (s2 : Int32) (u : PoS) (h : wj_X12_hat_45 post s0 s1 s2 u) : AtS p l e (Rm 2) s m args below meth c V 3 0 0 (QI V below args s post) 45 [] [.int s0, .int s1, .int s2, .ref (eA V 48)] u := by
  rw [wj_X12_hat_45] at h
  refine a_callVv C dX12_hat_45 (m_X12_put l V h) bw_1150 bw_1152 bw_40 bw_123 bw_1153 (by decide) rfl rfl np_X12_put rfl rfl (by decide) (Nat.le_of_ble_eq_true rfl) ⟨Nat.zero_le _, Nat.zero_le _⟩ (fun u8 h => ?_)
  refine a_iconst C 1 dX12_hat_48 (by decide) ?_
  exact a_zret C rfl dX12_hat_49 h
set_option maxHeartbeats 4000000 in
set_option maxRecDepth 100000 in
theorem tj_X12_hat_23 {p : Program} {l : Launch} {e : Env} {s : State} {m : MethodId} {args : Array Value} {below : List Frame} {meth : Method} {c : Code} {V : VEn} {post : Int32 → PoS → Prop} (C : CxS p s m args meth c V cX12_hat 3 RX12 (some .boolean)) (v1 : Int32) (v2 : Int32) (s0 : Int32) (u : PoS) (h : wj_X12_hat_23 post v1 v2 s0 u) : AtS p l e (Rm 2) s m args below meth c V 3 0 0 (QI V below args s post) 23 [(0, .ref (eA V 48)), (1, .int v1), (2, .int v2)] [.int s0] u := by
  rw [wj_X12_hat_23] at h
  refine a_iload_n C 2 dX12_hat_23 rfl rfl ?_
  refine a_icmp_ne C 29 dX12_hat_24 (by decide) (fun c10 => ?_) (fun c10 => ?_)
  · have h := h.1 c10
    refine a_aload_n C 0 dX12_hat_29 rfl rfl ?_
    refine a_callVv C dX12_hat_30 (m_X12_keep l V h) bw_1352 bw_1354 bw_72 bw_123 bw_1355 (by decide) rfl rfl np_X12_keep rfl rfl (by decide) (Nat.le_of_ble_eq_true rfl) ⟨Nat.zero_le _, Nat.zero_le _⟩ (fun u6 h => ?_)
    refine a_aload_n C 0 dX12_hat_33 rfl rfl ?_
    refine a_iload_n C 1 dX12_hat_34 rfl rfl ?_
    refine a_iconst C 1 dX12_hat_35 (by decide) ?_
    refine a_iload_n C 2 dX12_hat_36 rfl rfl ?_
    refine a_if_eq C 44 dX12_hat_37 (by decide) (fun c9 => ?_) (fun c9 => ?_)
    · have h := h.1 c9
      refine a_iconst C 0 dX12_hat_44 (by decide) ?_
      refine a_sub [] rfl ?_
      refine tj_X12_hat_45 C _ _ _ _ h
    · have h := h.2 c9
      refine a_iconst C 1 dX12_hat_40 (by decide) ?_
      refine a_goto C 45 dX12_hat_41 (by decide) ?_
      refine a_sub [] rfl ?_
      refine tj_X12_hat_45 C _ _ _ _ h
  · have h := h.2 c10
    refine a_iconst C 0 dX12_hat_27 (by decide) ?_
    exact a_zret C rfl dX12_hat_28 h
theorem np_X12_hat : yX12_hat.cls ≠ "java/lang/invoke/MethodHandle" ∧ yX12_hat.cls ≠ "java/lang/invoke/VarHandle" ∧ (parseMethodDescriptor yX12_hat.desc).map (fun d => d.parameters.length) = some 2 := by decide +kernel
set_option maxHeartbeats 4000000 in
set_option maxRecDepth 100000 in
theorem m_X12_hat (l : Launch) (V : VEn) {a0 : Int32} {a1 : Int32} {u : PoS} {post : Int32 → PoS → Prop} (h : wp_X12_hat a0 a1 u post) : KI l V yX12_hat cX12_hat 3 .boolean 2 [.ref (eA V 48), .int a0, .int a1] u post := by
  refine KI_of (by decide) (Nat.le_of_ble_eq_true rfl) (lv := [(0, .ref (eA V 48)), (1, .int a0), (2, .int a1)]) rfl ?_
  intro p e s m args below meth c C
  rw [wp_X12_hat] at h
  refine a_aload_n C 0 dX12_hat_0 rfl rfl ?_
  refine a_iload_n C 1 dX12_hat_1 rfl rfl ?_
  refine a_callVi C dX12_hat_2 (m_X12_isPerson l V h) bw_1342 bw_1344 bw_71 bw_123 bw_1345 (by decide) rfl rfl np_X12_isPerson rfl rfl (by decide) (Nat.le_of_ble_eq_true rfl) ⟨Nat.zero_le _, Nat.zero_le _⟩ (fun r1 u2 h => ?_)
  refine a_if_eq C 27 dX12_hat_5 (by decide) (fun c12 => ?_) (fun c12 => ?_)
  · have h := h.1 c12
    refine a_iconst C 0 dX12_hat_27 (by decide) ?_
    exact a_zret C rfl dX12_hat_28 h
  · have h := h.2 c12
    refine a_aload_n C 0 dX12_hat_8 rfl rfl ?_
    refine a_iload_n C 1 dX12_hat_9 rfl rfl ?_
    refine a_iconst C 1 dX12_hat_10 (by decide) ?_
    refine a_callVi C dX12_hat_11 (m_X12_get l V h) bw_1158 bw_1160 bw_42 bw_123 bw_1161 (by decide) rfl rfl np_X12_get rfl rfl (by decide) (Nat.le_of_ble_eq_true rfl) ⟨Nat.zero_le _, Nat.zero_le _⟩ (fun r3 u4 h => ?_)
    refine a_iconst C 1 dX12_hat_14 (by decide) ?_
    refine a_icmp_ne C 22 dX12_hat_15 (by decide) (fun c11 => ?_) (fun c11 => ?_)
    · have h := h.1 c11
      refine a_iconst C 0 dX12_hat_22 (by decide) ?_
      refine tj_X12_hat_23 C _ _ _ _ h
    · have h := h.2 c11
      refine a_iconst C 1 dX12_hat_18 (by decide) ?_
      refine a_goto C 23 dX12_hat_19 (by decide) ?_
      refine tj_X12_hat_23 C _ _ _ _ h
