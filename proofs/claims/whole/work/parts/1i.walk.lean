/-! RainOnTheOne$Reader.readLaw(I)V -/
def wj_X6_readLaw_52 (post : PoS → Prop) (v1 : Int32) (u : PoS) : Prop := ∃ i3, i3 < 4 ∧ gR u 27 8 = 7 + i3 ∧ wp_X3_addClause i3 v1 0 0 u (fun (u5 : PoS) => wp_X6_advance u5 (fun (u7 : PoS) => wp_X6_readSum 12 u7 (fun (u9 : PoS) => ∃ i10, i10 < 4 ∧ gR u9 27 8 = 7 + i10 ∧ wp_X3_addCode i10 48 0 u9 (fun (u12 : PoS) => post u12))))
def wj_X6_readLaw_11 (post : PoS → Prop) (v1 : Int32) (s0 : Int32) (u : PoS) : Prop := IsB s0 ∧ (((gI (pI u 27 10 s0) 27 10) = 0 → ∃ i1, i1 < 4 ∧ gR (pI u 27 10 s0) 27 8 = 7 + i1 ∧ ∃ i2, i2 < 4 ∧ gR (pI u 27 10 s0) 27 8 = 7 + i2 ∧ wj_X6_readLaw_52 post v1 (pI (pI u 27 10 s0) (7 + i1) 6 (gI (pI u 27 10 s0) (7 + i2) 5))) ∧ (¬ (gI (pI u 27 10 s0) 27 10) = 0 → ∃ i13, i13 < 4 ∧ gR (pI u 27 10 s0) 27 8 = 7 + i13 ∧ ∃ i14, i14 < 4 ∧ gR (pI u 27 10 s0) 27 8 = 7 + i14 ∧ wj_X6_readLaw_52 post v1 (pI (pI u 27 10 s0) (7 + i13) 7 (gI (pI u 27 10 s0) (7 + i14) 5))))
def wp_X6_readLaw (a0 : Int32) (u : PoS) (post : PoS → Prop) : Prop := ((¬ a0 = 1 → wj_X6_readLaw_11 post a0 0 u) ∧ (a0 = 1 → wj_X6_readLaw_11 post a0 1 u))
set_option maxHeartbeats 4000000 in
set_option maxRecDepth 100000 in
theorem tj_X6_readLaw_52 {p : Program} {l : Launch} {e : Env} {s : State} {m : MethodId} {args : Array Value} {below : List Frame} {meth : Method} {c : Code} {V : VEn} {post : PoS → Prop} (C : CxS p s m args meth c V cX6_readLaw 2 RX6 none) (v1 : Int32) (u : PoS) (h : wj_X6_readLaw_52 post v1 u) : AtS p l e (Rm 74) s m args below meth c V 2 0 0 (QV V below args s post) 52 [(0, .ref (eA V 27)), (1, .int v1)] [] u := by
  rw [wj_X6_readLaw_52] at h
  refine a_aload_n C 0 dX6_readLaw_52 rfl rfl ?_
  refine a_getd C 8 dX6_readLaw_53 (by decide) rfl rfl rfl ib_6 (by decide) bw_300 ?_
  obtain ⟨i3, hi3, hri3, h⟩ := h
  rw [hri3]
  refine a_iload_n C 1 dX6_readLaw_56 rfl rfl ?_
  refine a_iconst C 0 dX6_readLaw_57 (by decide) ?_
  refine a_iconst C 0 dX6_readLaw_58 (by decide) ?_
  refine a_callVv C dX6_readLaw_59 (m_X3_addClause l V hi3 h) bw_534 bw_535 bw_536 bw_117 bw_537 (by have := hi3; omega) (lw_obj hi3) rfl np_X3_addClause rfl rfl (by decide) (Nat.le_of_ble_eq_true rfl) ⟨Nat.zero_le _, Nat.zero_le _⟩ (fun u5 h => ?_)
  refine a_aload_n C 0 dX6_readLaw_62 rfl rfl ?_
  refine a_callVv C dX6_readLaw_63 (m_X6_advance l V h) bw_538 bw_540 bw_6 bw_119 bw_541 (by decide) rfl rfl np_X6_advance rfl rfl (by decide) (Nat.le_of_ble_eq_true rfl) ⟨Nat.zero_le _, Nat.zero_le _⟩ (fun u7 h => ?_)
  refine a_aload_n C 0 dX6_readLaw_66 rfl rfl ?_
  refine a_callVv C dX6_readLaw_67 (m_X6_readSum l V 12 _ _ h) bw_542 bw_544 bw_7 bw_119 bw_545 (by decide) rfl rfl np_X6_readSum rfl rfl (by decide) (Nat.le_of_ble_eq_true rfl) ⟨Nat.zero_le _, Nat.zero_le _⟩ (fun u9 h => ?_)
  refine a_aload_n C 0 dX6_readLaw_70 rfl rfl ?_
  refine a_getd C 8 dX6_readLaw_71 (by decide) rfl rfl rfl ib_6 (by decide) bw_300 ?_
  obtain ⟨i10, hi10, hri10, h⟩ := h
  rw [hri10]
  refine a_bipush C 48 dX6_readLaw_74 (by decide) ?_
  refine a_iconst C 0 dX6_readLaw_76 (by decide) ?_
  refine a_callVv C dX6_readLaw_77 (m_X3_addCode l V hi10 h) bw_559 bw_560 bw_561 bw_117 bw_562 (by have := hi10; omega) (lw_obj hi10) rfl np_X3_addCode rfl rfl (by decide) (Nat.le_of_ble_eq_true rfl) ⟨Nat.zero_le _, Nat.zero_le _⟩ (fun u12 h => ?_)
  exact a_vret C dX6_readLaw_80 h
set_option maxHeartbeats 4000000 in
set_option maxRecDepth 100000 in
theorem tj_X6_readLaw_11 {p : Program} {l : Launch} {e : Env} {s : State} {m : MethodId} {args : Array Value} {below : List Frame} {meth : Method} {c : Code} {V : VEn} {post : PoS → Prop} (C : CxS p s m args meth c V cX6_readLaw 2 RX6 none) (v1 : Int32) (s0 : Int32) (u : PoS) (h : wj_X6_readLaw_11 post v1 s0 u) : AtS p l e (Rm 74) s m args below meth c V 2 0 0 (QV V below args s post) 11 [(0, .ref (eA V 27)), (1, .int v1)] [.int s0, .ref (eA V 27)] u := by
  rw [wj_X6_readLaw_11] at h
  refine a_puti C (ty := .boolean) 10 dX6_readLaw_11 (by decide) rfl rfl rfl ib_6 (by decide) bw_302 tyX6 tyX6_ok nmX6 rfl (by decide +kernel) (isB_n h.1) (isB_f h.1) ?_
  have h := h.2
  refine a_aload_n C 0 dX6_readLaw_14 rfl rfl ?_
  refine a_geti C 10 dX6_readLaw_15 (by decide) rfl rfl rfl ib_6 (by decide) bw_302 ?_
  refine a_if_eq C 38 dX6_readLaw_18 (by decide) (fun c15 => ?_) (fun c15 => ?_)
  · have h := h.1 c15
    refine a_aload_n C 0 dX6_readLaw_38 rfl rfl ?_
    refine a_getd C 8 dX6_readLaw_39 (by decide) rfl rfl rfl ib_6 (by decide) bw_300 ?_
    obtain ⟨i1, hi1, hri1, h⟩ := h
    rw [hri1]
    refine a_aload_n C 0 dX6_readLaw_42 rfl rfl ?_
    refine a_getd C 8 dX6_readLaw_43 (by decide) rfl rfl rfl ib_6 (by decide) bw_300 ?_
    obtain ⟨i2, hi2, hri2, h⟩ := h
    rw [hri2]
    refine a_geti C 5 dX6_readLaw_46 (by have := hi2; omega) (lw_obj hi2) rfl rfl ib_3 (by decide) bw_250 ?_
    refine a_puti C (ty := .int) 6 dX6_readLaw_49 (by have := hi1; omega) (lw_obj hi1) rfl rfl ib_3 (by decide) bw_253 tyX3 tyX3_ok nmX3 rfl (by decide +kernel) rfl rfl ?_
    refine tj_X6_readLaw_52 C _ _ h
  · have h := h.2 c15
    refine a_aload_n C 0 dX6_readLaw_21 rfl rfl ?_
    refine a_getd C 8 dX6_readLaw_22 (by decide) rfl rfl rfl ib_6 (by decide) bw_300 ?_
    obtain ⟨i13, hi13, hri13, h⟩ := h
    rw [hri13]
    refine a_aload_n C 0 dX6_readLaw_25 rfl rfl ?_
    refine a_getd C 8 dX6_readLaw_26 (by decide) rfl rfl rfl ib_6 (by decide) bw_300 ?_
    obtain ⟨i14, hi14, hri14, h⟩ := h
    rw [hri14]
    refine a_geti C 5 dX6_readLaw_29 (by have := hi14; omega) (lw_obj hi14) rfl rfl ib_3 (by decide) bw_250 ?_
    refine a_puti C (ty := .int) 7 dX6_readLaw_32 (by have := hi13; omega) (lw_obj hi13) rfl rfl ib_3 (by decide) bw_256 tyX3 tyX3_ok nmX3 rfl (by decide +kernel) rfl rfl ?_
    refine a_goto C 52 dX6_readLaw_35 (by decide) ?_
    refine tj_X6_readLaw_52 C _ _ h
theorem np_X6_readLaw : yX6_readLaw.cls ≠ "java/lang/invoke/MethodHandle" ∧ yX6_readLaw.cls ≠ "java/lang/invoke/VarHandle" ∧ (parseMethodDescriptor yX6_readLaw.desc).map (fun d => d.parameters.length) = some 1 := by decide +kernel
set_option maxHeartbeats 4000000 in
set_option maxRecDepth 100000 in
theorem m_X6_readLaw (l : Launch) (V : VEn) {a0 : Int32} {u : PoS} {post : PoS → Prop} (h : wp_X6_readLaw a0 u post) : KV l V yX6_readLaw cX6_readLaw 2 74 [.ref (eA V 27), .int a0] u post := by
  refine KV_of (by decide) (Nat.le_of_ble_eq_true rfl) (lv := [(0, .ref (eA V 27)), (1, .int a0)]) rfl ?_
  intro p e s m args below meth c C
  rw [wp_X6_readLaw] at h
  refine a_aload_n C 0 dX6_readLaw_0 rfl rfl ?_
  refine a_iload_n C 1 dX6_readLaw_1 rfl rfl ?_
  refine a_iconst C 1 dX6_readLaw_2 (by decide) ?_
  refine a_icmp_ne C 10 dX6_readLaw_3 (by decide) (fun c16 => ?_) (fun c16 => ?_)
  · have h := h.1 c16
    refine a_iconst C 0 dX6_readLaw_10 (by decide) ?_
    refine tj_X6_readLaw_11 C _ _ _ h
  · have h := h.2 c16
    refine a_iconst C 1 dX6_readLaw_6 (by decide) ?_
    refine a_goto C 11 dX6_readLaw_7 (by decide) ?_
    refine tj_X6_readLaw_11 C _ _ _ h

/-! RainOnTheOne$Reader.readClause()V -/
def wj_X6_readClause_112 (post : PoS → Prop) (u : PoS) : Prop := wp_X6_expect 38 u (fun (u8 : PoS) => post u8)
def wj_X6_readClause_99 (post : PoS → Prop) (v1 : Int32) (u : PoS) : Prop := wp_X6_readLaw v1 u (fun (u6 : PoS) => wj_X6_readClause_112 post  u6)
def wj_X6_readClause_41 (post : PoS → Prop) (v1 : Int32) (s0 : Int32) (u : PoS) : Prop := wp_X9_isHead v1 u (fun (r2 : Int32) (u3 : PoS) => ((¬ r2 = 0 → ((s0 = 0 → ∃ i4, i4 < 4 ∧ gR u3 27 8 = 7 + i4 ∧ (((gI u3 (7 + i4) 4) < 24 → ((v1 = 0 → wj_X6_readClause_99 post v1 u3) ∧ (¬ v1 = 0 → ((¬ v1 = 1 → wp_X6_readDeed v1 u3 (fun (u10 : PoS) => wj_X6_readClause_112 post  u10)) ∧ (v1 = 1 → wj_X6_readClause_99 post v1 u3))))) ∧ (¬ (gI u3 (7 + i4) 4) < 24 → wp_X6_blame 6 u3 (fun (u14 : PoS) => wj_X6_readClause_112 post  u14)))) ∧ (¬ s0 = 0 → wp_X6_blame 4 u3 (fun (u17 : PoS) => wj_X6_readClause_112 post  u17)))) ∧ (r2 = 0 → wp_X6_blame 1 u3 (fun (u20 : PoS) => wj_X6_readClause_112 post  u20))))
def wj_X6_readClause_40 (post : PoS → Prop) (v1 : Int32) (u : PoS) : Prop := wj_X6_readClause_41 post v1 0 u
def wj_X6_readClause_36 (post : PoS → Prop) (v1 : Int32) (u : PoS) : Prop := wj_X6_readClause_41 post v1 1 u
def wj_X6_readClause_20 (post : PoS → Prop) (v1 : Int32) (u : PoS) : Prop := ((¬ v1 = 1 → wj_X6_readClause_40 post v1 u) ∧ (v1 = 1 → ∃ i22, i22 < 4 ∧ gR u 27 8 = 7 + i22 ∧ (((gI u (7 + i22) 7) = (-1) → wj_X6_readClause_40 post v1 u) ∧ (¬ (gI u (7 + i22) 7) = (-1) → wj_X6_readClause_36 post v1 u))))
def wp_X6_readClause (u : PoS) (post : PoS → Prop) : Prop := ∀ x1 : Int32, x1 = (gI u 27 7) → ((¬ x1 = 0 → wj_X6_readClause_20 post x1 u) ∧ (x1 = 0 → ∃ i25, i25 < 4 ∧ gR u 27 8 = 7 + i25 ∧ ((¬ (gI u (7 + i25) 6) = (-1) → wj_X6_readClause_36 post x1 u) ∧ ((gI u (7 + i25) 6) = (-1) → wj_X6_readClause_20 post x1 u))))
set_option maxHeartbeats 4000000 in
set_option maxRecDepth 100000 in
theorem tj_X6_readClause_112 {p : Program} {l : Launch} {e : Env} {s : State} {m : MethodId} {args : Array Value} {below : List Frame} {meth : Method} {c : Code} {V : VEn} {post : PoS → Prop} (C : CxS p s m args meth c V cX6_readClause 3 RX6 none) (u : PoS) (h : wj_X6_readClause_112 post  u) : AtS p l e (Rm 75) s m args below meth c V 3 0 0 (QV V below args s post) 112 [(0, .ref (eA V 27))] [] u := by
  rw [wj_X6_readClause_112] at h
  refine a_aload_n C 0 dX6_readClause_112 rfl rfl ?_
  refine a_bipush C 38 dX6_readClause_113 (by decide) ?_
  refine a_callVv C dX6_readClause_115 (m_X6_expect l V h) bw_578 bw_580 bw_14 bw_119 bw_581 (by decide) rfl rfl np_X6_expect rfl rfl (by decide) (Nat.le_of_ble_eq_true rfl) ⟨Nat.zero_le _, Nat.zero_le _⟩ (fun u8 h => ?_)
  exact a_vret C dX6_readClause_118 h
set_option maxHeartbeats 4000000 in
set_option maxRecDepth 100000 in
theorem tj_X6_readClause_99 {p : Program} {l : Launch} {e : Env} {s : State} {m : MethodId} {args : Array Value} {below : List Frame} {meth : Method} {c : Code} {V : VEn} {post : PoS → Prop} (C : CxS p s m args meth c V cX6_readClause 3 RX6 none) (v1 : Int32) (u : PoS) (h : wj_X6_readClause_99 post v1 u) : AtS p l e (Rm 75) s m args below meth c V 3 0 0 (QV V below args s post) 99 [(0, .ref (eA V 27)), (1, .int v1)] [] u := by
  rw [wj_X6_readClause_99] at h
  refine a_aload_n C 0 dX6_readClause_99 rfl rfl ?_
  refine a_iload_n C 1 dX6_readClause_100 rfl rfl ?_
  refine a_callVv C dX6_readClause_101 (m_X6_readLaw l V h) bw_530 bw_532 bw_5 bw_119 bw_533 (by decide) rfl rfl np_X6_readLaw rfl rfl (by decide) (Nat.le_of_ble_eq_true rfl) ⟨Nat.zero_le _, Nat.zero_le _⟩ (fun u6 h => ?_)
  refine a_goto C 112 dX6_readClause_104 (by decide) ?_
  refine a_sub [0] rfl ?_
  refine tj_X6_readClause_112 C _ h
set_option maxHeartbeats 4000000 in
set_option maxRecDepth 100000 in
theorem tj_X6_readClause_41 {p : Program} {l : Launch} {e : Env} {s : State} {m : MethodId} {args : Array Value} {below : List Frame} {meth : Method} {c : Code} {V : VEn} {post : PoS → Prop} (C : CxS p s m args meth c V cX6_readClause 3 RX6 none) (v1 : Int32) (s0 : Int32) (u : PoS) (h : wj_X6_readClause_41 post v1 s0 u) : AtS p l e (Rm 75) s m args below meth c V 3 0 0 (QV V below args s post) 41 [(0, .ref (eA V 27)), (1, .int v1)] [.int s0] u := by
  rw [wj_X6_readClause_41] at h
  refine a_istore_n C [(2, .int s0), (0, .ref (eA V 27)), (1, .int v1)] dX6_readClause_41 rfl (by decide) rfl ?_
  refine a_iload_n C 2 dX6_readClause_42 rfl rfl ?_
  refine a_callSi C dX6_readClause_43 (m_X9_isHead l V h) bw_523 bw_524 bw_128 bw_525 np_X9_isHead rfl rfl (by decide) (Nat.le_of_ble_eq_true rfl) ⟨Nat.zero_le _, Nat.zero_le _⟩ (fun r2 u3 h => ?_)
  refine a_if_ne C 57 dX6_readClause_46 (by decide) (fun c21 => ?_) (fun c21 => ?_)
  · have h := h.1 c21
    refine a_iload_n C 0 dX6_readClause_57 rfl rfl ?_
    refine a_if_eq C 69 dX6_readClause_58 (by decide) (fun c18 => ?_) (fun c18 => ?_)
    · have h := h.1 c18
      refine a_aload_n C 1 dX6_readClause_69 rfl rfl ?_
      refine a_getd C 8 dX6_readClause_70 (by decide) rfl rfl rfl ib_6 (by decide) bw_300 ?_
      obtain ⟨i4, hi4, hri4, h⟩ := h
      rw [hri4]
      refine a_geti C 4 dX6_readClause_73 (by have := hi4; omega) (lw_obj hi4) rfl rfl ib_3 (by decide) bw_246 ?_
      refine a_bipush C 24 dX6_readClause_76 (by decide) ?_
      refine a_icmp_lt C 90 dX6_readClause_78 (by decide) (fun c15 => ?_) (fun c15 => ?_)
      · have h := h.1 c15
        refine a_iload_n C 2 dX6_readClause_90 rfl rfl ?_
        refine a_if_eq C 99 dX6_readClause_91 (by decide) (fun c12 => ?_) (fun c12 => ?_)
        · have h := h.1 c12
          refine a_sub [1, 2] rfl ?_
          refine tj_X6_readClause_99 C _ _ h
        · have h := h.2 c12
          refine a_iload_n C 2 dX6_readClause_94 rfl rfl ?_
          refine a_iconst C 1 dX6_readClause_95 (by decide) ?_
          refine a_icmp_ne C 107 dX6_readClause_96 (by decide) (fun c11 => ?_) (fun c11 => ?_)
          · have h := h.1 c11
            refine a_aload_n C 1 dX6_readClause_107 rfl rfl ?_
            refine a_iload_n C 2 dX6_readClause_108 rfl rfl ?_
            refine a_callVv C dX6_readClause_109 (m_X6_readDeed l V h) bw_605 bw_607 bw_19 bw_119 bw_608 (by decide) rfl rfl np_X6_readDeed rfl rfl (by decide) (Nat.le_of_ble_eq_true rfl) ⟨Nat.zero_le _, Nat.zero_le _⟩ (fun u10 h => ?_)
            refine a_sub [1] rfl ?_
            refine tj_X6_readClause_112 C _ h
          · have h := h.2 c11
            refine a_sub [1, 2] rfl ?_
            refine tj_X6_readClause_99 C _ _ h
      · have h := h.2 c15
        refine a_aload_n C 1 dX6_readClause_81 rfl rfl ?_
        refine a_bipush C 6 dX6_readClause_82 (by decide) ?_
        refine a_callVv C dX6_readClause_84 (m_X6_blame l V h) bw_526 bw_528 bw_4 bw_119 bw_529 (by decide) rfl rfl np_X6_blame rfl rfl (by decide) (Nat.le_of_ble_eq_true rfl) ⟨Nat.zero_le _, Nat.zero_le _⟩ (fun u14 h => ?_)
        refine a_goto C 112 dX6_readClause_87 (by decide) ?_
        refine a_sub [1] rfl ?_
        refine tj_X6_readClause_112 C _ h
    · have h := h.2 c18
      refine a_aload_n C 1 dX6_readClause_61 rfl rfl ?_
      refine a_iconst C 4 dX6_readClause_62 (by decide) ?_
      refine a_callVv C dX6_readClause_63 (m_X6_blame l V h) bw_526 bw_528 bw_4 bw_119 bw_529 (by decide) rfl rfl np_X6_blame rfl rfl (by decide) (Nat.le_of_ble_eq_true rfl) ⟨Nat.zero_le _, Nat.zero_le _⟩ (fun u17 h => ?_)
      refine a_goto C 112 dX6_readClause_66 (by decide) ?_
      refine a_sub [1] rfl ?_
      refine tj_X6_readClause_112 C _ h
  · have h := h.2 c21
    refine a_aload_n C 1 dX6_readClause_49 rfl rfl ?_
    refine a_iconst C 1 dX6_readClause_50 (by decide) ?_
    refine a_callVv C dX6_readClause_51 (m_X6_blame l V h) bw_526 bw_528 bw_4 bw_119 bw_529 (by decide) rfl rfl np_X6_blame rfl rfl (by decide) (Nat.le_of_ble_eq_true rfl) ⟨Nat.zero_le _, Nat.zero_le _⟩ (fun u20 h => ?_)
    refine a_goto C 112 dX6_readClause_54 (by decide) ?_
    refine a_sub [1] rfl ?_
    refine tj_X6_readClause_112 C _ h
set_option maxHeartbeats 4000000 in
set_option maxRecDepth 100000 in
theorem tj_X6_readClause_40 {p : Program} {l : Launch} {e : Env} {s : State} {m : MethodId} {args : Array Value} {below : List Frame} {meth : Method} {c : Code} {V : VEn} {post : PoS → Prop} (C : CxS p s m args meth c V cX6_readClause 3 RX6 none) (v1 : Int32) (u : PoS) (h : wj_X6_readClause_40 post v1 u) : AtS p l e (Rm 75) s m args below meth c V 3 0 0 (QV V below args s post) 40 [(0, .ref (eA V 27)), (1, .int v1)] [] u := by
  rw [wj_X6_readClause_40] at h
  refine a_iconst C 0 dX6_readClause_40 (by decide) ?_
  refine tj_X6_readClause_41 C _ _ _ h
set_option maxHeartbeats 4000000 in
set_option maxRecDepth 100000 in
theorem tj_X6_readClause_36 {p : Program} {l : Launch} {e : Env} {s : State} {m : MethodId} {args : Array Value} {below : List Frame} {meth : Method} {c : Code} {V : VEn} {post : PoS → Prop} (C : CxS p s m args meth c V cX6_readClause 3 RX6 none) (v1 : Int32) (u : PoS) (h : wj_X6_readClause_36 post v1 u) : AtS p l e (Rm 75) s m args below meth c V 3 0 0 (QV V below args s post) 36 [(0, .ref (eA V 27)), (1, .int v1)] [] u := by
  rw [wj_X6_readClause_36] at h
  refine a_iconst C 1 dX6_readClause_36 (by decide) ?_
  refine a_goto C 41 dX6_readClause_37 (by decide) ?_
  refine tj_X6_readClause_41 C _ _ _ h
set_option maxHeartbeats 4000000 in
set_option maxRecDepth 100000 in
theorem tj_X6_readClause_20 {p : Program} {l : Launch} {e : Env} {s : State} {m : MethodId} {args : Array Value} {below : List Frame} {meth : Method} {c : Code} {V : VEn} {post : PoS → Prop} (C : CxS p s m args meth c V cX6_readClause 3 RX6 none) (v1 : Int32) (u : PoS) (h : wj_X6_readClause_20 post v1 u) : AtS p l e (Rm 75) s m args below meth c V 3 0 0 (QV V below args s post) 20 [(0, .ref (eA V 27)), (1, .int v1)] [] u := by
  rw [wj_X6_readClause_20] at h
  refine a_iload_n C 1 dX6_readClause_20 rfl rfl ?_
  refine a_iconst C 1 dX6_readClause_21 (by decide) ?_
  refine a_icmp_ne C 40 dX6_readClause_22 (by decide) (fun c24 => ?_) (fun c24 => ?_)
  · have h := h.1 c24
    refine tj_X6_readClause_40 C _ _ h
  · have h := h.2 c24
    refine a_aload_n C 0 dX6_readClause_25 rfl rfl ?_
    refine a_getd C 8 dX6_readClause_26 (by decide) rfl rfl rfl ib_6 (by decide) bw_300 ?_
    obtain ⟨i22, hi22, hri22, h⟩ := h
    rw [hri22]
    refine a_geti C 7 dX6_readClause_29 (by have := hi22; omega) (lw_obj hi22) rfl rfl ib_3 (by decide) bw_256 ?_
    refine a_iconst C (-1) dX6_readClause_32 (by decide) ?_
    refine a_icmp_eq C 40 dX6_readClause_33 (by decide) (fun c23 => ?_) (fun c23 => ?_)
    · have h := h.1 c23
      refine tj_X6_readClause_40 C _ _ h
    · have h := h.2 c23
      refine tj_X6_readClause_36 C _ _ h
theorem np_X6_readClause : yX6_readClause.cls ≠ "java/lang/invoke/MethodHandle" ∧ yX6_readClause.cls ≠ "java/lang/invoke/VarHandle" ∧ (parseMethodDescriptor yX6_readClause.desc).map (fun d => d.parameters.length) = some 0 := by decide +kernel
set_option maxHeartbeats 4000000 in
set_option maxRecDepth 100000 in
theorem m_X6_readClause (l : Launch) (V : VEn) {u : PoS} {post : PoS → Prop} (h : wp_X6_readClause  u post) : KV l V yX6_readClause cX6_readClause 3 75 [.ref (eA V 27)] u post := by
  refine KV_of (by decide) (Nat.le_of_ble_eq_true rfl) (lv := [(0, .ref (eA V 27))]) rfl ?_
  intro p e s m args below meth c C
  rw [wp_X6_readClause] at h
  refine a_aload_n C 0 dX6_readClause_0 rfl rfl ?_
  refine a_geti C 7 dX6_readClause_1 (by decide) rfl rfl rfl ib_6 (by decide) bw_299 ?_
  refine a_topi (fun x1 ex1 => ?_)
  have h := h x1 ex1
  refine a_istore_n C [(1, .int x1), (0, .ref (eA V 27))] dX6_readClause_4 rfl (by decide) rfl ?_
  refine a_iload_n C 0 dX6_readClause_5 rfl rfl ?_
  refine a_if_ne C 20 dX6_readClause_6 (by decide) (fun c27 => ?_) (fun c27 => ?_)
  · have h := h.1 c27
    refine a_sub [1, 0] rfl ?_
    refine tj_X6_readClause_20 C _ _ h
  · have h := h.2 c27
    refine a_aload_n C 1 dX6_readClause_9 rfl rfl ?_
    refine a_getd C 8 dX6_readClause_10 (by decide) rfl rfl rfl ib_6 (by decide) bw_300 ?_
    obtain ⟨i25, hi25, hri25, h⟩ := h
    rw [hri25]
    refine a_geti C 6 dX6_readClause_13 (by have := hi25; omega) (lw_obj hi25) rfl rfl ib_3 (by decide) bw_253 ?_
    refine a_iconst C (-1) dX6_readClause_16 (by decide) ?_
    refine a_icmp_ne C 36 dX6_readClause_17 (by decide) (fun c26 => ?_) (fun c26 => ?_)
    · have h := h.1 c26
      refine a_sub [1, 0] rfl ?_
      refine tj_X6_readClause_36 C _ _ h
    · have h := h.2 c26
      refine a_sub [1, 0] rfl ?_
      refine tj_X6_readClause_20 C _ _ h

/-! RainOnTheOne$Reader.read([IILRainOnTheOne$Law;)V -/
def wl_X6_read_62 (i : Nat) (post : PoS → Prop) : Nat → Int32 → PoS → Prop
  | 0, _, _ => False
  | n + 1, v4, u => ((300 ≤ v4 → post u) ∧ (¬ 300 ≤ v4 → (((gI u 27 7) = 43 → post u) ∧ (¬ (gI u 27 7) = 43 → ((¬ (gI u 27 0) = 0 → post u) ∧ ((gI u 27 0) = 0 → wp_X6_readClause u (fun (u7 : PoS) => wl_X6_read_62 i post n (v4 + 1) u7)))))))
def wp_X6_read (i : Nat) (a1 : Int32) (u : PoS) (post : PoS → Prop) : Prop := ∃ i1, i1 < 4 ∧ gR (pR u 27 8 (7 + i)) 27 8 = 7 + i1 ∧ wp_X3_clear i1 (pR u 27 8 (7 + i)) (fun (u3 : PoS) => wp_X6_cutTokens (imin a1 (imin 300 300)) (pI (pI (pI u3 27 0 0) 27 1 (-1)) 27 9 0) (fun (u5 : PoS) => (∃ n62, wl_X6_read_62 i post n62 0 (pI (pI u5 27 6 0) 27 7 (gI (pI u5 27 6 0) 28 0)))))
set_option maxHeartbeats 4000000 in
set_option maxRecDepth 100000 in
theorem tl_X6_read_62 {p : Program} {l : Launch} {e : Env} {s : State} {m : MethodId} {args : Array Value} {below : List Frame} {meth : Method} {c : Code} {V : VEn} {i : Nat} {post : PoS → Prop} (C : CxS p s m args meth c V cX6_read 5 RX6 none) (hi : i < 4) : ∀ (n : Nat) (v4 : Int32) (u : PoS), wl_X6_read_62 i post n v4 u → AtS p l e (Rm 76) s m args below meth c V 5 0 0 (QV V below args s post) 62 [(0, .ref (eA V 27)), (4, .int v4)] [] u := by
  intro n
  induction n with
  | zero => intro v4 u h; exact h.elim
  | succ n ih =>
    intro v4 u h
    rw [wl_X6_read_62] at h
    refine a_iload C 1 dX6_read_62 rfl ?_
    refine a_sipush C 300 dX6_read_64 (by decide) ?_
    refine a_icmp_ge C 96 dX6_read_67 (by decide) (fun c10 => ?_) (fun c10 => ?_)
    · have h := h.1 c10
      exact a_vret C dX6_read_96 h
    · have h := h.2 c10
      refine a_aload_n C 0 dX6_read_70 rfl rfl ?_
      refine a_geti C 7 dX6_read_71 (by decide) rfl rfl rfl ib_6 (by decide) bw_299 ?_
      refine a_bipush C 43 dX6_read_74 (by decide) ?_
      refine a_icmp_eq C 96 dX6_read_76 (by decide) (fun c9 => ?_) (fun c9 => ?_)
      · have h := h.1 c9
        exact a_vret C dX6_read_96 h
      · have h := h.2 c9
        refine a_aload_n C 0 dX6_read_79 rfl rfl ?_
        refine a_geti C 0 dX6_read_80 (by decide) rfl rfl rfl ib_6 (by decide) bw_290 ?_
        refine a_if_ne C 96 dX6_read_83 (by decide) (fun c8 => ?_) (fun c8 => ?_)
        · have h := h.1 c8
          exact a_vret C dX6_read_96 h
        · have h := h.2 c8
          refine a_aload_n C 0 dX6_read_86 rfl rfl ?_
          refine a_callVv C dX6_read_87 (m_X6_readClause l V h) bw_519 bw_521 bw_3 bw_119 bw_522 (by decide) rfl rfl np_X6_readClause rfl rfl (by decide) (Nat.le_of_ble_eq_true rfl) ⟨Nat.zero_le _, Nat.zero_le _⟩ (fun u7 h => ?_)
          refine a_iinc C (v4 + 1) 1 [(4, .int (v4 + 1)), (0, .ref (eA V 27))] dX6_read_90 rfl (congrArg (fun z => v4 + z) (show Int32.ofInt 1 = 1 by decide)) (by decide) rfl ?_
          refine a_goto C 62 dX6_read_93 (by decide) ?_
          refine a_sub [1, 0] rfl ?_
          exact ih _ _ h
theorem np_X6_read : yX6_read.cls ≠ "java/lang/invoke/MethodHandle" ∧ yX6_read.cls ≠ "java/lang/invoke/VarHandle" ∧ (parseMethodDescriptor yX6_read.desc).map (fun d => d.parameters.length) = some 3 := by decide +kernel
set_option maxHeartbeats 4000000 in
set_option maxRecDepth 100000 in
theorem m_X6_read (l : Launch) (V : VEn) {i : Nat} (hi : i < 4) {a1 : Int32} {u : PoS} {post : PoS → Prop} (h : wp_X6_read i a1 u post) : KV l V yX6_read cX6_read 5 76 [.ref (eA V 27), .ref (eA V 31), .int a1, .ref (eA V (7 + i))] u post := by
  refine KV_of (by decide) (Nat.le_of_ble_eq_true rfl) (lv := [(0, .ref (eA V 27)), (1, .ref (eA V 31)), (2, .int a1), (3, .ref (eA V (7 + i)))]) rfl ?_
  intro p e s m args below meth c C
  rw [wp_X6_read] at h
  refine a_aload_n C 0 dX6_read_0 rfl rfl ?_
  refine a_aload_n C 3 dX6_read_1 rfl rfl ?_
  refine a_putd C (ty := (.object "RainOnTheOne$Law")) (v := (7 + i)) 8 dX6_read_2 (by decide) rfl rfl rfl ib_6 (by decide) bw_300 tyX6 tyX6_ok nmX6 rfl (by decide +kernel) rfl rfl ?_
  refine a_aload_n C 0 dX6_read_5 rfl rfl ?_
  refine a_getd C 8 dX6_read_6 (by decide) rfl rfl rfl ib_6 (by decide) bw_300 ?_
  obtain ⟨i1, hi1, hri1, h⟩ := h
  rw [hri1]
  refine a_callVv C dX6_read_9 (m_X3_clear l V hi1 h) bw_436 bw_437 bw_438 bw_117 bw_439 (by have := hi1; omega) (lw_obj hi1) rfl np_X3_clear rfl rfl (by decide) (Nat.le_of_ble_eq_true rfl) ⟨Nat.zero_le _, Nat.zero_le _⟩ (fun u3 h => ?_)
  refine a_aload_n C 0 dX6_read_12 rfl rfl ?_
  refine a_iconst C 0 dX6_read_13 (by decide) ?_
  refine a_puti C (ty := .int) 0 dX6_read_14 (by decide) rfl rfl rfl ib_6 (by decide) bw_290 tyX6 tyX6_ok nmX6 rfl (by decide +kernel) rfl rfl ?_
  refine a_aload_n C 0 dX6_read_17 rfl rfl ?_
  refine a_iconst C (-1) dX6_read_18 (by decide) ?_
  refine a_puti C (ty := .int) 1 dX6_read_19 (by decide) rfl rfl rfl ib_6 (by decide) bw_292 tyX6 tyX6_ok nmX6 rfl (by decide +kernel) rfl rfl ?_
  refine a_aload_n C 0 dX6_read_22 rfl rfl ?_
  refine a_iconst C 0 dX6_read_23 (by decide) ?_
  refine a_puti C (ty := .int) 9 dX6_read_24 (by decide) rfl rfl rfl ib_6 (by decide) bw_301 tyX6 tyX6_ok nmX6 rfl (by decide +kernel) rfl rfl ?_
  refine a_aload_n C 0 dX6_read_27 rfl rfl ?_
  refine a_aload_n C 1 dX6_read_28 rfl rfl ?_
  refine a_iload_n C 2 dX6_read_29 rfl rfl ?_
  refine a_aload_n C 1 dX6_read_30 rfl rfl ?_
  refine a_alen C 300 dX6_read_31 (by decide) rfl (by decide) ?_
  refine a_sipush C 300 dX6_read_32 (by decide) ?_
  refine b_mmin C dX6_read_35 bw_440 bw_441 bw_121 bw_442 (by decide) (Nat.le_of_ble_eq_true rfl) ⟨Nat.zero_le _, Nat.zero_le _⟩ ?_
  refine b_mmin C dX6_read_38 bw_440 bw_441 bw_121 bw_442 (by decide) (Nat.le_of_ble_eq_true rfl) ⟨Nat.zero_le _, Nat.zero_le _⟩ ?_
  refine a_callVv C dX6_read_41 (m_X6_cutTokens l V h) bw_443 bw_445 bw_1 bw_119 bw_446 (by decide) rfl rfl np_X6_cutTokens rfl rfl (by decide) (Nat.le_of_ble_eq_true rfl) ⟨Nat.zero_le _, Nat.zero_le _⟩ (fun u5 h => ?_)
  refine a_aload_n C 0 dX6_read_44 rfl rfl ?_
  refine a_iconst C 0 dX6_read_45 (by decide) ?_
  refine a_puti C (ty := .int) 6 dX6_read_46 (by decide) rfl rfl rfl ib_6 (by decide) bw_298 tyX6 tyX6_ok nmX6 rfl (by decide +kernel) rfl rfl ?_
  refine a_aload_n C 0 dX6_read_49 rfl rfl ?_
  refine a_aload_n C 0 dX6_read_50 rfl rfl ?_
  refine a_getr C 2 (r := 28) dX6_read_51 (by decide) rfl rfl rfl ib_6 (by decide) bw_294 ?_
  refine a_iconst C 0 dX6_read_54 (by decide) ?_
  refine b_iald C 0 dX6_read_55 (by decide) rfl (vp_lit (by decide)) (by decide) ?_
  refine a_puti C (ty := .int) 7 dX6_read_56 (by decide) rfl rfl rfl ib_6 (by decide) bw_299 tyX6 tyX6_ok nmX6 rfl (by decide +kernel) rfl rfl ?_
  refine a_iconst C 0 dX6_read_59 (by decide) ?_
  refine a_istore C [(4, .int 0), (0, .ref (eA V 27)), (1, .ref (eA V 31)), (2, .int a1), (3, .ref (eA V (7 + i)))] dX6_read_60 (by decide) rfl ?_
  refine a_sub [1, 0] rfl ?_
  obtain ⟨n62, h⟩ := h
  refine tl_X6_read_62 C hi n62 _ _ h

/-! RainOnTheOne.text()I -/
def wp_X11_text (u : PoS) (post : Int32 → PoS → Prop) : Prop := ∀ x1 : Int32, x1 = (gI u 3 117) → ((x1 < 4 → vp_in x1 4 ∧ wp_X6_read (Int32.toNatClampNeg x1) (gI u 0 7) u (fun (u4 : PoS) => (((gI (pI (pI u4 0 8 1) 0 7 0) 27 0) = 0 → post x1 (pI (pI (pI u4 0 8 1) 0 7 0) 3 117 (x1 + 1))) ∧ (¬ (gI (pI (pI u4 0 8 1) 0 7 0) 27 0) = 0 → post (-1) (pI (pI u4 0 8 1) 0 7 0))))) ∧ (¬ x1 < 4 → post (-1) u))
theorem np_X11_text : yX11_text.cls ≠ "java/lang/invoke/MethodHandle" ∧ yX11_text.cls ≠ "java/lang/invoke/VarHandle" ∧ (parseMethodDescriptor yX11_text.desc).map (fun d => d.parameters.length) = some 0 := by decide +kernel
set_option maxHeartbeats 4000000 in
set_option maxRecDepth 100000 in
theorem m_X11_text (l : Launch) (V : VEn) {u : PoS} {post : Int32 → PoS → Prop} (h : wp_X11_text  u post) : KI l V yX11_text cX11_text 2 .int 77 [.ref (eA V 0)] u post := by
  refine KI_of (by decide) (Nat.le_of_ble_eq_true rfl) (lv := [(0, .ref (eA V 0))]) rfl ?_
  intro p e s m args below meth c C
  rw [wp_X11_text] at h
  refine a_aload_n C 0 dX11_text_0 rfl rfl ?_
  refine a_getr C 2 (r := 3) dX11_text_1 (by decide) rfl rfl rfl ib_11 (by decide) bw_351 ?_
  refine a_bipush C 117 dX11_text_4 (by decide) ?_
  refine b_iald C 117 dX11_text_6 (by decide) rfl (vp_lit (by decide)) (by decide) ?_
  refine a_topi (fun x1 ex1 => ?_)
  have h := h x1 ex1
  refine a_istore_n C [(1, .int x1), (0, .ref (eA V 0))] dX11_text_7 rfl (by decide) rfl ?_
  refine a_iload_n C 0 dX11_text_8 rfl rfl ?_
  refine a_iconst C 4 dX11_text_9 (by decide) ?_
  refine a_icmp_lt C 15 dX11_text_10 (by decide) (fun c6 => ?_) (fun c6 => ?_)
  · have h := h.1 c6
    refine a_aload_n C 1 dX11_text_15 rfl rfl ?_
    refine a_getr C 5 (r := 27) dX11_text_16 (by decide) rfl rfl rfl ib_11 (by decide) bw_354 ?_
    refine a_aload_n C 1 dX11_text_19 rfl rfl ?_
    refine a_getr C 6 (r := 31) dX11_text_20 (by decide) rfl rfl rfl ib_11 (by decide) bw_355 ?_
    refine a_aload_n C 1 dX11_text_23 rfl rfl ?_
    refine a_geti C 7 dX11_text_24 (by decide) rfl rfl rfl ib_11 (by decide) bw_356 ?_
    refine a_aload_n C 1 dX11_text_27 rfl rfl ?_
    refine a_getr C 4 (r := 6) dX11_text_28 (by decide) rfl rfl rfl ib_11 (by decide) bw_353 ?_
    refine a_iload_n C 0 dX11_text_31 rfl rfl ?_
    obtain ⟨hi2, h⟩ := h
    refine a_aald C dX11_text_32 hi2 ?_
    refine a_callVv C dX11_text_33 (m_X6_read l V (vp4 hi2) h) bw_432 bw_433 bw_434 bw_119 bw_435 (by decide) rfl rfl np_X6_read rfl rfl (by decide) (Nat.le_of_ble_eq_true rfl) ⟨Nat.zero_le _, Nat.zero_le _⟩ (fun u4 h => ?_)
    refine a_aload_n C 1 dX11_text_36 rfl rfl ?_
    refine a_iconst C 1 dX11_text_37 (by decide) ?_
    refine a_puti C (ty := .boolean) 8 dX11_text_38 (by decide) rfl rfl rfl ib_11 (by decide) bw_357 tyX11 tyX11_ok nmX11 rfl (by decide +kernel) rfl rfl ?_
    refine a_aload_n C 1 dX11_text_41 rfl rfl ?_
    refine a_iconst C 0 dX11_text_42 (by decide) ?_
    refine a_puti C (ty := .int) 7 dX11_text_43 (by decide) rfl rfl rfl ib_11 (by decide) bw_356 tyX11 tyX11_ok nmX11 rfl (by decide +kernel) rfl rfl ?_
    refine a_aload_n C 1 dX11_text_46 rfl rfl ?_
    refine a_getr C 5 (r := 27) dX11_text_47 (by decide) rfl rfl rfl ib_11 (by decide) bw_354 ?_
    refine a_geti C 0 dX11_text_50 (by decide) rfl rfl rfl ib_6 (by decide) bw_291 ?_
    refine a_if_eq C 58 dX11_text_53 (by decide) (fun c5 => ?_) (fun c5 => ?_)
    · have h := h.1 c5
      refine a_aload_n C 1 dX11_text_58 rfl rfl ?_
      refine a_getr C 2 (r := 3) dX11_text_59 (by decide) rfl rfl rfl ib_11 (by decide) bw_351 ?_
      refine a_bipush C 117 dX11_text_62 (by decide) ?_
      refine a_iload_n C 0 dX11_text_64 rfl rfl ?_
      refine a_iconst C 1 dX11_text_65 (by decide) ?_
      refine a_iadd C dX11_text_66 ?_
      refine b_iast C 117 dX11_text_67 (by decide) rfl (vp_lit (by decide)) (by decide) ?_
      refine a_iload_n C 0 dX11_text_68 rfl rfl ?_
      exact a_iret C dX11_text_69 h
    · have h := h.2 c5
      refine a_iconst C (-1) dX11_text_56 (by decide) ?_
      exact a_iret C dX11_text_57 h
  · have h := h.2 c6
    refine a_iconst C (-1) dX11_text_13 (by decide) ?_
    exact a_iret C dX11_text_14 h
