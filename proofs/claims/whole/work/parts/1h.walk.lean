/-! RainOnTheOneModel.isNextRow(I)Z -/
def wl_X12_isNextRow_4 (k31 : Int32 → Int32 → PoS → Prop) (post : Int32 → PoS → Prop) : Nat → Int32 → Int32 → PoS → Prop
  | 0, _, _, _ => False
  | n + 1, v1, v2, u => ((v2 < 0 → k31 v1 v2 u) ∧ (¬ v2 < 0 → vp_in v2 5 ∧ vp_in (v2 + 1) 5 ∧ (((gI u 61 (Int32.toNatClampNeg v2)) ≤ (gI u 61 (Int32.toNatClampNeg (v2 + 1))) → k31 v1 v2 u) ∧ (¬ (gI u 61 (Int32.toNatClampNeg v2)) ≤ (gI u 61 (Int32.toNatClampNeg (v2 + 1))) → wl_X12_isNextRow_4 k31 post n v1 (v2 + (-1)) u))))
def wl_X12_isNextRow_41 (k62 : Int32 → Int32 → Int32 → PoS → Prop) (post : Int32 → PoS → Prop) : Nat → Int32 → Int32 → Int32 → PoS → Prop
  | 0, _, _, _, _ => False
  | n + 1, v1, v2, v3, u => vp_in v3 5 ∧ vp_in v2 5 ∧ (((gI u 61 (Int32.toNatClampNeg v2)) ≤ (gI u 61 (Int32.toNatClampNeg v3)) → k62 v1 v2 v3 u) ∧ (¬ (gI u 61 (Int32.toNatClampNeg v2)) ≤ (gI u 61 (Int32.toNatClampNeg v3)) → wl_X12_isNextRow_41 k62 post n v1 v2 (v3 + (-1)) u))
def wl_X12_isNextRow_78 (post : Int32 → PoS → Prop) : Nat → Int32 → Int32 → PoS → Prop
  | 0, _, _, _ => False
  | n + 1, v4, v5, u => ((v4 ≤ v5 → post 1 u) ∧ (¬ v4 ≤ v5 → wp_X12_change v5 v4 u (fun (u13 : PoS) => wl_X12_isNextRow_78 post n (v4 + (-1)) (v5 + 1) u13)))
def wj_X12_isNextRow_31 (post : Int32 → PoS → Prop) (v1 : Int32) (v2 : Int32) (u : PoS) : Prop := ((0 ≤ v2 → ∀ x5 : Int32, x5 = (v1 - 1) → (∃ n41, wl_X12_isNextRow_41 (fun (v17 : Int32) (v27 : Int32) (v37 : Int32) (u7 : PoS) => wp_X12_change v27 v37 u7 (fun (u9 : PoS) => ∀ x10 : Int32, x10 = (v17 - 1) → ∀ x11 : Int32, x11 = (v27 + 1) → (∃ n78, wl_X12_isNextRow_78 post n78 x10 x11 u9))) post n41 v1 v2 x5 u)) ∧ (¬ 0 ≤ v2 → post 0 u))
def wp_X12_isNextRow (a0 : Int32) (u : PoS) (post : Int32 → PoS → Prop) : Prop := ∀ x1 : Int32, x1 = (a0 - 2) → (∃ n4, wl_X12_isNextRow_4 (fun (v14 : Int32) (v24 : Int32) (u4 : PoS) => wj_X12_isNextRow_31 post v14 v24 u4) post n4 a0 x1 u)
set_option maxHeartbeats 4000000 in
set_option maxRecDepth 100000 in
theorem tl_X12_isNextRow_4 {p : Program} {l : Launch} {e : Env} {s : State} {m : MethodId} {args : Array Value} {below : List Frame} {meth : Method} {c : Code} {V : VEn} {k31 : Int32 → Int32 → PoS → Prop} {post : Int32 → PoS → Prop} (C : CxS p s m args meth c V cX12_isNextRow 6 RX12 (some .boolean)) (hk31 : ∀ (v1 : Int32) (v2 : Int32) (u : PoS), k31 v1 v2 u → AtS p l e (Rm 1) s m args below meth c V 6 0 0 (QI V below args s post) 31 [(0, .ref (eA V 48)), (1, .int v1), (2, .int v2)] [] u) : ∀ (n : Nat) (v1 : Int32) (v2 : Int32) (u : PoS), wl_X12_isNextRow_4 k31 post n v1 v2 u → AtS p l e (Rm 1) s m args below meth c V 6 0 0 (QI V below args s post) 4 [(0, .ref (eA V 48)), (1, .int v1), (2, .int v2)] [] u := by
  intro n
  induction n with
  | zero => intro v1 v2 u h; exact h.elim
  | succ n ih =>
    intro v1 v2 u h
    rw [wl_X12_isNextRow_4] at h
    refine a_iload_n C 2 dX12_isNextRow_4 rfl rfl ?_
    refine a_if_lt C 31 dX12_isNextRow_5 (by decide) (fun c3 => ?_) (fun c3 => ?_)
    · have h := h.1 c3
      exact hk31 _ _ _ h
    · have h := h.2 c3
      refine a_aload_n C 0 dX12_isNextRow_8 rfl rfl ?_
      refine a_getr C 29 (r := 61) dX12_isNextRow_9 (by decide) rfl rfl rfl ib_12 (by decide) bw_1051 ?_
      refine a_iload_n C 2 dX12_isNextRow_12 rfl rfl ?_
      refine b_iald C (Int32.toNatClampNeg v2) dX12_isNextRow_13 (by decide) rfl h.1 rfl ?_
      have h := h.2
      refine a_aload_n C 0 dX12_isNextRow_14 rfl rfl ?_
      refine a_getr C 29 (r := 61) dX12_isNextRow_15 (by decide) rfl rfl rfl ib_12 (by decide) bw_1051 ?_
      refine a_iload_n C 2 dX12_isNextRow_18 rfl rfl ?_
      refine a_iconst C 1 dX12_isNextRow_19 (by decide) ?_
      refine a_iadd C dX12_isNextRow_20 ?_
      refine b_iald C (Int32.toNatClampNeg (v2 + 1)) dX12_isNextRow_21 (by decide) rfl h.1 rfl ?_
      have h := h.2
      refine a_icmp_le C 31 dX12_isNextRow_22 (by decide) (fun c2 => ?_) (fun c2 => ?_)
      · have h := h.1 c2
        exact hk31 _ _ _ h
      · have h := h.2 c2
        refine a_iinc C (v2 + (-1)) 2 [(2, .int (v2 + (-1))), (0, .ref (eA V 48)), (1, .int v1)] dX12_isNextRow_25 rfl (congrArg (fun z => v2 + z) (show Int32.ofInt (-1) = (-1) by decide)) (by decide) rfl ?_
        refine a_goto C 4 dX12_isNextRow_28 (by decide) ?_
        refine a_sub [1, 2, 0] rfl ?_
        exact ih _ _ _ h
set_option maxHeartbeats 4000000 in
set_option maxRecDepth 100000 in
theorem tl_X12_isNextRow_41 {p : Program} {l : Launch} {e : Env} {s : State} {m : MethodId} {args : Array Value} {below : List Frame} {meth : Method} {c : Code} {V : VEn} {k62 : Int32 → Int32 → Int32 → PoS → Prop} {post : Int32 → PoS → Prop} (C : CxS p s m args meth c V cX12_isNextRow 6 RX12 (some .boolean)) (hk62 : ∀ (v1 : Int32) (v2 : Int32) (v3 : Int32) (u : PoS), k62 v1 v2 v3 u → AtS p l e (Rm 1) s m args below meth c V 6 0 0 (QI V below args s post) 62 [(0, .ref (eA V 48)), (1, .int v1), (2, .int v2), (3, .int v3)] [] u) : ∀ (n : Nat) (v1 : Int32) (v2 : Int32) (v3 : Int32) (u : PoS), wl_X12_isNextRow_41 k62 post n v1 v2 v3 u → AtS p l e (Rm 1) s m args below meth c V 6 0 0 (QI V below args s post) 41 [(0, .ref (eA V 48)), (1, .int v1), (2, .int v2), (3, .int v3)] [] u := by
  intro n
  induction n with
  | zero => intro v1 v2 v3 u h; exact h.elim
  | succ n ih =>
    intro v1 v2 v3 u h
    rw [wl_X12_isNextRow_41] at h
    refine a_aload_n C 0 dX12_isNextRow_41 rfl rfl ?_
    refine a_getr C 29 (r := 61) dX12_isNextRow_42 (by decide) rfl rfl rfl ib_12 (by decide) bw_1051 ?_
    refine a_iload_n C 3 dX12_isNextRow_45 rfl rfl ?_
    refine b_iald C (Int32.toNatClampNeg v3) dX12_isNextRow_46 (by decide) rfl h.1 rfl ?_
    have h := h.2
    refine a_aload_n C 0 dX12_isNextRow_47 rfl rfl ?_
    refine a_getr C 29 (r := 61) dX12_isNextRow_48 (by decide) rfl rfl rfl ib_12 (by decide) bw_1051 ?_
    refine a_iload_n C 2 dX12_isNextRow_51 rfl rfl ?_
    refine b_iald C (Int32.toNatClampNeg v2) dX12_isNextRow_52 (by decide) rfl h.1 rfl ?_
    have h := h.2
    refine a_icmp_ge C 62 dX12_isNextRow_53 (by decide) (fun c6 => ?_) (fun c6 => ?_)
    · have h := h.1 c6
      exact hk62 _ _ _ _ h
    · have h := h.2 c6
      refine a_iinc C (v3 + (-1)) 3 [(3, .int (v3 + (-1))), (0, .ref (eA V 48)), (1, .int v1), (2, .int v2)] dX12_isNextRow_56 rfl (congrArg (fun z => v3 + z) (show Int32.ofInt (-1) = (-1) by decide)) (by decide) rfl ?_
      refine a_goto C 41 dX12_isNextRow_59 (by decide) ?_
      refine a_sub [1, 2, 3, 0] rfl ?_
      exact ih _ _ _ _ h
set_option maxHeartbeats 4000000 in
set_option maxRecDepth 100000 in
theorem tl_X12_isNextRow_78 {p : Program} {l : Launch} {e : Env} {s : State} {m : MethodId} {args : Array Value} {below : List Frame} {meth : Method} {c : Code} {V : VEn} {post : Int32 → PoS → Prop} (C : CxS p s m args meth c V cX12_isNextRow 6 RX12 (some .boolean)) : ∀ (n : Nat) (v4 : Int32) (v5 : Int32) (u : PoS), wl_X12_isNextRow_78 post n v4 v5 u → AtS p l e (Rm 1) s m args below meth c V 6 0 0 (QI V below args s post) 78 [(0, .ref (eA V 48)), (4, .int v4), (5, .int v5)] [] u := by
  intro n
  induction n with
  | zero => intro v4 v5 u h; exact h.elim
  | succ n ih =>
    intro v4 v5 u h
    rw [wl_X12_isNextRow_78] at h
    refine a_iload C 2 dX12_isNextRow_78 rfl ?_
    refine a_iload C 1 dX12_isNextRow_80 rfl ?_
    refine a_icmp_ge C 102 dX12_isNextRow_82 (by decide) (fun c14 => ?_) (fun c14 => ?_)
    · have h := h.1 c14
      refine a_iconst C 1 dX12_isNextRow_102 (by decide) ?_
      exact a_zret C rfl dX12_isNextRow_103 h
    · have h := h.2 c14
      refine a_aload_n C 0 dX12_isNextRow_85 rfl rfl ?_
      refine a_iload C 2 dX12_isNextRow_86 rfl ?_
      refine a_iload C 1 dX12_isNextRow_88 rfl ?_
      refine a_callVv C dX12_isNextRow_90 (m_X12_change l V h) bw_1610 bw_1612 bw_105 bw_123 bw_1613 (by decide) rfl rfl np_X12_change rfl rfl (by decide) (Nat.le_of_ble_eq_true rfl) ⟨Nat.zero_le _, Nat.zero_le _⟩ (fun u13 h => ?_)
      refine a_iinc C (v4 + (-1)) 1 [(4, .int (v4 + (-1))), (0, .ref (eA V 48)), (5, .int v5)] dX12_isNextRow_93 rfl (congrArg (fun z => v4 + z) (show Int32.ofInt (-1) = (-1) by decide)) (by decide) rfl ?_
      refine a_iinc C (v5 + 1) 2 [(5, .int (v5 + 1)), (4, .int (v4 + (-1))), (0, .ref (eA V 48))] dX12_isNextRow_96 rfl (congrArg (fun z => v5 + z) (show Int32.ofInt 1 = 1 by decide)) (by decide) rfl ?_
      refine a_goto C 78 dX12_isNextRow_99 (by decide) ?_
      refine a_sub [2, 1, 0] rfl ?_
      exact ih _ _ _ h
set_option maxHeartbeats 4000000 in
set_option maxRecDepth 100000 in
theorem tj_X12_isNextRow_31 {p : Program} {l : Launch} {e : Env} {s : State} {m : MethodId} {args : Array Value} {below : List Frame} {meth : Method} {c : Code} {V : VEn} {post : Int32 → PoS → Prop} (C : CxS p s m args meth c V cX12_isNextRow 6 RX12 (some .boolean)) (v1 : Int32) (v2 : Int32) (u : PoS) (h : wj_X12_isNextRow_31 post v1 v2 u) : AtS p l e (Rm 1) s m args below meth c V 6 0 0 (QI V below args s post) 31 [(0, .ref (eA V 48)), (1, .int v1), (2, .int v2)] [] u := by
  rw [wj_X12_isNextRow_31] at h
  refine a_iload_n C 2 dX12_isNextRow_31 rfl rfl ?_
  refine a_if_ge C 37 dX12_isNextRow_32 (by decide) (fun c15 => ?_) (fun c15 => ?_)
  · have h := h.1 c15
    refine a_iload_n C 1 dX12_isNextRow_37 rfl rfl ?_
    refine a_iconst C 1 dX12_isNextRow_38 (by decide) ?_
    refine a_isub C dX12_isNextRow_39 ?_
    refine a_topi (fun x5 ex5 => ?_)
    have h := h x5 ex5
    refine a_istore_n C [(3, .int x5), (0, .ref (eA V 48)), (1, .int v1), (2, .int v2)] dX12_isNextRow_40 rfl (by decide) rfl ?_
    refine a_sub [1, 2, 3, 0] rfl ?_
    obtain ⟨n41, h⟩ := h
    refine tl_X12_isNextRow_41 C (fun v17 v27 v37 u7 h => ?_) n41 _ _ _ _ h
    refine a_aload_n C 0 dX12_isNextRow_62 rfl rfl ?_
    refine a_iload_n C 2 dX12_isNextRow_63 rfl rfl ?_
    refine a_iload_n C 3 dX12_isNextRow_64 rfl rfl ?_
    refine a_callVv C dX12_isNextRow_65 (m_X12_change l V h) bw_1610 bw_1612 bw_105 bw_123 bw_1613 (by decide) rfl rfl np_X12_change rfl rfl (by decide) (Nat.le_of_ble_eq_true rfl) ⟨Nat.zero_le _, Nat.zero_le _⟩ (fun u9 h => ?_)
    refine a_iload_n C 1 dX12_isNextRow_68 rfl rfl ?_
    refine a_iconst C 1 dX12_isNextRow_69 (by decide) ?_
    refine a_isub C dX12_isNextRow_70 ?_
    refine a_topi (fun x10 ex10 => ?_)
    have h := h x10 ex10
    refine a_istore C [(4, .int x10), (0, .ref (eA V 48)), (1, .int v17), (2, .int v27), (3, .int v37)] dX12_isNextRow_71 (by decide) rfl ?_
    refine a_iload_n C 3 dX12_isNextRow_73 rfl rfl ?_
    refine a_iconst C 1 dX12_isNextRow_74 (by decide) ?_
    refine a_iadd C dX12_isNextRow_75 ?_
    refine a_topi (fun x11 ex11 => ?_)
    have h := h x11 ex11
    refine a_istore C [(5, .int x11), (4, .int x10), (0, .ref (eA V 48)), (1, .int v17), (2, .int v27), (3, .int v37)] dX12_isNextRow_76 (by decide) rfl ?_
    refine a_sub [2, 1, 0] rfl ?_
    obtain ⟨n78, h⟩ := h
    refine tl_X12_isNextRow_78 C n78 _ _ _ h
  · have h := h.2 c15
    refine a_iconst C 0 dX12_isNextRow_35 (by decide) ?_
    exact a_zret C rfl dX12_isNextRow_36 h
theorem np_X12_isNextRow : yX12_isNextRow.cls ≠ "java/lang/invoke/MethodHandle" ∧ yX12_isNextRow.cls ≠ "java/lang/invoke/VarHandle" ∧ (parseMethodDescriptor yX12_isNextRow.desc).map (fun d => d.parameters.length) = some 1 := by decide +kernel
set_option maxHeartbeats 4000000 in
set_option maxRecDepth 100000 in
theorem m_X12_isNextRow (l : Launch) (V : VEn) {a0 : Int32} {u : PoS} {post : Int32 → PoS → Prop} (h : wp_X12_isNextRow a0 u post) : KI l V yX12_isNextRow cX12_isNextRow 6 .boolean 1 [.ref (eA V 48), .int a0] u post := by
  refine KI_of (by decide) (Nat.le_of_ble_eq_true rfl) (lv := [(0, .ref (eA V 48)), (1, .int a0)]) rfl ?_
  intro p e s m args below meth c C
  rw [wp_X12_isNextRow] at h
  refine a_iload_n C 1 dX12_isNextRow_0 rfl rfl ?_
  refine a_iconst C 2 dX12_isNextRow_1 (by decide) ?_
  refine a_isub C dX12_isNextRow_2 ?_
  refine a_topi (fun x1 ex1 => ?_)
  have h := h x1 ex1
  refine a_istore_n C [(2, .int x1), (0, .ref (eA V 48)), (1, .int a0)] dX12_isNextRow_3 rfl (by decide) rfl ?_
  refine a_sub [1, 2, 0] rfl ?_
  obtain ⟨n4, h⟩ := h
  refine tl_X12_isNextRow_4 C (fun v14 v24 u4 h => ?_) n4 _ _ _ h
  refine tj_X12_isNextRow_31 C _ _ _ h

/-! RainOnTheOneModel.areFars(II)Z -/
def wl_X12_areFars_33 (k87 : Int32 → Int32 → Int32 → PoS → Prop) (post : Int32 → PoS → Prop) : Nat → Int32 → Int32 → Int32 → Int32 → PoS → Prop
  | 0, _, _, _, _, _ => False
  | n + 1, v1, v2, v3, v4, u => ((v2 ≤ v4 → k87 v1 v2 v3 u) ∧ (¬ v2 ≤ v4 → vp_in v4 5 ∧ vp_in (gI u 64 (Int32.toNatClampNeg v4)) 30 ∧ vp_in ((6 * v3) + v4) 36 ∧ ∀ z5 : PoS, z5 = pI u 63 (Int32.toNatClampNeg ((6 * v3) + v4)) (gI u 57 (Int32.toNatClampNeg (gI u 64 (Int32.toNatClampNeg v4)))) → vp_in ((6 * v3) + v4) 36 ∧ ((¬ (gI z5 63 (Int32.toNatClampNeg ((6 * v3) + v4))) = (-1) → wl_X12_areFars_33 k87 post n v1 v2 v3 (v4 + 1) z5) ∧ ((gI z5 63 (Int32.toNatClampNeg ((6 * v3) + v4))) = (-1) → post 0 z5))))
def wj_X12_areFars_23 (k2 : Int32 → Int32 → Int32 → PoS → Prop) (post : Int32 → PoS → Prop) (v1 : Int32) (v2 : Int32) (v3 : Int32) (s0 : Int32) (u : PoS) : Prop := wp_X12_free u (fun (r1 : Int32) (u2 : PoS) => wp_X12_layFar s0 r1 u2 (fun (u4 : PoS) => (∃ n33, wl_X12_areFars_33 (fun (v18 : Int32) (v28 : Int32) (v38 : Int32) (u8 : PoS) => k2 v18 v28 (v38 + 1) u8) post n33 v1 v2 v3 0 u4)))
def wl_X12_areFars_2 (post : Int32 → PoS → Prop) : Nat → Int32 → Int32 → Int32 → PoS → Prop
  | 0, _, _, _, _ => False
  | n + 1, v1, v2, v3, u => ((v2 < v3 → post 1 u) ∧ (¬ v2 < v3 → ((¬ v3 = v2 → vp_in v3 5 ∧ wj_X12_areFars_23 (wl_X12_areFars_2 post n) post v1 v2 v3 (gI u 64 (Int32.toNatClampNeg v3)) u) ∧ (v3 = v2 → wj_X12_areFars_23 (wl_X12_areFars_2 post n) post v1 v2 v3 v1 u))))
def wp_X12_areFars (a0 : Int32) (a1 : Int32) (u : PoS) (post : Int32 → PoS → Prop) : Prop := (∃ n2, wl_X12_areFars_2 post n2 a0 a1 0 u)
set_option maxHeartbeats 4000000 in
set_option maxRecDepth 100000 in
theorem tl_X12_areFars_33 {p : Program} {l : Launch} {e : Env} {s : State} {m : MethodId} {args : Array Value} {below : List Frame} {meth : Method} {c : Code} {V : VEn} {k87 : Int32 → Int32 → Int32 → PoS → Prop} {post : Int32 → PoS → Prop} (C : CxS p s m args meth c V cX12_areFars 5 RX12 (some .boolean)) (hk87 : ∀ (v1 : Int32) (v2 : Int32) (v3 : Int32) (u : PoS), k87 v1 v2 v3 u → AtS p l e (Rm 4) s m args below meth c V 5 0 0 (QI V below args s post) 87 [(0, .ref (eA V 48)), (1, .int v1), (2, .int v2), (3, .int v3)] [] u) : ∀ (n : Nat) (v1 : Int32) (v2 : Int32) (v3 : Int32) (v4 : Int32) (u : PoS), wl_X12_areFars_33 k87 post n v1 v2 v3 v4 u → AtS p l e (Rm 4) s m args below meth c V 5 0 0 (QI V below args s post) 33 [(0, .ref (eA V 48)), (1, .int v1), (2, .int v2), (3, .int v3), (4, .int v4)] [] u := by
  intro n
  induction n with
  | zero => intro v1 v2 v3 v4 u h; exact h.elim
  | succ n ih =>
    intro v1 v2 v3 v4 u h
    rw [wl_X12_areFars_33] at h
    refine a_iload C 4 dX12_areFars_33 rfl ?_
    refine a_iload_n C 2 dX12_areFars_35 rfl rfl ?_
    refine a_icmp_ge C 87 dX12_areFars_36 (by decide) (fun c7 => ?_) (fun c7 => ?_)
    · have h := h.1 c7
      refine a_sub [0, 1, 2, 3] rfl ?_
      exact hk87 _ _ _ _ h
    · have h := h.2 c7
      refine a_aload_n C 0 dX12_areFars_39 rfl rfl ?_
      refine a_getr C 31 (r := 63) dX12_areFars_40 (by decide) rfl rfl rfl ib_12 (by decide) bw_1053 ?_
      refine a_bipush C 6 dX12_areFars_43 (by decide) ?_
      refine a_iload_n C 3 dX12_areFars_45 rfl rfl ?_
      refine a_imul C dX12_areFars_46 ?_
      refine a_iload C 4 dX12_areFars_47 rfl ?_
      refine a_iadd C dX12_areFars_49 ?_
      refine a_aload_n C 0 dX12_areFars_50 rfl rfl ?_
      refine a_getr C 23 (r := 57) dX12_areFars_51 (by decide) rfl rfl rfl ib_12 (by decide) bw_1045 ?_
      refine a_aload_n C 0 dX12_areFars_54 rfl rfl ?_
      refine a_getr C 32 (r := 64) dX12_areFars_55 (by decide) rfl rfl rfl ib_12 (by decide) bw_1054 ?_
      refine a_iload C 4 dX12_areFars_58 rfl ?_
      refine b_iald C (Int32.toNatClampNeg v4) dX12_areFars_60 (by decide) rfl h.1 rfl ?_
      have h := h.2
      refine b_iald C (Int32.toNatClampNeg (gI u 64 (Int32.toNatClampNeg v4))) dX12_areFars_61 (by decide) rfl h.1 rfl ?_
      have h := h.2
      refine b_iast C (Int32.toNatClampNeg ((6 * v3) + v4)) dX12_areFars_62 (by decide) rfl h.1 rfl ?_
      have h := h.2
      refine a_topu (fun z5 ez5 => ?_)
      have h := h z5 ez5
      refine a_aload_n C 0 dX12_areFars_63 rfl rfl ?_
      refine a_getr C 31 (r := 63) dX12_areFars_64 (by decide) rfl rfl rfl ib_12 (by decide) bw_1053 ?_
      refine a_bipush C 6 dX12_areFars_67 (by decide) ?_
      refine a_iload_n C 3 dX12_areFars_69 rfl rfl ?_
      refine a_imul C dX12_areFars_70 ?_
      refine a_iload C 4 dX12_areFars_71 rfl ?_
      refine a_iadd C dX12_areFars_73 ?_
      refine b_iald C (Int32.toNatClampNeg ((6 * v3) + v4)) dX12_areFars_74 (by decide) rfl h.1 rfl ?_
      have h := h.2
      refine a_iconst C (-1) dX12_areFars_75 (by decide) ?_
      refine a_icmp_ne C 81 dX12_areFars_76 (by decide) (fun c6 => ?_) (fun c6 => ?_)
      · have h := h.1 c6
        refine a_iinc C (v4 + 1) 4 [(4, .int (v4 + 1)), (0, .ref (eA V 48)), (1, .int v1), (2, .int v2), (3, .int v3)] dX12_areFars_81 rfl (congrArg (fun z => v4 + z) (show Int32.ofInt 1 = 1 by decide)) (by decide) rfl ?_
        refine a_goto C 33 dX12_areFars_84 (by decide) ?_
        refine a_sub [1, 2, 3, 4, 0] rfl ?_
        exact ih _ _ _ _ _ h
      · have h := h.2 c6
        refine a_iconst C 0 dX12_areFars_79 (by decide) ?_
        exact a_zret C rfl dX12_areFars_80 h
set_option maxHeartbeats 4000000 in
set_option maxRecDepth 100000 in
theorem tj_X12_areFars_23 {p : Program} {l : Launch} {e : Env} {s : State} {m : MethodId} {args : Array Value} {below : List Frame} {meth : Method} {c : Code} {V : VEn} {k2 : Int32 → Int32 → Int32 → PoS → Prop} {post : Int32 → PoS → Prop} (C : CxS p s m args meth c V cX12_areFars 5 RX12 (some .boolean)) (hk2 : ∀ (v1 : Int32) (v2 : Int32) (v3 : Int32) (u : PoS), k2 v1 v2 v3 u → AtS p l e (Rm 4) s m args below meth c V 5 0 0 (QI V below args s post) 2 [(0, .ref (eA V 48)), (1, .int v1), (2, .int v2), (3, .int v3)] [] u) (v1 : Int32) (v2 : Int32) (v3 : Int32) (s0 : Int32) (u : PoS) (h : wj_X12_areFars_23 k2 post v1 v2 v3 s0 u) : AtS p l e (Rm 4) s m args below meth c V 5 0 0 (QI V below args s post) 23 [(0, .ref (eA V 48)), (1, .int v1), (2, .int v2), (3, .int v3)] [.int s0, .ref (eA V 48)] u := by
  rw [wj_X12_areFars_23] at h
  refine a_aload_n C 0 dX12_areFars_23 rfl rfl ?_
  refine a_callVi C dX12_areFars_24 (m_X12_free l V h) bw_1395 bw_1397 bw_79 bw_123 bw_1398 (by decide) rfl rfl np_X12_free rfl rfl (by decide) (Nat.le_of_ble_eq_true rfl) ⟨Nat.zero_le _, Nat.zero_le _⟩ (fun r1 u2 h => ?_)
  refine a_callVv C dX12_areFars_27 (m_X12_layFar l V h) bw_1399 bw_1401 bw_80 bw_123 bw_1402 (by decide) rfl rfl np_X12_layFar rfl rfl (by decide) (Nat.le_of_ble_eq_true rfl) ⟨Nat.zero_le _, Nat.zero_le _⟩ (fun u4 h => ?_)
  refine a_iconst C 0 dX12_areFars_30 (by decide) ?_
  refine a_istore C [(4, .int 0), (0, .ref (eA V 48)), (1, .int v1), (2, .int v2), (3, .int v3)] dX12_areFars_31 (by decide) rfl ?_
  refine a_sub [1, 2, 3, 4, 0] rfl ?_
  obtain ⟨n33, h⟩ := h
  refine tl_X12_areFars_33 C (fun v18 v28 v38 u8 h => ?_) n33 _ _ _ _ _ h
  refine a_iinc C (v38 + 1) 3 [(3, .int (v38 + 1)), (0, .ref (eA V 48)), (1, .int v18), (2, .int v28)] dX12_areFars_87 rfl (congrArg (fun z => v38 + z) (show Int32.ofInt 1 = 1 by decide)) (by decide) rfl ?_
  refine a_goto C 2 dX12_areFars_90 (by decide) ?_
  refine a_sub [1, 2, 3, 0] rfl ?_
  exact hk2 _ _ _ _ h
set_option maxHeartbeats 4000000 in
set_option maxRecDepth 100000 in
theorem tl_X12_areFars_2 {p : Program} {l : Launch} {e : Env} {s : State} {m : MethodId} {args : Array Value} {below : List Frame} {meth : Method} {c : Code} {V : VEn} {post : Int32 → PoS → Prop} (C : CxS p s m args meth c V cX12_areFars 5 RX12 (some .boolean)) : ∀ (n : Nat) (v1 : Int32) (v2 : Int32) (v3 : Int32) (u : PoS), wl_X12_areFars_2 post n v1 v2 v3 u → AtS p l e (Rm 4) s m args below meth c V 5 0 0 (QI V below args s post) 2 [(0, .ref (eA V 48)), (1, .int v1), (2, .int v2), (3, .int v3)] [] u := by
  intro n
  induction n with
  | zero => intro v1 v2 v3 u h; exact h.elim
  | succ n ih =>
    intro v1 v2 v3 u h
    rw [wl_X12_areFars_2] at h
    refine a_iload_n C 3 dX12_areFars_2 rfl rfl ?_
    refine a_iload_n C 2 dX12_areFars_3 rfl rfl ?_
    refine a_icmp_gt C 93 dX12_areFars_4 (by decide) (fun c10 => ?_) (fun c10 => ?_)
    · have h := h.1 c10
      refine a_iconst C 1 dX12_areFars_93 (by decide) ?_
      exact a_zret C rfl dX12_areFars_94 h
    · have h := h.2 c10
      refine a_aload_n C 0 dX12_areFars_7 rfl rfl ?_
      refine a_iload_n C 3 dX12_areFars_8 rfl rfl ?_
      refine a_iload_n C 2 dX12_areFars_9 rfl rfl ?_
      refine a_icmp_ne C 17 dX12_areFars_10 (by decide) (fun c9 => ?_) (fun c9 => ?_)
      · have h := h.1 c9
        refine a_aload_n C 0 dX12_areFars_17 rfl rfl ?_
        refine a_getr C 32 (r := 64) dX12_areFars_18 (by decide) rfl rfl rfl ib_12 (by decide) bw_1054 ?_
        refine a_iload_n C 3 dX12_areFars_21 rfl rfl ?_
        refine b_iald C (Int32.toNatClampNeg v3) dX12_areFars_22 (by decide) rfl h.1 rfl ?_
        have h := h.2
        refine tj_X12_areFars_23 C ih _ _ _ _ _ h
      · have h := h.2 c9
        refine a_iload_n C 1 dX12_areFars_13 rfl rfl ?_
        refine a_goto C 23 dX12_areFars_14 (by decide) ?_
        refine tj_X12_areFars_23 C ih _ _ _ _ _ h
theorem np_X12_areFars : yX12_areFars.cls ≠ "java/lang/invoke/MethodHandle" ∧ yX12_areFars.cls ≠ "java/lang/invoke/VarHandle" ∧ (parseMethodDescriptor yX12_areFars.desc).map (fun d => d.parameters.length) = some 2 := by decide +kernel
set_option maxHeartbeats 4000000 in
set_option maxRecDepth 100000 in
theorem m_X12_areFars (l : Launch) (V : VEn) {a0 : Int32} {a1 : Int32} {u : PoS} {post : Int32 → PoS → Prop} (h : wp_X12_areFars a0 a1 u post) : KI l V yX12_areFars cX12_areFars 5 .boolean 4 [.ref (eA V 48), .int a0, .int a1] u post := by
  refine KI_of (by decide) (Nat.le_of_ble_eq_true rfl) (lv := [(0, .ref (eA V 48)), (1, .int a0), (2, .int a1)]) rfl ?_
  intro p e s m args below meth c C
  rw [wp_X12_areFars] at h
  refine a_iconst C 0 dX12_areFars_0 (by decide) ?_
  refine a_istore_n C [(3, .int 0), (0, .ref (eA V 48)), (1, .int a0), (2, .int a1)] dX12_areFars_1 rfl (by decide) rfl ?_
  refine a_sub [1, 2, 3, 0] rfl ?_
  obtain ⟨n2, h⟩ := h
  refine tl_X12_areFars_2 C n2 _ _ _ _ h

/-! RainOnTheOneModel.tour(III)I -/
def wj_X12_tour_100 (k60 : Int32 → Int32 → Int32 → Int32 → Int32 → PoS → Prop) (post : Int32 → PoS → Prop) (v1 : Int32) (v2 : Int32) (v3 : Int32) (v4 : Int32) (v5 : Int32) (u : PoS) : Prop := k60 v1 v2 v3 v4 (v5 + 1) u
def wl_X12_tour_60 (k106 : Int32 → Int32 → Int32 → PoS → Prop) (post : Int32 → PoS → Prop) : Nat → Int32 → Int32 → Int32 → Int32 → Int32 → PoS → Prop
  | 0, _, _, _, _, _, _ => False
  | n + 1, v1, v2, v3, v4, v5, u => ((30 ≤ v5 → k106 v1 v3 v4 u) ∧ (¬ 30 ≤ v5 → wp_X12_has v2 v5 u (fun (r13 : Int32) (u14 : PoS) => ((¬ r13 = 0 → vp_in v4 5 ∧ ∀ z15 : PoS, z15 = pI u14 64 (Int32.toNatClampNeg v4) v5 → vp_in v4 5 ∧ ∀ z16 : PoS, z16 = pI z15 61 (Int32.toNatClampNeg v4) v4 → wj_X12_tour_100 (wl_X12_tour_60 k106 post n) post v1 v2 v3 (v4 + 1) v5 z16) ∧ (r13 = 0 → wj_X12_tour_100 (wl_X12_tour_60 k106 post n) post v1 v2 v3 v4 v5 u14)))))
def wj_X12_tour_172 (k138 : Int32 → Int32 → Int32 → Int32 → Int32 → PoS → Prop) (post : Int32 → PoS → Prop) (v3 : Int32) (v4 : Int32) (v5 : Int32) (v8 : Int32) (s0 : Int32) (s1 : Int32) (s3 : Int32) (u : PoS) : Prop := vp_in v8 5 ∧ vp_in ((s1 * s0) + (gI u 61 (Int32.toNatClampNeg v8))) 36 ∧ ∀ x22 : Int32, x22 = (s3 + (gI u 63 (Int32.toNatClampNeg ((s1 * s0) + (gI u 61 (Int32.toNatClampNeg v8)))))) → k138 v3 v4 v5 x22 (v8 + 1) u
def wl_X12_tour_138 (k191 : Int32 → Int32 → Int32 → Int32 → PoS → Prop) (post : Int32 → PoS → Prop) : Nat → Int32 → Int32 → Int32 → Int32 → Int32 → PoS → Prop
  | 0, _, _, _, _, _, _ => False
  | n + 1, v3, v4, v5, v7, v8, u => ((v4 ≤ v8 → k191 v3 v4 v5 v7 u) ∧ (¬ v4 ≤ v8 → ((¬ v8 = 0 → vp_in (v8 - 1) 5 ∧ wj_X12_tour_172 (wl_X12_tour_138 k191 post n) post v3 v4 v5 v8 (gI u 61 (Int32.toNatClampNeg (v8 - 1))) 6 v7 u) ∧ (v8 = 0 → wj_X12_tour_172 (wl_X12_tour_138 k191 post n) post v3 v4 v5 v8 v4 6 v7 u))))
def wj_X12_tour_232 (k127 : Int32 → Int32 → Int32 → Int32 → PoS → Prop) (post : Int32 → PoS → Prop) (v3 : Int32) (v4 : Int32) (v5 : Int32) (u : PoS) : Prop := wp_X12_isNextRow v4 u (fun (r26 : Int32) (u27 : PoS) => k127 v3 v4 v5 r26 u27)
def wl_X12_tour_205 (k232 : Int32 → Int32 → Int32 → PoS → Prop) (post : Int32 → PoS → Prop) : Nat → Int32 → Int32 → Int32 → Int32 → PoS → Prop
  | 0, _, _, _, _, _ => False
  | n + 1, v3, v4, v5, v8, u => ((v4 ≤ v8 → k232 v3 v4 v5 u) ∧ (¬ v4 ≤ v8 → vp_in v8 5 ∧ vp_in v8 5 ∧ ∀ z28 : PoS, z28 = pI u 62 (Int32.toNatClampNeg v8) (gI u 61 (Int32.toNatClampNeg v8)) → wl_X12_tour_205 k232 post n v3 v4 v5 (v8 + 1) z28))
def wl_X12_tour_127 (k243 : Int32 → Int32 → PoS → Prop) (post : Int32 → PoS → Prop) : Nat → Int32 → Int32 → Int32 → Int32 → PoS → Prop
  | 0, _, _, _, _, _ => False
  | n + 1, v3, v4, v5, v6, u => ((v6 = 0 → k243 v3 v5 u) ∧ (¬ v6 = 0 → (∃ n138, wl_X12_tour_138 (fun (v325 : Int32) (v425 : Int32) (v525 : Int32) (v725 : Int32) (u25 : PoS) => ((v525 ≤ v725 → wj_X12_tour_232 (wl_X12_tour_127 k243 post n) post v325 v425 v525 u25) ∧ (¬ v525 ≤ v725 → (∃ n205, wl_X12_tour_205 (fun (v330 : Int32) (v430 : Int32) (v530 : Int32) (u30 : PoS) => wj_X12_tour_232 (wl_X12_tour_127 k243 post n) post v330 v430 v530 u30) post n205 v325 v425 v725 0 u25)))) post n138 v3 v4 v5 0 0 u)))
def wp_X12_tour (a0 : Int32) (a1 : Int32) (a2 : Int32) (u : PoS) (post : Int32 → PoS → Prop) : Prop := wp_X12_isFree a0 u (fun (r1 : Int32) (u2 : PoS) => ((r1 = 0 → post (-2) u2) ∧ (¬ r1 = 0 → wp_X12_isIn a1 1 1073741823 u2 (fun (r3 : Int32) (u4 : PoS) => ((r3 = 0 → post (-2) u4) ∧ (¬ r3 = 0 → wp_X12_free u4 (fun (r5 : Int32) (u6 : PoS) => ((¬ (a1 &&& (r5 ^^^ (-1))) = 0 → post (-2) u6) ∧ ((a1 &&& (r5 ^^^ (-1))) = 0 → wp_X12_bits a1 u6 (fun (r7 : Int32) (u8 : PoS) => ((5 < r7 → post (-2) u8) ∧ (¬ 5 < r7 → wp_X12_bits a1 u8 (fun (r9 : Int32) (u10 : PoS) => wp_X12_isIn a2 (-1) (r9 - 1) u10 (fun (r11 : Int32) (u12 : PoS) => ((¬ r11 = 0 → (∃ n60, wl_X12_tour_60 (fun (v119 : Int32) (v319 : Int32) (v419 : Int32) (u19 : PoS) => wp_X12_areFars v119 v419 u19 (fun (r20 : Int32) (u21 : PoS) => ((¬ r20 = 0 → (∃ n127, wl_X12_tour_127 (fun (v333 : Int32) (v533 : Int32) (u33 : PoS) => ((¬ v333 = (-1) → vp_in v333 5 ∧ vp_in (gI u33 62 (Int32.toNatClampNeg v333)) 5 ∧ post (gI u33 64 (Int32.toNatClampNeg (gI u33 62 (Int32.toNatClampNeg v333)))) u33) ∧ (v333 = (-1) → post v533 u33))) post n127 v319 v419 1000000 1 u21)) ∧ (r20 = 0 → post (-2) u21)))) post n60 a0 a1 a2 0 0 u12)) ∧ (r11 = 0 → post (-2) u12))))))))))))))))
set_option maxHeartbeats 4000000 in
set_option maxRecDepth 100000 in
theorem tj_X12_tour_100 {p : Program} {l : Launch} {e : Env} {s : State} {m : MethodId} {args : Array Value} {below : List Frame} {meth : Method} {c : Code} {V : VEn} {k60 : Int32 → Int32 → Int32 → Int32 → Int32 → PoS → Prop} {post : Int32 → PoS → Prop} (C : CxS p s m args meth c V cX12_tour 9 RX12 (some .int)) (hk60 : ∀ (v1 : Int32) (v2 : Int32) (v3 : Int32) (v4 : Int32) (v5 : Int32) (u : PoS), k60 v1 v2 v3 v4 v5 u → AtS p l e (Rm 5) s m args below meth c V 9 0 0 (QI V below args s post) 60 [(0, .ref (eA V 48)), (1, .int v1), (2, .int v2), (3, .int v3), (4, .int v4), (5, .int v5)] [] u) (v1 : Int32) (v2 : Int32) (v3 : Int32) (v4 : Int32) (v5 : Int32) (u : PoS) (h : wj_X12_tour_100 k60 post v1 v2 v3 v4 v5 u) : AtS p l e (Rm 5) s m args below meth c V 9 0 0 (QI V below args s post) 100 [(0, .ref (eA V 48)), (1, .int v1), (2, .int v2), (3, .int v3), (4, .int v4), (5, .int v5)] [] u := by
  rw [wj_X12_tour_100] at h
  refine a_iinc C (v5 + 1) 5 [(5, .int (v5 + 1)), (0, .ref (eA V 48)), (1, .int v1), (2, .int v2), (3, .int v3), (4, .int v4)] dX12_tour_100 rfl (congrArg (fun z => v5 + z) (show Int32.ofInt 1 = 1 by decide)) (by decide) rfl ?_
  refine a_goto C 60 dX12_tour_103 (by decide) ?_
  refine a_sub [1, 2, 3, 4, 5, 0] rfl ?_
  exact hk60 _ _ _ _ _ _ h
set_option maxHeartbeats 4000000 in
set_option maxRecDepth 100000 in
theorem tl_X12_tour_60 {p : Program} {l : Launch} {e : Env} {s : State} {m : MethodId} {args : Array Value} {below : List Frame} {meth : Method} {c : Code} {V : VEn} {k106 : Int32 → Int32 → Int32 → PoS → Prop} {post : Int32 → PoS → Prop} (C : CxS p s m args meth c V cX12_tour 9 RX12 (some .int)) (hk106 : ∀ (v1 : Int32) (v3 : Int32) (v4 : Int32) (u : PoS), k106 v1 v3 v4 u → AtS p l e (Rm 5) s m args below meth c V 9 0 0 (QI V below args s post) 106 [(0, .ref (eA V 48)), (1, .int v1), (3, .int v3), (4, .int v4)] [] u) : ∀ (n : Nat) (v1 : Int32) (v2 : Int32) (v3 : Int32) (v4 : Int32) (v5 : Int32) (u : PoS), wl_X12_tour_60 k106 post n v1 v2 v3 v4 v5 u → AtS p l e (Rm 5) s m args below meth c V 9 0 0 (QI V below args s post) 60 [(0, .ref (eA V 48)), (1, .int v1), (2, .int v2), (3, .int v3), (4, .int v4), (5, .int v5)] [] u := by
  intro n
  induction n with
  | zero => intro v1 v2 v3 v4 v5 u h; exact h.elim
  | succ n ih =>
    intro v1 v2 v3 v4 v5 u h
    rw [wl_X12_tour_60] at h
    refine a_iload C 5 dX12_tour_60 rfl ?_
    refine a_bipush C 30 dX12_tour_62 (by decide) ?_
    refine a_icmp_ge C 106 dX12_tour_64 (by decide) (fun c18 => ?_) (fun c18 => ?_)
    · have h := h.1 c18
      refine a_sub [0, 1, 3, 4] rfl ?_
      exact hk106 _ _ _ _ h
    · have h := h.2 c18
      refine a_iload_n C 2 dX12_tour_67 rfl rfl ?_
      refine a_iload C 5 dX12_tour_68 rfl ?_
      refine a_callSi C dX12_tour_70 (m_X12_has l V h) bw_1240 bw_1241 bw_123 bw_1242 np_X12_has rfl rfl (by decide) (Nat.le_of_ble_eq_true rfl) ⟨Nat.zero_le _, Nat.zero_le _⟩ (fun r13 u14 h => ?_)
      refine a_if_ne C 79 dX12_tour_73 (by decide) (fun c17 => ?_) (fun c17 => ?_)
      · have h := h.1 c17
        refine a_aload_n C 0 dX12_tour_79 rfl rfl ?_
        refine a_getr C 32 (r := 64) dX12_tour_80 (by decide) rfl rfl rfl ib_12 (by decide) bw_1054 ?_
        refine a_iload C 4 dX12_tour_83 rfl ?_
        refine a_iload C 5 dX12_tour_85 rfl ?_
        refine b_iast C (Int32.toNatClampNeg v4) dX12_tour_87 (by decide) rfl h.1 rfl ?_
        have h := h.2
        refine a_topu (fun z15 ez15 => ?_)
        have h := h z15 ez15
        refine a_aload_n C 0 dX12_tour_88 rfl rfl ?_
        refine a_getr C 29 (r := 61) dX12_tour_89 (by decide) rfl rfl rfl ib_12 (by decide) bw_1051 ?_
        refine a_iload C 4 dX12_tour_92 rfl ?_
        refine a_iload C 4 dX12_tour_94 rfl ?_
        refine b_iast C (Int32.toNatClampNeg v4) dX12_tour_96 (by decide) rfl h.1 rfl ?_
        have h := h.2
        refine a_topu (fun z16 ez16 => ?_)
        have h := h z16 ez16
        refine a_iinc C (v4 + 1) 4 [(4, .int (v4 + 1)), (0, .ref (eA V 48)), (1, .int v1), (2, .int v2), (3, .int v3), (5, .int v5)] dX12_tour_97 rfl (congrArg (fun z => v4 + z) (show Int32.ofInt 1 = 1 by decide)) (by decide) rfl ?_
        refine a_sub [1, 2, 3, 4, 0, 5] rfl ?_
        refine tj_X12_tour_100 C ih _ _ _ _ _ _ h
      · have h := h.2 c17
        refine a_goto C 100 dX12_tour_76 (by decide) ?_
        refine tj_X12_tour_100 C ih _ _ _ _ _ _ h
set_option maxHeartbeats 4000000 in
set_option maxRecDepth 100000 in
theorem tj_X12_tour_172 {p : Program} {l : Launch} {e : Env} {s : State} {m : MethodId} {args : Array Value} {below : List Frame} {meth : Method} {c : Code} {V : VEn} {k138 : Int32 → Int32 → Int32 → Int32 → Int32 → PoS → Prop} {post : Int32 → PoS → Prop} (C : CxS p s m args meth c V cX12_tour 9 RX12 (some .int)) (hk138 : ∀ (v3 : Int32) (v4 : Int32) (v5 : Int32) (v7 : Int32) (v8 : Int32) (u : PoS), k138 v3 v4 v5 v7 v8 u → AtS p l e (Rm 5) s m args below meth c V 9 0 0 (QI V below args s post) 138 [(0, .ref (eA V 48)), (3, .int v3), (4, .int v4), (5, .int v5), (7, .int v7), (8, .int v8)] [] u) (v3 : Int32) (v4 : Int32) (v5 : Int32) (v8 : Int32) (s0 : Int32) (s1 : Int32) (s3 : Int32) (u : PoS) (h : wj_X12_tour_172 k138 post v3 v4 v5 v8 s0 s1 s3 u) : AtS p l e (Rm 5) s m args below meth c V 9 0 0 (QI V below args s post) 172 [(0, .ref (eA V 48)), (3, .int v3), (4, .int v4), (5, .int v5), (8, .int v8)] [.int s0, .int s1, .ref (eA V 63), .int s3] u := by
  rw [wj_X12_tour_172] at h
  refine a_imul C dX12_tour_172 ?_
  refine a_aload_n C 0 dX12_tour_173 rfl rfl ?_
  refine a_getr C 29 (r := 61) dX12_tour_174 (by decide) rfl rfl rfl ib_12 (by decide) bw_1051 ?_
  refine a_iload C 4 dX12_tour_177 rfl ?_
  refine b_iald C (Int32.toNatClampNeg v8) dX12_tour_179 (by decide) rfl h.1 rfl ?_
  have h := h.2
  refine a_iadd C dX12_tour_180 ?_
  refine b_iald C (Int32.toNatClampNeg ((s1 * s0) + (gI u 61 (Int32.toNatClampNeg v8)))) dX12_tour_181 (by decide) rfl h.1 rfl ?_
  have h := h.2
  refine a_iadd C dX12_tour_182 ?_
  refine a_topi (fun x22 ex22 => ?_)
  have h := h x22 ex22
  refine a_istore C [(7, .int x22), (0, .ref (eA V 48)), (3, .int v3), (4, .int v4), (5, .int v5), (8, .int v8)] dX12_tour_183 (by decide) rfl ?_
  refine a_iinc C (v8 + 1) 5 [(8, .int (v8 + 1)), (7, .int x22), (0, .ref (eA V 48)), (3, .int v3), (4, .int v4), (5, .int v5)] dX12_tour_185 rfl (congrArg (fun z => v8 + z) (show Int32.ofInt 1 = 1 by decide)) (by decide) rfl ?_
  refine a_goto C 138 dX12_tour_188 (by decide) ?_
  refine a_sub [2, 3, 4, 5, 1, 0] rfl ?_
  exact hk138 _ _ _ _ _ _ h
set_option maxHeartbeats 4000000 in
set_option maxRecDepth 100000 in
theorem tl_X12_tour_138 {p : Program} {l : Launch} {e : Env} {s : State} {m : MethodId} {args : Array Value} {below : List Frame} {meth : Method} {c : Code} {V : VEn} {k191 : Int32 → Int32 → Int32 → Int32 → PoS → Prop} {post : Int32 → PoS → Prop} (C : CxS p s m args meth c V cX12_tour 9 RX12 (some .int)) (hk191 : ∀ (v3 : Int32) (v4 : Int32) (v5 : Int32) (v7 : Int32) (u : PoS), k191 v3 v4 v5 v7 u → AtS p l e (Rm 5) s m args below meth c V 9 0 0 (QI V below args s post) 191 [(0, .ref (eA V 48)), (3, .int v3), (4, .int v4), (5, .int v5), (7, .int v7)] [] u) : ∀ (n : Nat) (v3 : Int32) (v4 : Int32) (v5 : Int32) (v7 : Int32) (v8 : Int32) (u : PoS), wl_X12_tour_138 k191 post n v3 v4 v5 v7 v8 u → AtS p l e (Rm 5) s m args below meth c V 9 0 0 (QI V below args s post) 138 [(0, .ref (eA V 48)), (3, .int v3), (4, .int v4), (5, .int v5), (7, .int v7), (8, .int v8)] [] u := by
  intro n
  induction n with
  | zero => intro v3 v4 v5 v7 v8 u h; exact h.elim
  | succ n ih =>
    intro v3 v4 v5 v7 v8 u h
    rw [wl_X12_tour_138] at h
    refine a_iload C 5 dX12_tour_138 rfl ?_
    refine a_iload C 2 dX12_tour_140 rfl ?_
    refine a_icmp_ge C 191 dX12_tour_142 (by decide) (fun c24 => ?_) (fun c24 => ?_)
    · have h := h.1 c24
      refine a_sub [0, 1, 2, 3, 4] rfl ?_
      exact hk191 _ _ _ _ _ h
    · have h := h.2 c24
      refine a_iload C 4 dX12_tour_145 rfl ?_
      refine a_aload_n C 0 dX12_tour_147 rfl rfl ?_
      refine a_getr C 31 (r := 63) dX12_tour_148 (by decide) rfl rfl rfl ib_12 (by decide) bw_1053 ?_
      refine a_bipush C 6 dX12_tour_151 (by decide) ?_
      refine a_iload C 5 dX12_tour_153 rfl ?_
      refine a_if_ne C 163 dX12_tour_155 (by decide) (fun c23 => ?_) (fun c23 => ?_)
      · have h := h.1 c23
        refine a_aload_n C 0 dX12_tour_163 rfl rfl ?_
        refine a_getr C 29 (r := 61) dX12_tour_164 (by decide) rfl rfl rfl ib_12 (by decide) bw_1051 ?_
        refine a_iload C 5 dX12_tour_167 rfl ?_
        refine a_iconst C 1 dX12_tour_169 (by decide) ?_
        refine a_isub C dX12_tour_170 ?_
        refine b_iald C (Int32.toNatClampNeg (v8 - 1)) dX12_tour_171 (by decide) rfl h.1 rfl ?_
        have h := h.2
        refine a_sub [0, 1, 2, 3, 5] rfl ?_
        refine tj_X12_tour_172 C ih _ _ _ _ _ _ _ _ h
      · have h := h.2 c23
        refine a_iload C 2 dX12_tour_158 rfl ?_
        refine a_goto C 172 dX12_tour_160 (by decide) ?_
        refine a_sub [0, 1, 2, 3, 5] rfl ?_
        refine tj_X12_tour_172 C ih _ _ _ _ _ _ _ _ h
set_option maxHeartbeats 4000000 in
set_option maxRecDepth 100000 in
theorem tj_X12_tour_232 {p : Program} {l : Launch} {e : Env} {s : State} {m : MethodId} {args : Array Value} {below : List Frame} {meth : Method} {c : Code} {V : VEn} {k127 : Int32 → Int32 → Int32 → Int32 → PoS → Prop} {post : Int32 → PoS → Prop} (C : CxS p s m args meth c V cX12_tour 9 RX12 (some .int)) (hk127 : ∀ (v3 : Int32) (v4 : Int32) (v5 : Int32) (v6 : Int32) (u : PoS), k127 v3 v4 v5 v6 u → AtS p l e (Rm 5) s m args below meth c V 9 0 0 (QI V below args s post) 127 [(0, .ref (eA V 48)), (3, .int v3), (4, .int v4), (5, .int v5), (6, .int v6)] [] u) (v3 : Int32) (v4 : Int32) (v5 : Int32) (u : PoS) (h : wj_X12_tour_232 k127 post v3 v4 v5 u) : AtS p l e (Rm 5) s m args below meth c V 9 0 0 (QI V below args s post) 232 [(0, .ref (eA V 48)), (3, .int v3), (4, .int v4), (5, .int v5)] [] u := by
  rw [wj_X12_tour_232] at h
  refine a_aload_n C 0 dX12_tour_232 rfl rfl ?_
  refine a_iload C 2 dX12_tour_233 rfl ?_
  refine a_callVi C dX12_tour_235 (m_X12_isNextRow l V h) bw_1606 bw_1608 bw_104 bw_123 bw_1609 (by decide) rfl rfl np_X12_isNextRow rfl rfl (by decide) (Nat.le_of_ble_eq_true rfl) ⟨Nat.zero_le _, Nat.zero_le _⟩ (fun r26 u27 h => ?_)
  refine a_istore C [(6, .int r26), (0, .ref (eA V 48)), (3, .int v3), (4, .int v4), (5, .int v5)] dX12_tour_238 (by decide) rfl ?_
  refine a_goto C 127 dX12_tour_240 (by decide) ?_
  refine a_sub [1, 2, 3, 4, 0] rfl ?_
  exact hk127 _ _ _ _ _ h
set_option maxHeartbeats 4000000 in
set_option maxRecDepth 100000 in
theorem tl_X12_tour_205 {p : Program} {l : Launch} {e : Env} {s : State} {m : MethodId} {args : Array Value} {below : List Frame} {meth : Method} {c : Code} {V : VEn} {k232 : Int32 → Int32 → Int32 → PoS → Prop} {post : Int32 → PoS → Prop} (C : CxS p s m args meth c V cX12_tour 9 RX12 (some .int)) (hk232 : ∀ (v3 : Int32) (v4 : Int32) (v5 : Int32) (u : PoS), k232 v3 v4 v5 u → AtS p l e (Rm 5) s m args below meth c V 9 0 0 (QI V below args s post) 232 [(0, .ref (eA V 48)), (3, .int v3), (4, .int v4), (5, .int v5)] [] u) : ∀ (n : Nat) (v3 : Int32) (v4 : Int32) (v5 : Int32) (v8 : Int32) (u : PoS), wl_X12_tour_205 k232 post n v3 v4 v5 v8 u → AtS p l e (Rm 5) s m args below meth c V 9 0 0 (QI V below args s post) 205 [(0, .ref (eA V 48)), (3, .int v3), (4, .int v4), (5, .int v5), (8, .int v8)] [] u := by
  intro n
  induction n with
  | zero => intro v3 v4 v5 v8 u h; exact h.elim
  | succ n ih =>
    intro v3 v4 v5 v8 u h
    rw [wl_X12_tour_205] at h
    refine a_iload C 4 dX12_tour_205 rfl ?_
    refine a_iload C 2 dX12_tour_207 rfl ?_
    refine a_icmp_ge C 232 dX12_tour_209 (by decide) (fun c29 => ?_) (fun c29 => ?_)
    · have h := h.1 c29
      refine a_sub [0, 1, 2, 3] rfl ?_
      exact hk232 _ _ _ _ h
    · have h := h.2 c29
      refine a_aload_n C 0 dX12_tour_212 rfl rfl ?_
      refine a_getr C 30 (r := 62) dX12_tour_213 (by decide) rfl rfl rfl ib_12 (by decide) bw_1052 ?_
      refine a_iload C 4 dX12_tour_216 rfl ?_
      refine a_aload_n C 0 dX12_tour_218 rfl rfl ?_
      refine a_getr C 29 (r := 61) dX12_tour_219 (by decide) rfl rfl rfl ib_12 (by decide) bw_1051 ?_
      refine a_iload C 4 dX12_tour_222 rfl ?_
      refine b_iald C (Int32.toNatClampNeg v8) dX12_tour_224 (by decide) rfl h.1 rfl ?_
      have h := h.2
      refine b_iast C (Int32.toNatClampNeg v8) dX12_tour_225 (by decide) rfl h.1 rfl ?_
      have h := h.2
      refine a_topu (fun z28 ez28 => ?_)
      have h := h z28 ez28
      refine a_iinc C (v8 + 1) 4 [(8, .int (v8 + 1)), (0, .ref (eA V 48)), (3, .int v3), (4, .int v4), (5, .int v5)] dX12_tour_226 rfl (congrArg (fun z => v8 + z) (show Int32.ofInt 1 = 1 by decide)) (by decide) rfl ?_
      refine a_goto C 205 dX12_tour_229 (by decide) ?_
      refine a_sub [1, 2, 3, 4, 0] rfl ?_
      exact ih _ _ _ _ _ h
set_option maxHeartbeats 4000000 in
set_option maxRecDepth 100000 in
theorem tl_X12_tour_127 {p : Program} {l : Launch} {e : Env} {s : State} {m : MethodId} {args : Array Value} {below : List Frame} {meth : Method} {c : Code} {V : VEn} {k243 : Int32 → Int32 → PoS → Prop} {post : Int32 → PoS → Prop} (C : CxS p s m args meth c V cX12_tour 9 RX12 (some .int)) (hk243 : ∀ (v3 : Int32) (v5 : Int32) (u : PoS), k243 v3 v5 u → AtS p l e (Rm 5) s m args below meth c V 9 0 0 (QI V below args s post) 243 [(0, .ref (eA V 48)), (3, .int v3), (5, .int v5)] [] u) : ∀ (n : Nat) (v3 : Int32) (v4 : Int32) (v5 : Int32) (v6 : Int32) (u : PoS), wl_X12_tour_127 k243 post n v3 v4 v5 v6 u → AtS p l e (Rm 5) s m args below meth c V 9 0 0 (QI V below args s post) 127 [(0, .ref (eA V 48)), (3, .int v3), (4, .int v4), (5, .int v5), (6, .int v6)] [] u := by
  intro n
  induction n with
  | zero => intro v3 v4 v5 v6 u h; exact h.elim
  | succ n ih =>
    intro v3 v4 v5 v6 u h
    rw [wl_X12_tour_127] at h
    refine a_iload C 4 dX12_tour_127 rfl ?_
    refine a_if_eq C 243 dX12_tour_129 (by decide) (fun c32 => ?_) (fun c32 => ?_)
    · have h := h.1 c32
      refine a_sub [0, 1, 3] rfl ?_
      exact hk243 _ _ _ h
    · have h := h.2 c32
      refine a_iconst C 0 dX12_tour_132 (by decide) ?_
      refine a_istore C [(7, .int 0), (0, .ref (eA V 48)), (3, .int v3), (4, .int v4), (5, .int v5), (6, .int v6)] dX12_tour_133 (by decide) rfl ?_
      refine a_iconst C 0 dX12_tour_135 (by decide) ?_
      refine a_istore C [(8, .int 0), (7, .int 0), (0, .ref (eA V 48)), (3, .int v3), (4, .int v4), (5, .int v5), (6, .int v6)] dX12_tour_136 (by decide) rfl ?_
      refine a_sub [2, 3, 4, 5, 1, 0] rfl ?_
      obtain ⟨n138, h⟩ := h
      refine tl_X12_tour_138 C (fun v325 v425 v525 v725 u25 h => ?_) n138 _ _ _ _ _ _ h
      refine a_iload C 4 dX12_tour_191 rfl ?_
      refine a_iload C 3 dX12_tour_193 rfl ?_
      refine a_icmp_ge C 232 dX12_tour_195 (by decide) (fun c31 => ?_) (fun c31 => ?_)
      · have h := h.1 c31
        refine a_sub [0, 1, 2, 3] rfl ?_
        refine tj_X12_tour_232 C ih _ _ _ _ h
      · have h := h.2 c31
        refine a_iload C 4 dX12_tour_198 rfl ?_
        refine a_istore C [(5, .int v725), (0, .ref (eA V 48)), (3, .int v325), (4, .int v425), (7, .int v725)] dX12_tour_200 (by decide) rfl ?_
        refine a_iconst C 0 dX12_tour_202 (by decide) ?_
        refine a_istore C [(8, .int 0), (5, .int v725), (0, .ref (eA V 48)), (3, .int v325), (4, .int v425), (7, .int v725)] dX12_tour_203 (by decide) rfl ?_
        refine a_sub [2, 3, 4, 1, 0] rfl ?_
        obtain ⟨n205, h⟩ := h
        refine tl_X12_tour_205 C (fun v330 v430 v530 u30 h => ?_) n205 _ _ _ _ _ h
        refine tj_X12_tour_232 C ih _ _ _ _ h
theorem np_X12_tour : yX12_tour.cls ≠ "java/lang/invoke/MethodHandle" ∧ yX12_tour.cls ≠ "java/lang/invoke/VarHandle" ∧ (parseMethodDescriptor yX12_tour.desc).map (fun d => d.parameters.length) = some 3 := by decide +kernel
set_option maxHeartbeats 4000000 in
set_option maxRecDepth 100000 in
theorem m_X12_tour (l : Launch) (V : VEn) {a0 : Int32} {a1 : Int32} {a2 : Int32} {u : PoS} {post : Int32 → PoS → Prop} (h : wp_X12_tour a0 a1 a2 u post) : KI l V yX12_tour cX12_tour 9 .int 5 [.ref (eA V 48), .int a0, .int a1, .int a2] u post := by
  refine KI_of (by decide) (Nat.le_of_ble_eq_true rfl) (lv := [(0, .ref (eA V 48)), (1, .int a0), (2, .int a1), (3, .int a2)]) rfl ?_
  intro p e s m args below meth c C
  rw [wp_X12_tour] at h
  refine a_aload_n C 0 dX12_tour_0 rfl rfl ?_
  refine a_iload_n C 1 dX12_tour_1 rfl rfl ?_
  refine a_callVi C dX12_tour_2 (m_X12_isFree l V h) bw_1140 bw_1142 bw_39 bw_123 bw_1143 (by decide) rfl rfl np_X12_isFree rfl rfl (by decide) (Nat.le_of_ble_eq_true rfl) ⟨Nat.zero_le _, Nat.zero_le _⟩ (fun r1 u2 h => ?_)
  refine a_if_eq C 51 dX12_tour_5 (by decide) (fun c40 => ?_) (fun c40 => ?_)
  · have h := h.1 c40
    refine a_bipush C (-2) dX12_tour_51 (by decide) ?_
    exact a_iret C dX12_tour_53 h
  · have h := h.2 c40
    refine a_iload_n C 2 dX12_tour_8 rfl rfl ?_
    refine a_iconst C 1 dX12_tour_9 (by decide) ?_
    refine a_ldc C dX12_tour_10 bw_1408 ?_
    refine a_callSi C dX12_tour_12 (m_X12_isIn l V h) bw_1147 bw_1148 bw_123 bw_1149 np_X12_isIn rfl rfl (by decide) (Nat.le_of_ble_eq_true rfl) ⟨Nat.zero_le _, Nat.zero_le _⟩ (fun r3 u4 h => ?_)
    refine a_if_eq C 51 dX12_tour_15 (by decide) (fun c39 => ?_) (fun c39 => ?_)
    · have h := h.1 c39
      refine a_bipush C (-2) dX12_tour_51 (by decide) ?_
      exact a_iret C dX12_tour_53 h
    · have h := h.2 c39
      refine a_iload_n C 2 dX12_tour_18 rfl rfl ?_
      refine a_aload_n C 0 dX12_tour_19 rfl rfl ?_
      refine a_callVi C dX12_tour_20 (m_X12_free l V h) bw_1395 bw_1397 bw_79 bw_123 bw_1398 (by decide) rfl rfl np_X12_free rfl rfl (by decide) (Nat.le_of_ble_eq_true rfl) ⟨Nat.zero_le _, Nat.zero_le _⟩ (fun r5 u6 h => ?_)
      refine a_iconst C (-1) dX12_tour_23 (by decide) ?_
      refine a_ixor C dX12_tour_24 ?_
      refine a_iand C dX12_tour_25 ?_
      refine a_if_ne C 51 dX12_tour_26 (by decide) (fun c38 => ?_) (fun c38 => ?_)
      · have h := h.1 c38
        refine a_bipush C (-2) dX12_tour_51 (by decide) ?_
        exact a_iret C dX12_tour_53 h
      · have h := h.2 c38
        refine a_iload_n C 2 dX12_tour_29 rfl rfl ?_
        refine a_callSi C dX12_tour_30 (m_X12_bits l V h) bw_1599 bw_1600 bw_123 bw_1601 np_X12_bits rfl rfl (by decide) (Nat.le_of_ble_eq_true rfl) ⟨Nat.zero_le _, Nat.zero_le _⟩ (fun r7 u8 h => ?_)
        refine a_iconst C 5 dX12_tour_33 (by decide) ?_
        refine a_icmp_gt C 51 dX12_tour_34 (by decide) (fun c37 => ?_) (fun c37 => ?_)
        · have h := h.1 c37
          refine a_bipush C (-2) dX12_tour_51 (by decide) ?_
          exact a_iret C dX12_tour_53 h
        · have h := h.2 c37
          refine a_iload_n C 3 dX12_tour_37 rfl rfl ?_
          refine a_iconst C (-1) dX12_tour_38 (by decide) ?_
          refine a_iload_n C 2 dX12_tour_39 rfl rfl ?_
          refine a_callSi C dX12_tour_40 (m_X12_bits l V h) bw_1599 bw_1600 bw_123 bw_1601 np_X12_bits rfl rfl (by decide) (Nat.le_of_ble_eq_true rfl) ⟨Nat.zero_le _, Nat.zero_le _⟩ (fun r9 u10 h => ?_)
          refine a_iconst C 1 dX12_tour_43 (by decide) ?_
          refine a_isub C dX12_tour_44 ?_
          refine a_callSi C dX12_tour_45 (m_X12_isIn l V h) bw_1147 bw_1148 bw_123 bw_1149 np_X12_isIn rfl rfl (by decide) (Nat.le_of_ble_eq_true rfl) ⟨Nat.zero_le _, Nat.zero_le _⟩ (fun r11 u12 h => ?_)
          refine a_if_ne C 54 dX12_tour_48 (by decide) (fun c36 => ?_) (fun c36 => ?_)
          · have h := h.1 c36
            refine a_iconst C 0 dX12_tour_54 (by decide) ?_
            refine a_istore C [(4, .int 0), (0, .ref (eA V 48)), (1, .int a0), (2, .int a1), (3, .int a2)] dX12_tour_55 (by decide) rfl ?_
            refine a_iconst C 0 dX12_tour_57 (by decide) ?_
            refine a_istore C [(5, .int 0), (4, .int 0), (0, .ref (eA V 48)), (1, .int a0), (2, .int a1), (3, .int a2)] dX12_tour_58 (by decide) rfl ?_
            refine a_sub [2, 3, 4, 5, 1, 0] rfl ?_
            obtain ⟨n60, h⟩ := h
            refine tl_X12_tour_60 C (fun v119 v319 v419 u19 h => ?_) n60 _ _ _ _ _ _ h
            refine a_aload_n C 0 dX12_tour_106 rfl rfl ?_
            refine a_iload_n C 1 dX12_tour_107 rfl rfl ?_
            refine a_iload C 3 dX12_tour_108 rfl ?_
            refine a_callVi C dX12_tour_110 (m_X12_areFars l V h) bw_1602 bw_1604 bw_103 bw_123 bw_1605 (by decide) rfl rfl np_X12_areFars rfl rfl (by decide) (Nat.le_of_ble_eq_true rfl) ⟨Nat.zero_le _, Nat.zero_le _⟩ (fun r20 u21 h => ?_)
            refine a_if_ne C 119 dX12_tour_113 (by decide) (fun c35 => ?_) (fun c35 => ?_)
            · have h := h.1 c35
              refine a_ldcw C dX12_tour_119 bw_1578 ?_
              refine a_istore C [(5, .int 1000000), (0, .ref (eA V 48)), (1, .int v119), (3, .int v319), (4, .int v419)] dX12_tour_122 (by decide) rfl ?_
              refine a_iconst C 1 dX12_tour_124 (by decide) ?_
              refine a_istore C [(6, .int 1), (5, .int 1000000), (0, .ref (eA V 48)), (1, .int v119), (3, .int v319), (4, .int v419)] dX12_tour_125 (by decide) rfl ?_
              refine a_sub [2, 4, 5, 1, 0] rfl ?_
              obtain ⟨n127, h⟩ := h
              refine tl_X12_tour_127 C (fun v333 v533 u33 h => ?_) n127 _ _ _ _ _ h
              refine a_iload_n C 1 dX12_tour_243 rfl rfl ?_
              refine a_iconst C (-1) dX12_tour_244 (by decide) ?_
              refine a_icmp_ne C 253 dX12_tour_245 (by decide) (fun c34 => ?_) (fun c34 => ?_)
              · have h := h.1 c34
                refine a_aload_n C 0 dX12_tour_253 rfl rfl ?_
                refine a_getr C 32 (r := 64) dX12_tour_254 (by decide) rfl rfl rfl ib_12 (by decide) bw_1054 ?_
                refine a_aload_n C 0 dX12_tour_257 rfl rfl ?_
                refine a_getr C 30 (r := 62) dX12_tour_258 (by decide) rfl rfl rfl ib_12 (by decide) bw_1052 ?_
                refine a_iload_n C 1 dX12_tour_261 rfl rfl ?_
                refine b_iald C (Int32.toNatClampNeg v333) dX12_tour_262 (by decide) rfl h.1 rfl ?_
                have h := h.2
                refine b_iald C (Int32.toNatClampNeg (gI u33 62 (Int32.toNatClampNeg v333))) dX12_tour_263 (by decide) rfl h.1 rfl ?_
                have h := h.2
                exact a_iret C dX12_tour_264 h
              · have h := h.2 c34
                refine a_iload C 2 dX12_tour_248 rfl ?_
                refine a_goto C 264 dX12_tour_250 (by decide) ?_
                exact a_iret C dX12_tour_264 h
            · have h := h.2 c35
              refine a_bipush C (-2) dX12_tour_116 (by decide) ?_
              exact a_iret C dX12_tour_118 h
          · have h := h.2 c36
            refine a_bipush C (-2) dX12_tour_51 (by decide) ?_
            exact a_iret C dX12_tour_53 h

/-! RainOnTheOneModel.comeTo(II)I -/
def wl_X12_comeTo_4 (post : Int32 → PoS → Prop) : Nat → Int32 → Int32 → Int32 → PoS → Prop
  | 0, _, _, _, _ => False
  | n + 1, v1, v2, v3, u => ((v3 = 0 → post v2 u) ∧ (¬ v3 = 0 → wp_X12_aside v3 u (fun (r1 : Int32) (u2 : PoS) => ∀ x3 : Int32, x3 = ((r1 &&& v1) &&& (v2 ^^^ (-1))) → ∀ x4 : Int32, x4 = (v2 ||| x3) → wl_X12_comeTo_4 post n v1 x4 x3 u2)))
def wp_X12_comeTo (a0 : Int32) (a1 : Int32) (u : PoS) (post : Int32 → PoS → Prop) : Prop := (∃ n4, wl_X12_comeTo_4 post n4 a1 a0 a0 u)
set_option maxHeartbeats 4000000 in
set_option maxRecDepth 100000 in
theorem tl_X12_comeTo_4 {p : Program} {l : Launch} {e : Env} {s : State} {m : MethodId} {args : Array Value} {below : List Frame} {meth : Method} {c : Code} {V : VEn} {post : Int32 → PoS → Prop} (C : CxS p s m args meth c V cX12_comeTo 4 RX12 (some .int)) : ∀ (n : Nat) (v1 : Int32) (v2 : Int32) (v3 : Int32) (u : PoS), wl_X12_comeTo_4 post n v1 v2 v3 u → AtS p l e (Rm 1) s m args below meth c V 4 0 0 (QI V below args s post) 4 [(1, .int v1), (2, .int v2), (3, .int v3)] [] u := by
  intro n
  induction n with
  | zero => intro v1 v2 v3 u h; exact h.elim
  | succ n ih =>
    intro v1 v2 v3 u h
    rw [wl_X12_comeTo_4] at h
    refine a_iload_n C 2 dX12_comeTo_4 rfl rfl ?_
    refine a_if_eq C 26 dX12_comeTo_5 (by decide) (fun c5 => ?_) (fun c5 => ?_)
    · have h := h.1 c5
      refine a_iload_n C 1 dX12_comeTo_26 rfl rfl ?_
      exact a_iret C dX12_comeTo_27 h
    · have h := h.2 c5
      refine a_iload_n C 2 dX12_comeTo_8 rfl rfl ?_
      refine a_callSi C dX12_comeTo_9 (m_X12_aside l V h) bw_1403 bw_1404 bw_123 bw_1405 np_X12_aside rfl rfl (by decide) (Nat.le_of_ble_eq_true rfl) ⟨Nat.zero_le _, Nat.zero_le _⟩ (fun r1 u2 h => ?_)
      refine a_iload_n C 0 dX12_comeTo_12 rfl rfl ?_
      refine a_iand C dX12_comeTo_13 ?_
      refine a_iload_n C 1 dX12_comeTo_14 rfl rfl ?_
      refine a_iconst C (-1) dX12_comeTo_15 (by decide) ?_
      refine a_ixor C dX12_comeTo_16 ?_
      refine a_iand C dX12_comeTo_17 ?_
      refine a_topi (fun x3 ex3 => ?_)
      have h := h x3 ex3
      refine a_istore_n C [(3, .int x3), (1, .int v1), (2, .int v2)] dX12_comeTo_18 rfl (by decide) rfl ?_
      refine a_iload_n C 2 dX12_comeTo_19 rfl rfl ?_
      refine a_iload_n C 0 dX12_comeTo_20 rfl rfl ?_
      refine a_ior C dX12_comeTo_21 ?_
      refine a_topi (fun x4 ex4 => ?_)
      have h := h x4 ex4
      refine a_istore_n C [(2, .int x4), (3, .int x3), (1, .int v1)] dX12_comeTo_22 rfl (by decide) rfl ?_
      refine a_goto C 4 dX12_comeTo_23 (by decide) ?_
      refine a_sub [2, 0, 1] rfl ?_
      exact ih _ _ _ _ h
theorem np_X12_comeTo : yX12_comeTo.cls ≠ "java/lang/invoke/MethodHandle" ∧ yX12_comeTo.cls ≠ "java/lang/invoke/VarHandle" ∧ (parseMethodDescriptor yX12_comeTo.desc).map (fun d => d.parameters.length) = some 2 := by decide +kernel
set_option maxHeartbeats 4000000 in
set_option maxRecDepth 100000 in
theorem m_X12_comeTo (l : Launch) (V : VEn) {a0 : Int32} {a1 : Int32} {u : PoS} {post : Int32 → PoS → Prop} (h : wp_X12_comeTo a0 a1 u post) : KI l V yX12_comeTo cX12_comeTo 4 .int 1 [.int a0, .int a1] u post := by
  refine KI_of (by decide) (Nat.le_of_ble_eq_true rfl) (lv := [(0, .int a0), (1, .int a1)]) rfl ?_
  intro p e s m args below meth c C
  rw [wp_X12_comeTo] at h
  refine a_iload_n C 0 dX12_comeTo_0 rfl rfl ?_
  refine a_istore_n C [(2, .int a0), (0, .int a0), (1, .int a1)] dX12_comeTo_1 rfl (by decide) rfl ?_
  refine a_iload_n C 1 dX12_comeTo_2 rfl rfl ?_
  refine a_istore_n C [(3, .int a0), (2, .int a0), (0, .int a0), (1, .int a1)] dX12_comeTo_3 rfl (by decide) rfl ?_
  refine a_sub [3, 1, 0] rfl ?_
  obtain ⟨n4, h⟩ := h
  refine tl_X12_comeTo_4 C n4 _ _ _ _ h

/-! RainOnTheOneModel.isCutOff(III)Z -/
def wp_X12_isCutOff (a0 : Int32) (a1 : Int32) (a2 : Int32) (u : PoS) (post : Int32 → PoS → Prop) : Prop := wp_X12_comeTo (1 <<< (a0 &&& 31)) a2 u (fun (r1 : Int32) (u2 : PoS) => wp_X12_has r1 a1 u2 (fun (r3 : Int32) (u4 : PoS) => ((¬ r3 = 0 → post 0 u4) ∧ (r3 = 0 → post 1 u4))))
theorem np_X12_isCutOff : yX12_isCutOff.cls ≠ "java/lang/invoke/MethodHandle" ∧ yX12_isCutOff.cls ≠ "java/lang/invoke/VarHandle" ∧ (parseMethodDescriptor yX12_isCutOff.desc).map (fun d => d.parameters.length) = some 3 := by decide +kernel
set_option maxHeartbeats 4000000 in
set_option maxRecDepth 100000 in
theorem m_X12_isCutOff (l : Launch) (V : VEn) {a0 : Int32} {a1 : Int32} {a2 : Int32} {u : PoS} {post : Int32 → PoS → Prop} (h : wp_X12_isCutOff a0 a1 a2 u post) : KI l V yX12_isCutOff cX12_isCutOff 3 .boolean 2 [.int a0, .int a1, .int a2] u post := by
  refine KI_of (by decide) (Nat.le_of_ble_eq_true rfl) (lv := [(0, .int a0), (1, .int a1), (2, .int a2)]) rfl ?_
  intro p e s m args below meth c C
  rw [wp_X12_isCutOff] at h
  refine a_iconst C 1 dX12_isCutOff_0 (by decide) ?_
  refine a_iload_n C 0 dX12_isCutOff_1 rfl rfl ?_
  refine a_ishl C dX12_isCutOff_2 ?_
  refine a_iload_n C 2 dX12_isCutOff_3 rfl rfl ?_
  refine a_callSi C dX12_isCutOff_4 (m_X12_comeTo l V h) bw_1624 bw_1625 bw_123 bw_1626 np_X12_comeTo rfl rfl (by decide) (Nat.le_of_ble_eq_true rfl) ⟨Nat.zero_le _, Nat.zero_le _⟩ (fun r1 u2 h => ?_)
  refine a_iload_n C 1 dX12_isCutOff_7 rfl rfl ?_
  refine a_callSi C dX12_isCutOff_8 (m_X12_has l V h) bw_1240 bw_1241 bw_123 bw_1242 np_X12_has rfl rfl (by decide) (Nat.le_of_ble_eq_true rfl) ⟨Nat.zero_le _, Nat.zero_le _⟩ (fun r3 u4 h => ?_)
  refine a_if_ne C 18 dX12_isCutOff_11 (by decide) (fun c5 => ?_) (fun c5 => ?_)
  · have h := h.1 c5
    refine a_iconst C 0 dX12_isCutOff_18 (by decide) ?_
    exact a_zret C rfl dX12_isCutOff_19 h
  · have h := h.2 c5
    refine a_iconst C 1 dX12_isCutOff_14 (by decide) ?_
    refine a_goto C 19 dX12_isCutOff_15 (by decide) ?_
    exact a_zret C rfl dX12_isCutOff_19 h

/-! RainOnTheOneModel.isCutByOne(IIII)Z -/
def wj_X12_isCutByOne_49 (k3 : Int32 → Int32 → Int32 → Int32 → PoS → Prop) (post : Int32 → PoS → Prop) (v0 : Int32) (v1 : Int32) (v2 : Int32) (v4 : Int32) (u : PoS) : Prop := k3 v0 v1 v2 (v4 + 1) u
def wl_X12_isCutByOne_3 (post : Int32 → PoS → Prop) : Nat → Int32 → Int32 → Int32 → Int32 → PoS → Prop
  | 0, _, _, _, _, _ => False
  | n + 1, v0, v1, v2, v4, u => ((30 ≤ v4 → post 0 u) ∧ (¬ 30 ≤ v4 → wp_X12_has v2 v4 u (fun (r1 : Int32) (u2 : PoS) => ((r1 = 0 → wj_X12_isCutByOne_49 (wl_X12_isCutByOne_3 post n) post v0 v1 v2 v4 u2) ∧ (¬ r1 = 0 → ((v4 = v0 → wj_X12_isCutByOne_49 (wl_X12_isCutByOne_3 post n) post v0 v1 v2 v4 u2) ∧ (¬ v4 = v0 → ((v4 = v1 → wj_X12_isCutByOne_49 (wl_X12_isCutByOne_3 post n) post v0 v1 v2 v4 u2) ∧ (¬ v4 = v1 → wp_X12_isCutOff v0 v1 (v2 &&& ((1 <<< (v4 &&& 31)) ^^^ (-1))) u2 (fun (r3 : Int32) (u4 : PoS) => ((r3 = 0 → wj_X12_isCutByOne_49 (wl_X12_isCutByOne_3 post n) post v0 v1 v2 v4 u4) ∧ (¬ r3 = 0 → post 1 u4))))))))))))
def wp_X12_isCutByOne (a0 : Int32) (a1 : Int32) (a2 : Int32) (a3 : Int32) (u : PoS) (post : Int32 → PoS → Prop) : Prop := (∃ n3, wl_X12_isCutByOne_3 post n3 a0 a1 a2 a3 u)
set_option maxHeartbeats 4000000 in
set_option maxRecDepth 100000 in
theorem tj_X12_isCutByOne_49 {p : Program} {l : Launch} {e : Env} {s : State} {m : MethodId} {args : Array Value} {below : List Frame} {meth : Method} {c : Code} {V : VEn} {k3 : Int32 → Int32 → Int32 → Int32 → PoS → Prop} {post : Int32 → PoS → Prop} (C : CxS p s m args meth c V cX12_isCutByOne 5 RX12 (some .boolean)) (hk3 : ∀ (v0 : Int32) (v1 : Int32) (v2 : Int32) (v4 : Int32) (u : PoS), k3 v0 v1 v2 v4 u → AtS p l e (Rm 3) s m args below meth c V 5 0 0 (QI V below args s post) 3 [(0, .int v0), (1, .int v1), (2, .int v2), (4, .int v4)] [] u) (v0 : Int32) (v1 : Int32) (v2 : Int32) (v4 : Int32) (u : PoS) (h : wj_X12_isCutByOne_49 k3 post v0 v1 v2 v4 u) : AtS p l e (Rm 3) s m args below meth c V 5 0 0 (QI V below args s post) 49 [(0, .int v0), (1, .int v1), (2, .int v2), (4, .int v4)] [] u := by
  rw [wj_X12_isCutByOne_49] at h
  refine a_iinc C (v4 + 1) 3 [(4, .int (v4 + 1)), (0, .int v0), (1, .int v1), (2, .int v2)] dX12_isCutByOne_49 rfl (congrArg (fun z => v4 + z) (show Int32.ofInt 1 = 1 by decide)) (by decide) rfl ?_
  refine a_goto C 3 dX12_isCutByOne_52 (by decide) ?_
  refine a_sub [1, 2, 3, 0] rfl ?_
  exact hk3 _ _ _ _ _ h
set_option maxHeartbeats 4000000 in
set_option maxRecDepth 100000 in
theorem tl_X12_isCutByOne_3 {p : Program} {l : Launch} {e : Env} {s : State} {m : MethodId} {args : Array Value} {below : List Frame} {meth : Method} {c : Code} {V : VEn} {post : Int32 → PoS → Prop} (C : CxS p s m args meth c V cX12_isCutByOne 5 RX12 (some .boolean)) : ∀ (n : Nat) (v0 : Int32) (v1 : Int32) (v2 : Int32) (v4 : Int32) (u : PoS), wl_X12_isCutByOne_3 post n v0 v1 v2 v4 u → AtS p l e (Rm 3) s m args below meth c V 5 0 0 (QI V below args s post) 3 [(0, .int v0), (1, .int v1), (2, .int v2), (4, .int v4)] [] u := by
  intro n
  induction n with
  | zero => intro v0 v1 v2 v4 u h; exact h.elim
  | succ n ih =>
    intro v0 v1 v2 v4 u h
    rw [wl_X12_isCutByOne_3] at h
    refine a_iload C 3 dX12_isCutByOne_3 rfl ?_
    refine a_bipush C 30 dX12_isCutByOne_5 (by decide) ?_
    refine a_icmp_ge C 55 dX12_isCutByOne_7 (by decide) (fun c9 => ?_) (fun c9 => ?_)
    · have h := h.1 c9
      refine a_iconst C 0 dX12_isCutByOne_55 (by decide) ?_
      exact a_zret C rfl dX12_isCutByOne_56 h
    · have h := h.2 c9
      refine a_iload_n C 2 dX12_isCutByOne_10 rfl rfl ?_
      refine a_iload C 3 dX12_isCutByOne_11 rfl ?_
      refine a_callSi C dX12_isCutByOne_13 (m_X12_has l V h) bw_1240 bw_1241 bw_123 bw_1242 np_X12_has rfl rfl (by decide) (Nat.le_of_ble_eq_true rfl) ⟨Nat.zero_le _, Nat.zero_le _⟩ (fun r1 u2 h => ?_)
      refine a_if_eq C 49 dX12_isCutByOne_16 (by decide) (fun c8 => ?_) (fun c8 => ?_)
      · have h := h.1 c8
        refine tj_X12_isCutByOne_49 C ih _ _ _ _ _ h
      · have h := h.2 c8
        refine a_iload C 3 dX12_isCutByOne_19 rfl ?_
        refine a_iload_n C 0 dX12_isCutByOne_21 rfl rfl ?_
        refine a_icmp_eq C 49 dX12_isCutByOne_22 (by decide) (fun c7 => ?_) (fun c7 => ?_)
        · have h := h.1 c7
          refine tj_X12_isCutByOne_49 C ih _ _ _ _ _ h
        · have h := h.2 c7
          refine a_iload C 3 dX12_isCutByOne_25 rfl ?_
          refine a_iload_n C 1 dX12_isCutByOne_27 rfl rfl ?_
          refine a_icmp_eq C 49 dX12_isCutByOne_28 (by decide) (fun c6 => ?_) (fun c6 => ?_)
          · have h := h.1 c6
            refine tj_X12_isCutByOne_49 C ih _ _ _ _ _ h
          · have h := h.2 c6
            refine a_iload_n C 0 dX12_isCutByOne_31 rfl rfl ?_
            refine a_iload_n C 1 dX12_isCutByOne_32 rfl rfl ?_
            refine a_iload_n C 2 dX12_isCutByOne_33 rfl rfl ?_
            refine a_iconst C 1 dX12_isCutByOne_34 (by decide) ?_
            refine a_iload C 3 dX12_isCutByOne_35 rfl ?_
            refine a_ishl C dX12_isCutByOne_37 ?_
            refine a_iconst C (-1) dX12_isCutByOne_38 (by decide) ?_
            refine a_ixor C dX12_isCutByOne_39 ?_
            refine a_iand C dX12_isCutByOne_40 ?_
            refine a_callSi C dX12_isCutByOne_41 (m_X12_isCutOff l V h) bw_1621 bw_1622 bw_123 bw_1623 np_X12_isCutOff rfl rfl (by decide) (Nat.le_of_ble_eq_true rfl) ⟨Nat.zero_le _, Nat.zero_le _⟩ (fun r3 u4 h => ?_)
            refine a_if_eq C 49 dX12_isCutByOne_44 (by decide) (fun c5 => ?_) (fun c5 => ?_)
            · have h := h.1 c5
              refine tj_X12_isCutByOne_49 C ih _ _ _ _ _ h
            · have h := h.2 c5
              refine a_iconst C 1 dX12_isCutByOne_47 (by decide) ?_
              exact a_zret C rfl dX12_isCutByOne_48 h
theorem np_X12_isCutByOne : yX12_isCutByOne.cls ≠ "java/lang/invoke/MethodHandle" ∧ yX12_isCutByOne.cls ≠ "java/lang/invoke/VarHandle" ∧ (parseMethodDescriptor yX12_isCutByOne.desc).map (fun d => d.parameters.length) = some 4 := by decide +kernel
set_option maxHeartbeats 4000000 in
set_option maxRecDepth 100000 in
theorem m_X12_isCutByOne (l : Launch) (V : VEn) {a0 : Int32} {a1 : Int32} {a2 : Int32} {a3 : Int32} {u : PoS} {post : Int32 → PoS → Prop} (h : wp_X12_isCutByOne a0 a1 a2 a3 u post) : KI l V yX12_isCutByOne cX12_isCutByOne 5 .boolean 3 [.int a0, .int a1, .int a2, .int a3] u post := by
  refine KI_of (by decide) (Nat.le_of_ble_eq_true rfl) (lv := [(0, .int a0), (1, .int a1), (2, .int a2), (3, .int a3)]) rfl ?_
  intro p e s m args below meth c C
  rw [wp_X12_isCutByOne] at h
  refine a_iload_n C 3 dX12_isCutByOne_0 rfl rfl ?_
  refine a_istore C [(4, .int a3), (0, .int a0), (1, .int a1), (2, .int a2), (3, .int a3)] dX12_isCutByOne_1 (by decide) rfl ?_
  refine a_sub [1, 2, 3, 0] rfl ?_
  obtain ⟨n3, h⟩ := h
  refine tl_X12_isCutByOne_3 C n3 _ _ _ _ _ h

/-! RainOnTheOneModel.isCutByTwo(IIII)Z -/
def wj_X12_isCutByTwo_53 (k3 : Int32 → Int32 → Int32 → Int32 → PoS → Prop) (post : Int32 → PoS → Prop) (v0 : Int32) (v1 : Int32) (v2 : Int32) (v4 : Int32) (u : PoS) : Prop := k3 v0 v1 v2 (v4 + 1) u
def wl_X12_isCutByTwo_3 (post : Int32 → PoS → Prop) : Nat → Int32 → Int32 → Int32 → Int32 → PoS → Prop
  | 0, _, _, _, _, _ => False
  | n + 1, v0, v1, v2, v4, u => ((30 ≤ v4 → post 0 u) ∧ (¬ 30 ≤ v4 → wp_X12_has v2 v4 u (fun (r1 : Int32) (u2 : PoS) => ((r1 = 0 → wj_X12_isCutByTwo_53 (wl_X12_isCutByTwo_3 post n) post v0 v1 v2 v4 u2) ∧ (¬ r1 = 0 → ((v4 = v0 → wj_X12_isCutByTwo_53 (wl_X12_isCutByTwo_3 post n) post v0 v1 v2 v4 u2) ∧ (¬ v4 = v0 → ((v4 = v1 → wj_X12_isCutByTwo_53 (wl_X12_isCutByTwo_3 post n) post v0 v1 v2 v4 u2) ∧ (¬ v4 = v1 → wp_X12_isCutByOne v0 v1 (v2 &&& ((1 <<< (v4 &&& 31)) ^^^ (-1))) (v4 + 1) u2 (fun (r3 : Int32) (u4 : PoS) => ((r3 = 0 → wj_X12_isCutByTwo_53 (wl_X12_isCutByTwo_3 post n) post v0 v1 v2 v4 u4) ∧ (¬ r3 = 0 → post 1 u4))))))))))))
def wp_X12_isCutByTwo (a0 : Int32) (a1 : Int32) (a2 : Int32) (a3 : Int32) (u : PoS) (post : Int32 → PoS → Prop) : Prop := (∃ n3, wl_X12_isCutByTwo_3 post n3 a0 a1 a2 a3 u)
set_option maxHeartbeats 4000000 in
set_option maxRecDepth 100000 in
theorem tj_X12_isCutByTwo_53 {p : Program} {l : Launch} {e : Env} {s : State} {m : MethodId} {args : Array Value} {below : List Frame} {meth : Method} {c : Code} {V : VEn} {k3 : Int32 → Int32 → Int32 → Int32 → PoS → Prop} {post : Int32 → PoS → Prop} (C : CxS p s m args meth c V cX12_isCutByTwo 5 RX12 (some .boolean)) (hk3 : ∀ (v0 : Int32) (v1 : Int32) (v2 : Int32) (v4 : Int32) (u : PoS), k3 v0 v1 v2 v4 u → AtS p l e (Rm 4) s m args below meth c V 5 0 0 (QI V below args s post) 3 [(0, .int v0), (1, .int v1), (2, .int v2), (4, .int v4)] [] u) (v0 : Int32) (v1 : Int32) (v2 : Int32) (v4 : Int32) (u : PoS) (h : wj_X12_isCutByTwo_53 k3 post v0 v1 v2 v4 u) : AtS p l e (Rm 4) s m args below meth c V 5 0 0 (QI V below args s post) 53 [(0, .int v0), (1, .int v1), (2, .int v2), (4, .int v4)] [] u := by
  rw [wj_X12_isCutByTwo_53] at h
  refine a_iinc C (v4 + 1) 3 [(4, .int (v4 + 1)), (0, .int v0), (1, .int v1), (2, .int v2)] dX12_isCutByTwo_53 rfl (congrArg (fun z => v4 + z) (show Int32.ofInt 1 = 1 by decide)) (by decide) rfl ?_
  refine a_goto C 3 dX12_isCutByTwo_56 (by decide) ?_
  refine a_sub [1, 2, 3, 0] rfl ?_
  exact hk3 _ _ _ _ _ h
set_option maxHeartbeats 4000000 in
set_option maxRecDepth 100000 in
theorem tl_X12_isCutByTwo_3 {p : Program} {l : Launch} {e : Env} {s : State} {m : MethodId} {args : Array Value} {below : List Frame} {meth : Method} {c : Code} {V : VEn} {post : Int32 → PoS → Prop} (C : CxS p s m args meth c V cX12_isCutByTwo 5 RX12 (some .boolean)) : ∀ (n : Nat) (v0 : Int32) (v1 : Int32) (v2 : Int32) (v4 : Int32) (u : PoS), wl_X12_isCutByTwo_3 post n v0 v1 v2 v4 u → AtS p l e (Rm 4) s m args below meth c V 5 0 0 (QI V below args s post) 3 [(0, .int v0), (1, .int v1), (2, .int v2), (4, .int v4)] [] u := by
  intro n
  induction n with
  | zero => intro v0 v1 v2 v4 u h; exact h.elim
  | succ n ih =>
    intro v0 v1 v2 v4 u h
    rw [wl_X12_isCutByTwo_3] at h
    refine a_iload C 3 dX12_isCutByTwo_3 rfl ?_
    refine a_bipush C 30 dX12_isCutByTwo_5 (by decide) ?_
    refine a_icmp_ge C 59 dX12_isCutByTwo_7 (by decide) (fun c9 => ?_) (fun c9 => ?_)
    · have h := h.1 c9
      refine a_iconst C 0 dX12_isCutByTwo_59 (by decide) ?_
      exact a_zret C rfl dX12_isCutByTwo_60 h
    · have h := h.2 c9
      refine a_iload_n C 2 dX12_isCutByTwo_10 rfl rfl ?_
      refine a_iload C 3 dX12_isCutByTwo_11 rfl ?_
      refine a_callSi C dX12_isCutByTwo_13 (m_X12_has l V h) bw_1240 bw_1241 bw_123 bw_1242 np_X12_has rfl rfl (by decide) (Nat.le_of_ble_eq_true rfl) ⟨Nat.zero_le _, Nat.zero_le _⟩ (fun r1 u2 h => ?_)
      refine a_if_eq C 53 dX12_isCutByTwo_16 (by decide) (fun c8 => ?_) (fun c8 => ?_)
      · have h := h.1 c8
        refine tj_X12_isCutByTwo_53 C ih _ _ _ _ _ h
      · have h := h.2 c8
        refine a_iload C 3 dX12_isCutByTwo_19 rfl ?_
        refine a_iload_n C 0 dX12_isCutByTwo_21 rfl rfl ?_
        refine a_icmp_eq C 53 dX12_isCutByTwo_22 (by decide) (fun c7 => ?_) (fun c7 => ?_)
        · have h := h.1 c7
          refine tj_X12_isCutByTwo_53 C ih _ _ _ _ _ h
        · have h := h.2 c7
          refine a_iload C 3 dX12_isCutByTwo_25 rfl ?_
          refine a_iload_n C 1 dX12_isCutByTwo_27 rfl rfl ?_
          refine a_icmp_eq C 53 dX12_isCutByTwo_28 (by decide) (fun c6 => ?_) (fun c6 => ?_)
          · have h := h.1 c6
            refine tj_X12_isCutByTwo_53 C ih _ _ _ _ _ h
          · have h := h.2 c6
            refine a_iload_n C 0 dX12_isCutByTwo_31 rfl rfl ?_
            refine a_iload_n C 1 dX12_isCutByTwo_32 rfl rfl ?_
            refine a_iload_n C 2 dX12_isCutByTwo_33 rfl rfl ?_
            refine a_iconst C 1 dX12_isCutByTwo_34 (by decide) ?_
            refine a_iload C 3 dX12_isCutByTwo_35 rfl ?_
            refine a_ishl C dX12_isCutByTwo_37 ?_
            refine a_iconst C (-1) dX12_isCutByTwo_38 (by decide) ?_
            refine a_ixor C dX12_isCutByTwo_39 ?_
            refine a_iand C dX12_isCutByTwo_40 ?_
            refine a_iload C 3 dX12_isCutByTwo_41 rfl ?_
            refine a_iconst C 1 dX12_isCutByTwo_43 (by decide) ?_
            refine a_iadd C dX12_isCutByTwo_44 ?_
            refine a_callSi C dX12_isCutByTwo_45 (m_X12_isCutByOne l V h) bw_1618 bw_1619 bw_123 bw_1620 np_X12_isCutByOne rfl rfl (by decide) (Nat.le_of_ble_eq_true rfl) ⟨Nat.zero_le _, Nat.zero_le _⟩ (fun r3 u4 h => ?_)
            refine a_if_eq C 53 dX12_isCutByTwo_48 (by decide) (fun c5 => ?_) (fun c5 => ?_)
            · have h := h.1 c5
              refine tj_X12_isCutByTwo_53 C ih _ _ _ _ _ h
            · have h := h.2 c5
              refine a_iconst C 1 dX12_isCutByTwo_51 (by decide) ?_
              exact a_zret C rfl dX12_isCutByTwo_52 h
theorem np_X12_isCutByTwo : yX12_isCutByTwo.cls ≠ "java/lang/invoke/MethodHandle" ∧ yX12_isCutByTwo.cls ≠ "java/lang/invoke/VarHandle" ∧ (parseMethodDescriptor yX12_isCutByTwo.desc).map (fun d => d.parameters.length) = some 4 := by decide +kernel
set_option maxHeartbeats 4000000 in
set_option maxRecDepth 100000 in
theorem m_X12_isCutByTwo (l : Launch) (V : VEn) {a0 : Int32} {a1 : Int32} {a2 : Int32} {a3 : Int32} {u : PoS} {post : Int32 → PoS → Prop} (h : wp_X12_isCutByTwo a0 a1 a2 a3 u post) : KI l V yX12_isCutByTwo cX12_isCutByTwo 5 .boolean 4 [.int a0, .int a1, .int a2, .int a3] u post := by
  refine KI_of (by decide) (Nat.le_of_ble_eq_true rfl) (lv := [(0, .int a0), (1, .int a1), (2, .int a2), (3, .int a3)]) rfl ?_
  intro p e s m args below meth c C
  rw [wp_X12_isCutByTwo] at h
  refine a_iload_n C 3 dX12_isCutByTwo_0 rfl rfl ?_
  refine a_istore C [(4, .int a3), (0, .int a0), (1, .int a1), (2, .int a2), (3, .int a3)] dX12_isCutByTwo_1 (by decide) rfl ?_
  refine a_sub [1, 2, 3, 0] rfl ?_
  obtain ⟨n3, h⟩ := h
  refine tl_X12_isCutByTwo_3 C n3 _ _ _ _ _ h

/-! RainOnTheOneModel.isCutByThree(III)Z -/
def wj_X12_isCutByThree_46 (k2 : Int32 → Int32 → Int32 → Int32 → PoS → Prop) (post : Int32 → PoS → Prop) (v0 : Int32) (v1 : Int32) (v2 : Int32) (v3 : Int32) (u : PoS) : Prop := k2 v0 v1 v2 (v3 + 1) u
def wl_X12_isCutByThree_2 (post : Int32 → PoS → Prop) : Nat → Int32 → Int32 → Int32 → Int32 → PoS → Prop
  | 0, _, _, _, _, _ => False
  | n + 1, v0, v1, v2, v3, u => ((30 ≤ v3 → post 0 u) ∧ (¬ 30 ≤ v3 → wp_X12_has v2 v3 u (fun (r1 : Int32) (u2 : PoS) => ((r1 = 0 → wj_X12_isCutByThree_46 (wl_X12_isCutByThree_2 post n) post v0 v1 v2 v3 u2) ∧ (¬ r1 = 0 → ((v3 = v0 → wj_X12_isCutByThree_46 (wl_X12_isCutByThree_2 post n) post v0 v1 v2 v3 u2) ∧ (¬ v3 = v0 → ((v3 = v1 → wj_X12_isCutByThree_46 (wl_X12_isCutByThree_2 post n) post v0 v1 v2 v3 u2) ∧ (¬ v3 = v1 → wp_X12_isCutByTwo v0 v1 (v2 &&& ((1 <<< (v3 &&& 31)) ^^^ (-1))) (v3 + 1) u2 (fun (r3 : Int32) (u4 : PoS) => ((r3 = 0 → wj_X12_isCutByThree_46 (wl_X12_isCutByThree_2 post n) post v0 v1 v2 v3 u4) ∧ (¬ r3 = 0 → post 1 u4))))))))))))
def wp_X12_isCutByThree (a0 : Int32) (a1 : Int32) (a2 : Int32) (u : PoS) (post : Int32 → PoS → Prop) : Prop := (∃ n2, wl_X12_isCutByThree_2 post n2 a0 a1 a2 0 u)
set_option maxHeartbeats 4000000 in
set_option maxRecDepth 100000 in
theorem tj_X12_isCutByThree_46 {p : Program} {l : Launch} {e : Env} {s : State} {m : MethodId} {args : Array Value} {below : List Frame} {meth : Method} {c : Code} {V : VEn} {k2 : Int32 → Int32 → Int32 → Int32 → PoS → Prop} {post : Int32 → PoS → Prop} (C : CxS p s m args meth c V cX12_isCutByThree 4 RX12 (some .boolean)) (hk2 : ∀ (v0 : Int32) (v1 : Int32) (v2 : Int32) (v3 : Int32) (u : PoS), k2 v0 v1 v2 v3 u → AtS p l e (Rm 5) s m args below meth c V 4 0 0 (QI V below args s post) 2 [(0, .int v0), (1, .int v1), (2, .int v2), (3, .int v3)] [] u) (v0 : Int32) (v1 : Int32) (v2 : Int32) (v3 : Int32) (u : PoS) (h : wj_X12_isCutByThree_46 k2 post v0 v1 v2 v3 u) : AtS p l e (Rm 5) s m args below meth c V 4 0 0 (QI V below args s post) 46 [(0, .int v0), (1, .int v1), (2, .int v2), (3, .int v3)] [] u := by
  rw [wj_X12_isCutByThree_46] at h
  refine a_iinc C (v3 + 1) 3 [(3, .int (v3 + 1)), (0, .int v0), (1, .int v1), (2, .int v2)] dX12_isCutByThree_46 rfl (congrArg (fun z => v3 + z) (show Int32.ofInt 1 = 1 by decide)) (by decide) rfl ?_
  refine a_goto C 2 dX12_isCutByThree_49 (by decide) ?_
  refine a_sub [1, 2, 3, 0] rfl ?_
  exact hk2 _ _ _ _ _ h
set_option maxHeartbeats 4000000 in
set_option maxRecDepth 100000 in
theorem tl_X12_isCutByThree_2 {p : Program} {l : Launch} {e : Env} {s : State} {m : MethodId} {args : Array Value} {below : List Frame} {meth : Method} {c : Code} {V : VEn} {post : Int32 → PoS → Prop} (C : CxS p s m args meth c V cX12_isCutByThree 4 RX12 (some .boolean)) : ∀ (n : Nat) (v0 : Int32) (v1 : Int32) (v2 : Int32) (v3 : Int32) (u : PoS), wl_X12_isCutByThree_2 post n v0 v1 v2 v3 u → AtS p l e (Rm 5) s m args below meth c V 4 0 0 (QI V below args s post) 2 [(0, .int v0), (1, .int v1), (2, .int v2), (3, .int v3)] [] u := by
  intro n
  induction n with
  | zero => intro v0 v1 v2 v3 u h; exact h.elim
  | succ n ih =>
    intro v0 v1 v2 v3 u h
    rw [wl_X12_isCutByThree_2] at h
    refine a_iload_n C 3 dX12_isCutByThree_2 rfl rfl ?_
    refine a_bipush C 30 dX12_isCutByThree_3 (by decide) ?_
    refine a_icmp_ge C 52 dX12_isCutByThree_5 (by decide) (fun c9 => ?_) (fun c9 => ?_)
    · have h := h.1 c9
      refine a_iconst C 0 dX12_isCutByThree_52 (by decide) ?_
      exact a_zret C rfl dX12_isCutByThree_53 h
    · have h := h.2 c9
      refine a_iload_n C 2 dX12_isCutByThree_8 rfl rfl ?_
      refine a_iload_n C 3 dX12_isCutByThree_9 rfl rfl ?_
      refine a_callSi C dX12_isCutByThree_10 (m_X12_has l V h) bw_1240 bw_1241 bw_123 bw_1242 np_X12_has rfl rfl (by decide) (Nat.le_of_ble_eq_true rfl) ⟨Nat.zero_le _, Nat.zero_le _⟩ (fun r1 u2 h => ?_)
      refine a_if_eq C 46 dX12_isCutByThree_13 (by decide) (fun c8 => ?_) (fun c8 => ?_)
      · have h := h.1 c8
        refine tj_X12_isCutByThree_46 C ih _ _ _ _ _ h
      · have h := h.2 c8
        refine a_iload_n C 3 dX12_isCutByThree_16 rfl rfl ?_
        refine a_iload_n C 0 dX12_isCutByThree_17 rfl rfl ?_
        refine a_icmp_eq C 46 dX12_isCutByThree_18 (by decide) (fun c7 => ?_) (fun c7 => ?_)
        · have h := h.1 c7
          refine tj_X12_isCutByThree_46 C ih _ _ _ _ _ h
        · have h := h.2 c7
          refine a_iload_n C 3 dX12_isCutByThree_21 rfl rfl ?_
          refine a_iload_n C 1 dX12_isCutByThree_22 rfl rfl ?_
          refine a_icmp_eq C 46 dX12_isCutByThree_23 (by decide) (fun c6 => ?_) (fun c6 => ?_)
          · have h := h.1 c6
            refine tj_X12_isCutByThree_46 C ih _ _ _ _ _ h
          · have h := h.2 c6
            refine a_iload_n C 0 dX12_isCutByThree_26 rfl rfl ?_
            refine a_iload_n C 1 dX12_isCutByThree_27 rfl rfl ?_
            refine a_iload_n C 2 dX12_isCutByThree_28 rfl rfl ?_
            refine a_iconst C 1 dX12_isCutByThree_29 (by decide) ?_
            refine a_iload_n C 3 dX12_isCutByThree_30 rfl rfl ?_
            refine a_ishl C dX12_isCutByThree_31 ?_
            refine a_iconst C (-1) dX12_isCutByThree_32 (by decide) ?_
            refine a_ixor C dX12_isCutByThree_33 ?_
            refine a_iand C dX12_isCutByThree_34 ?_
            refine a_iload_n C 3 dX12_isCutByThree_35 rfl rfl ?_
            refine a_iconst C 1 dX12_isCutByThree_36 (by decide) ?_
            refine a_iadd C dX12_isCutByThree_37 ?_
            refine a_callSi C dX12_isCutByThree_38 (m_X12_isCutByTwo l V h) bw_1627 bw_1628 bw_123 bw_1629 np_X12_isCutByTwo rfl rfl (by decide) (Nat.le_of_ble_eq_true rfl) ⟨Nat.zero_le _, Nat.zero_le _⟩ (fun r3 u4 h => ?_)
            refine a_if_eq C 46 dX12_isCutByThree_41 (by decide) (fun c5 => ?_) (fun c5 => ?_)
            · have h := h.1 c5
              refine tj_X12_isCutByThree_46 C ih _ _ _ _ _ h
            · have h := h.2 c5
              refine a_iconst C 1 dX12_isCutByThree_44 (by decide) ?_
              exact a_zret C rfl dX12_isCutByThree_45 h
theorem np_X12_isCutByThree : yX12_isCutByThree.cls ≠ "java/lang/invoke/MethodHandle" ∧ yX12_isCutByThree.cls ≠ "java/lang/invoke/VarHandle" ∧ (parseMethodDescriptor yX12_isCutByThree.desc).map (fun d => d.parameters.length) = some 3 := by decide +kernel
set_option maxHeartbeats 4000000 in
set_option maxRecDepth 100000 in
theorem m_X12_isCutByThree (l : Launch) (V : VEn) {a0 : Int32} {a1 : Int32} {a2 : Int32} {u : PoS} {post : Int32 → PoS → Prop} (h : wp_X12_isCutByThree a0 a1 a2 u post) : KI l V yX12_isCutByThree cX12_isCutByThree 4 .boolean 5 [.int a0, .int a1, .int a2] u post := by
  refine KI_of (by decide) (Nat.le_of_ble_eq_true rfl) (lv := [(0, .int a0), (1, .int a1), (2, .int a2)]) rfl ?_
  intro p e s m args below meth c C
  rw [wp_X12_isCutByThree] at h
  refine a_iconst C 0 dX12_isCutByThree_0 (by decide) ?_
  refine a_istore_n C [(3, .int 0), (0, .int a0), (1, .int a1), (2, .int a2)] dX12_isCutByThree_1 rfl (by decide) rfl ?_
  refine a_sub [1, 2, 3, 0] rfl ?_
  obtain ⟨n2, h⟩ := h
  refine tl_X12_isCutByThree_2 C n2 _ _ _ _ _ h

/-! RainOnTheOneModel.cut(II)I -/
def wp_X12_cut (a0 : Int32) (a1 : Int32) (u : PoS) (post : Int32 → PoS → Prop) : Prop := wp_X12_isFree a0 u (fun (r1 : Int32) (u2 : PoS) => ((r1 = 0 → post (-1) u2) ∧ (¬ r1 = 0 → wp_X12_isFree a1 u2 (fun (r3 : Int32) (u4 : PoS) => ((r3 = 0 → post (-1) u4) ∧ (¬ r3 = 0 → ((a0 = a1 → post (-1) u4) ∧ (¬ a0 = a1 → wp_X12_beside a0 u4 (fun (r5 : Int32) (u6 : PoS) => wp_X12_has r5 a1 u6 (fun (r7 : Int32) (u8 : PoS) => ((r7 = 0 → wp_X12_stepsOf a0 a1 u8 (fun (r9 : Int32) (u10 : PoS) => ((¬ r9 = (-1) → wp_X12_free u10 (fun (r11 : Int32) (u12 : PoS) => wp_X12_isCutByOne a0 a1 r11 0 u12 (fun (r13 : Int32) (u14 : PoS) => ((r13 = 0 → wp_X12_isCutByTwo a0 a1 r11 0 u14 (fun (r15 : Int32) (u16 : PoS) => ((r15 = 0 → wp_X12_isCutByThree a0 a1 r11 u16 (fun (r17 : Int32) (u18 : PoS) => ((r17 = 0 → post 4 u18) ∧ (¬ r17 = 0 → post 3 u18)))) ∧ (¬ r15 = 0 → post 2 u16)))) ∧ (¬ r13 = 0 → post 1 u14))))) ∧ (r9 = (-1) → post 0 u10)))) ∧ (¬ r7 = 0 → post (-1) u8))))))))))))
theorem np_X12_cut : yX12_cut.cls ≠ "java/lang/invoke/MethodHandle" ∧ yX12_cut.cls ≠ "java/lang/invoke/VarHandle" ∧ (parseMethodDescriptor yX12_cut.desc).map (fun d => d.parameters.length) = some 2 := by decide +kernel
set_option maxHeartbeats 4000000 in
set_option maxRecDepth 100000 in
theorem m_X12_cut (l : Launch) (V : VEn) {a0 : Int32} {a1 : Int32} {u : PoS} {post : Int32 → PoS → Prop} (h : wp_X12_cut a0 a1 u post) : KI l V yX12_cut cX12_cut 4 .int 6 [.ref (eA V 48), .int a0, .int a1] u post := by
  refine KI_of (by decide) (Nat.le_of_ble_eq_true rfl) (lv := [(0, .ref (eA V 48)), (1, .int a0), (2, .int a1)]) rfl ?_
  intro p e s m args below meth c C
  rw [wp_X12_cut] at h
  refine a_aload_n C 0 dX12_cut_0 rfl rfl ?_
  refine a_iload_n C 1 dX12_cut_1 rfl rfl ?_
  refine a_callVi C dX12_cut_2 (m_X12_isFree l V h) bw_1140 bw_1142 bw_39 bw_123 bw_1143 (by decide) rfl rfl np_X12_isFree rfl rfl (by decide) (Nat.le_of_ble_eq_true rfl) ⟨Nat.zero_le _, Nat.zero_le _⟩ (fun r1 u2 h => ?_)
  refine a_if_eq C 32 dX12_cut_5 (by decide) (fun c26 => ?_) (fun c26 => ?_)
  · have h := h.1 c26
    refine a_iconst C (-1) dX12_cut_32 (by decide) ?_
    exact a_iret C dX12_cut_33 h
  · have h := h.2 c26
    refine a_aload_n C 0 dX12_cut_8 rfl rfl ?_
    refine a_iload_n C 2 dX12_cut_9 rfl rfl ?_
    refine a_callVi C dX12_cut_10 (m_X12_isFree l V h) bw_1140 bw_1142 bw_39 bw_123 bw_1143 (by decide) rfl rfl np_X12_isFree rfl rfl (by decide) (Nat.le_of_ble_eq_true rfl) ⟨Nat.zero_le _, Nat.zero_le _⟩ (fun r3 u4 h => ?_)
    refine a_if_eq C 32 dX12_cut_13 (by decide) (fun c25 => ?_) (fun c25 => ?_)
    · have h := h.1 c25
      refine a_iconst C (-1) dX12_cut_32 (by decide) ?_
      exact a_iret C dX12_cut_33 h
    · have h := h.2 c25
      refine a_iload_n C 1 dX12_cut_16 rfl rfl ?_
      refine a_iload_n C 2 dX12_cut_17 rfl rfl ?_
      refine a_icmp_eq C 32 dX12_cut_18 (by decide) (fun c24 => ?_) (fun c24 => ?_)
      · have h := h.1 c24
        refine a_iconst C (-1) dX12_cut_32 (by decide) ?_
        exact a_iret C dX12_cut_33 h
      · have h := h.2 c24
        refine a_iload_n C 1 dX12_cut_21 rfl rfl ?_
        refine a_callSi C dX12_cut_22 (m_X12_beside l V h) bw_1346 bw_1347 bw_123 bw_1348 np_X12_beside rfl rfl (by decide) (Nat.le_of_ble_eq_true rfl) ⟨Nat.zero_le _, Nat.zero_le _⟩ (fun r5 u6 h => ?_)
        refine a_iload_n C 2 dX12_cut_25 rfl rfl ?_
        refine a_callSi C dX12_cut_26 (m_X12_has l V h) bw_1240 bw_1241 bw_123 bw_1242 np_X12_has rfl rfl (by decide) (Nat.le_of_ble_eq_true rfl) ⟨Nat.zero_le _, Nat.zero_le _⟩ (fun r7 u8 h => ?_)
        refine a_if_eq C 34 dX12_cut_29 (by decide) (fun c23 => ?_) (fun c23 => ?_)
        · have h := h.1 c23
          refine a_aload_n C 0 dX12_cut_34 rfl rfl ?_
          refine a_iload_n C 1 dX12_cut_35 rfl rfl ?_
          refine a_iload_n C 2 dX12_cut_36 rfl rfl ?_
          refine a_callVi C dX12_cut_37 (m_X12_stepsOf l V h) bw_1391 bw_1393 bw_78 bw_123 bw_1394 (by decide) rfl rfl np_X12_stepsOf rfl rfl (by decide) (Nat.le_of_ble_eq_true rfl) ⟨Nat.zero_le _, Nat.zero_le _⟩ (fun r9 u10 h => ?_)
          refine a_iconst C (-1) dX12_cut_40 (by decide) ?_
          refine a_icmp_ne C 46 dX12_cut_41 (by decide) (fun c22 => ?_) (fun c22 => ?_)
          · have h := h.1 c22
            refine a_aload_n C 0 dX12_cut_46 rfl rfl ?_
            refine a_callVi C dX12_cut_47 (m_X12_free l V h) bw_1395 bw_1397 bw_79 bw_123 bw_1398 (by decide) rfl rfl np_X12_free rfl rfl (by decide) (Nat.le_of_ble_eq_true rfl) ⟨Nat.zero_le _, Nat.zero_le _⟩ (fun r11 u12 h => ?_)
            refine a_istore_n C [(3, .int r11), (0, .ref (eA V 48)), (1, .int a0), (2, .int a1)] dX12_cut_50 rfl (by decide) rfl ?_
            refine a_iload_n C 2 dX12_cut_51 rfl rfl ?_
            refine a_iload_n C 3 dX12_cut_52 rfl rfl ?_
            refine a_iload_n C 0 dX12_cut_53 rfl rfl ?_
            refine a_iconst C 0 dX12_cut_54 (by decide) ?_
            refine a_callSi C dX12_cut_55 (m_X12_isCutByOne l V h) bw_1618 bw_1619 bw_123 bw_1620 np_X12_isCutByOne rfl rfl (by decide) (Nat.le_of_ble_eq_true rfl) ⟨Nat.zero_le _, Nat.zero_le _⟩ (fun r13 u14 h => ?_)
            refine a_if_eq C 65 dX12_cut_58 (by decide) (fun c21 => ?_) (fun c21 => ?_)
            · have h := h.1 c21
              refine a_iload_n C 2 dX12_cut_65 rfl rfl ?_
              refine a_iload_n C 3 dX12_cut_66 rfl rfl ?_
              refine a_iload_n C 0 dX12_cut_67 rfl rfl ?_
              refine a_iconst C 0 dX12_cut_68 (by decide) ?_
              refine a_callSi C dX12_cut_69 (m_X12_isCutByTwo l V h) bw_1627 bw_1628 bw_123 bw_1629 np_X12_isCutByTwo rfl rfl (by decide) (Nat.le_of_ble_eq_true rfl) ⟨Nat.zero_le _, Nat.zero_le _⟩ (fun r15 u16 h => ?_)
              refine a_if_eq C 79 dX12_cut_72 (by decide) (fun c20 => ?_) (fun c20 => ?_)
              · have h := h.1 c20
                refine a_iload_n C 2 dX12_cut_79 rfl rfl ?_
                refine a_iload_n C 3 dX12_cut_80 rfl rfl ?_
                refine a_iload_n C 0 dX12_cut_81 rfl rfl ?_
                refine a_callSi C dX12_cut_82 (m_X12_isCutByThree l V h) bw_1630 bw_1631 bw_123 bw_1632 np_X12_isCutByThree rfl rfl (by decide) (Nat.le_of_ble_eq_true rfl) ⟨Nat.zero_le _, Nat.zero_le _⟩ (fun r17 u18 h => ?_)
                refine a_if_eq C 92 dX12_cut_85 (by decide) (fun c19 => ?_) (fun c19 => ?_)
                · have h := h.1 c19
                  refine a_iconst C 4 dX12_cut_92 (by decide) ?_
                  exact a_iret C dX12_cut_93 h
                · have h := h.2 c19
                  refine a_iconst C 3 dX12_cut_88 (by decide) ?_
                  refine a_goto C 93 dX12_cut_89 (by decide) ?_
                  exact a_iret C dX12_cut_93 h
              · have h := h.2 c20
                refine a_iconst C 2 dX12_cut_75 (by decide) ?_
                refine a_goto C 93 dX12_cut_76 (by decide) ?_
                exact a_iret C dX12_cut_93 h
            · have h := h.2 c21
              refine a_iconst C 1 dX12_cut_61 (by decide) ?_
              refine a_goto C 93 dX12_cut_62 (by decide) ?_
              exact a_iret C dX12_cut_93 h
          · have h := h.2 c22
            refine a_iconst C 0 dX12_cut_44 (by decide) ?_
            exact a_iret C dX12_cut_45 h
        · have h := h.2 c23
          refine a_iconst C (-1) dX12_cut_32 (by decide) ?_
          exact a_iret C dX12_cut_33 h

/-! RainOnTheOneModel.roomsOf(I)I -/
def wl_X12_roomsOf_4 (post : Int32 → PoS → Prop) : Nat → Int32 → Int32 → PoS → Prop
  | 0, _, _, _ => False
  | n + 1, v1, v2, u => ((v1 = 0 → post v2 u) ∧ (¬ v1 = 0 → wp_X12_comeTo (v1 &&& (-v1)) v1 u (fun (r1 : Int32) (u2 : PoS) => ∀ x3 : Int32, x3 = (v1 &&& (r1 ^^^ (-1))) → wl_X12_roomsOf_4 post n x3 (v2 + 1) u2)))
def wp_X12_roomsOf (a0 : Int32) (u : PoS) (post : Int32 → PoS → Prop) : Prop := (∃ n4, wl_X12_roomsOf_4 post n4 a0 0 u)
set_option maxHeartbeats 4000000 in
set_option maxRecDepth 100000 in
theorem tl_X12_roomsOf_4 {p : Program} {l : Launch} {e : Env} {s : State} {m : MethodId} {args : Array Value} {below : List Frame} {meth : Method} {c : Code} {V : VEn} {post : Int32 → PoS → Prop} (C : CxS p s m args meth c V cX12_roomsOf 3 RX12 (some .int)) : ∀ (n : Nat) (v1 : Int32) (v2 : Int32) (u : PoS), wl_X12_roomsOf_4 post n v1 v2 u → AtS p l e (Rm 2) s m args below meth c V 3 0 0 (QI V below args s post) 4 [(1, .int v1), (2, .int v2)] [] u := by
  intro n
  induction n with
  | zero => intro v1 v2 u h; exact h.elim
  | succ n ih =>
    intro v1 v2 u h
    rw [wl_X12_roomsOf_4] at h
    refine a_iload_n C 0 dX12_roomsOf_4 rfl rfl ?_
    refine a_if_eq C 27 dX12_roomsOf_5 (by decide) (fun c4 => ?_) (fun c4 => ?_)
    · have h := h.1 c4
      refine a_iload_n C 1 dX12_roomsOf_27 rfl rfl ?_
      exact a_iret C dX12_roomsOf_28 h
    · have h := h.2 c4
      refine a_iload_n C 0 dX12_roomsOf_8 rfl rfl ?_
      refine a_iload_n C 0 dX12_roomsOf_9 rfl rfl ?_
      refine a_iload_n C 0 dX12_roomsOf_10 rfl rfl ?_
      refine a_ineg C dX12_roomsOf_11 ?_
      refine a_iand C dX12_roomsOf_12 ?_
      refine a_iload_n C 0 dX12_roomsOf_13 rfl rfl ?_
      refine a_callSi C dX12_roomsOf_14 (m_X12_comeTo l V h) bw_1624 bw_1625 bw_123 bw_1626 np_X12_comeTo rfl rfl (by decide) (Nat.le_of_ble_eq_true rfl) ⟨Nat.zero_le _, Nat.zero_le _⟩ (fun r1 u2 h => ?_)
      refine a_iconst C (-1) dX12_roomsOf_17 (by decide) ?_
      refine a_ixor C dX12_roomsOf_18 ?_
      refine a_iand C dX12_roomsOf_19 ?_
      refine a_topi (fun x3 ex3 => ?_)
      have h := h x3 ex3
      refine a_istore_n C [(1, .int x3), (2, .int v2)] dX12_roomsOf_20 rfl (by decide) rfl ?_
      refine a_iinc C (v2 + 1) 1 [(2, .int (v2 + 1)), (1, .int x3)] dX12_roomsOf_21 rfl (congrArg (fun z => v2 + z) (show Int32.ofInt 1 = 1 by decide)) (by decide) rfl ?_
      refine a_goto C 4 dX12_roomsOf_24 (by decide) ?_
      refine a_sub [1, 0] rfl ?_
      exact ih _ _ _ h
theorem np_X12_roomsOf : yX12_roomsOf.cls ≠ "java/lang/invoke/MethodHandle" ∧ yX12_roomsOf.cls ≠ "java/lang/invoke/VarHandle" ∧ (parseMethodDescriptor yX12_roomsOf.desc).map (fun d => d.parameters.length) = some 1 := by decide +kernel
set_option maxHeartbeats 4000000 in
set_option maxRecDepth 100000 in
theorem m_X12_roomsOf (l : Launch) (V : VEn) {a0 : Int32} {u : PoS} {post : Int32 → PoS → Prop} (h : wp_X12_roomsOf a0 u post) : KI l V yX12_roomsOf cX12_roomsOf 3 .int 2 [.int a0] u post := by
  refine KI_of (by decide) (Nat.le_of_ble_eq_true rfl) (lv := [(0, .int a0)]) rfl ?_
  intro p e s m args below meth c C
  rw [wp_X12_roomsOf] at h
  refine a_iload_n C 0 dX12_roomsOf_0 rfl rfl ?_
  refine a_istore_n C [(1, .int a0), (0, .int a0)] dX12_roomsOf_1 rfl (by decide) rfl ?_
  refine a_iconst C 0 dX12_roomsOf_2 (by decide) ?_
  refine a_istore_n C [(2, .int 0), (1, .int a0), (0, .int a0)] dX12_roomsOf_3 rfl (by decide) rfl ?_
  refine a_sub [1, 0] rfl ?_
  obtain ⟨n4, h⟩ := h
  refine tl_X12_roomsOf_4 C n4 _ _ _ h

/-! RainOnTheOneModel.narrows()I -/
def wj_X12_narrows_60 (k15 : Int32 → Int32 → Int32 → Int32 → PoS → Prop) (post : Int32 → PoS → Prop) (v1 : Int32) (v2 : Int32) (v3 : Int32) (v4 : Int32) (u : PoS) : Prop := k15 v1 v2 v3 (v4 + 1) u
def wj_X12_narrows_58 (k15 : Int32 → Int32 → Int32 → Int32 → PoS → Prop) (post : Int32 → PoS → Prop) (v1 : Int32) (v3 : Int32) (v4 : Int32) (s0 : Int32) (s1 : Int32) (u : PoS) : Prop := ∀ x9 : Int32, x9 = (s1 ||| s0) → wj_X12_narrows_60 k15 post v1 x9 v3 v4 u
def wl_X12_narrows_15 (post : Int32 → PoS → Prop) : Nat → Int32 → Int32 → Int32 → Int32 → PoS → Prop
  | 0, _, _, _, _, _ => False
  | n + 1, v1, v2, v3, v4, u => ((30 ≤ v4 → post v2 u) ∧ (¬ 30 ≤ v4 → wp_X12_has v1 v4 u (fun (r5 : Int32) (u6 : PoS) => ((¬ r5 = 0 → wp_X12_roomsOf (v1 &&& ((1 <<< (v4 &&& 31)) ^^^ (-1))) u6 (fun (r7 : Int32) (u8 : PoS) => ((r7 ≤ v3 → wj_X12_narrows_58 (wl_X12_narrows_15 post n) post v1 v3 v4 0 v2 u8) ∧ (¬ r7 ≤ v3 → wj_X12_narrows_58 (wl_X12_narrows_15 post n) post v1 v3 v4 (1 <<< (v4 &&& 31)) v2 u8)))) ∧ (r5 = 0 → wj_X12_narrows_60 (wl_X12_narrows_15 post n) post v1 v2 v3 v4 u6)))))
def wp_X12_narrows (u : PoS) (post : Int32 → PoS → Prop) : Prop := wp_X12_free u (fun (r1 : Int32) (u2 : PoS) => wp_X12_roomsOf r1 u2 (fun (r3 : Int32) (u4 : PoS) => (∃ n15, wl_X12_narrows_15 post n15 r1 0 r3 0 u4)))
set_option maxHeartbeats 4000000 in
set_option maxRecDepth 100000 in
theorem tj_X12_narrows_60 {p : Program} {l : Launch} {e : Env} {s : State} {m : MethodId} {args : Array Value} {below : List Frame} {meth : Method} {c : Code} {V : VEn} {k15 : Int32 → Int32 → Int32 → Int32 → PoS → Prop} {post : Int32 → PoS → Prop} (C : CxS p s m args meth c V cX12_narrows 5 RX12 (some .int)) (hk15 : ∀ (v1 : Int32) (v2 : Int32) (v3 : Int32) (v4 : Int32) (u : PoS), k15 v1 v2 v3 v4 u → AtS p l e (Rm 4) s m args below meth c V 5 0 0 (QI V below args s post) 15 [(1, .int v1), (2, .int v2), (3, .int v3), (4, .int v4)] [] u) (v1 : Int32) (v2 : Int32) (v3 : Int32) (v4 : Int32) (u : PoS) (h : wj_X12_narrows_60 k15 post v1 v2 v3 v4 u) : AtS p l e (Rm 4) s m args below meth c V 5 0 0 (QI V below args s post) 60 [(1, .int v1), (2, .int v2), (3, .int v3), (4, .int v4)] [] u := by
  rw [wj_X12_narrows_60] at h
  refine a_iinc C (v4 + 1) 3 [(4, .int (v4 + 1)), (1, .int v1), (2, .int v2), (3, .int v3)] dX12_narrows_60 rfl (congrArg (fun z => v4 + z) (show Int32.ofInt 1 = 1 by decide)) (by decide) rfl ?_
  refine a_goto C 15 dX12_narrows_63 (by decide) ?_
  refine a_sub [1, 2, 3, 0] rfl ?_
  exact hk15 _ _ _ _ _ h
set_option maxHeartbeats 4000000 in
set_option maxRecDepth 100000 in
theorem tj_X12_narrows_58 {p : Program} {l : Launch} {e : Env} {s : State} {m : MethodId} {args : Array Value} {below : List Frame} {meth : Method} {c : Code} {V : VEn} {k15 : Int32 → Int32 → Int32 → Int32 → PoS → Prop} {post : Int32 → PoS → Prop} (C : CxS p s m args meth c V cX12_narrows 5 RX12 (some .int)) (hk15 : ∀ (v1 : Int32) (v2 : Int32) (v3 : Int32) (v4 : Int32) (u : PoS), k15 v1 v2 v3 v4 u → AtS p l e (Rm 4) s m args below meth c V 5 0 0 (QI V below args s post) 15 [(1, .int v1), (2, .int v2), (3, .int v3), (4, .int v4)] [] u) (v1 : Int32) (v3 : Int32) (v4 : Int32) (s0 : Int32) (s1 : Int32) (u : PoS) (h : wj_X12_narrows_58 k15 post v1 v3 v4 s0 s1 u) : AtS p l e (Rm 4) s m args below meth c V 5 0 0 (QI V below args s post) 58 [(1, .int v1), (3, .int v3), (4, .int v4)] [.int s0, .int s1] u := by
  rw [wj_X12_narrows_58] at h
  refine a_ior C dX12_narrows_58 ?_
  refine a_topi (fun x9 ex9 => ?_)
  have h := h x9 ex9
  refine a_istore_n C [(2, .int x9), (1, .int v1), (3, .int v3), (4, .int v4)] dX12_narrows_59 rfl (by decide) rfl ?_
  refine a_sub [1, 0, 2, 3] rfl ?_
  refine tj_X12_narrows_60 C hk15 _ _ _ _ _ h
set_option maxHeartbeats 4000000 in
set_option maxRecDepth 100000 in
theorem tl_X12_narrows_15 {p : Program} {l : Launch} {e : Env} {s : State} {m : MethodId} {args : Array Value} {below : List Frame} {meth : Method} {c : Code} {V : VEn} {post : Int32 → PoS → Prop} (C : CxS p s m args meth c V cX12_narrows 5 RX12 (some .int)) : ∀ (n : Nat) (v1 : Int32) (v2 : Int32) (v3 : Int32) (v4 : Int32) (u : PoS), wl_X12_narrows_15 post n v1 v2 v3 v4 u → AtS p l e (Rm 4) s m args below meth c V 5 0 0 (QI V below args s post) 15 [(1, .int v1), (2, .int v2), (3, .int v3), (4, .int v4)] [] u := by
  intro n
  induction n with
  | zero => intro v1 v2 v3 v4 u h; exact h.elim
  | succ n ih =>
    intro v1 v2 v3 v4 u h
    rw [wl_X12_narrows_15] at h
    refine a_iload C 3 dX12_narrows_15 rfl ?_
    refine a_bipush C 30 dX12_narrows_17 (by decide) ?_
    refine a_icmp_ge C 66 dX12_narrows_19 (by decide) (fun c12 => ?_) (fun c12 => ?_)
    · have h := h.1 c12
      refine a_iload_n C 1 dX12_narrows_66 rfl rfl ?_
      exact a_iret C dX12_narrows_67 h
    · have h := h.2 c12
      refine a_iload_n C 0 dX12_narrows_22 rfl rfl ?_
      refine a_iload C 3 dX12_narrows_23 rfl ?_
      refine a_callSi C dX12_narrows_25 (m_X12_has l V h) bw_1240 bw_1241 bw_123 bw_1242 np_X12_has rfl rfl (by decide) (Nat.le_of_ble_eq_true rfl) ⟨Nat.zero_le _, Nat.zero_le _⟩ (fun r5 u6 h => ?_)
      refine a_if_ne C 34 dX12_narrows_28 (by decide) (fun c11 => ?_) (fun c11 => ?_)
      · have h := h.1 c11
        refine a_iload_n C 1 dX12_narrows_34 rfl rfl ?_
        refine a_iload_n C 0 dX12_narrows_35 rfl rfl ?_
        refine a_iconst C 1 dX12_narrows_36 (by decide) ?_
        refine a_iload C 3 dX12_narrows_37 rfl ?_
        refine a_ishl C dX12_narrows_39 ?_
        refine a_iconst C (-1) dX12_narrows_40 (by decide) ?_
        refine a_ixor C dX12_narrows_41 ?_
        refine a_iand C dX12_narrows_42 ?_
        refine a_callSi C dX12_narrows_43 (m_X12_roomsOf l V h) bw_1637 bw_1638 bw_123 bw_1639 np_X12_roomsOf rfl rfl (by decide) (Nat.le_of_ble_eq_true rfl) ⟨Nat.zero_le _, Nat.zero_le _⟩ (fun r7 u8 h => ?_)
        refine a_iload_n C 2 dX12_narrows_46 rfl rfl ?_
        refine a_icmp_le C 57 dX12_narrows_47 (by decide) (fun c10 => ?_) (fun c10 => ?_)
        · have h := h.1 c10
          refine a_iconst C 0 dX12_narrows_57 (by decide) ?_
          refine a_sub [0, 2, 3] rfl ?_
          refine tj_X12_narrows_58 C ih _ _ _ _ _ _ h
        · have h := h.2 c10
          refine a_iconst C 1 dX12_narrows_50 (by decide) ?_
          refine a_iload C 3 dX12_narrows_51 rfl ?_
          refine a_ishl C dX12_narrows_53 ?_
          refine a_goto C 58 dX12_narrows_54 (by decide) ?_
          refine a_sub [0, 2, 3] rfl ?_
          refine tj_X12_narrows_58 C ih _ _ _ _ _ _ h
      · have h := h.2 c11
        refine a_goto C 60 dX12_narrows_31 (by decide) ?_
        refine tj_X12_narrows_60 C ih _ _ _ _ _ h
theorem np_X12_narrows : yX12_narrows.cls ≠ "java/lang/invoke/MethodHandle" ∧ yX12_narrows.cls ≠ "java/lang/invoke/VarHandle" ∧ (parseMethodDescriptor yX12_narrows.desc).map (fun d => d.parameters.length) = some 0 := by decide +kernel
set_option maxHeartbeats 4000000 in
set_option maxRecDepth 100000 in
theorem m_X12_narrows (l : Launch) (V : VEn) {u : PoS} {post : Int32 → PoS → Prop} (h : wp_X12_narrows  u post) : KI l V yX12_narrows cX12_narrows 5 .int 4 [.ref (eA V 48)] u post := by
  refine KI_of (by decide) (Nat.le_of_ble_eq_true rfl) (lv := [(0, .ref (eA V 48))]) rfl ?_
  intro p e s m args below meth c C
  rw [wp_X12_narrows] at h
  refine a_aload_n C 0 dX12_narrows_0 rfl rfl ?_
  refine a_callVi C dX12_narrows_1 (m_X12_free l V h) bw_1395 bw_1397 bw_79 bw_123 bw_1398 (by decide) rfl rfl np_X12_free rfl rfl (by decide) (Nat.le_of_ble_eq_true rfl) ⟨Nat.zero_le _, Nat.zero_le _⟩ (fun r1 u2 h => ?_)
  refine a_istore_n C [(1, .int r1), (0, .ref (eA V 48))] dX12_narrows_4 rfl (by decide) rfl ?_
  refine a_iconst C 0 dX12_narrows_5 (by decide) ?_
  refine a_istore_n C [(2, .int 0), (1, .int r1), (0, .ref (eA V 48))] dX12_narrows_6 rfl (by decide) rfl ?_
  refine a_iload_n C 1 dX12_narrows_7 rfl rfl ?_
  refine a_callSi C dX12_narrows_8 (m_X12_roomsOf l V h) bw_1637 bw_1638 bw_123 bw_1639 np_X12_roomsOf rfl rfl (by decide) (Nat.le_of_ble_eq_true rfl) ⟨Nat.zero_le _, Nat.zero_le _⟩ (fun r3 u4 h => ?_)
  refine a_istore_n C [(3, .int r3), (2, .int 0), (1, .int r1), (0, .ref (eA V 48))] dX12_narrows_11 rfl (by decide) rfl ?_
  refine a_iconst C 0 dX12_narrows_12 (by decide) ?_
  refine a_istore C [(4, .int 0), (3, .int r3), (2, .int 0), (1, .int r1), (0, .ref (eA V 48))] dX12_narrows_13 (by decide) rfl ?_
  refine a_sub [3, 2, 1, 0] rfl ?_
  obtain ⟨n15, h⟩ := h
  refine tl_X12_narrows_15 C n15 _ _ _ _ _ h

/-! RainOnTheOneModel.cost(III)Z -/
def wp_X12_cost (a0 : Int32) (a1 : Int32) (a2 : Int32) (u : PoS) (post : Int32 → PoS → Prop) : Prop := wp_X12_isIn a0 0 4 u (fun (r1 : Int32) (u2 : PoS) => ((r1 = 0 → post 0 u2) ∧ (¬ r1 = 0 → wp_X12_isIn a1 0 6 u2 (fun (r3 : Int32) (u4 : PoS) => ((r3 = 0 → post 0 u4) ∧ (¬ r3 = 0 → wp_X12_isIn a2 0 99 u4 (fun (r5 : Int32) (u6 : PoS) => ((¬ r5 = 0 → vp_in ((130 + (7 * a0)) + a1) 3703 ∧ ∀ z7 : PoS, z7 = pI u6 49 (Int32.toNatClampNeg ((130 + (7 * a0)) + a1)) a2 → post 1 z7) ∧ (r5 = 0 → post 0 u6)))))))))
theorem np_X12_cost : yX12_cost.cls ≠ "java/lang/invoke/MethodHandle" ∧ yX12_cost.cls ≠ "java/lang/invoke/VarHandle" ∧ (parseMethodDescriptor yX12_cost.desc).map (fun d => d.parameters.length) = some 3 := by decide +kernel
set_option maxHeartbeats 4000000 in
set_option maxRecDepth 100000 in
theorem m_X12_cost (l : Launch) (V : VEn) {a0 : Int32} {a1 : Int32} {a2 : Int32} {u : PoS} {post : Int32 → PoS → Prop} (h : wp_X12_cost a0 a1 a2 u post) : KI l V yX12_cost cX12_cost 4 .boolean 1 [.ref (eA V 48), .int a0, .int a1, .int a2] u post := by
  refine KI_of (by decide) (Nat.le_of_ble_eq_true rfl) (lv := [(0, .ref (eA V 48)), (1, .int a0), (2, .int a1), (3, .int a2)]) rfl ?_
  intro p e s m args below meth c C
  rw [wp_X12_cost] at h
  refine a_iload_n C 1 dX12_cost_0 rfl rfl ?_
  refine a_iconst C 0 dX12_cost_1 (by decide) ?_
  refine a_iconst C 4 dX12_cost_2 (by decide) ?_
  refine a_callSi C dX12_cost_3 (m_X12_isIn l V h) bw_1147 bw_1148 bw_123 bw_1149 np_X12_isIn rfl rfl (by decide) (Nat.le_of_ble_eq_true rfl) ⟨Nat.zero_le _, Nat.zero_le _⟩ (fun r1 u2 h => ?_)
  refine a_if_eq C 29 dX12_cost_6 (by decide) (fun c10 => ?_) (fun c10 => ?_)
  · have h := h.1 c10
    refine a_iconst C 0 dX12_cost_29 (by decide) ?_
    exact a_zret C rfl dX12_cost_30 h
  · have h := h.2 c10
    refine a_iload_n C 2 dX12_cost_9 rfl rfl ?_
    refine a_iconst C 0 dX12_cost_10 (by decide) ?_
    refine a_bipush C 6 dX12_cost_11 (by decide) ?_
    refine a_callSi C dX12_cost_13 (m_X12_isIn l V h) bw_1147 bw_1148 bw_123 bw_1149 np_X12_isIn rfl rfl (by decide) (Nat.le_of_ble_eq_true rfl) ⟨Nat.zero_le _, Nat.zero_le _⟩ (fun r3 u4 h => ?_)
    refine a_if_eq C 29 dX12_cost_16 (by decide) (fun c9 => ?_) (fun c9 => ?_)
    · have h := h.1 c9
      refine a_iconst C 0 dX12_cost_29 (by decide) ?_
      exact a_zret C rfl dX12_cost_30 h
    · have h := h.2 c9
      refine a_iload_n C 3 dX12_cost_19 rfl rfl ?_
      refine a_iconst C 0 dX12_cost_20 (by decide) ?_
      refine a_bipush C 99 dX12_cost_21 (by decide) ?_
      refine a_callSi C dX12_cost_23 (m_X12_isIn l V h) bw_1147 bw_1148 bw_123 bw_1149 np_X12_isIn rfl rfl (by decide) (Nat.le_of_ble_eq_true rfl) ⟨Nat.zero_le _, Nat.zero_le _⟩ (fun r5 u6 h => ?_)
      refine a_if_ne C 31 dX12_cost_26 (by decide) (fun c8 => ?_) (fun c8 => ?_)
      · have h := h.1 c8
        refine a_aload_n C 0 dX12_cost_31 rfl rfl ?_
        refine a_getr C 0 (r := 49) dX12_cost_32 (by decide) rfl rfl rfl ib_12 (by decide) bw_1022 ?_
        refine a_sipush C 130 dX12_cost_35 (by decide) ?_
        refine a_bipush C 7 dX12_cost_38 (by decide) ?_
        refine a_iload_n C 1 dX12_cost_40 rfl rfl ?_
        refine a_imul C dX12_cost_41 ?_
        refine a_iadd C dX12_cost_42 ?_
        refine a_iload_n C 2 dX12_cost_43 rfl rfl ?_
        refine a_iadd C dX12_cost_44 ?_
        refine a_iload_n C 3 dX12_cost_45 rfl rfl ?_
        refine b_iast C (Int32.toNatClampNeg ((130 + (7 * a0)) + a1)) dX12_cost_46 (by decide) rfl h.1 rfl ?_
        have h := h.2
        refine a_topu (fun z7 ez7 => ?_)
        have h := h z7 ez7
        refine a_iconst C 1 dX12_cost_47 (by decide) ?_
        exact a_zret C rfl dX12_cost_48 h
      · have h := h.2 c8
        refine a_iconst C 0 dX12_cost_29 (by decide) ?_
        exact a_zret C rfl dX12_cost_30 h

/-! RainOnTheOneModel.canBeIt(III)Z -/
def wp_X12_canBeIt (a0 : Int32) (a1 : Int32) (a2 : Int32) (u : PoS) (post : Int32 → PoS → Prop) : Prop := vp_in a1 5 ∧ ((a2 ≤ (gI u 67 (Int32.toNatClampNeg a1)) → post 0 u) ∧ (¬ a2 ≤ (gI u 67 (Int32.toNatClampNeg a1)) → ((a0 = 0 → post 1 u) ∧ (¬ a0 = 0 → vp_in (a0 - 1) 7 ∧ (((gI u 65 (Int32.toNatClampNeg (a0 - 1))) = a1 → post 0 u) ∧ (¬ (gI u 65 (Int32.toNatClampNeg (a0 - 1))) = a1 → post 1 u))))))
theorem np_X12_canBeIt : yX12_canBeIt.cls ≠ "java/lang/invoke/MethodHandle" ∧ yX12_canBeIt.cls ≠ "java/lang/invoke/VarHandle" ∧ (parseMethodDescriptor yX12_canBeIt.desc).map (fun d => d.parameters.length) = some 3 := by decide +kernel
set_option maxHeartbeats 4000000 in
set_option maxRecDepth 100000 in
theorem m_X12_canBeIt (l : Launch) (V : VEn) {a0 : Int32} {a1 : Int32} {a2 : Int32} {u : PoS} {post : Int32 → PoS → Prop} (h : wp_X12_canBeIt a0 a1 a2 u post) : KI l V yX12_canBeIt cX12_canBeIt 4 .boolean 0 [.ref (eA V 48), .int a0, .int a1, .int a2] u post := by
  refine KI_of (by decide) (Nat.le_of_ble_eq_true rfl) (lv := [(0, .ref (eA V 48)), (1, .int a0), (2, .int a1), (3, .int a2)]) rfl ?_
  intro p e s m args below meth c C
  rw [wp_X12_canBeIt] at h
  refine a_aload_n C 0 dX12_canBeIt_0 rfl rfl ?_
  refine a_getr C 35 (r := 67) dX12_canBeIt_1 (by decide) rfl rfl rfl ib_12 (by decide) bw_1057 ?_
  refine a_iload_n C 2 dX12_canBeIt_4 rfl rfl ?_
  refine b_iald C (Int32.toNatClampNeg a1) dX12_canBeIt_5 (by decide) rfl h.1 rfl ?_
  have h := h.2
  refine a_iload_n C 3 dX12_canBeIt_6 rfl rfl ?_
  refine a_icmp_ge C 30 dX12_canBeIt_7 (by decide) (fun c3 => ?_) (fun c3 => ?_)
  · have h := h.1 c3
    refine a_iconst C 0 dX12_canBeIt_30 (by decide) ?_
    exact a_zret C rfl dX12_canBeIt_31 h
  · have h := h.2 c3
    refine a_iload_n C 1 dX12_canBeIt_10 rfl rfl ?_
    refine a_if_eq C 26 dX12_canBeIt_11 (by decide) (fun c2 => ?_) (fun c2 => ?_)
    · have h := h.1 c2
      refine a_iconst C 1 dX12_canBeIt_26 (by decide) ?_
      refine a_goto C 31 dX12_canBeIt_27 (by decide) ?_
      exact a_zret C rfl dX12_canBeIt_31 h
    · have h := h.2 c2
      refine a_aload_n C 0 dX12_canBeIt_14 rfl rfl ?_
      refine a_getr C 33 (r := 65) dX12_canBeIt_15 (by decide) rfl rfl rfl ib_12 (by decide) bw_1055 ?_
      refine a_iload_n C 1 dX12_canBeIt_18 rfl rfl ?_
      refine a_iconst C 1 dX12_canBeIt_19 (by decide) ?_
      refine a_isub C dX12_canBeIt_20 ?_
      refine b_iald C (Int32.toNatClampNeg (a0 - 1)) dX12_canBeIt_21 (by decide) rfl h.1 rfl ?_
      have h := h.2
      refine a_iload_n C 2 dX12_canBeIt_22 rfl rfl ?_
      refine a_icmp_eq C 30 dX12_canBeIt_23 (by decide) (fun c1 => ?_) (fun c1 => ?_)
      · have h := h.1 c1
        refine a_iconst C 0 dX12_canBeIt_30 (by decide) ?_
        exact a_zret C rfl dX12_canBeIt_31 h
      · have h := h.2 c1
        refine a_iconst C 1 dX12_canBeIt_26 (by decide) ?_
        refine a_goto C 31 dX12_canBeIt_27 (by decide) ?_
        exact a_zret C rfl dX12_canBeIt_31 h

/-! RainOnTheOneModel.isNextRoster(II)Z -/
def wl_X12_isNextRoster_39 (k67 : Int32 → Int32 → Int32 → PoS → Prop) (post : Int32 → PoS → Prop) : Nat → Int32 → Int32 → Int32 → PoS → Prop
  | 0, _, _, _, _ => False
  | n + 1, v1, v3, v4, u => (((gI u 49 0) ≤ v4 → k67 v1 v3 v4 u) ∧ (¬ (gI u 49 0) ≤ v4 → wp_X12_canBeIt v3 v4 v1 u (fun (r2 : Int32) (u3 : PoS) => ((¬ r2 = 0 → k67 v1 v3 v4 u3) ∧ (r2 = 0 → wl_X12_isNextRoster_39 k67 post n v1 v3 (v4 + 1) u3)))))
def wj_X12_isNextRoster_129 (k2 : Int32 → Int32 → PoS → Prop) (post : Int32 → PoS → Prop) (v1 : Int32) (s0 : Int32) (s1 : Int32) (u : PoS) : Prop := ∀ x8 : Int32, x8 = (s1 + s0) → k2 v1 x8 u
def wj_X12_isNextRoster_112 (k2 : Int32 → Int32 → PoS → Prop) (post : Int32 → PoS → Prop) (v1 : Int32) (v3 : Int32) (v4 : Int32) (u : PoS) : Prop := (((gI u 49 0) ≤ v4 → wj_X12_isNextRoster_129 k2 post v1 (-1) v3 u) ∧ (¬ (gI u 49 0) ≤ v4 → wj_X12_isNextRoster_129 k2 post v1 1 v3 u))
def wj_X12_isNextRoster_89 (k2 : Int32 → Int32 → PoS → Prop) (post : Int32 → PoS → Prop) (v1 : Int32) (v3 : Int32) (v4 : Int32) (s0 : Int32) (s1 : Int32) (u : PoS) : Prop := vp_in s1 7 ∧ ∀ z7 : PoS, z7 = pI u 65 (Int32.toNatClampNeg s1) s0 → (((gI z7 49 0) ≤ v4 → wj_X12_isNextRoster_112 k2 post v1 v3 v4 z7) ∧ (¬ (gI z7 49 0) ≤ v4 → vp_in v4 5 ∧ vp_in v4 5 ∧ ∀ z10 : PoS, z10 = pI z7 67 (Int32.toNatClampNeg v4) ((gI z7 67 (Int32.toNatClampNeg v4)) + 1) → wj_X12_isNextRoster_112 k2 post v1 v3 v4 z10))
def wj_X12_isNextRoster_67 (k2 : Int32 → Int32 → PoS → Prop) (post : Int32 → PoS → Prop) (v1 : Int32) (v3 : Int32) (v4 : Int32) (u : PoS) : Prop := (((gI u 49 0) ≤ v4 → wj_X12_isNextRoster_89 k2 post v1 v3 v4 (-1) v3 u) ∧ (¬ (gI u 49 0) ≤ v4 → wj_X12_isNextRoster_89 k2 post v1 v3 v4 v4 v3 u))
def wj_X12_isNextRoster_36 (k2 : Int32 → Int32 → PoS → Prop) (post : Int32 → PoS → Prop) (v1 : Int32) (v3 : Int32) (v4 : Int32) (u : PoS) : Prop := (∃ n39, wl_X12_isNextRoster_39 (fun (v16 : Int32) (v36 : Int32) (v46 : Int32) (u6 : PoS) => wj_X12_isNextRoster_67 k2 post v16 v36 v46 u6) post n39 v1 v3 (v4 + 1) u)
def wl_X12_isNextRoster_2 (k134 : Int32 → PoS → Prop) (post : Int32 → PoS → Prop) : Nat → Int32 → Int32 → PoS → Prop
  | 0, _, _, _ => False
  | n + 1, v1, v3, u => ((v3 < 0 → k134 v3 u) ∧ (¬ v3 < 0 → ((7 ≤ v3 → k134 v3 u) ∧ (¬ 7 ≤ v3 → vp_in v3 7 ∧ ∀ x1 : Int32, x1 = (gI u 65 (Int32.toNatClampNeg v3)) → ((x1 < 0 → wj_X12_isNextRoster_36 (wl_X12_isNextRoster_2 k134 post n) post v1 v3 x1 u) ∧ (¬ x1 < 0 → vp_in x1 5 ∧ vp_in x1 5 ∧ ∀ z13 : PoS, z13 = pI u 67 (Int32.toNatClampNeg x1) ((gI u 67 (Int32.toNatClampNeg x1)) - 1) → wj_X12_isNextRoster_36 (wl_X12_isNextRoster_2 k134 post n) post v1 v3 x1 z13))))))
def wj_X12_isNextRoster_134 (post : Int32 → PoS → Prop) (v3 : Int32) (u : PoS) : Prop := ((v3 < 0 → post 0 u) ∧ (¬ v3 < 0 → post 1 u))
def wp_X12_isNextRoster (a0 : Int32) (a1 : Int32) (u : PoS) (post : Int32 → PoS → Prop) : Prop := (∃ n2, wl_X12_isNextRoster_2 (fun (v317 : Int32) (u17 : PoS) => wj_X12_isNextRoster_134 post v317 u17) post n2 a0 a1 u)
set_option maxHeartbeats 4000000 in
set_option maxRecDepth 100000 in
theorem tl_X12_isNextRoster_39 {p : Program} {l : Launch} {e : Env} {s : State} {m : MethodId} {args : Array Value} {below : List Frame} {meth : Method} {c : Code} {V : VEn} {k67 : Int32 → Int32 → Int32 → PoS → Prop} {post : Int32 → PoS → Prop} (C : CxS p s m args meth c V cX12_isNextRoster 5 RX12 (some .boolean)) (hk67 : ∀ (v1 : Int32) (v3 : Int32) (v4 : Int32) (u : PoS), k67 v1 v3 v4 u → AtS p l e (Rm 1) s m args below meth c V 5 0 0 (QI V below args s post) 67 [(0, .ref (eA V 48)), (1, .int v1), (3, .int v3), (4, .int v4)] [] u) : ∀ (n : Nat) (v1 : Int32) (v3 : Int32) (v4 : Int32) (u : PoS), wl_X12_isNextRoster_39 k67 post n v1 v3 v4 u → AtS p l e (Rm 1) s m args below meth c V 5 0 0 (QI V below args s post) 39 [(0, .ref (eA V 48)), (1, .int v1), (3, .int v3), (4, .int v4)] [] u := by
  intro n
  induction n with
  | zero => intro v1 v3 v4 u h; exact h.elim
  | succ n ih =>
    intro v1 v3 v4 u h
    rw [wl_X12_isNextRoster_39] at h
    refine a_iload C 3 dX12_isNextRoster_39 rfl ?_
    refine a_aload_n C 0 dX12_isNextRoster_41 rfl rfl ?_
    refine a_getr C 0 (r := 49) dX12_isNextRoster_42 (by decide) rfl rfl rfl ib_12 (by decide) bw_1022 ?_
    refine a_iconst C 0 dX12_isNextRoster_45 (by decide) ?_
    refine b_iald C 0 dX12_isNextRoster_46 (by decide) rfl (vp_lit (by decide)) (by decide) ?_
    refine a_icmp_ge C 67 dX12_isNextRoster_47 (by decide) (fun c5 => ?_) (fun c5 => ?_)
    · have h := h.1 c5
      exact hk67 _ _ _ _ h
    · have h := h.2 c5
      refine a_aload_n C 0 dX12_isNextRoster_50 rfl rfl ?_
      refine a_iload_n C 2 dX12_isNextRoster_51 rfl rfl ?_
      refine a_iload C 3 dX12_isNextRoster_52 rfl ?_
      refine a_iload_n C 1 dX12_isNextRoster_54 rfl rfl ?_
      refine a_callVi C dX12_isNextRoster_55 (m_X12_canBeIt l V h) bw_1656 bw_1658 bw_108 bw_123 bw_1659 (by decide) rfl rfl np_X12_canBeIt rfl rfl (by decide) (Nat.le_of_ble_eq_true rfl) ⟨Nat.zero_le _, Nat.zero_le _⟩ (fun r2 u3 h => ?_)
      refine a_if_ne C 67 dX12_isNextRoster_58 (by decide) (fun c4 => ?_) (fun c4 => ?_)
      · have h := h.1 c4
        exact hk67 _ _ _ _ h
      · have h := h.2 c4
        refine a_iinc C (v4 + 1) 3 [(4, .int (v4 + 1)), (0, .ref (eA V 48)), (1, .int v1), (3, .int v3)] dX12_isNextRoster_61 rfl (congrArg (fun z => v4 + z) (show Int32.ofInt 1 = 1 by decide)) (by decide) rfl ?_
        refine a_goto C 39 dX12_isNextRoster_64 (by decide) ?_
        refine a_sub [1, 2, 3, 0] rfl ?_
        exact ih _ _ _ _ h
set_option maxHeartbeats 4000000 in
set_option maxRecDepth 100000 in
theorem tj_X12_isNextRoster_129 {p : Program} {l : Launch} {e : Env} {s : State} {m : MethodId} {args : Array Value} {below : List Frame} {meth : Method} {c : Code} {V : VEn} {k2 : Int32 → Int32 → PoS → Prop} {post : Int32 → PoS → Prop} (C : CxS p s m args meth c V cX12_isNextRoster 5 RX12 (some .boolean)) (hk2 : ∀ (v1 : Int32) (v3 : Int32) (u : PoS), k2 v1 v3 u → AtS p l e (Rm 1) s m args below meth c V 5 0 0 (QI V below args s post) 2 [(0, .ref (eA V 48)), (1, .int v1), (3, .int v3)] [] u) (v1 : Int32) (s0 : Int32) (s1 : Int32) (u : PoS) (h : wj_X12_isNextRoster_129 k2 post v1 s0 s1 u) : AtS p l e (Rm 1) s m args below meth c V 5 0 0 (QI V below args s post) 129 [(0, .ref (eA V 48)), (1, .int v1)] [.int s0, .int s1] u := by
  rw [wj_X12_isNextRoster_129] at h
  refine a_iadd C dX12_isNextRoster_129 ?_
  refine a_topi (fun x8 ex8 => ?_)
  have h := h x8 ex8
  refine a_istore_n C [(3, .int x8), (0, .ref (eA V 48)), (1, .int v1)] dX12_isNextRoster_130 rfl (by decide) rfl ?_
  refine a_goto C 2 dX12_isNextRoster_131 (by decide) ?_
  refine a_sub [1, 2, 0] rfl ?_
  exact hk2 _ _ _ h
set_option maxHeartbeats 4000000 in
set_option maxRecDepth 100000 in
theorem tj_X12_isNextRoster_112 {p : Program} {l : Launch} {e : Env} {s : State} {m : MethodId} {args : Array Value} {below : List Frame} {meth : Method} {c : Code} {V : VEn} {k2 : Int32 → Int32 → PoS → Prop} {post : Int32 → PoS → Prop} (C : CxS p s m args meth c V cX12_isNextRoster 5 RX12 (some .boolean)) (hk2 : ∀ (v1 : Int32) (v3 : Int32) (u : PoS), k2 v1 v3 u → AtS p l e (Rm 1) s m args below meth c V 5 0 0 (QI V below args s post) 2 [(0, .ref (eA V 48)), (1, .int v1), (3, .int v3)] [] u) (v1 : Int32) (v3 : Int32) (v4 : Int32) (u : PoS) (h : wj_X12_isNextRoster_112 k2 post v1 v3 v4 u) : AtS p l e (Rm 1) s m args below meth c V 5 0 0 (QI V below args s post) 112 [(0, .ref (eA V 48)), (1, .int v1), (3, .int v3), (4, .int v4)] [] u := by
  rw [wj_X12_isNextRoster_112] at h
  refine a_iload_n C 2 dX12_isNextRoster_112 rfl rfl ?_
  refine a_iload C 3 dX12_isNextRoster_113 rfl ?_
  refine a_aload_n C 0 dX12_isNextRoster_115 rfl rfl ?_
  refine a_getr C 0 (r := 49) dX12_isNextRoster_116 (by decide) rfl rfl rfl ib_12 (by decide) bw_1022 ?_
  refine a_iconst C 0 dX12_isNextRoster_119 (by decide) ?_
  refine b_iald C 0 dX12_isNextRoster_120 (by decide) rfl (vp_lit (by decide)) (by decide) ?_
  refine a_icmp_ge C 128 dX12_isNextRoster_121 (by decide) (fun c9 => ?_) (fun c9 => ?_)
  · have h := h.1 c9
    refine a_iconst C (-1) dX12_isNextRoster_128 (by decide) ?_
    refine a_sub [0, 1] rfl ?_
    refine tj_X12_isNextRoster_129 C hk2 _ _ _ _ h
  · have h := h.2 c9
    refine a_iconst C 1 dX12_isNextRoster_124 (by decide) ?_
    refine a_goto C 129 dX12_isNextRoster_125 (by decide) ?_
    refine a_sub [0, 1] rfl ?_
    refine tj_X12_isNextRoster_129 C hk2 _ _ _ _ h
set_option maxHeartbeats 4000000 in
set_option maxRecDepth 100000 in
theorem tj_X12_isNextRoster_89 {p : Program} {l : Launch} {e : Env} {s : State} {m : MethodId} {args : Array Value} {below : List Frame} {meth : Method} {c : Code} {V : VEn} {k2 : Int32 → Int32 → PoS → Prop} {post : Int32 → PoS → Prop} (C : CxS p s m args meth c V cX12_isNextRoster 5 RX12 (some .boolean)) (hk2 : ∀ (v1 : Int32) (v3 : Int32) (u : PoS), k2 v1 v3 u → AtS p l e (Rm 1) s m args below meth c V 5 0 0 (QI V below args s post) 2 [(0, .ref (eA V 48)), (1, .int v1), (3, .int v3)] [] u) (v1 : Int32) (v3 : Int32) (v4 : Int32) (s0 : Int32) (s1 : Int32) (u : PoS) (h : wj_X12_isNextRoster_89 k2 post v1 v3 v4 s0 s1 u) : AtS p l e (Rm 1) s m args below meth c V 5 0 0 (QI V below args s post) 89 [(0, .ref (eA V 48)), (1, .int v1), (3, .int v3), (4, .int v4)] [.int s0, .int s1, .ref (eA V 65)] u := by
  rw [wj_X12_isNextRoster_89] at h
  refine b_iast C (Int32.toNatClampNeg s1) dX12_isNextRoster_89 (by decide) rfl h.1 rfl ?_
  have h := h.2
  refine a_topu (fun z7 ez7 => ?_)
  have h := h z7 ez7
  refine a_iload C 3 dX12_isNextRoster_90 rfl ?_
  refine a_aload_n C 0 dX12_isNextRoster_92 rfl rfl ?_
  refine a_getr C 0 (r := 49) dX12_isNextRoster_93 (by decide) rfl rfl rfl ib_12 (by decide) bw_1022 ?_
  refine a_iconst C 0 dX12_isNextRoster_96 (by decide) ?_
  refine b_iald C 0 dX12_isNextRoster_97 (by decide) rfl (vp_lit (by decide)) (by decide) ?_
  refine a_icmp_ge C 112 dX12_isNextRoster_98 (by decide) (fun c11 => ?_) (fun c11 => ?_)
  · have h := h.1 c11
    refine tj_X12_isNextRoster_112 C hk2 _ _ _ _ h
  · have h := h.2 c11
    refine a_aload_n C 0 dX12_isNextRoster_101 rfl rfl ?_
    refine a_getr C 35 (r := 67) dX12_isNextRoster_102 (by decide) rfl rfl rfl ib_12 (by decide) bw_1057 ?_
    refine a_iload C 3 dX12_isNextRoster_105 rfl ?_
    refine a_dup2 C dX12_isNextRoster_107 rfl rfl ?_
    refine b_iald C (Int32.toNatClampNeg v4) dX12_isNextRoster_108 (by decide) rfl h.1 rfl ?_
    have h := h.2
    refine a_iconst C 1 dX12_isNextRoster_109 (by decide) ?_
    refine a_iadd C dX12_isNextRoster_110 ?_
    refine b_iast C (Int32.toNatClampNeg v4) dX12_isNextRoster_111 (by decide) rfl h.1 rfl ?_
    have h := h.2
    refine a_topu (fun z10 ez10 => ?_)
    have h := h z10 ez10
    refine tj_X12_isNextRoster_112 C hk2 _ _ _ _ h
set_option maxHeartbeats 4000000 in
set_option maxRecDepth 100000 in
theorem tj_X12_isNextRoster_67 {p : Program} {l : Launch} {e : Env} {s : State} {m : MethodId} {args : Array Value} {below : List Frame} {meth : Method} {c : Code} {V : VEn} {k2 : Int32 → Int32 → PoS → Prop} {post : Int32 → PoS → Prop} (C : CxS p s m args meth c V cX12_isNextRoster 5 RX12 (some .boolean)) (hk2 : ∀ (v1 : Int32) (v3 : Int32) (u : PoS), k2 v1 v3 u → AtS p l e (Rm 1) s m args below meth c V 5 0 0 (QI V below args s post) 2 [(0, .ref (eA V 48)), (1, .int v1), (3, .int v3)] [] u) (v1 : Int32) (v3 : Int32) (v4 : Int32) (u : PoS) (h : wj_X12_isNextRoster_67 k2 post v1 v3 v4 u) : AtS p l e (Rm 1) s m args below meth c V 5 0 0 (QI V below args s post) 67 [(0, .ref (eA V 48)), (1, .int v1), (3, .int v3), (4, .int v4)] [] u := by
  rw [wj_X12_isNextRoster_67] at h
  refine a_aload_n C 0 dX12_isNextRoster_67 rfl rfl ?_
  refine a_getr C 33 (r := 65) dX12_isNextRoster_68 (by decide) rfl rfl rfl ib_12 (by decide) bw_1055 ?_
  refine a_iload_n C 2 dX12_isNextRoster_71 rfl rfl ?_
  refine a_iload C 3 dX12_isNextRoster_72 rfl ?_
  refine a_aload_n C 0 dX12_isNextRoster_74 rfl rfl ?_
  refine a_getr C 0 (r := 49) dX12_isNextRoster_75 (by decide) rfl rfl rfl ib_12 (by decide) bw_1022 ?_
  refine a_iconst C 0 dX12_isNextRoster_78 (by decide) ?_
  refine b_iald C 0 dX12_isNextRoster_79 (by decide) rfl (vp_lit (by decide)) (by decide) ?_
  refine a_icmp_ge C 88 dX12_isNextRoster_80 (by decide) (fun c12 => ?_) (fun c12 => ?_)
  · have h := h.1 c12
    refine a_iconst C (-1) dX12_isNextRoster_88 (by decide) ?_
    refine tj_X12_isNextRoster_89 C hk2 _ _ _ _ _ _ h
  · have h := h.2 c12
    refine a_iload C 3 dX12_isNextRoster_83 rfl ?_
    refine a_goto C 89 dX12_isNextRoster_85 (by decide) ?_
    refine tj_X12_isNextRoster_89 C hk2 _ _ _ _ _ _ h
set_option maxHeartbeats 4000000 in
set_option maxRecDepth 100000 in
theorem tj_X12_isNextRoster_36 {p : Program} {l : Launch} {e : Env} {s : State} {m : MethodId} {args : Array Value} {below : List Frame} {meth : Method} {c : Code} {V : VEn} {k2 : Int32 → Int32 → PoS → Prop} {post : Int32 → PoS → Prop} (C : CxS p s m args meth c V cX12_isNextRoster 5 RX12 (some .boolean)) (hk2 : ∀ (v1 : Int32) (v3 : Int32) (u : PoS), k2 v1 v3 u → AtS p l e (Rm 1) s m args below meth c V 5 0 0 (QI V below args s post) 2 [(0, .ref (eA V 48)), (1, .int v1), (3, .int v3)] [] u) (v1 : Int32) (v3 : Int32) (v4 : Int32) (u : PoS) (h : wj_X12_isNextRoster_36 k2 post v1 v3 v4 u) : AtS p l e (Rm 1) s m args below meth c V 5 0 0 (QI V below args s post) 36 [(0, .ref (eA V 48)), (1, .int v1), (3, .int v3), (4, .int v4)] [] u := by
  rw [wj_X12_isNextRoster_36] at h
  refine a_iinc C (v4 + 1) 3 [(4, .int (v4 + 1)), (0, .ref (eA V 48)), (1, .int v1), (3, .int v3)] dX12_isNextRoster_36 rfl (congrArg (fun z => v4 + z) (show Int32.ofInt 1 = 1 by decide)) (by decide) rfl ?_
  refine a_sub [1, 2, 3, 0] rfl ?_
  obtain ⟨n39, h⟩ := h
  refine tl_X12_isNextRoster_39 C (fun v16 v36 v46 u6 h => ?_) n39 _ _ _ _ h
  refine tj_X12_isNextRoster_67 C hk2 _ _ _ _ h
set_option maxHeartbeats 4000000 in
set_option maxRecDepth 100000 in
theorem tl_X12_isNextRoster_2 {p : Program} {l : Launch} {e : Env} {s : State} {m : MethodId} {args : Array Value} {below : List Frame} {meth : Method} {c : Code} {V : VEn} {k134 : Int32 → PoS → Prop} {post : Int32 → PoS → Prop} (C : CxS p s m args meth c V cX12_isNextRoster 5 RX12 (some .boolean)) (hk134 : ∀ (v3 : Int32) (u : PoS), k134 v3 u → AtS p l e (Rm 1) s m args below meth c V 5 0 0 (QI V below args s post) 134 [(3, .int v3)] [] u) : ∀ (n : Nat) (v1 : Int32) (v3 : Int32) (u : PoS), wl_X12_isNextRoster_2 k134 post n v1 v3 u → AtS p l e (Rm 1) s m args below meth c V 5 0 0 (QI V below args s post) 2 [(0, .ref (eA V 48)), (1, .int v1), (3, .int v3)] [] u := by
  intro n
  induction n with
  | zero => intro v1 v3 u h; exact h.elim
  | succ n ih =>
    intro v1 v3 u h
    rw [wl_X12_isNextRoster_2] at h
    refine a_iload_n C 2 dX12_isNextRoster_2 rfl rfl ?_
    refine a_if_lt C 134 dX12_isNextRoster_3 (by decide) (fun c16 => ?_) (fun c16 => ?_)
    · have h := h.1 c16
      refine a_sub [2] rfl ?_
      exact hk134 _ _ h
    · have h := h.2 c16
      refine a_iload_n C 2 dX12_isNextRoster_6 rfl rfl ?_
      refine a_bipush C 7 dX12_isNextRoster_7 (by decide) ?_
      refine a_icmp_ge C 134 dX12_isNextRoster_9 (by decide) (fun c15 => ?_) (fun c15 => ?_)
      · have h := h.1 c15
        refine a_sub [2] rfl ?_
        exact hk134 _ _ h
      · have h := h.2 c15
        refine a_aload_n C 0 dX12_isNextRoster_12 rfl rfl ?_
        refine a_getr C 33 (r := 65) dX12_isNextRoster_13 (by decide) rfl rfl rfl ib_12 (by decide) bw_1055 ?_
        refine a_iload_n C 2 dX12_isNextRoster_16 rfl rfl ?_
        refine b_iald C (Int32.toNatClampNeg v3) dX12_isNextRoster_17 (by decide) rfl h.1 rfl ?_
        have h := h.2
        refine a_topi (fun x1 ex1 => ?_)
        have h := h x1 ex1
        refine a_istore C [(4, .int x1), (0, .ref (eA V 48)), (1, .int v1), (3, .int v3)] dX12_isNextRoster_18 (by decide) rfl ?_
        refine a_iload C 0 dX12_isNextRoster_20 rfl ?_
        refine a_if_lt C 36 dX12_isNextRoster_22 (by decide) (fun c14 => ?_) (fun c14 => ?_)
        · have h := h.1 c14
          refine a_sub [1, 2, 3, 0] rfl ?_
          refine tj_X12_isNextRoster_36 C ih _ _ _ _ h
        · have h := h.2 c14
          refine a_aload_n C 1 dX12_isNextRoster_25 rfl rfl ?_
          refine a_getr C 35 (r := 67) dX12_isNextRoster_26 (by decide) rfl rfl rfl ib_12 (by decide) bw_1057 ?_
          refine a_iload C 0 dX12_isNextRoster_29 rfl ?_
          refine a_dup2 C dX12_isNextRoster_31 rfl rfl ?_
          refine b_iald C (Int32.toNatClampNeg x1) dX12_isNextRoster_32 (by decide) rfl h.1 rfl ?_
          have h := h.2
          refine a_iconst C 1 dX12_isNextRoster_33 (by decide) ?_
          refine a_isub C dX12_isNextRoster_34 ?_
          refine b_iast C (Int32.toNatClampNeg x1) dX12_isNextRoster_35 (by decide) rfl h.1 rfl ?_
          have h := h.2
          refine a_topu (fun z13 ez13 => ?_)
          have h := h z13 ez13
          refine a_sub [1, 2, 3, 0] rfl ?_
          refine tj_X12_isNextRoster_36 C ih _ _ _ _ h
set_option maxHeartbeats 4000000 in
set_option maxRecDepth 100000 in
theorem tj_X12_isNextRoster_134 {p : Program} {l : Launch} {e : Env} {s : State} {m : MethodId} {args : Array Value} {below : List Frame} {meth : Method} {c : Code} {V : VEn} {post : Int32 → PoS → Prop} (C : CxS p s m args meth c V cX12_isNextRoster 5 RX12 (some .boolean)) (v3 : Int32) (u : PoS) (h : wj_X12_isNextRoster_134 post v3 u) : AtS p l e (Rm 1) s m args below meth c V 5 0 0 (QI V below args s post) 134 [(3, .int v3)] [] u := by
  rw [wj_X12_isNextRoster_134] at h
  refine a_iload_n C 0 dX12_isNextRoster_134 rfl rfl ?_
  refine a_if_lt C 142 dX12_isNextRoster_135 (by decide) (fun c18 => ?_) (fun c18 => ?_)
  · have h := h.1 c18
    refine a_iconst C 0 dX12_isNextRoster_142 (by decide) ?_
    exact a_zret C rfl dX12_isNextRoster_143 h
  · have h := h.2 c18
    refine a_iconst C 1 dX12_isNextRoster_138 (by decide) ?_
    refine a_goto C 143 dX12_isNextRoster_139 (by decide) ?_
    exact a_zret C rfl dX12_isNextRoster_143 h
theorem np_X12_isNextRoster : yX12_isNextRoster.cls ≠ "java/lang/invoke/MethodHandle" ∧ yX12_isNextRoster.cls ≠ "java/lang/invoke/VarHandle" ∧ (parseMethodDescriptor yX12_isNextRoster.desc).map (fun d => d.parameters.length) = some 2 := by decide +kernel
set_option maxHeartbeats 4000000 in
set_option maxRecDepth 100000 in
theorem m_X12_isNextRoster (l : Launch) (V : VEn) {a0 : Int32} {a1 : Int32} {u : PoS} {post : Int32 → PoS → Prop} (h : wp_X12_isNextRoster a0 a1 u post) : KI l V yX12_isNextRoster cX12_isNextRoster 5 .boolean 1 [.ref (eA V 48), .int a0, .int a1] u post := by
  refine KI_of (by decide) (Nat.le_of_ble_eq_true rfl) (lv := [(0, .ref (eA V 48)), (1, .int a0), (2, .int a1)]) rfl ?_
  intro p e s m args below meth c C
  rw [wp_X12_isNextRoster] at h
  refine a_iload_n C 2 dX12_isNextRoster_0 rfl rfl ?_
  refine a_istore_n C [(3, .int a1), (0, .ref (eA V 48)), (1, .int a0), (2, .int a1)] dX12_isNextRoster_1 rfl (by decide) rfl ?_
  refine a_sub [1, 2, 0] rfl ?_
  obtain ⟨n2, h⟩ := h
  refine tl_X12_isNextRoster_2 C (fun v317 u17 h => ?_) n2 _ _ _ h
  refine tj_X12_isNextRoster_134 C _ _ h

/-! RainOnTheOneModel.layRoster(I)I -/
def wl_X12_layRoster_2 (k20 : Int32 → PoS → Prop) (post : Int32 → PoS → Prop) : Nat → Int32 → Int32 → PoS → Prop
  | 0, _, _, _ => False
  | n + 1, v1, v2, u => ((5 ≤ v2 → k20 v1 u) ∧ (¬ 5 ≤ v2 → vp_in v2 5 ∧ ∀ z1 : PoS, z1 = pI u 67 (Int32.toNatClampNeg v2) 0 → wl_X12_layRoster_2 k20 post n v1 (v2 + 1) z1))
def wl_X12_layRoster_22 (k41 : Int32 → PoS → Prop) (post : Int32 → PoS → Prop) : Nat → Int32 → Int32 → PoS → Prop
  | 0, _, _, _ => False
  | n + 1, v1, v2, u => ((7 ≤ v2 → k41 v1 u) ∧ (¬ 7 ≤ v2 → vp_in v2 7 ∧ ∀ z4 : PoS, z4 = pI u 65 (Int32.toNatClampNeg v2) (-1) → wl_X12_layRoster_22 k41 post n v1 (v2 + 1) z4))
def wl_X12_layRoster_62 (k102 : Int32 → Int32 → Int32 → PoS → Prop) (post : Int32 → PoS → Prop) : Nat → Int32 → Int32 → Int32 → Int32 → PoS → Prop
  | 0, _, _, _, _, _ => False
  | n + 1, v1, v2, v4, v5, u => ((7 ≤ v5 → k102 v1 v2 v4 u) ∧ (¬ 7 ≤ v5 → vp_in v5 7 ∧ vp_in ((130 + (7 * (gI u 65 (Int32.toNatClampNeg v5)))) + v5) 3703 ∧ ∀ x9 : Int32, x9 = (v4 + (gI u 49 (Int32.toNatClampNeg ((130 + (7 * (gI u 65 (Int32.toNatClampNeg v5)))) + v5)))) → wl_X12_layRoster_62 k102 post n v1 v2 x9 (v5 + 1) u))
def wj_X12_layRoster_141 (k52 : Int32 → Int32 → Int32 → PoS → Prop) (post : Int32 → PoS → Prop) (v1 : Int32) (v2 : Int32) (u : PoS) : Prop := wp_X12_isNextRoster v1 6 u (fun (r12 : Int32) (u13 : PoS) => k52 v1 v2 r12 u13)
def wl_X12_layRoster_114 (k141 : Int32 → Int32 → PoS → Prop) (post : Int32 → PoS → Prop) : Nat → Int32 → Int32 → Int32 → PoS → Prop
  | 0, _, _, _, _ => False
  | n + 1, v1, v2, v5, u => ((7 ≤ v5 → k141 v1 v2 u) ∧ (¬ 7 ≤ v5 → vp_in v5 7 ∧ vp_in v5 7 ∧ ∀ z14 : PoS, z14 = pI u 66 (Int32.toNatClampNeg v5) (gI u 65 (Int32.toNatClampNeg v5)) → wl_X12_layRoster_114 k141 post n v1 v2 (v5 + 1) z14))
def wl_X12_layRoster_52 (k152 : Int32 → PoS → Prop) (post : Int32 → PoS → Prop) : Nat → Int32 → Int32 → Int32 → PoS → Prop
  | 0, _, _, _, _ => False
  | n + 1, v1, v2, v3, u => ((v3 = 0 → k152 v2 u) ∧ (¬ v3 = 0 → (∃ n62, wl_X12_layRoster_62 (fun (v111 : Int32) (v211 : Int32) (v411 : Int32) (u11 : PoS) => ((v211 ≤ v411 → wj_X12_layRoster_141 (wl_X12_layRoster_52 k152 post n) post v111 v211 u11) ∧ (¬ v211 ≤ v411 → (∃ n114, wl_X12_layRoster_114 (fun (v116 : Int32) (v216 : Int32) (u16 : PoS) => wj_X12_layRoster_141 (wl_X12_layRoster_52 k152 post n) post v116 v216 u16) post n114 v111 v411 0 u11)))) post n62 v1 v2 0 0 u)))
def wp_X12_layRoster (a0 : Int32) (u : PoS) (post : Int32 → PoS → Prop) : Prop := (∃ n2, wl_X12_layRoster_2 (fun (v13 : Int32) (u3 : PoS) => (∃ n22, wl_X12_layRoster_22 (fun (v16 : Int32) (u6 : PoS) => wp_X12_isNextRoster v16 0 u6 (fun (r7 : Int32) (u8 : PoS) => (∃ n52, wl_X12_layRoster_52 (fun (v219 : Int32) (u19 : PoS) => ((¬ v219 = 1000000 → post v219 u19) ∧ (v219 = 1000000 → post (-1) u19))) post n52 v16 1000000 r7 u8))) post n22 v13 0 u3)) post n2 a0 0 u)
set_option maxHeartbeats 4000000 in
set_option maxRecDepth 100000 in
theorem tl_X12_layRoster_2 {p : Program} {l : Launch} {e : Env} {s : State} {m : MethodId} {args : Array Value} {below : List Frame} {meth : Method} {c : Code} {V : VEn} {k20 : Int32 → PoS → Prop} {post : Int32 → PoS → Prop} (C : CxS p s m args meth c V cX12_layRoster 6 RX12 (some .int)) (hk20 : ∀ (v1 : Int32) (u : PoS), k20 v1 u → AtS p l e (Rm 2) s m args below meth c V 6 0 0 (QI V below args s post) 20 [(0, .ref (eA V 48)), (1, .int v1)] [] u) : ∀ (n : Nat) (v1 : Int32) (v2 : Int32) (u : PoS), wl_X12_layRoster_2 k20 post n v1 v2 u → AtS p l e (Rm 2) s m args below meth c V 6 0 0 (QI V below args s post) 2 [(0, .ref (eA V 48)), (1, .int v1), (2, .int v2)] [] u := by
  intro n
  induction n with
  | zero => intro v1 v2 u h; exact h.elim
  | succ n ih =>
    intro v1 v2 u h
    rw [wl_X12_layRoster_2] at h
    refine a_iload_n C 2 dX12_layRoster_2 rfl rfl ?_
    refine a_iconst C 5 dX12_layRoster_3 (by decide) ?_
    refine a_icmp_ge C 20 dX12_layRoster_4 (by decide) (fun c2 => ?_) (fun c2 => ?_)
    · have h := h.1 c2
      refine a_sub [0, 1] rfl ?_
      exact hk20 _ _ h
    · have h := h.2 c2
      refine a_aload_n C 0 dX12_layRoster_7 rfl rfl ?_
      refine a_getr C 35 (r := 67) dX12_layRoster_8 (by decide) rfl rfl rfl ib_12 (by decide) bw_1057 ?_
      refine a_iload_n C 2 dX12_layRoster_11 rfl rfl ?_
      refine a_iconst C 0 dX12_layRoster_12 (by decide) ?_
      refine b_iast C (Int32.toNatClampNeg v2) dX12_layRoster_13 (by decide) rfl h.1 rfl ?_
      have h := h.2
      refine a_topu (fun z1 ez1 => ?_)
      have h := h z1 ez1
      refine a_iinc C (v2 + 1) 2 [(2, .int (v2 + 1)), (0, .ref (eA V 48)), (1, .int v1)] dX12_layRoster_14 rfl (congrArg (fun z => v2 + z) (show Int32.ofInt 1 = 1 by decide)) (by decide) rfl ?_
      refine a_goto C 2 dX12_layRoster_17 (by decide) ?_
      refine a_sub [1, 2, 0] rfl ?_
      exact ih _ _ _ h
set_option maxHeartbeats 4000000 in
set_option maxRecDepth 100000 in
theorem tl_X12_layRoster_22 {p : Program} {l : Launch} {e : Env} {s : State} {m : MethodId} {args : Array Value} {below : List Frame} {meth : Method} {c : Code} {V : VEn} {k41 : Int32 → PoS → Prop} {post : Int32 → PoS → Prop} (C : CxS p s m args meth c V cX12_layRoster 6 RX12 (some .int)) (hk41 : ∀ (v1 : Int32) (u : PoS), k41 v1 u → AtS p l e (Rm 2) s m args below meth c V 6 0 0 (QI V below args s post) 41 [(0, .ref (eA V 48)), (1, .int v1)] [] u) : ∀ (n : Nat) (v1 : Int32) (v2 : Int32) (u : PoS), wl_X12_layRoster_22 k41 post n v1 v2 u → AtS p l e (Rm 2) s m args below meth c V 6 0 0 (QI V below args s post) 22 [(0, .ref (eA V 48)), (1, .int v1), (2, .int v2)] [] u := by
  intro n
  induction n with
  | zero => intro v1 v2 u h; exact h.elim
  | succ n ih =>
    intro v1 v2 u h
    rw [wl_X12_layRoster_22] at h
    refine a_iload_n C 2 dX12_layRoster_22 rfl rfl ?_
    refine a_bipush C 7 dX12_layRoster_23 (by decide) ?_
    refine a_icmp_ge C 41 dX12_layRoster_25 (by decide) (fun c5 => ?_) (fun c5 => ?_)
    · have h := h.1 c5
      refine a_sub [0, 1] rfl ?_
      exact hk41 _ _ h
    · have h := h.2 c5
      refine a_aload_n C 0 dX12_layRoster_28 rfl rfl ?_
      refine a_getr C 33 (r := 65) dX12_layRoster_29 (by decide) rfl rfl rfl ib_12 (by decide) bw_1055 ?_
      refine a_iload_n C 2 dX12_layRoster_32 rfl rfl ?_
      refine a_iconst C (-1) dX12_layRoster_33 (by decide) ?_
      refine b_iast C (Int32.toNatClampNeg v2) dX12_layRoster_34 (by decide) rfl h.1 rfl ?_
      have h := h.2
      refine a_topu (fun z4 ez4 => ?_)
      have h := h z4 ez4
      refine a_iinc C (v2 + 1) 2 [(2, .int (v2 + 1)), (0, .ref (eA V 48)), (1, .int v1)] dX12_layRoster_35 rfl (congrArg (fun z => v2 + z) (show Int32.ofInt 1 = 1 by decide)) (by decide) rfl ?_
      refine a_goto C 22 dX12_layRoster_38 (by decide) ?_
      refine a_sub [1, 2, 0] rfl ?_
      exact ih _ _ _ h
set_option maxHeartbeats 4000000 in
set_option maxRecDepth 100000 in
theorem tl_X12_layRoster_62 {p : Program} {l : Launch} {e : Env} {s : State} {m : MethodId} {args : Array Value} {below : List Frame} {meth : Method} {c : Code} {V : VEn} {k102 : Int32 → Int32 → Int32 → PoS → Prop} {post : Int32 → PoS → Prop} (C : CxS p s m args meth c V cX12_layRoster 6 RX12 (some .int)) (hk102 : ∀ (v1 : Int32) (v2 : Int32) (v4 : Int32) (u : PoS), k102 v1 v2 v4 u → AtS p l e (Rm 2) s m args below meth c V 6 0 0 (QI V below args s post) 102 [(0, .ref (eA V 48)), (1, .int v1), (2, .int v2), (4, .int v4)] [] u) : ∀ (n : Nat) (v1 : Int32) (v2 : Int32) (v4 : Int32) (v5 : Int32) (u : PoS), wl_X12_layRoster_62 k102 post n v1 v2 v4 v5 u → AtS p l e (Rm 2) s m args below meth c V 6 0 0 (QI V below args s post) 62 [(0, .ref (eA V 48)), (1, .int v1), (2, .int v2), (4, .int v4), (5, .int v5)] [] u := by
  intro n
  induction n with
  | zero => intro v1 v2 v4 v5 u h; exact h.elim
  | succ n ih =>
    intro v1 v2 v4 v5 u h
    rw [wl_X12_layRoster_62] at h
    refine a_iload C 4 dX12_layRoster_62 rfl ?_
    refine a_bipush C 7 dX12_layRoster_64 (by decide) ?_
    refine a_icmp_ge C 102 dX12_layRoster_66 (by decide) (fun c10 => ?_) (fun c10 => ?_)
    · have h := h.1 c10
      refine a_sub [0, 1, 2, 3] rfl ?_
      exact hk102 _ _ _ _ h
    · have h := h.2 c10
      refine a_iload C 3 dX12_layRoster_69 rfl ?_
      refine a_aload_n C 0 dX12_layRoster_71 rfl rfl ?_
      refine a_getr C 0 (r := 49) dX12_layRoster_72 (by decide) rfl rfl rfl ib_12 (by decide) bw_1022 ?_
      refine a_sipush C 130 dX12_layRoster_75 (by decide) ?_
      refine a_bipush C 7 dX12_layRoster_78 (by decide) ?_
      refine a_aload_n C 0 dX12_layRoster_80 rfl rfl ?_
      refine a_getr C 33 (r := 65) dX12_layRoster_81 (by decide) rfl rfl rfl ib_12 (by decide) bw_1055 ?_
      refine a_iload C 4 dX12_layRoster_84 rfl ?_
      refine b_iald C (Int32.toNatClampNeg v5) dX12_layRoster_86 (by decide) rfl h.1 rfl ?_
      have h := h.2
      refine a_imul C dX12_layRoster_87 ?_
      refine a_iadd C dX12_layRoster_88 ?_
      refine a_iload C 4 dX12_layRoster_89 rfl ?_
      refine a_iadd C dX12_layRoster_91 ?_
      refine b_iald C (Int32.toNatClampNeg ((130 + (7 * (gI u 65 (Int32.toNatClampNeg v5)))) + v5)) dX12_layRoster_92 (by decide) rfl h.1 rfl ?_
      have h := h.2
      refine a_iadd C dX12_layRoster_93 ?_
      refine a_topi (fun x9 ex9 => ?_)
      have h := h x9 ex9
      refine a_istore C [(4, .int x9), (0, .ref (eA V 48)), (1, .int v1), (2, .int v2), (5, .int v5)] dX12_layRoster_94 (by decide) rfl ?_
      refine a_iinc C (v5 + 1) 4 [(5, .int (v5 + 1)), (4, .int x9), (0, .ref (eA V 48)), (1, .int v1), (2, .int v2)] dX12_layRoster_96 rfl (congrArg (fun z => v5 + z) (show Int32.ofInt 1 = 1 by decide)) (by decide) rfl ?_
      refine a_goto C 62 dX12_layRoster_99 (by decide) ?_
      refine a_sub [2, 3, 4, 1, 0] rfl ?_
      exact ih _ _ _ _ _ h
set_option maxHeartbeats 4000000 in
set_option maxRecDepth 100000 in
theorem tj_X12_layRoster_141 {p : Program} {l : Launch} {e : Env} {s : State} {m : MethodId} {args : Array Value} {below : List Frame} {meth : Method} {c : Code} {V : VEn} {k52 : Int32 → Int32 → Int32 → PoS → Prop} {post : Int32 → PoS → Prop} (C : CxS p s m args meth c V cX12_layRoster 6 RX12 (some .int)) (hk52 : ∀ (v1 : Int32) (v2 : Int32) (v3 : Int32) (u : PoS), k52 v1 v2 v3 u → AtS p l e (Rm 2) s m args below meth c V 6 0 0 (QI V below args s post) 52 [(0, .ref (eA V 48)), (1, .int v1), (2, .int v2), (3, .int v3)] [] u) (v1 : Int32) (v2 : Int32) (u : PoS) (h : wj_X12_layRoster_141 k52 post v1 v2 u) : AtS p l e (Rm 2) s m args below meth c V 6 0 0 (QI V below args s post) 141 [(0, .ref (eA V 48)), (1, .int v1), (2, .int v2)] [] u := by
  rw [wj_X12_layRoster_141] at h
  refine a_aload_n C 0 dX12_layRoster_141 rfl rfl ?_
  refine a_iload_n C 1 dX12_layRoster_142 rfl rfl ?_
  refine a_bipush C 6 dX12_layRoster_143 (by decide) ?_
  refine a_callVi C dX12_layRoster_145 (m_X12_isNextRoster l V h) bw_1652 bw_1654 bw_107 bw_123 bw_1655 (by decide) rfl rfl np_X12_isNextRoster rfl rfl (by decide) (Nat.le_of_ble_eq_true rfl) ⟨Nat.zero_le _, Nat.zero_le _⟩ (fun r12 u13 h => ?_)
  refine a_istore_n C [(3, .int r12), (0, .ref (eA V 48)), (1, .int v1), (2, .int v2)] dX12_layRoster_148 rfl (by decide) rfl ?_
  refine a_goto C 52 dX12_layRoster_149 (by decide) ?_
  refine a_sub [1, 2, 3, 0] rfl ?_
  exact hk52 _ _ _ _ h
set_option maxHeartbeats 4000000 in
set_option maxRecDepth 100000 in
theorem tl_X12_layRoster_114 {p : Program} {l : Launch} {e : Env} {s : State} {m : MethodId} {args : Array Value} {below : List Frame} {meth : Method} {c : Code} {V : VEn} {k141 : Int32 → Int32 → PoS → Prop} {post : Int32 → PoS → Prop} (C : CxS p s m args meth c V cX12_layRoster 6 RX12 (some .int)) (hk141 : ∀ (v1 : Int32) (v2 : Int32) (u : PoS), k141 v1 v2 u → AtS p l e (Rm 2) s m args below meth c V 6 0 0 (QI V below args s post) 141 [(0, .ref (eA V 48)), (1, .int v1), (2, .int v2)] [] u) : ∀ (n : Nat) (v1 : Int32) (v2 : Int32) (v5 : Int32) (u : PoS), wl_X12_layRoster_114 k141 post n v1 v2 v5 u → AtS p l e (Rm 2) s m args below meth c V 6 0 0 (QI V below args s post) 114 [(0, .ref (eA V 48)), (1, .int v1), (2, .int v2), (5, .int v5)] [] u := by
  intro n
  induction n with
  | zero => intro v1 v2 v5 u h; exact h.elim
  | succ n ih =>
    intro v1 v2 v5 u h
    rw [wl_X12_layRoster_114] at h
    refine a_iload C 3 dX12_layRoster_114 rfl ?_
    refine a_bipush C 7 dX12_layRoster_116 (by decide) ?_
    refine a_icmp_ge C 141 dX12_layRoster_118 (by decide) (fun c15 => ?_) (fun c15 => ?_)
    · have h := h.1 c15
      refine a_sub [0, 1, 2] rfl ?_
      exact hk141 _ _ _ h
    · have h := h.2 c15
      refine a_aload_n C 0 dX12_layRoster_121 rfl rfl ?_
      refine a_getr C 34 (r := 66) dX12_layRoster_122 (by decide) rfl rfl rfl ib_12 (by decide) bw_1056 ?_
      refine a_iload C 3 dX12_layRoster_125 rfl ?_
      refine a_aload_n C 0 dX12_layRoster_127 rfl rfl ?_
      refine a_getr C 33 (r := 65) dX12_layRoster_128 (by decide) rfl rfl rfl ib_12 (by decide) bw_1055 ?_
      refine a_iload C 3 dX12_layRoster_131 rfl ?_
      refine b_iald C (Int32.toNatClampNeg v5) dX12_layRoster_133 (by decide) rfl h.1 rfl ?_
      have h := h.2
      refine b_iast C (Int32.toNatClampNeg v5) dX12_layRoster_134 (by decide) rfl h.1 rfl ?_
      have h := h.2
      refine a_topu (fun z14 ez14 => ?_)
      have h := h z14 ez14
      refine a_iinc C (v5 + 1) 3 [(5, .int (v5 + 1)), (0, .ref (eA V 48)), (1, .int v1), (2, .int v2)] dX12_layRoster_135 rfl (congrArg (fun z => v5 + z) (show Int32.ofInt 1 = 1 by decide)) (by decide) rfl ?_
      refine a_goto C 114 dX12_layRoster_138 (by decide) ?_
      refine a_sub [1, 2, 3, 0] rfl ?_
      exact ih _ _ _ _ h
set_option maxHeartbeats 4000000 in
set_option maxRecDepth 100000 in
theorem tl_X12_layRoster_52 {p : Program} {l : Launch} {e : Env} {s : State} {m : MethodId} {args : Array Value} {below : List Frame} {meth : Method} {c : Code} {V : VEn} {k152 : Int32 → PoS → Prop} {post : Int32 → PoS → Prop} (C : CxS p s m args meth c V cX12_layRoster 6 RX12 (some .int)) (hk152 : ∀ (v2 : Int32) (u : PoS), k152 v2 u → AtS p l e (Rm 2) s m args below meth c V 6 0 0 (QI V below args s post) 152 [(2, .int v2)] [] u) : ∀ (n : Nat) (v1 : Int32) (v2 : Int32) (v3 : Int32) (u : PoS), wl_X12_layRoster_52 k152 post n v1 v2 v3 u → AtS p l e (Rm 2) s m args below meth c V 6 0 0 (QI V below args s post) 52 [(0, .ref (eA V 48)), (1, .int v1), (2, .int v2), (3, .int v3)] [] u := by
  intro n
  induction n with
  | zero => intro v1 v2 v3 u h; exact h.elim
  | succ n ih =>
    intro v1 v2 v3 u h
    rw [wl_X12_layRoster_52] at h
    refine a_iload_n C 3 dX12_layRoster_52 rfl rfl ?_
    refine a_if_eq C 152 dX12_layRoster_53 (by decide) (fun c18 => ?_) (fun c18 => ?_)
    · have h := h.1 c18
      refine a_sub [2] rfl ?_
      exact hk152 _ _ h
    · have h := h.2 c18
      refine a_iconst C 0 dX12_layRoster_56 (by decide) ?_
      refine a_istore C [(4, .int 0), (0, .ref (eA V 48)), (1, .int v1), (2, .int v2), (3, .int v3)] dX12_layRoster_57 (by decide) rfl ?_
      refine a_iconst C 0 dX12_layRoster_59 (by decide) ?_
      refine a_istore C [(5, .int 0), (4, .int 0), (0, .ref (eA V 48)), (1, .int v1), (2, .int v2), (3, .int v3)] dX12_layRoster_60 (by decide) rfl ?_
      refine a_sub [2, 3, 4, 1, 0] rfl ?_
      obtain ⟨n62, h⟩ := h
      refine tl_X12_layRoster_62 C (fun v111 v211 v411 u11 h => ?_) n62 _ _ _ _ _ h
      refine a_iload C 3 dX12_layRoster_102 rfl ?_
      refine a_iload_n C 2 dX12_layRoster_104 rfl rfl ?_
      refine a_icmp_ge C 141 dX12_layRoster_105 (by decide) (fun c17 => ?_) (fun c17 => ?_)
      · have h := h.1 c17
        refine a_sub [0, 1, 2] rfl ?_
        refine tj_X12_layRoster_141 C ih _ _ _ h
      · have h := h.2 c17
        refine a_iload C 3 dX12_layRoster_108 rfl ?_
        refine a_istore_n C [(2, .int v411), (0, .ref (eA V 48)), (1, .int v111), (4, .int v411)] dX12_layRoster_110 rfl (by decide) rfl ?_
        refine a_iconst C 0 dX12_layRoster_111 (by decide) ?_
        refine a_istore C [(5, .int 0), (2, .int v411), (0, .ref (eA V 48)), (1, .int v111), (4, .int v411)] dX12_layRoster_112 (by decide) rfl ?_
        refine a_sub [2, 3, 1, 0] rfl ?_
        obtain ⟨n114, h⟩ := h
        refine tl_X12_layRoster_114 C (fun v116 v216 u16 h => ?_) n114 _ _ _ _ h
        refine tj_X12_layRoster_141 C ih _ _ _ h
theorem np_X12_layRoster : yX12_layRoster.cls ≠ "java/lang/invoke/MethodHandle" ∧ yX12_layRoster.cls ≠ "java/lang/invoke/VarHandle" ∧ (parseMethodDescriptor yX12_layRoster.desc).map (fun d => d.parameters.length) = some 1 := by decide +kernel
set_option maxHeartbeats 4000000 in
set_option maxRecDepth 100000 in
theorem m_X12_layRoster (l : Launch) (V : VEn) {a0 : Int32} {u : PoS} {post : Int32 → PoS → Prop} (h : wp_X12_layRoster a0 u post) : KI l V yX12_layRoster cX12_layRoster 6 .int 2 [.ref (eA V 48), .int a0] u post := by
  refine KI_of (by decide) (Nat.le_of_ble_eq_true rfl) (lv := [(0, .ref (eA V 48)), (1, .int a0)]) rfl ?_
  intro p e s m args below meth c C
  rw [wp_X12_layRoster] at h
  refine a_iconst C 0 dX12_layRoster_0 (by decide) ?_
  refine a_istore_n C [(2, .int 0), (0, .ref (eA V 48)), (1, .int a0)] dX12_layRoster_1 rfl (by decide) rfl ?_
  refine a_sub [1, 2, 0] rfl ?_
  obtain ⟨n2, h⟩ := h
  refine tl_X12_layRoster_2 C (fun v13 u3 h => ?_) n2 _ _ _ h
  refine a_iconst C 0 dX12_layRoster_20 (by decide) ?_
  refine a_istore_n C [(2, .int 0), (0, .ref (eA V 48)), (1, .int v13)] dX12_layRoster_21 rfl (by decide) rfl ?_
  refine a_sub [1, 2, 0] rfl ?_
  obtain ⟨n22, h⟩ := h
  refine tl_X12_layRoster_22 C (fun v16 u6 h => ?_) n22 _ _ _ h
  refine a_ldcw C dX12_layRoster_41 bw_1578 ?_
  refine a_istore_n C [(2, .int 1000000), (0, .ref (eA V 48)), (1, .int v16)] dX12_layRoster_44 rfl (by decide) rfl ?_
  refine a_aload_n C 1 dX12_layRoster_45 rfl rfl ?_
  refine a_iload_n C 2 dX12_layRoster_46 rfl rfl ?_
  refine a_iconst C 0 dX12_layRoster_47 (by decide) ?_
  refine a_callVi C dX12_layRoster_48 (m_X12_isNextRoster l V h) bw_1652 bw_1654 bw_107 bw_123 bw_1655 (by decide) rfl rfl np_X12_isNextRoster rfl rfl (by decide) (Nat.le_of_ble_eq_true rfl) ⟨Nat.zero_le _, Nat.zero_le _⟩ (fun r7 u8 h => ?_)
  refine a_istore_n C [(3, .int r7), (2, .int 1000000), (0, .ref (eA V 48)), (1, .int v16)] dX12_layRoster_51 rfl (by decide) rfl ?_
  refine a_sub [2, 3, 1, 0] rfl ?_
  obtain ⟨n52, h⟩ := h
  refine tl_X12_layRoster_52 C (fun v219 u19 h => ?_) n52 _ _ _ _ h
  refine a_iload_n C 0 dX12_layRoster_152 rfl rfl ?_
  refine a_ldcw C dX12_layRoster_153 bw_1578 ?_
  refine a_icmp_ne C 163 dX12_layRoster_156 (by decide) (fun c20 => ?_) (fun c20 => ?_)
  · have h := h.1 c20
    refine a_iload_n C 0 dX12_layRoster_163 rfl rfl ?_
    exact a_iret C dX12_layRoster_164 h
  · have h := h.2 c20
    refine a_iconst C (-1) dX12_layRoster_159 (by decide) ?_
    refine a_goto C 164 dX12_layRoster_160 (by decide) ?_
    exact a_iret C dX12_layRoster_164 h

/-! RainOnTheOneModel.roster(II)I -/
def wp_X12_roster (a0 : Int32) (a1 : Int32) (u : PoS) (post : Int32 → PoS → Prop) : Prop := wp_X12_isIn a0 1 7 u (fun (r1 : Int32) (u2 : PoS) => ((r1 = 0 → post (-1) u2) ∧ (¬ r1 = 0 → wp_X12_isIn a1 (-1) 6 u2 (fun (r3 : Int32) (u4 : PoS) => ((¬ r3 = 0 → wp_X12_layRoster a0 u4 (fun (r5 : Int32) (u6 : PoS) => ((¬ r5 = (-1) → ((¬ a1 = (-1) → vp_in a1 7 ∧ post (gI u6 66 (Int32.toNatClampNeg a1)) u6) ∧ (a1 = (-1) → post r5 u6))) ∧ (r5 = (-1) → post (-1) u6)))) ∧ (r3 = 0 → post (-1) u4))))))
theorem np_X12_roster : yX12_roster.cls ≠ "java/lang/invoke/MethodHandle" ∧ yX12_roster.cls ≠ "java/lang/invoke/VarHandle" ∧ (parseMethodDescriptor yX12_roster.desc).map (fun d => d.parameters.length) = some 2 := by decide +kernel
set_option maxHeartbeats 4000000 in
set_option maxRecDepth 100000 in
theorem m_X12_roster (l : Launch) (V : VEn) {a0 : Int32} {a1 : Int32} {u : PoS} {post : Int32 → PoS → Prop} (h : wp_X12_roster a0 a1 u post) : KI l V yX12_roster cX12_roster 4 .int 3 [.ref (eA V 48), .int a0, .int a1] u post := by
  refine KI_of (by decide) (Nat.le_of_ble_eq_true rfl) (lv := [(0, .ref (eA V 48)), (1, .int a0), (2, .int a1)]) rfl ?_
  intro p e s m args below meth c C
  rw [wp_X12_roster] at h
  refine a_iload_n C 1 dX12_roster_0 rfl rfl ?_
  refine a_iconst C 1 dX12_roster_1 (by decide) ?_
  refine a_bipush C 7 dX12_roster_2 (by decide) ?_
  refine a_callSi C dX12_roster_4 (m_X12_isIn l V h) bw_1147 bw_1148 bw_123 bw_1149 np_X12_isIn rfl rfl (by decide) (Nat.le_of_ble_eq_true rfl) ⟨Nat.zero_le _, Nat.zero_le _⟩ (fun r1 u2 h => ?_)
  refine a_if_eq C 20 dX12_roster_7 (by decide) (fun c10 => ?_) (fun c10 => ?_)
  · have h := h.1 c10
    refine a_iconst C (-1) dX12_roster_20 (by decide) ?_
    exact a_iret C dX12_roster_21 h
  · have h := h.2 c10
    refine a_iload_n C 2 dX12_roster_10 rfl rfl ?_
    refine a_iconst C (-1) dX12_roster_11 (by decide) ?_
    refine a_bipush C 6 dX12_roster_12 (by decide) ?_
    refine a_callSi C dX12_roster_14 (m_X12_isIn l V h) bw_1147 bw_1148 bw_123 bw_1149 np_X12_isIn rfl rfl (by decide) (Nat.le_of_ble_eq_true rfl) ⟨Nat.zero_le _, Nat.zero_le _⟩ (fun r3 u4 h => ?_)
    refine a_if_ne C 22 dX12_roster_17 (by decide) (fun c9 => ?_) (fun c9 => ?_)
    · have h := h.1 c9
      refine a_aload_n C 0 dX12_roster_22 rfl rfl ?_
      refine a_iload_n C 1 dX12_roster_23 rfl rfl ?_
      refine a_callVi C dX12_roster_24 (m_X12_layRoster l V h) bw_1648 bw_1650 bw_106 bw_123 bw_1651 (by decide) rfl rfl np_X12_layRoster rfl rfl (by decide) (Nat.le_of_ble_eq_true rfl) ⟨Nat.zero_le _, Nat.zero_le _⟩ (fun r5 u6 h => ?_)
      refine a_istore_n C [(3, .int r5), (0, .ref (eA V 48)), (1, .int a0), (2, .int a1)] dX12_roster_27 rfl (by decide) rfl ?_
      refine a_iload_n C 0 dX12_roster_28 rfl rfl ?_
      refine a_iconst C (-1) dX12_roster_29 (by decide) ?_
      refine a_icmp_ne C 37 dX12_roster_30 (by decide) (fun c8 => ?_) (fun c8 => ?_)
      · have h := h.1 c8
        refine a_iload_n C 3 dX12_roster_37 rfl rfl ?_
        refine a_iconst C (-1) dX12_roster_38 (by decide) ?_
        refine a_icmp_ne C 46 dX12_roster_39 (by decide) (fun c7 => ?_) (fun c7 => ?_)
        · have h := h.1 c7
          refine a_aload_n C 1 dX12_roster_46 rfl rfl ?_
          refine a_getr C 34 (r := 66) dX12_roster_47 (by decide) rfl rfl rfl ib_12 (by decide) bw_1056 ?_
          refine a_iload_n C 3 dX12_roster_50 rfl rfl ?_
          refine b_iald C (Int32.toNatClampNeg a1) dX12_roster_51 (by decide) rfl h.1 rfl ?_
          have h := h.2
          exact a_iret C dX12_roster_52 h
        · have h := h.2 c7
          refine a_iload_n C 0 dX12_roster_42 rfl rfl ?_
          refine a_goto C 52 dX12_roster_43 (by decide) ?_
          exact a_iret C dX12_roster_52 h
      · have h := h.2 c8
        refine a_iconst C (-1) dX12_roster_33 (by decide) ?_
        refine a_goto C 52 dX12_roster_34 (by decide) ?_
        exact a_iret C dX12_roster_52 h
    · have h := h.2 c9
      refine a_iconst C (-1) dX12_roster_20 (by decide) ?_
      exact a_iret C dX12_roster_21 h

/-! RainOnTheOneModel.swap(III)I -/
def wp_X12_swap (a0 : Int32) (a1 : Int32) (a2 : Int32) (u : PoS) (post : Int32 → PoS → Prop) : Prop := wp_X12_isIn a0 1 7 u (fun (r1 : Int32) (u2 : PoS) => ((r1 = 0 → post (-10000) u2) ∧ (¬ r1 = 0 → wp_X12_isIn a1 0 6 u2 (fun (r3 : Int32) (u4 : PoS) => ((r3 = 0 → post (-10000) u4) ∧ (¬ r3 = 0 → wp_X12_isIn a2 0 6 u4 (fun (r5 : Int32) (u6 : PoS) => ((r5 = 0 → post (-10000) u6) ∧ (¬ r5 = 0 → ((a1 = a2 → post (-10000) u6) ∧ (¬ a1 = a2 → wp_X12_layRoster a0 u6 (fun (r7 : Int32) (u8 : PoS) => ((¬ r7 = (-1) → vp_in a1 7 ∧ ∀ x9 : Int32, x9 = (gI u8 66 (Int32.toNatClampNeg a1)) → vp_in a2 7 ∧ ∀ x10 : Int32, x10 = (gI u8 66 (Int32.toNatClampNeg a2)) → vp_in ((130 + (7 * x9)) + a1) 3703 ∧ vp_in ((130 + (7 * x10)) + a2) 3703 ∧ vp_in ((130 + (7 * x10)) + a1) 3703 ∧ vp_in ((130 + (7 * x9)) + a2) 3703 ∧ post ((((gI u8 49 (Int32.toNatClampNeg ((130 + (7 * x9)) + a1))) + (gI u8 49 (Int32.toNatClampNeg ((130 + (7 * x10)) + a2)))) - (gI u8 49 (Int32.toNatClampNeg ((130 + (7 * x10)) + a1)))) - (gI u8 49 (Int32.toNatClampNeg ((130 + (7 * x9)) + a2)))) u8) ∧ (r7 = (-1) → post (-10000) u8))))))))))))))
theorem np_X12_swap : yX12_swap.cls ≠ "java/lang/invoke/MethodHandle" ∧ yX12_swap.cls ≠ "java/lang/invoke/VarHandle" ∧ (parseMethodDescriptor yX12_swap.desc).map (fun d => d.parameters.length) = some 3 := by decide +kernel
set_option maxHeartbeats 4000000 in
set_option maxRecDepth 100000 in
theorem m_X12_swap (l : Launch) (V : VEn) {a0 : Int32} {a1 : Int32} {a2 : Int32} {u : PoS} {post : Int32 → PoS → Prop} (h : wp_X12_swap a0 a1 a2 u post) : KI l V yX12_swap cX12_swap 6 .int 3 [.ref (eA V 48), .int a0, .int a1, .int a2] u post := by
  refine KI_of (by decide) (Nat.le_of_ble_eq_true rfl) (lv := [(0, .ref (eA V 48)), (1, .int a0), (2, .int a1), (3, .int a2)]) rfl ?_
  intro p e s m args below meth c C
  rw [wp_X12_swap] at h
  refine a_iload_n C 1 dX12_swap_0 rfl rfl ?_
  refine a_iconst C 1 dX12_swap_1 (by decide) ?_
  refine a_bipush C 7 dX12_swap_2 (by decide) ?_
  refine a_callSi C dX12_swap_4 (m_X12_isIn l V h) bw_1147 bw_1148 bw_123 bw_1149 np_X12_isIn rfl rfl (by decide) (Nat.le_of_ble_eq_true rfl) ⟨Nat.zero_le _, Nat.zero_le _⟩ (fun r1 u2 h => ?_)
  refine a_if_eq C 44 dX12_swap_7 (by decide) (fun c15 => ?_) (fun c15 => ?_)
  · have h := h.1 c15
    refine a_sipush C (-10000) dX12_swap_44 (by decide) ?_
    exact a_iret C dX12_swap_47 h
  · have h := h.2 c15
    refine a_iload_n C 2 dX12_swap_10 rfl rfl ?_
    refine a_iconst C 0 dX12_swap_11 (by decide) ?_
    refine a_bipush C 6 dX12_swap_12 (by decide) ?_
    refine a_callSi C dX12_swap_14 (m_X12_isIn l V h) bw_1147 bw_1148 bw_123 bw_1149 np_X12_isIn rfl rfl (by decide) (Nat.le_of_ble_eq_true rfl) ⟨Nat.zero_le _, Nat.zero_le _⟩ (fun r3 u4 h => ?_)
    refine a_if_eq C 44 dX12_swap_17 (by decide) (fun c14 => ?_) (fun c14 => ?_)
    · have h := h.1 c14
      refine a_sipush C (-10000) dX12_swap_44 (by decide) ?_
      exact a_iret C dX12_swap_47 h
    · have h := h.2 c14
      refine a_iload_n C 3 dX12_swap_20 rfl rfl ?_
      refine a_iconst C 0 dX12_swap_21 (by decide) ?_
      refine a_bipush C 6 dX12_swap_22 (by decide) ?_
      refine a_callSi C dX12_swap_24 (m_X12_isIn l V h) bw_1147 bw_1148 bw_123 bw_1149 np_X12_isIn rfl rfl (by decide) (Nat.le_of_ble_eq_true rfl) ⟨Nat.zero_le _, Nat.zero_le _⟩ (fun r5 u6 h => ?_)
      refine a_if_eq C 44 dX12_swap_27 (by decide) (fun c13 => ?_) (fun c13 => ?_)
      · have h := h.1 c13
        refine a_sipush C (-10000) dX12_swap_44 (by decide) ?_
        exact a_iret C dX12_swap_47 h
      · have h := h.2 c13
        refine a_iload_n C 2 dX12_swap_30 rfl rfl ?_
        refine a_iload_n C 3 dX12_swap_31 rfl rfl ?_
        refine a_icmp_eq C 44 dX12_swap_32 (by decide) (fun c12 => ?_) (fun c12 => ?_)
        · have h := h.1 c12
          refine a_sipush C (-10000) dX12_swap_44 (by decide) ?_
          exact a_iret C dX12_swap_47 h
        · have h := h.2 c12
          refine a_aload_n C 0 dX12_swap_35 rfl rfl ?_
          refine a_iload_n C 1 dX12_swap_36 rfl rfl ?_
          refine a_callVi C dX12_swap_37 (m_X12_layRoster l V h) bw_1648 bw_1650 bw_106 bw_123 bw_1651 (by decide) rfl rfl np_X12_layRoster rfl rfl (by decide) (Nat.le_of_ble_eq_true rfl) ⟨Nat.zero_le _, Nat.zero_le _⟩ (fun r7 u8 h => ?_)
          refine a_iconst C (-1) dX12_swap_40 (by decide) ?_
          refine a_icmp_ne C 48 dX12_swap_41 (by decide) (fun c11 => ?_) (fun c11 => ?_)
          · have h := h.1 c11
            refine a_aload_n C 0 dX12_swap_48 rfl rfl ?_
            refine a_getr C 34 (r := 66) dX12_swap_49 (by decide) rfl rfl rfl ib_12 (by decide) bw_1056 ?_
            refine a_iload_n C 2 dX12_swap_52 rfl rfl ?_
            refine b_iald C (Int32.toNatClampNeg a1) dX12_swap_53 (by decide) rfl h.1 rfl ?_
            have h := h.2
            refine a_topi (fun x9 ex9 => ?_)
            have h := h x9 ex9
            refine a_istore C [(4, .int x9), (0, .ref (eA V 48)), (1, .int a0), (2, .int a1), (3, .int a2)] dX12_swap_54 (by decide) rfl ?_
            refine a_aload_n C 1 dX12_swap_56 rfl rfl ?_
            refine a_getr C 34 (r := 66) dX12_swap_57 (by decide) rfl rfl rfl ib_12 (by decide) bw_1056 ?_
            refine a_iload_n C 4 dX12_swap_60 rfl rfl ?_
            refine b_iald C (Int32.toNatClampNeg a2) dX12_swap_61 (by decide) rfl h.1 rfl ?_
            have h := h.2
            refine a_topi (fun x10 ex10 => ?_)
            have h := h x10 ex10
            refine a_istore C [(5, .int x10), (4, .int x9), (0, .ref (eA V 48)), (1, .int a0), (2, .int a1), (3, .int a2)] dX12_swap_62 (by decide) rfl ?_
            refine a_aload_n C 2 dX12_swap_64 rfl rfl ?_
            refine a_getr C 0 (r := 49) dX12_swap_65 (by decide) rfl rfl rfl ib_12 (by decide) bw_1022 ?_
            refine a_sipush C 130 dX12_swap_68 (by decide) ?_
            refine a_bipush C 7 dX12_swap_71 (by decide) ?_
            refine a_iload C 1 dX12_swap_73 rfl ?_
            refine a_imul C dX12_swap_75 ?_
            refine a_iadd C dX12_swap_76 ?_
            refine a_iload_n C 4 dX12_swap_77 rfl rfl ?_
            refine a_iadd C dX12_swap_78 ?_
            refine b_iald C (Int32.toNatClampNeg ((130 + (7 * x9)) + a1)) dX12_swap_79 (by decide) rfl h.1 rfl ?_
            have h := h.2
            refine a_aload_n C 2 dX12_swap_80 rfl rfl ?_
            refine a_getr C 0 (r := 49) dX12_swap_81 (by decide) rfl rfl rfl ib_12 (by decide) bw_1022 ?_
            refine a_sipush C 130 dX12_swap_84 (by decide) ?_
            refine a_bipush C 7 dX12_swap_87 (by decide) ?_
            refine a_iload C 0 dX12_swap_89 rfl ?_
            refine a_imul C dX12_swap_91 ?_
            refine a_iadd C dX12_swap_92 ?_
            refine a_iload_n C 5 dX12_swap_93 rfl rfl ?_
            refine a_iadd C dX12_swap_94 ?_
            refine b_iald C (Int32.toNatClampNeg ((130 + (7 * x10)) + a2)) dX12_swap_95 (by decide) rfl h.1 rfl ?_
            have h := h.2
            refine a_iadd C dX12_swap_96 ?_
            refine a_aload_n C 2 dX12_swap_97 rfl rfl ?_
            refine a_getr C 0 (r := 49) dX12_swap_98 (by decide) rfl rfl rfl ib_12 (by decide) bw_1022 ?_
            refine a_sipush C 130 dX12_swap_101 (by decide) ?_
            refine a_bipush C 7 dX12_swap_104 (by decide) ?_
            refine a_iload C 0 dX12_swap_106 rfl ?_
            refine a_imul C dX12_swap_108 ?_
            refine a_iadd C dX12_swap_109 ?_
            refine a_iload_n C 4 dX12_swap_110 rfl rfl ?_
            refine a_iadd C dX12_swap_111 ?_
            refine b_iald C (Int32.toNatClampNeg ((130 + (7 * x10)) + a1)) dX12_swap_112 (by decide) rfl h.1 rfl ?_
            have h := h.2
            refine a_isub C dX12_swap_113 ?_
            refine a_aload_n C 2 dX12_swap_114 rfl rfl ?_
            refine a_getr C 0 (r := 49) dX12_swap_115 (by decide) rfl rfl rfl ib_12 (by decide) bw_1022 ?_
            refine a_sipush C 130 dX12_swap_118 (by decide) ?_
            refine a_bipush C 7 dX12_swap_121 (by decide) ?_
            refine a_iload C 1 dX12_swap_123 rfl ?_
            refine a_imul C dX12_swap_125 ?_
            refine a_iadd C dX12_swap_126 ?_
            refine a_iload_n C 5 dX12_swap_127 rfl rfl ?_
            refine a_iadd C dX12_swap_128 ?_
            refine b_iald C (Int32.toNatClampNeg ((130 + (7 * x9)) + a2)) dX12_swap_129 (by decide) rfl h.1 rfl ?_
            have h := h.2
            refine a_isub C dX12_swap_130 ?_
            exact a_iret C dX12_swap_131 h
          · have h := h.2 c11
            refine a_sipush C (-10000) dX12_swap_44 (by decide) ?_
            exact a_iret C dX12_swap_47 h

/-! RainOnTheOneModel.seen(II)I -/
def wp_X12_seen (a0 : Int32) (a1 : Int32) (u : PoS) (post : Int32 → PoS → Prop) : Prop := ((¬ a0 = (-1) → wp_X12_isCell a0 u (fun (r1 : Int32) (u2 : PoS) => ((r1 = 0 → post (-2) u2) ∧ (¬ r1 = 0 → wp_X12_isIn a1 0 30 u2 (fun (r3 : Int32) (u4 : PoS) => ((r3 = 0 → post (-2) u4) ∧ (¬ r3 = 0 → ((¬ (gI u4 49 4) = 6 → vp_in (165 + (2 * (gI u4 49 4))) 3703 ∧ ∀ z5 : PoS, z5 = pI u4 49 (Int32.toNatClampNeg (165 + (2 * (gI u4 49 4)))) a0 → vp_in ((165 + (2 * (gI z5 49 4))) + 1) 3703 ∧ ∀ z6 : PoS, z6 = pI z5 49 (Int32.toNatClampNeg ((165 + (2 * (gI z5 49 4))) + 1)) a1 → ∀ z7 : PoS, z7 = pI z6 49 4 ((gI z6 49 4) + 1) → post (gI z7 49 4) z7) ∧ ((gI u4 49 4) = 6 → post (-2) u4))))))))) ∧ (a0 = (-1) → ∀ z11 : PoS, z11 = pI u 49 4 0 → post 0 z11))
theorem np_X12_seen : yX12_seen.cls ≠ "java/lang/invoke/MethodHandle" ∧ yX12_seen.cls ≠ "java/lang/invoke/VarHandle" ∧ (parseMethodDescriptor yX12_seen.desc).map (fun d => d.parameters.length) = some 2 := by decide +kernel
set_option maxHeartbeats 4000000 in
set_option maxRecDepth 100000 in
theorem m_X12_seen (l : Launch) (V : VEn) {a0 : Int32} {a1 : Int32} {u : PoS} {post : Int32 → PoS → Prop} (h : wp_X12_seen a0 a1 u post) : KI l V yX12_seen cX12_seen 3 .int 2 [.ref (eA V 48), .int a0, .int a1] u post := by
  refine KI_of (by decide) (Nat.le_of_ble_eq_true rfl) (lv := [(0, .ref (eA V 48)), (1, .int a0), (2, .int a1)]) rfl ?_
  intro p e s m args below meth c C
  rw [wp_X12_seen] at h
  refine a_iload_n C 1 dX12_seen_0 rfl rfl ?_
  refine a_iconst C (-1) dX12_seen_1 (by decide) ?_
  refine a_icmp_ne C 14 dX12_seen_2 (by decide) (fun c12 => ?_) (fun c12 => ?_)
  · have h := h.1 c12
    refine a_iload_n C 1 dX12_seen_14 rfl rfl ?_
    refine a_callSi C dX12_seen_15 (m_X12_isCell l V h) bw_1144 bw_1145 bw_123 bw_1146 np_X12_isCell rfl rfl (by decide) (Nat.le_of_ble_eq_true rfl) ⟨Nat.zero_le _, Nat.zero_le _⟩ (fun r1 u2 h => ?_)
    refine a_if_eq C 42 dX12_seen_18 (by decide) (fun c10 => ?_) (fun c10 => ?_)
    · have h := h.1 c10
      refine a_bipush C (-2) dX12_seen_42 (by decide) ?_
      exact a_iret C dX12_seen_44 h
    · have h := h.2 c10
      refine a_iload_n C 2 dX12_seen_21 rfl rfl ?_
      refine a_iconst C 0 dX12_seen_22 (by decide) ?_
      refine a_bipush C 30 dX12_seen_23 (by decide) ?_
      refine a_callSi C dX12_seen_25 (m_X12_isIn l V h) bw_1147 bw_1148 bw_123 bw_1149 np_X12_isIn rfl rfl (by decide) (Nat.le_of_ble_eq_true rfl) ⟨Nat.zero_le _, Nat.zero_le _⟩ (fun r3 u4 h => ?_)
      refine a_if_eq C 42 dX12_seen_28 (by decide) (fun c9 => ?_) (fun c9 => ?_)
      · have h := h.1 c9
        refine a_bipush C (-2) dX12_seen_42 (by decide) ?_
        exact a_iret C dX12_seen_44 h
      · have h := h.2 c9
        refine a_aload_n C 0 dX12_seen_31 rfl rfl ?_
        refine a_getr C 0 (r := 49) dX12_seen_32 (by decide) rfl rfl rfl ib_12 (by decide) bw_1022 ?_
        refine a_iconst C 4 dX12_seen_35 (by decide) ?_
        refine b_iald C 4 dX12_seen_36 (by decide) rfl (vp_lit (by decide)) (by decide) ?_
        refine a_bipush C 6 dX12_seen_37 (by decide) ?_
        refine a_icmp_ne C 45 dX12_seen_39 (by decide) (fun c8 => ?_) (fun c8 => ?_)
        · have h := h.1 c8
          refine a_aload_n C 0 dX12_seen_45 rfl rfl ?_
          refine a_getr C 0 (r := 49) dX12_seen_46 (by decide) rfl rfl rfl ib_12 (by decide) bw_1022 ?_
          refine a_sipush C 165 dX12_seen_49 (by decide) ?_
          refine a_iconst C 2 dX12_seen_52 (by decide) ?_
          refine a_aload_n C 0 dX12_seen_53 rfl rfl ?_
          refine a_getr C 0 (r := 49) dX12_seen_54 (by decide) rfl rfl rfl ib_12 (by decide) bw_1022 ?_
          refine a_iconst C 4 dX12_seen_57 (by decide) ?_
          refine b_iald C 4 dX12_seen_58 (by decide) rfl (vp_lit (by decide)) (by decide) ?_
          refine a_imul C dX12_seen_59 ?_
          refine a_iadd C dX12_seen_60 ?_
          refine a_iload_n C 1 dX12_seen_61 rfl rfl ?_
          refine b_iast C (Int32.toNatClampNeg (165 + (2 * (gI u4 49 4)))) dX12_seen_62 (by decide) rfl h.1 rfl ?_
          have h := h.2
          refine a_topu (fun z5 ez5 => ?_)
          have h := h z5 ez5
          refine a_aload_n C 0 dX12_seen_63 rfl rfl ?_
          refine a_getr C 0 (r := 49) dX12_seen_64 (by decide) rfl rfl rfl ib_12 (by decide) bw_1022 ?_
          refine a_sipush C 165 dX12_seen_67 (by decide) ?_
          refine a_iconst C 2 dX12_seen_70 (by decide) ?_
          refine a_aload_n C 0 dX12_seen_71 rfl rfl ?_
          refine a_getr C 0 (r := 49) dX12_seen_72 (by decide) rfl rfl rfl ib_12 (by decide) bw_1022 ?_
          refine a_iconst C 4 dX12_seen_75 (by decide) ?_
          refine b_iald C 4 dX12_seen_76 (by decide) rfl (vp_lit (by decide)) (by decide) ?_
          refine a_imul C dX12_seen_77 ?_
          refine a_iadd C dX12_seen_78 ?_
          refine a_iconst C 1 dX12_seen_79 (by decide) ?_
          refine a_iadd C dX12_seen_80 ?_
          refine a_iload_n C 2 dX12_seen_81 rfl rfl ?_
          refine b_iast C (Int32.toNatClampNeg ((165 + (2 * (gI z5 49 4))) + 1)) dX12_seen_82 (by decide) rfl h.1 rfl ?_
          have h := h.2
          refine a_topu (fun z6 ez6 => ?_)
          have h := h z6 ez6
          refine a_aload_n C 0 dX12_seen_83 rfl rfl ?_
          refine a_getr C 0 (r := 49) dX12_seen_84 (by decide) rfl rfl rfl ib_12 (by decide) bw_1022 ?_
          refine a_iconst C 4 dX12_seen_87 (by decide) ?_
          refine a_dup2 C dX12_seen_88 rfl rfl ?_
          refine b_iald C 4 dX12_seen_89 (by decide) rfl (vp_lit (by decide)) (by decide) ?_
          refine a_iconst C 1 dX12_seen_90 (by decide) ?_
          refine a_iadd C dX12_seen_91 ?_
          refine b_iast C 4 dX12_seen_92 (by decide) rfl (vp_lit (by decide)) (by decide) ?_
          refine a_topu (fun z7 ez7 => ?_)
          have h := h z7 ez7
          refine a_aload_n C 0 dX12_seen_93 rfl rfl ?_
          refine a_getr C 0 (r := 49) dX12_seen_94 (by decide) rfl rfl rfl ib_12 (by decide) bw_1022 ?_
          refine a_iconst C 4 dX12_seen_97 (by decide) ?_
          refine b_iald C 4 dX12_seen_98 (by decide) rfl (vp_lit (by decide)) (by decide) ?_
          exact a_iret C dX12_seen_99 h
        · have h := h.2 c8
          refine a_bipush C (-2) dX12_seen_42 (by decide) ?_
          exact a_iret C dX12_seen_44 h
  · have h := h.2 c12
    refine a_aload_n C 0 dX12_seen_5 rfl rfl ?_
    refine a_getr C 0 (r := 49) dX12_seen_6 (by decide) rfl rfl rfl ib_12 (by decide) bw_1022 ?_
    refine a_iconst C 4 dX12_seen_9 (by decide) ?_
    refine a_iconst C 0 dX12_seen_10 (by decide) ?_
    refine b_iast C 4 dX12_seen_11 (by decide) rfl (vp_lit (by decide)) (by decide) ?_
    refine a_topu (fun z11 ez11 => ?_)
    have h := h z11 ez11
    refine a_iconst C 0 dX12_seen_12 (by decide) ?_
    exact a_iret C dX12_seen_13 h

/-! RainOnTheOneModel.seenAt(II)I -/
def wj_X12_seenAt_53 (k5 : Int32 → Int32 → Int32 → PoS → Prop) (post : Int32 → PoS → Prop) (v2 : Int32) (v3 : Int32) (v4 : Int32) (u : PoS) : Prop := k5 v2 v3 (v4 + 1) u
def wl_X12_seenAt_5 (post : Int32 → PoS → Prop) : Nat → Int32 → Int32 → Int32 → PoS → Prop
  | 0, _, _, _, _ => False
  | n + 1, v2, v3, v4, u => (((gI u 49 4) ≤ v4 → post v3 u) ∧ (¬ (gI u 49 4) ≤ v4 → vp_in ((165 + (2 * v4)) + 1) 3703 ∧ ((¬ (gI u 49 (Int32.toNatClampNeg ((165 + (2 * v4)) + 1))) = v2 → wj_X12_seenAt_53 (wl_X12_seenAt_5 post n) post v2 v3 v4 u) ∧ ((gI u 49 (Int32.toNatClampNeg ((165 + (2 * v4)) + 1))) = v2 → vp_in (165 + (2 * v4)) 3703 ∧ ∀ x1 : Int32, x1 = (v3 &&& (1 <<< ((gI u 49 (Int32.toNatClampNeg (165 + (2 * v4)))) &&& 31))) → wj_X12_seenAt_53 (wl_X12_seenAt_5 post n) post v2 x1 v4 u))))
def wp_X12_seenAt (a0 : Int32) (a1 : Int32) (u : PoS) (post : Int32 → PoS → Prop) : Prop := (∃ n5, wl_X12_seenAt_5 post n5 a1 a0 0 u)
set_option maxHeartbeats 4000000 in
set_option maxRecDepth 100000 in
theorem tj_X12_seenAt_53 {p : Program} {l : Launch} {e : Env} {s : State} {m : MethodId} {args : Array Value} {below : List Frame} {meth : Method} {c : Code} {V : VEn} {k5 : Int32 → Int32 → Int32 → PoS → Prop} {post : Int32 → PoS → Prop} (C : CxS p s m args meth c V cX12_seenAt 5 RX12 (some .int)) (hk5 : ∀ (v2 : Int32) (v3 : Int32) (v4 : Int32) (u : PoS), k5 v2 v3 v4 u → AtS p l e (Rm 0) s m args below meth c V 5 0 0 (QI V below args s post) 5 [(0, .ref (eA V 48)), (2, .int v2), (3, .int v3), (4, .int v4)] [] u) (v2 : Int32) (v3 : Int32) (v4 : Int32) (u : PoS) (h : wj_X12_seenAt_53 k5 post v2 v3 v4 u) : AtS p l e (Rm 0) s m args below meth c V 5 0 0 (QI V below args s post) 53 [(0, .ref (eA V 48)), (2, .int v2), (3, .int v3), (4, .int v4)] [] u := by
  rw [wj_X12_seenAt_53] at h
  refine a_iinc C (v4 + 1) 3 [(4, .int (v4 + 1)), (0, .ref (eA V 48)), (2, .int v2), (3, .int v3)] dX12_seenAt_53 rfl (congrArg (fun z => v4 + z) (show Int32.ofInt 1 = 1 by decide)) (by decide) rfl ?_
  refine a_goto C 5 dX12_seenAt_56 (by decide) ?_
  refine a_sub [1, 2, 3, 0] rfl ?_
  exact hk5 _ _ _ _ h
set_option maxHeartbeats 4000000 in
set_option maxRecDepth 100000 in
theorem tl_X12_seenAt_5 {p : Program} {l : Launch} {e : Env} {s : State} {m : MethodId} {args : Array Value} {below : List Frame} {meth : Method} {c : Code} {V : VEn} {post : Int32 → PoS → Prop} (C : CxS p s m args meth c V cX12_seenAt 5 RX12 (some .int)) : ∀ (n : Nat) (v2 : Int32) (v3 : Int32) (v4 : Int32) (u : PoS), wl_X12_seenAt_5 post n v2 v3 v4 u → AtS p l e (Rm 0) s m args below meth c V 5 0 0 (QI V below args s post) 5 [(0, .ref (eA V 48)), (2, .int v2), (3, .int v3), (4, .int v4)] [] u := by
  intro n
  induction n with
  | zero => intro v2 v3 v4 u h; exact h.elim
  | succ n ih =>
    intro v2 v3 v4 u h
    rw [wl_X12_seenAt_5] at h
    refine a_iload C 3 dX12_seenAt_5 rfl ?_
    refine a_aload_n C 0 dX12_seenAt_7 rfl rfl ?_
    refine a_getr C 0 (r := 49) dX12_seenAt_8 (by decide) rfl rfl rfl ib_12 (by decide) bw_1022 ?_
    refine a_iconst C 4 dX12_seenAt_11 (by decide) ?_
    refine b_iald C 4 dX12_seenAt_12 (by decide) rfl (vp_lit (by decide)) (by decide) ?_
    refine a_icmp_ge C 59 dX12_seenAt_13 (by decide) (fun c3 => ?_) (fun c3 => ?_)
    · have h := h.1 c3
      refine a_iload_n C 2 dX12_seenAt_59 rfl rfl ?_
      exact a_iret C dX12_seenAt_60 h
    · have h := h.2 c3
      refine a_aload_n C 0 dX12_seenAt_16 rfl rfl ?_
      refine a_getr C 0 (r := 49) dX12_seenAt_17 (by decide) rfl rfl rfl ib_12 (by decide) bw_1022 ?_
      refine a_sipush C 165 dX12_seenAt_20 (by decide) ?_
      refine a_iconst C 2 dX12_seenAt_23 (by decide) ?_
      refine a_iload C 3 dX12_seenAt_24 rfl ?_
      refine a_imul C dX12_seenAt_26 ?_
      refine a_iadd C dX12_seenAt_27 ?_
      refine a_iconst C 1 dX12_seenAt_28 (by decide) ?_
      refine a_iadd C dX12_seenAt_29 ?_
      refine b_iald C (Int32.toNatClampNeg ((165 + (2 * v4)) + 1)) dX12_seenAt_30 (by decide) rfl h.1 rfl ?_
      have h := h.2
      refine a_iload_n C 1 dX12_seenAt_31 rfl rfl ?_
      refine a_icmp_ne C 53 dX12_seenAt_32 (by decide) (fun c2 => ?_) (fun c2 => ?_)
      · have h := h.1 c2
        refine tj_X12_seenAt_53 C ih _ _ _ _ h
      · have h := h.2 c2
        refine a_iload_n C 2 dX12_seenAt_35 rfl rfl ?_
        refine a_iconst C 1 dX12_seenAt_36 (by decide) ?_
        refine a_aload_n C 0 dX12_seenAt_37 rfl rfl ?_
        refine a_getr C 0 (r := 49) dX12_seenAt_38 (by decide) rfl rfl rfl ib_12 (by decide) bw_1022 ?_
        refine a_sipush C 165 dX12_seenAt_41 (by decide) ?_
        refine a_iconst C 2 dX12_seenAt_44 (by decide) ?_
        refine a_iload C 3 dX12_seenAt_45 rfl ?_
        refine a_imul C dX12_seenAt_47 ?_
        refine a_iadd C dX12_seenAt_48 ?_
        refine b_iald C (Int32.toNatClampNeg (165 + (2 * v4))) dX12_seenAt_49 (by decide) rfl h.1 rfl ?_
        have h := h.2
        refine a_ishl C dX12_seenAt_50 ?_
        refine a_iand C dX12_seenAt_51 ?_
        refine a_topi (fun x1 ex1 => ?_)
        have h := h x1 ex1
        refine a_istore_n C [(3, .int x1), (0, .ref (eA V 48)), (2, .int v2), (4, .int v4)] dX12_seenAt_52 rfl (by decide) rfl ?_
        refine a_sub [1, 2, 0, 3] rfl ?_
        refine tj_X12_seenAt_53 C ih _ _ _ _ h
theorem np_X12_seenAt : yX12_seenAt.cls ≠ "java/lang/invoke/MethodHandle" ∧ yX12_seenAt.cls ≠ "java/lang/invoke/VarHandle" ∧ (parseMethodDescriptor yX12_seenAt.desc).map (fun d => d.parameters.length) = some 2 := by decide +kernel
set_option maxHeartbeats 4000000 in
set_option maxRecDepth 100000 in
theorem m_X12_seenAt (l : Launch) (V : VEn) {a0 : Int32} {a1 : Int32} {u : PoS} {post : Int32 → PoS → Prop} (h : wp_X12_seenAt a0 a1 u post) : KI l V yX12_seenAt cX12_seenAt 5 .int 0 [.ref (eA V 48), .int a0, .int a1] u post := by
  refine KI_of (by decide) (Nat.le_of_ble_eq_true rfl) (lv := [(0, .ref (eA V 48)), (1, .int a0), (2, .int a1)]) rfl ?_
  intro p e s m args below meth c C
  rw [wp_X12_seenAt] at h
  refine a_iload_n C 1 dX12_seenAt_0 rfl rfl ?_
  refine a_istore_n C [(3, .int a0), (0, .ref (eA V 48)), (1, .int a0), (2, .int a1)] dX12_seenAt_1 rfl (by decide) rfl ?_
  refine a_iconst C 0 dX12_seenAt_2 (by decide) ?_
  refine a_istore C [(4, .int 0), (3, .int a0), (0, .ref (eA V 48)), (1, .int a0), (2, .int a1)] dX12_seenAt_3 (by decide) rfl ?_
  refine a_sub [2, 4, 1, 0] rfl ?_
  obtain ⟨n5, h⟩ := h
  refine tl_X12_seenAt_5 C n5 _ _ _ _ h

/-! RainOnTheOneModel.isFrom(II)Z -/
def wj_X12_isFrom_66 (k15 : Int32 → Int32 → Int32 → Int32 → PoS → Prop) (post : Int32 → PoS → Prop) (v2 : Int32) (v3 : Int32) (v5 : Int32) (s0 : Int32) (u : PoS) : Prop := k15 v2 v3 s0 (v5 + 1) u
def wl_X12_isFrom_15 (k74 : Int32 → Int32 → Int32 → PoS → Prop) (post : Int32 → PoS → Prop) : Nat → Int32 → Int32 → Int32 → Int32 → PoS → Prop
  | 0, _, _, _, _, _ => False
  | n + 1, v2, v3, v4, v5, u => (((gI u 49 4) ≤ v5 → k74 v2 v3 v4 u) ∧ (¬ (gI u 49 4) ≤ v5 → vp_in ((165 + (2 * v5)) + 1) 3703 ∧ (((gI u 49 (Int32.toNatClampNeg ((165 + (2 * v5)) + 1))) ≤ v4 → wj_X12_isFrom_66 (wl_X12_isFrom_15 k74 post n) post v2 v3 v5 v4 u) ∧ (¬ (gI u 49 (Int32.toNatClampNeg ((165 + (2 * v5)) + 1))) ≤ v4 → vp_in ((165 + (2 * v5)) + 1) 3703 ∧ wj_X12_isFrom_66 (wl_X12_isFrom_15 k74 post n) post v2 v3 v5 (gI u 49 (Int32.toNatClampNeg ((165 + (2 * v5)) + 1))) u))))
def wl_X12_isFrom_77 (k103 : Int32 → PoS → Prop) (post : Int32 → PoS → Prop) : Nat → Int32 → Int32 → Int32 → Int32 → PoS → Prop
  | 0, _, _, _, _, _ => False
  | n + 1, v2, v3, v4, v5, u => ((v4 < v5 → k103 v3 u) ∧ (¬ v4 < v5 → wp_X12_aside v3 u (fun (r6 : Int32) (u7 : PoS) => wp_X12_seenAt (r6 &&& v2) v5 u7 (fun (r8 : Int32) (u9 : PoS) => wl_X12_isFrom_77 k103 post n v2 r8 v4 (v5 + 1) u9))))
def wp_X12_isFrom (a0 : Int32) (a1 : Int32) (u : PoS) (post : Int32 → PoS → Prop) : Prop := wp_X12_seenAt (1 <<< (a0 &&& 31)) 0 u (fun (r1 : Int32) (u2 : PoS) => (∃ n15, wl_X12_isFrom_15 (fun (v25 : Int32) (v35 : Int32) (v45 : Int32) (u5 : PoS) => (∃ n77, wl_X12_isFrom_77 (fun (v311 : Int32) (u11 : PoS) => ((v311 = 0 → post 0 u11) ∧ (¬ v311 = 0 → post 1 u11))) post n77 v25 v35 v45 1 u5)) post n15 a1 r1 0 0 u2))
set_option maxHeartbeats 4000000 in
set_option maxRecDepth 100000 in
theorem tj_X12_isFrom_66 {p : Program} {l : Launch} {e : Env} {s : State} {m : MethodId} {args : Array Value} {below : List Frame} {meth : Method} {c : Code} {V : VEn} {k15 : Int32 → Int32 → Int32 → Int32 → PoS → Prop} {post : Int32 → PoS → Prop} (C : CxS p s m args meth c V cX12_isFrom 6 RX12 (some .boolean)) (hk15 : ∀ (v2 : Int32) (v3 : Int32) (v4 : Int32) (v5 : Int32) (u : PoS), k15 v2 v3 v4 v5 u → AtS p l e (Rm 1) s m args below meth c V 6 0 0 (QI V below args s post) 15 [(0, .ref (eA V 48)), (2, .int v2), (3, .int v3), (4, .int v4), (5, .int v5)] [] u) (v2 : Int32) (v3 : Int32) (v5 : Int32) (s0 : Int32) (u : PoS) (h : wj_X12_isFrom_66 k15 post v2 v3 v5 s0 u) : AtS p l e (Rm 1) s m args below meth c V 6 0 0 (QI V below args s post) 66 [(0, .ref (eA V 48)), (2, .int v2), (3, .int v3), (5, .int v5)] [.int s0] u := by
  rw [wj_X12_isFrom_66] at h
  refine a_istore C [(4, .int s0), (0, .ref (eA V 48)), (2, .int v2), (3, .int v3), (5, .int v5)] dX12_isFrom_66 (by decide) rfl ?_
  refine a_iinc C (v5 + 1) 4 [(5, .int (v5 + 1)), (4, .int s0), (0, .ref (eA V 48)), (2, .int v2), (3, .int v3)] dX12_isFrom_68 rfl (congrArg (fun z => v5 + z) (show Int32.ofInt 1 = 1 by decide)) (by decide) rfl ?_
  refine a_goto C 15 dX12_isFrom_71 (by decide) ?_
  refine a_sub [2, 3, 4, 1, 0] rfl ?_
  exact hk15 _ _ _ _ _ h
set_option maxHeartbeats 4000000 in
set_option maxRecDepth 100000 in
theorem tl_X12_isFrom_15 {p : Program} {l : Launch} {e : Env} {s : State} {m : MethodId} {args : Array Value} {below : List Frame} {meth : Method} {c : Code} {V : VEn} {k74 : Int32 → Int32 → Int32 → PoS → Prop} {post : Int32 → PoS → Prop} (C : CxS p s m args meth c V cX12_isFrom 6 RX12 (some .boolean)) (hk74 : ∀ (v2 : Int32) (v3 : Int32) (v4 : Int32) (u : PoS), k74 v2 v3 v4 u → AtS p l e (Rm 1) s m args below meth c V 6 0 0 (QI V below args s post) 74 [(0, .ref (eA V 48)), (2, .int v2), (3, .int v3), (4, .int v4)] [] u) : ∀ (n : Nat) (v2 : Int32) (v3 : Int32) (v4 : Int32) (v5 : Int32) (u : PoS), wl_X12_isFrom_15 k74 post n v2 v3 v4 v5 u → AtS p l e (Rm 1) s m args below meth c V 6 0 0 (QI V below args s post) 15 [(0, .ref (eA V 48)), (2, .int v2), (3, .int v3), (4, .int v4), (5, .int v5)] [] u := by
  intro n
  induction n with
  | zero => intro v2 v3 v4 v5 u h; exact h.elim
  | succ n ih =>
    intro v2 v3 v4 v5 u h
    rw [wl_X12_isFrom_15] at h
    refine a_iload C 4 dX12_isFrom_15 rfl ?_
    refine a_aload_n C 0 dX12_isFrom_17 rfl rfl ?_
    refine a_getr C 0 (r := 49) dX12_isFrom_18 (by decide) rfl rfl rfl ib_12 (by decide) bw_1022 ?_
    refine a_iconst C 4 dX12_isFrom_21 (by decide) ?_
    refine b_iald C 4 dX12_isFrom_22 (by decide) rfl (vp_lit (by decide)) (by decide) ?_
    refine a_icmp_ge C 74 dX12_isFrom_23 (by decide) (fun c4 => ?_) (fun c4 => ?_)
    · have h := h.1 c4
      refine a_sub [0, 1, 2, 3] rfl ?_
      exact hk74 _ _ _ _ h
    · have h := h.2 c4
      refine a_aload_n C 0 dX12_isFrom_26 rfl rfl ?_
      refine a_getr C 0 (r := 49) dX12_isFrom_27 (by decide) rfl rfl rfl ib_12 (by decide) bw_1022 ?_
      refine a_sipush C 165 dX12_isFrom_30 (by decide) ?_
      refine a_iconst C 2 dX12_isFrom_33 (by decide) ?_
      refine a_iload C 4 dX12_isFrom_34 rfl ?_
      refine a_imul C dX12_isFrom_36 ?_
      refine a_iadd C dX12_isFrom_37 ?_
      refine a_iconst C 1 dX12_isFrom_38 (by decide) ?_
      refine a_iadd C dX12_isFrom_39 ?_
      refine b_iald C (Int32.toNatClampNeg ((165 + (2 * v5)) + 1)) dX12_isFrom_40 (by decide) rfl h.1 rfl ?_
      have h := h.2
      refine a_iload C 3 dX12_isFrom_41 rfl ?_
      refine a_icmp_le C 64 dX12_isFrom_43 (by decide) (fun c3 => ?_) (fun c3 => ?_)
      · have h := h.1 c3
        refine a_iload C 3 dX12_isFrom_64 rfl ?_
        refine a_sub [0, 1, 2, 4] rfl ?_
        refine tj_X12_isFrom_66 C ih _ _ _ _ _ h
      · have h := h.2 c3
        refine a_aload_n C 0 dX12_isFrom_46 rfl rfl ?_
        refine a_getr C 0 (r := 49) dX12_isFrom_47 (by decide) rfl rfl rfl ib_12 (by decide) bw_1022 ?_
        refine a_sipush C 165 dX12_isFrom_50 (by decide) ?_
        refine a_iconst C 2 dX12_isFrom_53 (by decide) ?_
        refine a_iload C 4 dX12_isFrom_54 rfl ?_
        refine a_imul C dX12_isFrom_56 ?_
        refine a_iadd C dX12_isFrom_57 ?_
        refine a_iconst C 1 dX12_isFrom_58 (by decide) ?_
        refine a_iadd C dX12_isFrom_59 ?_
        refine b_iald C (Int32.toNatClampNeg ((165 + (2 * v5)) + 1)) dX12_isFrom_60 (by decide) rfl h.1 rfl ?_
        have h := h.2
        refine a_goto C 66 dX12_isFrom_61 (by decide) ?_
        refine a_sub [0, 1, 2, 4] rfl ?_
        refine tj_X12_isFrom_66 C ih _ _ _ _ _ h
set_option maxHeartbeats 4000000 in
set_option maxRecDepth 100000 in
theorem tl_X12_isFrom_77 {p : Program} {l : Launch} {e : Env} {s : State} {m : MethodId} {args : Array Value} {below : List Frame} {meth : Method} {c : Code} {V : VEn} {k103 : Int32 → PoS → Prop} {post : Int32 → PoS → Prop} (C : CxS p s m args meth c V cX12_isFrom 6 RX12 (some .boolean)) (hk103 : ∀ (v3 : Int32) (u : PoS), k103 v3 u → AtS p l e (Rm 1) s m args below meth c V 6 0 0 (QI V below args s post) 103 [(3, .int v3)] [] u) : ∀ (n : Nat) (v2 : Int32) (v3 : Int32) (v4 : Int32) (v5 : Int32) (u : PoS), wl_X12_isFrom_77 k103 post n v2 v3 v4 v5 u → AtS p l e (Rm 1) s m args below meth c V 6 0 0 (QI V below args s post) 77 [(0, .ref (eA V 48)), (2, .int v2), (3, .int v3), (4, .int v4), (5, .int v5)] [] u := by
  intro n
  induction n with
  | zero => intro v2 v3 v4 v5 u h; exact h.elim
  | succ n ih =>
    intro v2 v3 v4 v5 u h
    rw [wl_X12_isFrom_77] at h
    refine a_iload C 4 dX12_isFrom_77 rfl ?_
    refine a_iload C 3 dX12_isFrom_79 rfl ?_
    refine a_icmp_gt C 103 dX12_isFrom_81 (by decide) (fun c10 => ?_) (fun c10 => ?_)
    · have h := h.1 c10
      refine a_sub [2] rfl ?_
      exact hk103 _ _ h
    · have h := h.2 c10
      refine a_aload_n C 0 dX12_isFrom_84 rfl rfl ?_
      refine a_iload_n C 2 dX12_isFrom_85 rfl rfl ?_
      refine a_callSi C dX12_isFrom_86 (m_X12_aside l V h) bw_1403 bw_1404 bw_123 bw_1405 np_X12_aside rfl rfl (by decide) (Nat.le_of_ble_eq_true rfl) ⟨Nat.zero_le _, Nat.zero_le _⟩ (fun r6 u7 h => ?_)
      refine a_iload_n C 1 dX12_isFrom_89 rfl rfl ?_
      refine a_iand C dX12_isFrom_90 ?_
      refine a_iload C 4 dX12_isFrom_91 rfl ?_
      refine a_callVi C dX12_isFrom_93 (m_X12_seenAt l V h) bw_1676 bw_1678 bw_110 bw_123 bw_1679 (by decide) rfl rfl np_X12_seenAt rfl rfl (by decide) (Nat.le_of_ble_eq_true rfl) ⟨Nat.zero_le _, Nat.zero_le _⟩ (fun r8 u9 h => ?_)
      refine a_istore_n C [(3, .int r8), (0, .ref (eA V 48)), (2, .int v2), (4, .int v4), (5, .int v5)] dX12_isFrom_96 rfl (by decide) rfl ?_
      refine a_iinc C (v5 + 1) 4 [(5, .int (v5 + 1)), (3, .int r8), (0, .ref (eA V 48)), (2, .int v2), (4, .int v4)] dX12_isFrom_97 rfl (congrArg (fun z => v5 + z) (show Int32.ofInt 1 = 1 by decide)) (by decide) rfl ?_
      refine a_goto C 77 dX12_isFrom_100 (by decide) ?_
      refine a_sub [2, 3, 1, 4, 0] rfl ?_
      exact ih _ _ _ _ _ h
theorem np_X12_isFrom : yX12_isFrom.cls ≠ "java/lang/invoke/MethodHandle" ∧ yX12_isFrom.cls ≠ "java/lang/invoke/VarHandle" ∧ (parseMethodDescriptor yX12_isFrom.desc).map (fun d => d.parameters.length) = some 2 := by decide +kernel
set_option maxHeartbeats 4000000 in
set_option maxRecDepth 100000 in
theorem m_X12_isFrom (l : Launch) (V : VEn) {a0 : Int32} {a1 : Int32} {u : PoS} {post : Int32 → PoS → Prop} (h : wp_X12_isFrom a0 a1 u post) : KI l V yX12_isFrom cX12_isFrom 6 .boolean 1 [.ref (eA V 48), .int a0, .int a1] u post := by
  refine KI_of (by decide) (Nat.le_of_ble_eq_true rfl) (lv := [(0, .ref (eA V 48)), (1, .int a0), (2, .int a1)]) rfl ?_
  intro p e s m args below meth c C
  rw [wp_X12_isFrom] at h
  refine a_aload_n C 0 dX12_isFrom_0 rfl rfl ?_
  refine a_iconst C 1 dX12_isFrom_1 (by decide) ?_
  refine a_iload_n C 1 dX12_isFrom_2 rfl rfl ?_
  refine a_ishl C dX12_isFrom_3 ?_
  refine a_iconst C 0 dX12_isFrom_4 (by decide) ?_
  refine a_callVi C dX12_isFrom_5 (m_X12_seenAt l V h) bw_1676 bw_1678 bw_110 bw_123 bw_1679 (by decide) rfl rfl np_X12_seenAt rfl rfl (by decide) (Nat.le_of_ble_eq_true rfl) ⟨Nat.zero_le _, Nat.zero_le _⟩ (fun r1 u2 h => ?_)
  refine a_istore_n C [(3, .int r1), (0, .ref (eA V 48)), (1, .int a0), (2, .int a1)] dX12_isFrom_8 rfl (by decide) rfl ?_
  refine a_iconst C 0 dX12_isFrom_9 (by decide) ?_
  refine a_istore C [(4, .int 0), (3, .int r1), (0, .ref (eA V 48)), (1, .int a0), (2, .int a1)] dX12_isFrom_10 (by decide) rfl ?_
  refine a_iconst C 0 dX12_isFrom_12 (by decide) ?_
  refine a_istore C [(5, .int 0), (4, .int 0), (3, .int r1), (0, .ref (eA V 48)), (1, .int a0), (2, .int a1)] dX12_isFrom_13 (by decide) rfl ?_
  refine a_sub [3, 5, 2, 1, 0] rfl ?_
  obtain ⟨n15, h⟩ := h
  refine tl_X12_isFrom_15 C (fun v25 v35 v45 u5 h => ?_) n15 _ _ _ _ _ h
  refine a_iconst C 1 dX12_isFrom_74 (by decide) ?_
  refine a_istore C [(5, .int 1), (0, .ref (eA V 48)), (2, .int v25), (3, .int v35), (4, .int v45)] dX12_isFrom_75 (by decide) rfl ?_
  refine a_sub [1, 2, 3, 4, 0] rfl ?_
  obtain ⟨n77, h⟩ := h
  refine tl_X12_isFrom_77 C (fun v311 u11 h => ?_) n77 _ _ _ _ _ h
  refine a_iload_n C 0 dX12_isFrom_103 rfl rfl ?_
  refine a_if_eq C 111 dX12_isFrom_104 (by decide) (fun c12 => ?_) (fun c12 => ?_)
  · have h := h.1 c12
    refine a_iconst C 0 dX12_isFrom_111 (by decide) ?_
    exact a_zret C rfl dX12_isFrom_112 h
  · have h := h.2 c12
    refine a_iconst C 1 dX12_isFrom_107 (by decide) ?_
    refine a_goto C 112 dX12_isFrom_108 (by decide) ?_
    exact a_zret C rfl dX12_isFrom_112 h

/-! RainOnTheOneModel.from(Z)I -/
def wj_X12_from_45 (k10 : Int32 → Int32 → Int32 → Int32 → PoS → Prop) (post : Int32 → PoS → Prop) (v1 : Int32) (v2 : Int32) (v4 : Int32) (s0 : Int32) (s1 : Int32) (u : PoS) : Prop := ∀ x5 : Int32, x5 = (s1 ||| s0) → k10 v1 v2 x5 (v4 + 1) u
def wj_X12_from_44 (k10 : Int32 → Int32 → Int32 → Int32 → PoS → Prop) (post : Int32 → PoS → Prop) (v1 : Int32) (v2 : Int32) (v4 : Int32) (s0 : Int32) (u : PoS) : Prop := wj_X12_from_45 k10 post v1 v2 v4 0 s0 u
def wl_X12_from_10 (k53 : Int32 → Int32 → PoS → Prop) (post : Int32 → PoS → Prop) : Nat → Int32 → Int32 → Int32 → Int32 → PoS → Prop
  | 0, _, _, _, _, _ => False
  | n + 1, v1, v2, v3, v4, u => ((30 ≤ v4 → k53 v1 v3 u) ∧ (¬ 30 ≤ v4 → wp_X12_has v2 v4 u (fun (r3 : Int32) (u4 : PoS) => ((r3 = 0 → wj_X12_from_44 (wl_X12_from_10 k53 post n) post v1 v2 v4 v3 u4) ∧ (¬ r3 = 0 → wp_X12_isFrom v4 v2 u4 (fun (r6 : Int32) (u7 : PoS) => ((r6 = 0 → wj_X12_from_44 (wl_X12_from_10 k53 post n) post v1 v2 v4 v3 u7) ∧ (¬ r6 = 0 → wj_X12_from_45 (wl_X12_from_10 k53 post n) post v1 v2 v4 (1 <<< (v4 &&& 31)) v3 u7))))))))
def wp_X12_from (a0 : Int32) (u : PoS) (post : Int32 → PoS → Prop) : Prop := wp_X12_free u (fun (r1 : Int32) (u2 : PoS) => (∃ n10, wl_X12_from_10 (fun (v111 : Int32) (v311 : Int32) (u11 : PoS) => ((v111 = 0 → post v311 u11) ∧ (¬ v111 = 0 → wp_X12_bits v311 u11 (fun (r12 : Int32) (u13 : PoS) => post r12 u13)))) post n10 a0 r1 0 0 u2))
set_option maxHeartbeats 4000000 in
set_option maxRecDepth 100000 in
theorem tj_X12_from_45 {p : Program} {l : Launch} {e : Env} {s : State} {m : MethodId} {args : Array Value} {below : List Frame} {meth : Method} {c : Code} {V : VEn} {k10 : Int32 → Int32 → Int32 → Int32 → PoS → Prop} {post : Int32 → PoS → Prop} (C : CxS p s m args meth c V cX12_from 5 RX12 (some .int)) (hk10 : ∀ (v1 : Int32) (v2 : Int32) (v3 : Int32) (v4 : Int32) (u : PoS), k10 v1 v2 v3 v4 u → AtS p l e (Rm 4) s m args below meth c V 5 0 0 (QI V below args s post) 10 [(0, .ref (eA V 48)), (1, .int v1), (2, .int v2), (3, .int v3), (4, .int v4)] [] u) (v1 : Int32) (v2 : Int32) (v4 : Int32) (s0 : Int32) (s1 : Int32) (u : PoS) (h : wj_X12_from_45 k10 post v1 v2 v4 s0 s1 u) : AtS p l e (Rm 4) s m args below meth c V 5 0 0 (QI V below args s post) 45 [(0, .ref (eA V 48)), (1, .int v1), (2, .int v2), (4, .int v4)] [.int s0, .int s1] u := by
  rw [wj_X12_from_45] at h
  refine a_ior C dX12_from_45 ?_
  refine a_topi (fun x5 ex5 => ?_)
  have h := h x5 ex5
  refine a_istore_n C [(3, .int x5), (0, .ref (eA V 48)), (1, .int v1), (2, .int v2), (4, .int v4)] dX12_from_46 rfl (by decide) rfl ?_
  refine a_iinc C (v4 + 1) 4 [(4, .int (v4 + 1)), (3, .int x5), (0, .ref (eA V 48)), (1, .int v1), (2, .int v2)] dX12_from_47 rfl (congrArg (fun z => v4 + z) (show Int32.ofInt 1 = 1 by decide)) (by decide) rfl ?_
  refine a_goto C 10 dX12_from_50 (by decide) ?_
  refine a_sub [2, 3, 4, 1, 0] rfl ?_
  exact hk10 _ _ _ _ _ h
set_option maxHeartbeats 4000000 in
set_option maxRecDepth 100000 in
theorem tj_X12_from_44 {p : Program} {l : Launch} {e : Env} {s : State} {m : MethodId} {args : Array Value} {below : List Frame} {meth : Method} {c : Code} {V : VEn} {k10 : Int32 → Int32 → Int32 → Int32 → PoS → Prop} {post : Int32 → PoS → Prop} (C : CxS p s m args meth c V cX12_from 5 RX12 (some .int)) (hk10 : ∀ (v1 : Int32) (v2 : Int32) (v3 : Int32) (v4 : Int32) (u : PoS), k10 v1 v2 v3 v4 u → AtS p l e (Rm 4) s m args below meth c V 5 0 0 (QI V below args s post) 10 [(0, .ref (eA V 48)), (1, .int v1), (2, .int v2), (3, .int v3), (4, .int v4)] [] u) (v1 : Int32) (v2 : Int32) (v4 : Int32) (s0 : Int32) (u : PoS) (h : wj_X12_from_44 k10 post v1 v2 v4 s0 u) : AtS p l e (Rm 4) s m args below meth c V 5 0 0 (QI V below args s post) 44 [(0, .ref (eA V 48)), (1, .int v1), (2, .int v2), (4, .int v4)] [.int s0] u := by
  rw [wj_X12_from_44] at h
  refine a_iconst C 0 dX12_from_44 (by decide) ?_
  refine tj_X12_from_45 C hk10 _ _ _ _ _ _ h
set_option maxHeartbeats 4000000 in
set_option maxRecDepth 100000 in
theorem tl_X12_from_10 {p : Program} {l : Launch} {e : Env} {s : State} {m : MethodId} {args : Array Value} {below : List Frame} {meth : Method} {c : Code} {V : VEn} {k53 : Int32 → Int32 → PoS → Prop} {post : Int32 → PoS → Prop} (C : CxS p s m args meth c V cX12_from 5 RX12 (some .int)) (hk53 : ∀ (v1 : Int32) (v3 : Int32) (u : PoS), k53 v1 v3 u → AtS p l e (Rm 4) s m args below meth c V 5 0 0 (QI V below args s post) 53 [(1, .int v1), (3, .int v3)] [] u) : ∀ (n : Nat) (v1 : Int32) (v2 : Int32) (v3 : Int32) (v4 : Int32) (u : PoS), wl_X12_from_10 k53 post n v1 v2 v3 v4 u → AtS p l e (Rm 4) s m args below meth c V 5 0 0 (QI V below args s post) 10 [(0, .ref (eA V 48)), (1, .int v1), (2, .int v2), (3, .int v3), (4, .int v4)] [] u := by
  intro n
  induction n with
  | zero => intro v1 v2 v3 v4 u h; exact h.elim
  | succ n ih =>
    intro v1 v2 v3 v4 u h
    rw [wl_X12_from_10] at h
    refine a_iload C 4 dX12_from_10 rfl ?_
    refine a_bipush C 30 dX12_from_12 (by decide) ?_
    refine a_icmp_ge C 53 dX12_from_14 (by decide) (fun c10 => ?_) (fun c10 => ?_)
    · have h := h.1 c10
      refine a_sub [1, 3] rfl ?_
      exact hk53 _ _ _ h
    · have h := h.2 c10
      refine a_iload_n C 3 dX12_from_17 rfl rfl ?_
      refine a_iload_n C 2 dX12_from_18 rfl rfl ?_
      refine a_iload C 4 dX12_from_19 rfl ?_
      refine a_callSi C dX12_from_21 (m_X12_has l V h) bw_1240 bw_1241 bw_123 bw_1242 np_X12_has rfl rfl (by decide) (Nat.le_of_ble_eq_true rfl) ⟨Nat.zero_le _, Nat.zero_le _⟩ (fun r3 u4 h => ?_)
      refine a_if_eq C 44 dX12_from_24 (by decide) (fun c9 => ?_) (fun c9 => ?_)
      · have h := h.1 c9
        refine a_sub [0, 1, 2, 4] rfl ?_
        refine tj_X12_from_44 C ih _ _ _ _ _ h
      · have h := h.2 c9
        refine a_aload_n C 0 dX12_from_27 rfl rfl ?_
        refine a_iload C 4 dX12_from_28 rfl ?_
        refine a_iload_n C 2 dX12_from_30 rfl rfl ?_
        refine a_callVi C dX12_from_31 (m_X12_isFrom l V h) bw_1672 bw_1674 bw_109 bw_123 bw_1675 (by decide) rfl rfl np_X12_isFrom rfl rfl (by decide) (Nat.le_of_ble_eq_true rfl) ⟨Nat.zero_le _, Nat.zero_le _⟩ (fun r6 u7 h => ?_)
        refine a_if_eq C 44 dX12_from_34 (by decide) (fun c8 => ?_) (fun c8 => ?_)
        · have h := h.1 c8
          refine a_sub [0, 1, 2, 4] rfl ?_
          refine tj_X12_from_44 C ih _ _ _ _ _ h
        · have h := h.2 c8
          refine a_iconst C 1 dX12_from_37 (by decide) ?_
          refine a_iload C 4 dX12_from_38 rfl ?_
          refine a_ishl C dX12_from_40 ?_
          refine a_goto C 45 dX12_from_41 (by decide) ?_
          refine a_sub [0, 1, 2, 4] rfl ?_
          refine tj_X12_from_45 C ih _ _ _ _ _ _ h
theorem np_X12_from : yX12_from.cls ≠ "java/lang/invoke/MethodHandle" ∧ yX12_from.cls ≠ "java/lang/invoke/VarHandle" ∧ (parseMethodDescriptor yX12_from.desc).map (fun d => d.parameters.length) = some 1 := by decide +kernel
set_option maxHeartbeats 4000000 in
set_option maxRecDepth 100000 in
theorem m_X12_from (l : Launch) (V : VEn) {a0 : Int32} {u : PoS} {post : Int32 → PoS → Prop} (h : wp_X12_from a0 u post) : KI l V yX12_from cX12_from 5 .int 4 [.ref (eA V 48), .int a0] u post := by
  refine KI_of (by decide) (Nat.le_of_ble_eq_true rfl) (lv := [(0, .ref (eA V 48)), (1, .int a0)]) rfl ?_
  intro p e s m args below meth c C
  rw [wp_X12_from] at h
  refine a_aload_n C 0 dX12_from_0 rfl rfl ?_
  refine a_callVi C dX12_from_1 (m_X12_free l V h) bw_1395 bw_1397 bw_79 bw_123 bw_1398 (by decide) rfl rfl np_X12_free rfl rfl (by decide) (Nat.le_of_ble_eq_true rfl) ⟨Nat.zero_le _, Nat.zero_le _⟩ (fun r1 u2 h => ?_)
  refine a_istore_n C [(2, .int r1), (0, .ref (eA V 48)), (1, .int a0)] dX12_from_4 rfl (by decide) rfl ?_
  refine a_iconst C 0 dX12_from_5 (by decide) ?_
  refine a_istore_n C [(3, .int 0), (2, .int r1), (0, .ref (eA V 48)), (1, .int a0)] dX12_from_6 rfl (by decide) rfl ?_
  refine a_iconst C 0 dX12_from_7 (by decide) ?_
  refine a_istore C [(4, .int 0), (3, .int 0), (2, .int r1), (0, .ref (eA V 48)), (1, .int a0)] dX12_from_8 (by decide) rfl ?_
  refine a_sub [3, 4, 2, 1, 0] rfl ?_
  obtain ⟨n10, h⟩ := h
  refine tl_X12_from_10 C (fun v111 v311 u11 h => ?_) n10 _ _ _ _ _ h
  refine a_iload_n C 0 dX12_from_53 rfl rfl ?_
  refine a_if_eq C 64 dX12_from_54 (by decide) (fun c14 => ?_) (fun c14 => ?_)
  · have h := h.1 c14
    refine a_iload_n C 1 dX12_from_64 rfl rfl ?_
    exact a_iret C dX12_from_65 h
  · have h := h.2 c14
    refine a_iload_n C 1 dX12_from_57 rfl rfl ?_
    refine a_callSi C dX12_from_58 (m_X12_bits l V h) bw_1599 bw_1600 bw_123 bw_1601 np_X12_bits rfl rfl (by decide) (Nat.le_of_ble_eq_true rfl) ⟨Nat.zero_le _, Nat.zero_le _⟩ (fun r12 u13 h => ?_)
    refine a_goto C 65 dX12_from_61 (by decide) ?_
    exact a_iret C dX12_from_65 h

/-! RainOnTheOneModel.divisor(JJ)J -/
def wl_X12_divisor_6 (post : Int64 → PoS → Prop) : Nat → Int64 → Int64 → PoS → Prop
  | 0, _, _, _ => False
  | n + 1, v4, v6, u => (((lg_cmp v6 0) = 0 → post v4 u) ∧ (¬ (lg_cmp v6 0) = 0 → ¬ v6 = 0 ∧ ∀ x1 : Int64, x1 = (lrem v4 v6) → wl_X12_divisor_6 post n v6 x1 u))
def wp_X12_divisor (a0 : Int64) (a1 : Int64) (u : PoS) (post : Int64 → PoS → Prop) : Prop := (∃ n6, wl_X12_divisor_6 post n6 a0 a1 u)
set_option maxHeartbeats 4000000 in
set_option maxRecDepth 100000 in
theorem tl_X12_divisor_6 {p : Program} {l : Launch} {e : Env} {s : State} {m : MethodId} {args : Array Value} {below : List Frame} {meth : Method} {c : Code} {V : VEn} {post : Int64 → PoS → Prop} (C : CxS p s m args meth c V cX12_divisor 10 RX12 (some .long)) : ∀ (n : Nat) (v4 : Int64) (v6 : Int64) (u : PoS), wl_X12_divisor_6 post n v4 v6 u → AtS p l e (Rm 0) s m args below meth c V 10 0 0 (QL V below args s post) 6 [(4, .long v4), (6, .long v6)] [] u := by
  intro n
  induction n with
  | zero => intro v4 v6 u h; exact h.elim
  | succ n ih =>
    intro v4 v6 u h
    rw [wl_X12_divisor_6] at h
    refine a_lload C 1 dX12_divisor_6 rfl ?_
    refine a_lconst C 0 dX12_divisor_8 (by decide) ?_
    refine a_lcmp C dX12_divisor_9 ?_
    refine a_if_eq C 31 dX12_divisor_10 (by decide) (fun c2 => ?_) (fun c2 => ?_)
    · have h := h.1 c2
      refine a_lload C 0 dX12_divisor_31 rfl ?_
      exact a_lret C dX12_divisor_33 h
    · have h := h.2 c2
      refine a_lload C 0 dX12_divisor_13 rfl ?_
      refine a_lload C 1 dX12_divisor_15 rfl ?_
      refine b_lrem C dX12_divisor_17 h.1 ?_
      have h := h.2
      refine a_topl (fun x1 ex1 => ?_)
      have h := h x1 ex1
      refine a_lstore C [(8, .long x1), (4, .long v4), (6, .long v6)] dX12_divisor_18 (by decide) rfl ?_
      refine a_lload C 2 dX12_divisor_20 rfl ?_
      refine a_lstore C [(4, .long v6), (8, .long x1), (6, .long v6)] dX12_divisor_22 (by decide) rfl ?_
      refine a_lload C 1 dX12_divisor_24 rfl ?_
      refine a_lstore C [(6, .long x1), (4, .long v6), (8, .long x1)] dX12_divisor_26 (by decide) rfl ?_
      refine a_goto C 6 dX12_divisor_28 (by decide) ?_
      refine a_sub [1, 0] rfl ?_
      exact ih _ _ _ h
theorem np_X12_divisor : yX12_divisor.cls ≠ "java/lang/invoke/MethodHandle" ∧ yX12_divisor.cls ≠ "java/lang/invoke/VarHandle" ∧ (parseMethodDescriptor yX12_divisor.desc).map (fun d => d.parameters.length) = some 2 := by decide +kernel
set_option maxHeartbeats 4000000 in
set_option maxRecDepth 100000 in
theorem m_X12_divisor (l : Launch) (V : VEn) {a0 : Int64} {a1 : Int64} {u : PoS} {post : Int64 → PoS → Prop} (h : wp_X12_divisor a0 a1 u post) : KL l V yX12_divisor cX12_divisor 10 .long 0 [.long a0, .long a1] u post := by
  refine KL_of (by decide) (Nat.le_of_ble_eq_true rfl) (lv := [(0, .long a0), (2, .long a1)]) rfl ?_
  intro p e s m args below meth c C
  rw [wp_X12_divisor] at h
  refine a_lload_n C 0 dX12_divisor_0 rfl rfl ?_
  refine a_lstore C [(4, .long a0), (0, .long a0), (2, .long a1)] dX12_divisor_1 (by decide) rfl ?_
  refine a_lload_n C 2 dX12_divisor_3 rfl rfl ?_
  refine a_lstore C [(6, .long a1), (4, .long a0), (0, .long a0), (2, .long a1)] dX12_divisor_4 (by decide) rfl ?_
  refine a_sub [1, 0] rfl ?_
  obtain ⟨n6, h⟩ := h
  refine tl_X12_divisor_6 C n6 _ _ _ h

/-! RainOnTheOneModel.likely(IIZ)J -/
def wj_X12_likely_62 (k39 : Int32 → Int32 → Int32 → Int64 → Int32 → PoS → Prop) (post : Int64 → PoS → Prop) (v1 : Int32) (v2 : Int32) (v3 : Int32) (v4 : Int64) (v6 : Int32) (s0 : Int64) (s1 : Int32) (u : PoS) : Prop := vp_in s1 11 ∧ ∀ z5 : PoS, z5 = pL u 68 (Int32.toNatClampNeg s1) s0 → k39 v1 v2 v3 v4 (v6 + 1) z5
def wl_X12_likely_39 (k69 : Int32 → Int32 → Int32 → Int64 → PoS → Prop) (post : Int64 → PoS → Prop) : Nat → Int32 → Int32 → Int32 → Int64 → Int32 → PoS → Prop
  | 0, _, _, _, _, _, _ => False
  | n + 1, v1, v2, v3, v4, v6, u => ((11 ≤ v6 → k69 v1 v2 v3 v4 u) ∧ (¬ 11 ≤ v6 → ((¬ v6 = 0 → wj_X12_likely_62 (wl_X12_likely_39 k69 post n) post v1 v2 v3 v4 v6 0 v6 u) ∧ (v6 = 0 → wj_X12_likely_62 (wl_X12_likely_39 k69 post n) post v1 v2 v3 v4 v6 1 v6 u))))
def wj_X12_likely_128 (k82 : Int32 → Int32 → Int32 → Int64 → Int32 → Int32 → PoS → Prop) (post : Int64 → PoS → Prop) (v1 : Int32) (v2 : Int32) (v3 : Int32) (v4 : Int64) (v6 : Int32) (v7 : Int32) (s0 : Int64) (s1 : Int64) (s2 : Int32) (u : PoS) : Prop := vp_in s2 11 ∧ ∀ z9 : PoS, z9 = pL u 68 (Int32.toNatClampNeg s2) (s1 + s0) → k82 v1 v2 v3 v4 v6 (v7 + (-1)) z9
def wl_X12_likely_82 (k136 : Int32 → Int32 → Int32 → Int64 → Int32 → PoS → Prop) (post : Int64 → PoS → Prop) : Nat → Int32 → Int32 → Int32 → Int64 → Int32 → Int32 → PoS → Prop
  | 0, _, _, _, _, _, _, _ => False
  | n + 1, v1, v2, v3, v4, v6, v7, u => ((v7 < 0 → k136 v1 v2 v3 v4 v6 u) ∧ (¬ v7 < 0 → vp_in v7 11 ∧ ((v7 ≤ 0 → wj_X12_likely_128 (wl_X12_likely_82 k136 post n) post v1 v2 v3 v4 v6 v7 0 ((gL u 68 (Int32.toNatClampNeg v7)) * (Int32.toInt64 ((gI u 49 0) - 1))) v7 u) ∧ (¬ v7 ≤ 0 → vp_in (v7 - 1) 11 ∧ wj_X12_likely_128 (wl_X12_likely_82 k136 post n) post v1 v2 v3 v4 v6 v7 (gL u 68 (Int32.toNatClampNeg (v7 - 1))) ((gL u 68 (Int32.toNatClampNeg v7)) * (Int32.toInt64 ((gI u 49 0) - 1))) v7 u))))
def wl_X12_likely_72 (k154 : Int32 → Int32 → Int64 → PoS → Prop) (post : Int64 → PoS → Prop) : Nat → Int32 → Int32 → Int32 → Int64 → Int32 → PoS → Prop
  | 0, _, _, _, _, _, _ => False
  | n + 1, v1, v2, v3, v4, v6, u => ((v1 ≤ v6 → k154 v2 v3 v4 u) ∧ (¬ v1 ≤ v6 → (∃ n82, wl_X12_likely_82 (fun (v112 : Int32) (v212 : Int32) (v312 : Int32) (v412 : Int64) (v612 : Int32) (u12 : PoS) => ∀ x13 : Int64, x13 = (v412 * (Int32.toInt64 (gI u12 49 0))) → wl_X12_likely_72 k154 post n v112 v212 v312 x13 (v612 + 1) u12) post n82 v1 v2 v3 v4 v6 10 u)))
def wj_X12_likely_169 (post : Int64 → PoS → Prop) (v2 : Int32) (v4 : Int64) (s0 : Int64) (u : PoS) : Prop := vp_in v2 11 ∧ wp_X12_divisor (gL u 68 (Int32.toNatClampNeg v2)) v4 u (fun (r16 : Int64) (u17 : PoS) => ¬ r16 = 0 ∧ post (s0 / r16) u17)
def wp_X12_likely (a0 : Int32) (a1 : Int32) (a2 : Int32) (u : PoS) (post : Int64 → PoS → Prop) : Prop := wp_X12_isIn a0 1 10 u (fun (r1 : Int32) (u2 : PoS) => ((r1 = 0 → post (-1) u2) ∧ (¬ r1 = 0 → wp_X12_isIn a1 0 10 u2 (fun (r3 : Int32) (u4 : PoS) => ((r3 = 0 → post (-1) u4) ∧ (¬ r3 = 0 → ((¬ (gI u4 49 0) = 0 → (∃ n39, wl_X12_likely_39 (fun (v18 : Int32) (v28 : Int32) (v38 : Int32) (v48 : Int64) (u8 : PoS) => (∃ n72, wl_X12_likely_72 (fun (v215 : Int32) (v315 : Int32) (v415 : Int64) (u15 : PoS) => ((v315 = 0 → vp_in v215 11 ∧ wj_X12_likely_169 post v215 v415 (gL u15 68 (Int32.toNatClampNeg v215)) u15) ∧ (¬ v315 = 0 → wj_X12_likely_169 post v215 v415 v415 u15))) post n72 v18 v28 v38 v48 0 u8)) post n39 a0 a1 a2 1 0 u4)) ∧ ((gI u4 49 0) = 0 → post (-1) u4))))))))
set_option maxHeartbeats 4000000 in
set_option maxRecDepth 100000 in
theorem tj_X12_likely_62 {p : Program} {l : Launch} {e : Env} {s : State} {m : MethodId} {args : Array Value} {below : List Frame} {meth : Method} {c : Code} {V : VEn} {k39 : Int32 → Int32 → Int32 → Int64 → Int32 → PoS → Prop} {post : Int64 → PoS → Prop} (C : CxS p s m args meth c V cX12_likely 8 RX12 (some .long)) (hk39 : ∀ (v1 : Int32) (v2 : Int32) (v3 : Int32) (v4 : Int64) (v6 : Int32) (u : PoS), k39 v1 v2 v3 v4 v6 u → AtS p l e (Rm 1) s m args below meth c V 8 0 0 (QL V below args s post) 39 [(0, .ref (eA V 48)), (1, .int v1), (2, .int v2), (3, .int v3), (4, .long v4), (6, .int v6)] [] u) (v1 : Int32) (v2 : Int32) (v3 : Int32) (v4 : Int64) (v6 : Int32) (s0 : Int64) (s1 : Int32) (u : PoS) (h : wj_X12_likely_62 k39 post v1 v2 v3 v4 v6 s0 s1 u) : AtS p l e (Rm 1) s m args below meth c V 8 0 0 (QL V below args s post) 62 [(0, .ref (eA V 48)), (1, .int v1), (2, .int v2), (3, .int v3), (4, .long v4), (6, .int v6)] [.long s0, .int s1, .ref (eA V 68)] u := by
  rw [wj_X12_likely_62] at h
  refine b_last C (Int32.toNatClampNeg s1) dX12_likely_62 (by decide) rfl h.1 rfl ?_
  have h := h.2
  refine a_topu (fun z5 ez5 => ?_)
  have h := h z5 ez5
  refine a_iinc C (v6 + 1) 5 [(6, .int (v6 + 1)), (0, .ref (eA V 48)), (1, .int v1), (2, .int v2), (3, .int v3), (4, .long v4)] dX12_likely_63 rfl (congrArg (fun z => v6 + z) (show Int32.ofInt 1 = 1 by decide)) (by decide) rfl ?_
  refine a_goto C 39 dX12_likely_66 (by decide) ?_
  refine a_sub [1, 2, 3, 4, 5, 0] rfl ?_
  exact hk39 _ _ _ _ _ _ h
set_option maxHeartbeats 4000000 in
set_option maxRecDepth 100000 in
theorem tl_X12_likely_39 {p : Program} {l : Launch} {e : Env} {s : State} {m : MethodId} {args : Array Value} {below : List Frame} {meth : Method} {c : Code} {V : VEn} {k69 : Int32 → Int32 → Int32 → Int64 → PoS → Prop} {post : Int64 → PoS → Prop} (C : CxS p s m args meth c V cX12_likely 8 RX12 (some .long)) (hk69 : ∀ (v1 : Int32) (v2 : Int32) (v3 : Int32) (v4 : Int64) (u : PoS), k69 v1 v2 v3 v4 u → AtS p l e (Rm 1) s m args below meth c V 8 0 0 (QL V below args s post) 69 [(0, .ref (eA V 48)), (1, .int v1), (2, .int v2), (3, .int v3), (4, .long v4)] [] u) : ∀ (n : Nat) (v1 : Int32) (v2 : Int32) (v3 : Int32) (v4 : Int64) (v6 : Int32) (u : PoS), wl_X12_likely_39 k69 post n v1 v2 v3 v4 v6 u → AtS p l e (Rm 1) s m args below meth c V 8 0 0 (QL V below args s post) 39 [(0, .ref (eA V 48)), (1, .int v1), (2, .int v2), (3, .int v3), (4, .long v4), (6, .int v6)] [] u := by
  intro n
  induction n with
  | zero => intro v1 v2 v3 v4 v6 u h; exact h.elim
  | succ n ih =>
    intro v1 v2 v3 v4 v6 u h
    rw [wl_X12_likely_39] at h
    refine a_iload C 5 dX12_likely_39 rfl ?_
    refine a_bipush C 11 dX12_likely_41 (by decide) ?_
    refine a_icmp_ge C 69 dX12_likely_43 (by decide) (fun c7 => ?_) (fun c7 => ?_)
    · have h := h.1 c7
      refine a_sub [0, 1, 2, 3, 4] rfl ?_
      exact hk69 _ _ _ _ _ h
    · have h := h.2 c7
      refine a_aload_n C 0 dX12_likely_46 rfl rfl ?_
      refine a_getr C 36 (r := 68) dX12_likely_47 (by decide) rfl rfl rfl ib_12 (by decide) bw_1058 ?_
      refine a_iload C 5 dX12_likely_50 rfl ?_
      refine a_iload C 5 dX12_likely_52 rfl ?_
      refine a_if_ne C 61 dX12_likely_54 (by decide) (fun c6 => ?_) (fun c6 => ?_)
      · have h := h.1 c6
        refine a_lconst C 0 dX12_likely_61 (by decide) ?_
        refine tj_X12_likely_62 C ih _ _ _ _ _ _ _ _ h
      · have h := h.2 c6
        refine a_lconst C 1 dX12_likely_57 (by decide) ?_
        refine a_goto C 62 dX12_likely_58 (by decide) ?_
        refine tj_X12_likely_62 C ih _ _ _ _ _ _ _ _ h
set_option maxHeartbeats 4000000 in
set_option maxRecDepth 100000 in
theorem tj_X12_likely_128 {p : Program} {l : Launch} {e : Env} {s : State} {m : MethodId} {args : Array Value} {below : List Frame} {meth : Method} {c : Code} {V : VEn} {k82 : Int32 → Int32 → Int32 → Int64 → Int32 → Int32 → PoS → Prop} {post : Int64 → PoS → Prop} (C : CxS p s m args meth c V cX12_likely 8 RX12 (some .long)) (hk82 : ∀ (v1 : Int32) (v2 : Int32) (v3 : Int32) (v4 : Int64) (v6 : Int32) (v7 : Int32) (u : PoS), k82 v1 v2 v3 v4 v6 v7 u → AtS p l e (Rm 1) s m args below meth c V 8 0 0 (QL V below args s post) 82 [(0, .ref (eA V 48)), (1, .int v1), (2, .int v2), (3, .int v3), (4, .long v4), (6, .int v6), (7, .int v7)] [] u) (v1 : Int32) (v2 : Int32) (v3 : Int32) (v4 : Int64) (v6 : Int32) (v7 : Int32) (s0 : Int64) (s1 : Int64) (s2 : Int32) (u : PoS) (h : wj_X12_likely_128 k82 post v1 v2 v3 v4 v6 v7 s0 s1 s2 u) : AtS p l e (Rm 1) s m args below meth c V 8 0 0 (QL V below args s post) 128 [(0, .ref (eA V 48)), (1, .int v1), (2, .int v2), (3, .int v3), (4, .long v4), (6, .int v6), (7, .int v7)] [.long s0, .long s1, .int s2, .ref (eA V 68)] u := by
  rw [wj_X12_likely_128] at h
  refine a_ladd C dX12_likely_128 ?_
  refine b_last C (Int32.toNatClampNeg s2) dX12_likely_129 (by decide) rfl h.1 rfl ?_
  have h := h.2
  refine a_topu (fun z9 ez9 => ?_)
  have h := h z9 ez9
  refine a_iinc C (v7 + (-1)) 6 [(7, .int (v7 + (-1))), (0, .ref (eA V 48)), (1, .int v1), (2, .int v2), (3, .int v3), (4, .long v4), (6, .int v6)] dX12_likely_130 rfl (congrArg (fun z => v7 + z) (show Int32.ofInt (-1) = (-1) by decide)) (by decide) rfl ?_
  refine a_goto C 82 dX12_likely_133 (by decide) ?_
  refine a_sub [1, 2, 3, 4, 5, 6, 0] rfl ?_
  exact hk82 _ _ _ _ _ _ _ h
set_option maxHeartbeats 4000000 in
set_option maxRecDepth 100000 in
theorem tl_X12_likely_82 {p : Program} {l : Launch} {e : Env} {s : State} {m : MethodId} {args : Array Value} {below : List Frame} {meth : Method} {c : Code} {V : VEn} {k136 : Int32 → Int32 → Int32 → Int64 → Int32 → PoS → Prop} {post : Int64 → PoS → Prop} (C : CxS p s m args meth c V cX12_likely 8 RX12 (some .long)) (hk136 : ∀ (v1 : Int32) (v2 : Int32) (v3 : Int32) (v4 : Int64) (v6 : Int32) (u : PoS), k136 v1 v2 v3 v4 v6 u → AtS p l e (Rm 1) s m args below meth c V 8 0 0 (QL V below args s post) 136 [(0, .ref (eA V 48)), (1, .int v1), (2, .int v2), (3, .int v3), (4, .long v4), (6, .int v6)] [] u) : ∀ (n : Nat) (v1 : Int32) (v2 : Int32) (v3 : Int32) (v4 : Int64) (v6 : Int32) (v7 : Int32) (u : PoS), wl_X12_likely_82 k136 post n v1 v2 v3 v4 v6 v7 u → AtS p l e (Rm 1) s m args below meth c V 8 0 0 (QL V below args s post) 82 [(0, .ref (eA V 48)), (1, .int v1), (2, .int v2), (3, .int v3), (4, .long v4), (6, .int v6), (7, .int v7)] [] u := by
  intro n
  induction n with
  | zero => intro v1 v2 v3 v4 v6 v7 u h; exact h.elim
  | succ n ih =>
    intro v1 v2 v3 v4 v6 v7 u h
    rw [wl_X12_likely_82] at h
    refine a_iload C 6 dX12_likely_82 rfl ?_
    refine a_if_lt C 136 dX12_likely_84 (by decide) (fun c11 => ?_) (fun c11 => ?_)
    · have h := h.1 c11
      refine a_sub [0, 1, 2, 3, 4, 5] rfl ?_
      exact hk136 _ _ _ _ _ _ h
    · have h := h.2 c11
      refine a_aload_n C 0 dX12_likely_87 rfl rfl ?_
      refine a_getr C 36 (r := 68) dX12_likely_88 (by decide) rfl rfl rfl ib_12 (by decide) bw_1058 ?_
      refine a_iload C 6 dX12_likely_91 rfl ?_
      refine a_aload_n C 0 dX12_likely_93 rfl rfl ?_
      refine a_getr C 36 (r := 68) dX12_likely_94 (by decide) rfl rfl rfl ib_12 (by decide) bw_1058 ?_
      refine a_iload C 6 dX12_likely_97 rfl ?_
      refine b_lald C (Int32.toNatClampNeg v7) dX12_likely_99 (by decide) rfl h.1 rfl ?_
      have h := h.2
      refine a_aload_n C 0 dX12_likely_100 rfl rfl ?_
      refine a_getr C 0 (r := 49) dX12_likely_101 (by decide) rfl rfl rfl ib_12 (by decide) bw_1022 ?_
      refine a_iconst C 0 dX12_likely_104 (by decide) ?_
      refine b_iald C 0 dX12_likely_105 (by decide) rfl (vp_lit (by decide)) (by decide) ?_
      refine a_iconst C 1 dX12_likely_106 (by decide) ?_
      refine a_isub C dX12_likely_107 ?_
      refine a_i2l C dX12_likely_108 ?_
      refine a_lmul C dX12_likely_109 ?_
      refine a_iload C 6 dX12_likely_110 rfl ?_
      refine a_if_le C 127 dX12_likely_112 (by decide) (fun c10 => ?_) (fun c10 => ?_)
      · have h := h.1 c10
        refine a_lconst C 0 dX12_likely_127 (by decide) ?_
        refine tj_X12_likely_128 C ih _ _ _ _ _ _ _ _ _ _ h
      · have h := h.2 c10
        refine a_aload_n C 0 dX12_likely_115 rfl rfl ?_
        refine a_getr C 36 (r := 68) dX12_likely_116 (by decide) rfl rfl rfl ib_12 (by decide) bw_1058 ?_
        refine a_iload C 6 dX12_likely_119 rfl ?_
        refine a_iconst C 1 dX12_likely_121 (by decide) ?_
        refine a_isub C dX12_likely_122 ?_
        refine b_lald C (Int32.toNatClampNeg (v7 - 1)) dX12_likely_123 (by decide) rfl h.1 rfl ?_
        have h := h.2
        refine a_goto C 128 dX12_likely_124 (by decide) ?_
        refine tj_X12_likely_128 C ih _ _ _ _ _ _ _ _ _ _ h
set_option maxHeartbeats 4000000 in
set_option maxRecDepth 100000 in
theorem tl_X12_likely_72 {p : Program} {l : Launch} {e : Env} {s : State} {m : MethodId} {args : Array Value} {below : List Frame} {meth : Method} {c : Code} {V : VEn} {k154 : Int32 → Int32 → Int64 → PoS → Prop} {post : Int64 → PoS → Prop} (C : CxS p s m args meth c V cX12_likely 8 RX12 (some .long)) (hk154 : ∀ (v2 : Int32) (v3 : Int32) (v4 : Int64) (u : PoS), k154 v2 v3 v4 u → AtS p l e (Rm 1) s m args below meth c V 8 0 0 (QL V below args s post) 154 [(0, .ref (eA V 48)), (2, .int v2), (3, .int v3), (4, .long v4)] [] u) : ∀ (n : Nat) (v1 : Int32) (v2 : Int32) (v3 : Int32) (v4 : Int64) (v6 : Int32) (u : PoS), wl_X12_likely_72 k154 post n v1 v2 v3 v4 v6 u → AtS p l e (Rm 1) s m args below meth c V 8 0 0 (QL V below args s post) 72 [(0, .ref (eA V 48)), (1, .int v1), (2, .int v2), (3, .int v3), (4, .long v4), (6, .int v6)] [] u := by
  intro n
  induction n with
  | zero => intro v1 v2 v3 v4 v6 u h; exact h.elim
  | succ n ih =>
    intro v1 v2 v3 v4 v6 u h
    rw [wl_X12_likely_72] at h
    refine a_iload C 5 dX12_likely_72 rfl ?_
    refine a_iload_n C 1 dX12_likely_74 rfl rfl ?_
    refine a_icmp_ge C 154 dX12_likely_75 (by decide) (fun c14 => ?_) (fun c14 => ?_)
    · have h := h.1 c14
      refine a_sub [0, 2, 3, 4] rfl ?_
      exact hk154 _ _ _ _ h
    · have h := h.2 c14
      refine a_bipush C 10 dX12_likely_78 (by decide) ?_
      refine a_istore C [(7, .int 10), (0, .ref (eA V 48)), (1, .int v1), (2, .int v2), (3, .int v3), (4, .long v4), (6, .int v6)] dX12_likely_80 (by decide) rfl ?_
      refine a_sub [1, 2, 3, 4, 5, 6, 0] rfl ?_
      obtain ⟨n82, h⟩ := h
      refine tl_X12_likely_82 C (fun v112 v212 v312 v412 v612 u12 h => ?_) n82 _ _ _ _ _ _ _ h
      refine a_lload C 4 dX12_likely_136 rfl ?_
      refine a_aload_n C 0 dX12_likely_138 rfl rfl ?_
      refine a_getr C 0 (r := 49) dX12_likely_139 (by decide) rfl rfl rfl ib_12 (by decide) bw_1022 ?_
      refine a_iconst C 0 dX12_likely_142 (by decide) ?_
      refine b_iald C 0 dX12_likely_143 (by decide) rfl (vp_lit (by decide)) (by decide) ?_
      refine a_i2l C dX12_likely_144 ?_
      refine a_lmul C dX12_likely_145 ?_
      refine a_topl (fun x13 ex13 => ?_)
      have h := h x13 ex13
      refine a_lstore C [(4, .long x13), (0, .ref (eA V 48)), (1, .int v112), (2, .int v212), (3, .int v312), (6, .int v612)] dX12_likely_146 (by decide) rfl ?_
      refine a_iinc C (v612 + 1) 5 [(6, .int (v612 + 1)), (4, .long x13), (0, .ref (eA V 48)), (1, .int v112), (2, .int v212), (3, .int v312)] dX12_likely_148 rfl (congrArg (fun z => v612 + z) (show Int32.ofInt 1 = 1 by decide)) (by decide) rfl ?_
      refine a_goto C 72 dX12_likely_151 (by decide) ?_
      refine a_sub [2, 3, 4, 5, 1, 0] rfl ?_
      exact ih _ _ _ _ _ _ h
set_option maxHeartbeats 4000000 in
set_option maxRecDepth 100000 in
theorem tj_X12_likely_169 {p : Program} {l : Launch} {e : Env} {s : State} {m : MethodId} {args : Array Value} {below : List Frame} {meth : Method} {c : Code} {V : VEn} {post : Int64 → PoS → Prop} (C : CxS p s m args meth c V cX12_likely 8 RX12 (some .long)) (v2 : Int32) (v4 : Int64) (s0 : Int64) (u : PoS) (h : wj_X12_likely_169 post v2 v4 s0 u) : AtS p l e (Rm 1) s m args below meth c V 8 0 0 (QL V below args s post) 169 [(0, .ref (eA V 48)), (2, .int v2), (4, .long v4)] [.long s0] u := by
  rw [wj_X12_likely_169] at h
  refine a_aload_n C 0 dX12_likely_169 rfl rfl ?_
  refine a_getr C 36 (r := 68) dX12_likely_170 (by decide) rfl rfl rfl ib_12 (by decide) bw_1058 ?_
  refine a_iload_n C 1 dX12_likely_173 rfl rfl ?_
  refine b_lald C (Int32.toNatClampNeg v2) dX12_likely_174 (by decide) rfl h.1 rfl ?_
  have h := h.2
  refine a_lload C 2 dX12_likely_175 rfl ?_
  refine a_callSl C dX12_likely_177 (m_X12_divisor l V h) bw_1685 bw_1686 bw_123 bw_1687 np_X12_divisor rfl rfl (by decide) (Nat.le_of_ble_eq_true rfl) ⟨Nat.zero_le _, Nat.zero_le _⟩ (fun r16 u17 h => ?_)
  refine a_ldiv C dX12_likely_180 h.1 ?_
  have h := h.2
  exact a_lret C dX12_likely_181 h
theorem np_X12_likely : yX12_likely.cls ≠ "java/lang/invoke/MethodHandle" ∧ yX12_likely.cls ≠ "java/lang/invoke/VarHandle" ∧ (parseMethodDescriptor yX12_likely.desc).map (fun d => d.parameters.length) = some 3 := by decide +kernel
set_option maxHeartbeats 4000000 in
set_option maxRecDepth 100000 in
theorem m_X12_likely (l : Launch) (V : VEn) {a0 : Int32} {a1 : Int32} {a2 : Int32} {u : PoS} {post : Int64 → PoS → Prop} (h : wp_X12_likely a0 a1 a2 u post) : KL l V yX12_likely cX12_likely 8 .long 1 [.ref (eA V 48), .int a0, .int a1, .int a2] u post := by
  refine KL_of (by decide) (Nat.le_of_ble_eq_true rfl) (lv := [(0, .ref (eA V 48)), (1, .int a0), (2, .int a1), (3, .int a2)]) rfl ?_
  intro p e s m args below meth c C
  rw [wp_X12_likely] at h
  refine a_iload_n C 1 dX12_likely_0 rfl rfl ?_
  refine a_iconst C 1 dX12_likely_1 (by decide) ?_
  refine a_bipush C 10 dX12_likely_2 (by decide) ?_
  refine a_callSi C dX12_likely_4 (m_X12_isIn l V h) bw_1147 bw_1148 bw_123 bw_1149 np_X12_isIn rfl rfl (by decide) (Nat.le_of_ble_eq_true rfl) ⟨Nat.zero_le _, Nat.zero_le _⟩ (fun r1 u2 h => ?_)
  refine a_if_eq C 29 dX12_likely_7 (by decide) (fun c21 => ?_) (fun c21 => ?_)
  · have h := h.1 c21
    refine a_ldc2 C dX12_likely_29 bw_1684 ?_
    exact a_lret C dX12_likely_32 h
  · have h := h.2 c21
    refine a_iload_n C 2 dX12_likely_10 rfl rfl ?_
    refine a_iconst C 0 dX12_likely_11 (by decide) ?_
    refine a_bipush C 10 dX12_likely_12 (by decide) ?_
    refine a_callSi C dX12_likely_14 (m_X12_isIn l V h) bw_1147 bw_1148 bw_123 bw_1149 np_X12_isIn rfl rfl (by decide) (Nat.le_of_ble_eq_true rfl) ⟨Nat.zero_le _, Nat.zero_le _⟩ (fun r3 u4 h => ?_)
    refine a_if_eq C 29 dX12_likely_17 (by decide) (fun c20 => ?_) (fun c20 => ?_)
    · have h := h.1 c20
      refine a_ldc2 C dX12_likely_29 bw_1684 ?_
      exact a_lret C dX12_likely_32 h
    · have h := h.2 c20
      refine a_aload_n C 0 dX12_likely_20 rfl rfl ?_
      refine a_getr C 0 (r := 49) dX12_likely_21 (by decide) rfl rfl rfl ib_12 (by decide) bw_1022 ?_
      refine a_iconst C 0 dX12_likely_24 (by decide) ?_
      refine b_iald C 0 dX12_likely_25 (by decide) rfl (vp_lit (by decide)) (by decide) ?_
      refine a_if_ne C 33 dX12_likely_26 (by decide) (fun c19 => ?_) (fun c19 => ?_)
      · have h := h.1 c19
        refine a_lconst C 1 dX12_likely_33 (by decide) ?_
        refine a_lstore C [(4, .long 1), (0, .ref (eA V 48)), (1, .int a0), (2, .int a1), (3, .int a2)] dX12_likely_34 (by decide) rfl ?_
        refine a_iconst C 0 dX12_likely_36 (by decide) ?_
        refine a_istore C [(6, .int 0), (4, .long 1), (0, .ref (eA V 48)), (1, .int a0), (2, .int a1), (3, .int a2)] dX12_likely_37 (by decide) rfl ?_
        refine a_sub [2, 3, 4, 5, 1, 0] rfl ?_
        obtain ⟨n39, h⟩ := h
        refine tl_X12_likely_39 C (fun v18 v28 v38 v48 u8 h => ?_) n39 _ _ _ _ _ _ h
        refine a_iconst C 0 dX12_likely_69 (by decide) ?_
        refine a_istore C [(6, .int 0), (0, .ref (eA V 48)), (1, .int v18), (2, .int v28), (3, .int v38), (4, .long v48)] dX12_likely_70 (by decide) rfl ?_
        refine a_sub [1, 2, 3, 4, 5, 0] rfl ?_
        obtain ⟨n72, h⟩ := h
        refine tl_X12_likely_72 C (fun v215 v315 v415 u15 h => ?_) n72 _ _ _ _ _ _ h
        refine a_iload_n C 2 dX12_likely_154 rfl rfl ?_
        refine a_if_eq C 163 dX12_likely_155 (by decide) (fun c18 => ?_) (fun c18 => ?_)
        · have h := h.1 c18
          refine a_aload_n C 0 dX12_likely_163 rfl rfl ?_
          refine a_getr C 36 (r := 68) dX12_likely_164 (by decide) rfl rfl rfl ib_12 (by decide) bw_1058 ?_
          refine a_iload_n C 1 dX12_likely_167 rfl rfl ?_
          refine b_lald C (Int32.toNatClampNeg v215) dX12_likely_168 (by decide) rfl h.1 rfl ?_
          have h := h.2
          refine a_sub [0, 1, 3] rfl ?_
          refine tj_X12_likely_169 C _ _ _ _ h
        · have h := h.2 c18
          refine a_lload C 3 dX12_likely_158 rfl ?_
          refine a_goto C 169 dX12_likely_160 (by decide) ?_
          refine a_sub [0, 1, 3] rfl ?_
          refine tj_X12_likely_169 C _ _ _ _ h
      · have h := h.2 c19
        refine a_ldc2 C dX12_likely_29 bw_1684 ?_
        exact a_lret C dX12_likely_32 h
