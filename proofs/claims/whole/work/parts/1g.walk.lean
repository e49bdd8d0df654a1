/-! RainOnTheOneModel.draw()I -/
def wj_X12_draw_51 (k28 : Int32 → Int32 → PoS → Prop) (post : Int32 → PoS → Prop) (v1 : Int32) (v2 : Int32) (s0 : Int32) (s1 : Int32) (s2 : Int32) (u : PoS) : Prop := wp_X12_put s2 s1 s0 u (fun (u6 : PoS) => k28 v1 (v2 + 1) u6)
def wl_X12_draw_28 (post : Int32 → PoS → Prop) : Nat → Int32 → Int32 → PoS → Prop
  | 0, _, _, _ => False
  | n + 1, v1, v2, u => (((gI u 49 0) ≤ v2 → post v1 u) ∧ (¬ (gI u 49 0) ≤ v2 → ((¬ v2 = v1 → wj_X12_draw_51 (wl_X12_draw_28 post n) post v1 v2 0 1 v2 u) ∧ (v2 = v1 → wj_X12_draw_51 (wl_X12_draw_28 post n) post v1 v2 1 1 v2 u))))
def wp_X12_draw (u : PoS) (post : Int32 → PoS → Prop) : Prop := ((¬ (gI u 49 0) = 0 → wp_X12_keep u (fun (u2 : PoS) => wp_X12_drawnBy (gI u2 49 0) u2 (fun (r3 : Int32) (u4 : PoS) => (∃ n28, wl_X12_draw_28 post n28 r3 0 u4)))) ∧ ((gI u 49 0) = 0 → post (-1) u))
set_option maxHeartbeats 4000000 in
set_option maxRecDepth 100000 in
theorem tj_X12_draw_51 {p : Program} {l : Launch} {e : Env} {s : State} {m : MethodId} {args : Array Value} {below : List Frame} {meth : Method} {c : Code} {V : VEn} {k28 : Int32 → Int32 → PoS → Prop} {post : Int32 → PoS → Prop} (C : CxS p s m args meth c V cX12_draw 3 RX12 (some .int)) (hk28 : ∀ (v1 : Int32) (v2 : Int32) (u : PoS), k28 v1 v2 u → AtS p l e (Rm 2) s m args below meth c V 3 0 0 (QI V below args s post) 28 [(0, .ref (eA V 48)), (1, .int v1), (2, .int v2)] [] u) (v1 : Int32) (v2 : Int32) (s0 : Int32) (s1 : Int32) (s2 : Int32) (u : PoS) (h : wj_X12_draw_51 k28 post v1 v2 s0 s1 s2 u) : AtS p l e (Rm 2) s m args below meth c V 3 0 0 (QI V below args s post) 51 [(0, .ref (eA V 48)), (1, .int v1), (2, .int v2)] [.int s0, .int s1, .int s2, .ref (eA V 48)] u := by
  rw [wj_X12_draw_51] at h
  refine a_callVv C dX12_draw_51 (m_X12_put l V h) bw_1150 bw_1152 bw_40 bw_123 bw_1153 (by decide) rfl rfl np_X12_put rfl rfl (by decide) (Nat.le_of_ble_eq_true rfl) ⟨Nat.zero_le _, Nat.zero_le _⟩ (fun u6 h => ?_)
  refine a_iinc C (v2 + 1) 2 [(2, .int (v2 + 1)), (0, .ref (eA V 48)), (1, .int v1)] dX12_draw_54 rfl (congrArg (fun z => v2 + z) (show Int32.ofInt 1 = 1 by decide)) (by decide) rfl ?_
  refine a_goto C 28 dX12_draw_57 (by decide) ?_
  refine a_sub [1, 2, 0] rfl ?_
  exact hk28 _ _ _ h
set_option maxHeartbeats 4000000 in
set_option maxRecDepth 100000 in
theorem tl_X12_draw_28 {p : Program} {l : Launch} {e : Env} {s : State} {m : MethodId} {args : Array Value} {below : List Frame} {meth : Method} {c : Code} {V : VEn} {post : Int32 → PoS → Prop} (C : CxS p s m args meth c V cX12_draw 3 RX12 (some .int)) : ∀ (n : Nat) (v1 : Int32) (v2 : Int32) (u : PoS), wl_X12_draw_28 post n v1 v2 u → AtS p l e (Rm 2) s m args below meth c V 3 0 0 (QI V below args s post) 28 [(0, .ref (eA V 48)), (1, .int v1), (2, .int v2)] [] u := by
  intro n
  induction n with
  | zero => intro v1 v2 u h; exact h.elim
  | succ n ih =>
    intro v1 v2 u h
    rw [wl_X12_draw_28] at h
    refine a_iload_n C 2 dX12_draw_28 rfl rfl ?_
    refine a_aload_n C 0 dX12_draw_29 rfl rfl ?_
    refine a_getr C 0 (r := 49) dX12_draw_30 (by decide) rfl rfl rfl ib_12 (by decide) bw_1022 ?_
    refine a_iconst C 0 dX12_draw_33 (by decide) ?_
    refine b_iald C 0 dX12_draw_34 (by decide) rfl (vp_lit (by decide)) (by decide) ?_
    refine a_icmp_ge C 60 dX12_draw_35 (by decide) (fun c8 => ?_) (fun c8 => ?_)
    · have h := h.1 c8
      refine a_iload_n C 1 dX12_draw_60 rfl rfl ?_
      exact a_iret C dX12_draw_61 h
    · have h := h.2 c8
      refine a_aload_n C 0 dX12_draw_38 rfl rfl ?_
      refine a_iload_n C 2 dX12_draw_39 rfl rfl ?_
      refine a_iconst C 1 dX12_draw_40 (by decide) ?_
      refine a_iload_n C 2 dX12_draw_41 rfl rfl ?_
      refine a_iload_n C 1 dX12_draw_42 rfl rfl ?_
      refine a_icmp_ne C 50 dX12_draw_43 (by decide) (fun c7 => ?_) (fun c7 => ?_)
      · have h := h.1 c7
        refine a_iconst C 0 dX12_draw_50 (by decide) ?_
        refine tj_X12_draw_51 C ih _ _ _ _ _ _ h
      · have h := h.2 c7
        refine a_iconst C 1 dX12_draw_46 (by decide) ?_
        refine a_goto C 51 dX12_draw_47 (by decide) ?_
        refine tj_X12_draw_51 C ih _ _ _ _ _ _ h
theorem np_X12_draw : yX12_draw.cls ≠ "java/lang/invoke/MethodHandle" ∧ yX12_draw.cls ≠ "java/lang/invoke/VarHandle" ∧ (parseMethodDescriptor yX12_draw.desc).map (fun d => d.parameters.length) = some 0 := by decide +kernel
set_option maxHeartbeats 4000000 in
set_option maxRecDepth 100000 in
theorem m_X12_draw (l : Launch) (V : VEn) {u : PoS} {post : Int32 → PoS → Prop} (h : wp_X12_draw  u post) : KI l V yX12_draw cX12_draw 3 .int 2 [.ref (eA V 48)] u post := by
  refine KI_of (by decide) (Nat.le_of_ble_eq_true rfl) (lv := [(0, .ref (eA V 48))]) rfl ?_
  intro p e s m args below meth c C
  rw [wp_X12_draw] at h
  refine a_aload_n C 0 dX12_draw_0 rfl rfl ?_
  refine a_getr C 0 (r := 49) dX12_draw_1 (by decide) rfl rfl rfl ib_12 (by decide) bw_1022 ?_
  refine a_iconst C 0 dX12_draw_4 (by decide) ?_
  refine b_iald C 0 dX12_draw_5 (by decide) rfl (vp_lit (by decide)) (by decide) ?_
  refine a_if_ne C 11 dX12_draw_6 (by decide) (fun c9 => ?_) (fun c9 => ?_)
  · have h := h.1 c9
    refine a_aload_n C 0 dX12_draw_11 rfl rfl ?_
    refine a_callVv C dX12_draw_12 (m_X12_keep l V h) bw_1352 bw_1354 bw_72 bw_123 bw_1355 (by decide) rfl rfl np_X12_keep rfl rfl (by decide) (Nat.le_of_ble_eq_true rfl) ⟨Nat.zero_le _, Nat.zero_le _⟩ (fun u2 h => ?_)
    refine a_aload_n C 0 dX12_draw_15 rfl rfl ?_
    refine a_aload_n C 0 dX12_draw_16 rfl rfl ?_
    refine a_getr C 0 (r := 49) dX12_draw_17 (by decide) rfl rfl rfl ib_12 (by decide) bw_1022 ?_
    refine a_iconst C 0 dX12_draw_20 (by decide) ?_
    refine b_iald C 0 dX12_draw_21 (by decide) rfl (vp_lit (by decide)) (by decide) ?_
    refine a_callVi C dX12_draw_22 (m_X12_drawnBy l V h) bw_1364 bw_1366 bw_73 bw_123 bw_1367 (by decide) rfl rfl np_X12_drawnBy rfl rfl (by decide) (Nat.le_of_ble_eq_true rfl) ⟨Nat.zero_le _, Nat.zero_le _⟩ (fun r3 u4 h => ?_)
    refine a_istore_n C [(1, .int r3), (0, .ref (eA V 48))] dX12_draw_25 rfl (by decide) rfl ?_
    refine a_iconst C 0 dX12_draw_26 (by decide) ?_
    refine a_istore_n C [(2, .int 0), (1, .int r3), (0, .ref (eA V 48))] dX12_draw_27 rfl (by decide) rfl ?_
    refine a_sub [2, 1, 0] rfl ?_
    obtain ⟨n28, h⟩ := h
    refine tl_X12_draw_28 C n28 _ _ _ h
  · have h := h.2 c9
    refine a_iconst C (-1) dX12_draw_9 (by decide) ?_
    exact a_iret C dX12_draw_10 h

/-! RainOnTheOneModel.arePassed(I)Z -/
def wl_X12_arePassed_7 (post : Int32 → PoS → Prop) : Nat → Int32 → Int32 → PoS → Prop
  | 0, _, _, _ => False
  | n + 1, v1, v2, u => ((v1 ≤ v2 → post 1 u) ∧ (¬ v1 ≤ v2 → ((¬ (gI u 49 6) = 9999 → wp_X12_keep u (fun (u3 : PoS) => wp_X12_pass u3 (fun (u5 : PoS) => wl_X12_arePassed_7 post n v1 (v2 + 1) u5))) ∧ ((gI u 49 6) = 9999 → post 0 u))))
def wp_X12_arePassed (a0 : Int32) (u : PoS) (post : Int32 → PoS → Prop) : Prop := ∀ z1 : PoS, z1 = pI u 48 25 0 → (∃ n7, wl_X12_arePassed_7 post n7 a0 0 z1)
set_option maxHeartbeats 4000000 in
set_option maxRecDepth 100000 in
theorem tl_X12_arePassed_7 {p : Program} {l : Launch} {e : Env} {s : State} {m : MethodId} {args : Array Value} {below : List Frame} {meth : Method} {c : Code} {V : VEn} {post : Int32 → PoS → Prop} (C : CxS p s m args meth c V cX12_arePassed 3 RX12 (some .boolean)) : ∀ (n : Nat) (v1 : Int32) (v2 : Int32) (u : PoS), wl_X12_arePassed_7 post n v1 v2 u → AtS p l e (Rm 8) s m args below meth c V 3 0 0 (QI V below args s post) 7 [(0, .ref (eA V 48)), (1, .int v1), (2, .int v2)] [] u := by
  intro n
  induction n with
  | zero => intro v1 v2 u h; exact h.elim
  | succ n ih =>
    intro v1 v2 u h
    rw [wl_X12_arePassed_7] at h
    refine a_iload_n C 2 dX12_arePassed_7 rfl rfl ?_
    refine a_iload_n C 1 dX12_arePassed_8 rfl rfl ?_
    refine a_icmp_ge C 41 dX12_arePassed_9 (by decide) (fun c7 => ?_) (fun c7 => ?_)
    · have h := h.1 c7
      refine a_iconst C 1 dX12_arePassed_41 (by decide) ?_
      exact a_zret C rfl dX12_arePassed_42 h
    · have h := h.2 c7
      refine a_aload_n C 0 dX12_arePassed_12 rfl rfl ?_
      refine a_getr C 0 (r := 49) dX12_arePassed_13 (by decide) rfl rfl rfl ib_12 (by decide) bw_1022 ?_
      refine a_bipush C 6 dX12_arePassed_16 (by decide) ?_
      refine b_iald C 6 dX12_arePassed_18 (by decide) rfl (vp_lit (by decide)) (by decide) ?_
      refine a_sipush C 9999 dX12_arePassed_19 (by decide) ?_
      refine a_icmp_ne C 27 dX12_arePassed_22 (by decide) (fun c6 => ?_) (fun c6 => ?_)
      · have h := h.1 c6
        refine a_aload_n C 0 dX12_arePassed_27 rfl rfl ?_
        refine a_callVv C dX12_arePassed_28 (m_X12_keep l V h) bw_1352 bw_1354 bw_72 bw_123 bw_1355 (by decide) rfl rfl np_X12_keep rfl rfl (by decide) (Nat.le_of_ble_eq_true rfl) ⟨Nat.zero_le _, Nat.zero_le _⟩ (fun u3 h => ?_)
        refine a_aload_n C 0 dX12_arePassed_31 rfl rfl ?_
        refine a_callVv C dX12_arePassed_32 (m_X12_pass l V h) bw_1383 bw_1385 bw_76 bw_123 bw_1386 (by decide) rfl rfl np_X12_pass rfl rfl (by decide) (Nat.le_of_ble_eq_true rfl) ⟨Nat.zero_le _, Nat.zero_le _⟩ (fun u5 h => ?_)
        refine a_iinc C (v2 + 1) 2 [(2, .int (v2 + 1)), (0, .ref (eA V 48)), (1, .int v1)] dX12_arePassed_35 rfl (congrArg (fun z => v2 + z) (show Int32.ofInt 1 = 1 by decide)) (by decide) rfl ?_
        refine a_goto C 7 dX12_arePassed_38 (by decide) ?_
        refine a_sub [1, 2, 0] rfl ?_
        exact ih _ _ _ h
      · have h := h.2 c6
        refine a_iconst C 0 dX12_arePassed_25 (by decide) ?_
        exact a_zret C rfl dX12_arePassed_26 h
theorem np_X12_arePassed : yX12_arePassed.cls ≠ "java/lang/invoke/MethodHandle" ∧ yX12_arePassed.cls ≠ "java/lang/invoke/VarHandle" ∧ (parseMethodDescriptor yX12_arePassed.desc).map (fun d => d.parameters.length) = some 1 := by decide +kernel
set_option maxHeartbeats 4000000 in
set_option maxRecDepth 100000 in
theorem m_X12_arePassed (l : Launch) (V : VEn) {a0 : Int32} {u : PoS} {post : Int32 → PoS → Prop} (h : wp_X12_arePassed a0 u post) : KI l V yX12_arePassed cX12_arePassed 3 .boolean 8 [.ref (eA V 48), .int a0] u post := by
  refine KI_of (by decide) (Nat.le_of_ble_eq_true rfl) (lv := [(0, .ref (eA V 48)), (1, .int a0)]) rfl ?_
  intro p e s m args below meth c C
  rw [wp_X12_arePassed] at h
  refine a_aload_n C 0 dX12_arePassed_0 rfl rfl ?_
  refine a_iconst C 0 dX12_arePassed_1 (by decide) ?_
  refine a_puti C (ty := .int) 25 dX12_arePassed_2 (by decide) rfl rfl rfl ib_12 (by decide) bw_1047 tyX12 tyX12_ok nmX12 rfl (by decide +kernel) rfl rfl ?_
  refine a_topu (fun z1 ez1 => ?_)
  have h := h z1 ez1
  refine a_iconst C 0 dX12_arePassed_5 (by decide) ?_
  refine a_istore_n C [(2, .int 0), (0, .ref (eA V 48)), (1, .int a0)] dX12_arePassed_6 rfl (by decide) rfl ?_
  refine a_sub [1, 2, 0] rfl ?_
  obtain ⟨n7, h⟩ := h
  refine tl_X12_arePassed_7 C n7 _ _ _ h

/-! RainOnTheOneModel.minute(I)I -/
def wp_X12_minute (a0 : Int32) (u : PoS) (post : Int32 → PoS → Prop) : Prop := wp_X12_isIn a0 1 60 u (fun (r1 : Int32) (u2 : PoS) => ((r1 = 0 → post (-1) u2) ∧ (¬ r1 = 0 → ((9999 < ((gI u2 49 6) + a0) → post (-1) u2) ∧ (¬ 9999 < ((gI u2 49 6) + a0) → wp_X12_arePassed a0 u2 (fun (r3 : Int32) (u4 : PoS) => ((r3 = 0 → post (-1) u4) ∧ (¬ r3 = 0 → post (gI u4 48 25) u4))))))))
theorem np_X12_minute : yX12_minute.cls ≠ "java/lang/invoke/MethodHandle" ∧ yX12_minute.cls ≠ "java/lang/invoke/VarHandle" ∧ (parseMethodDescriptor yX12_minute.desc).map (fun d => d.parameters.length) = some 1 := by decide +kernel
set_option maxHeartbeats 4000000 in
set_option maxRecDepth 100000 in
theorem m_X12_minute (l : Launch) (V : VEn) {a0 : Int32} {u : PoS} {post : Int32 → PoS → Prop} (h : wp_X12_minute a0 u post) : KI l V yX12_minute cX12_minute 2 .int 9 [.ref (eA V 48), .int a0] u post := by
  refine KI_of (by decide) (Nat.le_of_ble_eq_true rfl) (lv := [(0, .ref (eA V 48)), (1, .int a0)]) rfl ?_
  intro p e s m args below meth c C
  rw [wp_X12_minute] at h
  refine a_iload_n C 1 dX12_minute_0 rfl rfl ?_
  refine a_iconst C 1 dX12_minute_1 (by decide) ?_
  refine a_bipush C 60 dX12_minute_2 (by decide) ?_
  refine a_callSi C dX12_minute_4 (m_X12_isIn l V h) bw_1147 bw_1148 bw_123 bw_1149 np_X12_isIn rfl rfl (by decide) (Nat.le_of_ble_eq_true rfl) ⟨Nat.zero_le _, Nat.zero_le _⟩ (fun r1 u2 h => ?_)
  refine a_if_eq C 40 dX12_minute_7 (by decide) (fun c7 => ?_) (fun c7 => ?_)
  · have h := h.1 c7
    refine a_iconst C (-1) dX12_minute_40 (by decide) ?_
    exact a_iret C dX12_minute_41 h
  · have h := h.2 c7
    refine a_aload_n C 0 dX12_minute_10 rfl rfl ?_
    refine a_getr C 0 (r := 49) dX12_minute_11 (by decide) rfl rfl rfl ib_12 (by decide) bw_1022 ?_
    refine a_bipush C 6 dX12_minute_14 (by decide) ?_
    refine b_iald C 6 dX12_minute_16 (by decide) rfl (vp_lit (by decide)) (by decide) ?_
    refine a_iload_n C 1 dX12_minute_17 rfl rfl ?_
    refine a_iadd C dX12_minute_18 ?_
    refine a_sipush C 9999 dX12_minute_19 (by decide) ?_
    refine a_icmp_gt C 40 dX12_minute_22 (by decide) (fun c6 => ?_) (fun c6 => ?_)
    · have h := h.1 c6
      refine a_iconst C (-1) dX12_minute_40 (by decide) ?_
      exact a_iret C dX12_minute_41 h
    · have h := h.2 c6
      refine a_aload_n C 0 dX12_minute_25 rfl rfl ?_
      refine a_iload_n C 1 dX12_minute_26 rfl rfl ?_
      refine a_callVi C dX12_minute_27 (m_X12_arePassed l V h) bw_1379 bw_1381 bw_75 bw_123 bw_1382 (by decide) rfl rfl np_X12_arePassed rfl rfl (by decide) (Nat.le_of_ble_eq_true rfl) ⟨Nat.zero_le _, Nat.zero_le _⟩ (fun r3 u4 h => ?_)
      refine a_if_eq C 40 dX12_minute_30 (by decide) (fun c5 => ?_) (fun c5 => ?_)
      · have h := h.1 c5
        refine a_iconst C (-1) dX12_minute_40 (by decide) ?_
        exact a_iret C dX12_minute_41 h
      · have h := h.2 c5
        refine a_aload_n C 0 dX12_minute_33 rfl rfl ?_
        refine a_geti C 25 dX12_minute_34 (by decide) rfl rfl rfl ib_12 (by decide) bw_1047 ?_
        refine a_goto C 41 dX12_minute_37 (by decide) ?_
        exact a_iret C dX12_minute_41 h

/-! RainOnTheOneModel.isPlayed(I)Z -/
def wp_X12_isPlayed (a0 : Int32) (u : PoS) (post : Int32 → PoS → Prop) : Prop := vp_in (a0 + 1) 2724 ∧ ∀ x1 : Int32, x1 = (gI u 51 (Int32.toNatClampNeg (a0 + 1))) → vp_in (a0 + 2) 2724 ∧ ∀ x2 : Int32, x2 = (gI u 51 (Int32.toNatClampNeg (a0 + 2))) → vp_in a0 2724 ∧ (((gI u 51 (Int32.toNatClampNeg a0)) = 2 → wp_X12_person x1 1 u (fun (r3 : Int32) (u4 : PoS) => ((r3 < 0 → post 0 u4) ∧ (¬ r3 < 0 → post 1 u4)))) ∧ ((gI u 51 (Int32.toNatClampNeg a0)) = 3 → wp_X12_field x2 x1 u (fun (r6 : Int32) (u7 : PoS) => IsB r6 ∧ post r6 u7)) ∧ ((gI u 51 (Int32.toNatClampNeg a0)) = 4 → wp_X12_shed x1 1 u (fun (r8 : Int32) (u9 : PoS) => IsB r8 ∧ post r8 u9)) ∧ ((gI u 51 (Int32.toNatClampNeg a0)) = 5 → wp_X12_walk x1 x2 u (fun (r10 : Int32) (u11 : PoS) => IsB r10 ∧ post r10 u11)) ∧ ((gI u 51 (Int32.toNatClampNeg a0)) = 6 → wp_X12_hat x1 0 u (fun (r12 : Int32) (u13 : PoS) => IsB r12 ∧ post r12 u13)) ∧ ((gI u 51 (Int32.toNatClampNeg a0)) = 7 → wp_X12_hat x1 1 u (fun (r14 : Int32) (u15 : PoS) => IsB r14 ∧ post r14 u15)) ∧ ((gI u 51 (Int32.toNatClampNeg a0)) = 8 → wp_X12_draw u (fun (r16 : Int32) (u17 : PoS) => ((r16 < 0 → post 0 u17) ∧ (¬ r16 < 0 → post 1 u17)))) ∧ ((gI u 51 (Int32.toNatClampNeg a0)) = 9 → wp_X12_arePassed x1 u (fun (r19 : Int32) (u20 : PoS) => IsB r19 ∧ post r19 u20)) ∧ (¬ (gI u 51 (Int32.toNatClampNeg a0)) = 2 → ¬ (gI u 51 (Int32.toNatClampNeg a0)) = 3 → ¬ (gI u 51 (Int32.toNatClampNeg a0)) = 4 → ¬ (gI u 51 (Int32.toNatClampNeg a0)) = 5 → ¬ (gI u 51 (Int32.toNatClampNeg a0)) = 6 → ¬ (gI u 51 (Int32.toNatClampNeg a0)) = 7 → ¬ (gI u 51 (Int32.toNatClampNeg a0)) = 8 → ¬ (gI u 51 (Int32.toNatClampNeg a0)) = 9 → post 1 u))
theorem np_X12_isPlayed : yX12_isPlayed.cls ≠ "java/lang/invoke/MethodHandle" ∧ yX12_isPlayed.cls ≠ "java/lang/invoke/VarHandle" ∧ (parseMethodDescriptor yX12_isPlayed.desc).map (fun d => d.parameters.length) = some 1 := by decide +kernel
set_option maxHeartbeats 4000000 in
set_option maxRecDepth 100000 in
theorem m_X12_isPlayed (l : Launch) (V : VEn) {a0 : Int32} {u : PoS} {post : Int32 → PoS → Prop} (h : wp_X12_isPlayed a0 u post) : KI l V yX12_isPlayed cX12_isPlayed 4 .boolean 9 [.ref (eA V 48), .int a0] u post := by
  refine KI_of (by decide) (Nat.le_of_ble_eq_true rfl) (lv := [(0, .ref (eA V 48)), (1, .int a0)]) rfl ?_
  intro p e s m args below meth c C
  rw [wp_X12_isPlayed] at h
  refine a_aload_n C 0 dX12_isPlayed_0 rfl rfl ?_
  refine a_getr C 2 (r := 51) dX12_isPlayed_1 (by decide) rfl rfl rfl ib_12 (by decide) bw_1024 ?_
  refine a_iload_n C 1 dX12_isPlayed_4 rfl rfl ?_
  refine a_iconst C 1 dX12_isPlayed_5 (by decide) ?_
  refine a_iadd C dX12_isPlayed_6 ?_
  refine b_iald C (Int32.toNatClampNeg (a0 + 1)) dX12_isPlayed_7 (by decide) rfl h.1 rfl ?_
  have h := h.2
  refine a_topi (fun x1 ex1 => ?_)
  have h := h x1 ex1
  refine a_istore_n C [(2, .int x1), (0, .ref (eA V 48)), (1, .int a0)] dX12_isPlayed_8 rfl (by decide) rfl ?_
  refine a_aload_n C 1 dX12_isPlayed_9 rfl rfl ?_
  refine a_getr C 2 (r := 51) dX12_isPlayed_10 (by decide) rfl rfl rfl ib_12 (by decide) bw_1024 ?_
  refine a_iload_n C 2 dX12_isPlayed_13 rfl rfl ?_
  refine a_iconst C 2 dX12_isPlayed_14 (by decide) ?_
  refine a_iadd C dX12_isPlayed_15 ?_
  refine b_iald C (Int32.toNatClampNeg (a0 + 2)) dX12_isPlayed_16 (by decide) rfl h.1 rfl ?_
  have h := h.2
  refine a_topi (fun x2 ex2 => ?_)
  have h := h x2 ex2
  refine a_istore_n C [(3, .int x2), (2, .int x1), (0, .ref (eA V 48)), (1, .int a0)] dX12_isPlayed_17 rfl (by decide) rfl ?_
  refine a_aload_n C 2 dX12_isPlayed_18 rfl rfl ?_
  refine a_getr C 2 (r := 51) dX12_isPlayed_19 (by decide) rfl rfl rfl ib_12 (by decide) bw_1024 ?_
  refine a_iload_n C 3 dX12_isPlayed_22 rfl rfl ?_
  refine b_iald C (Int32.toNatClampNeg a0) dX12_isPlayed_23 (by decide) rfl h.1 rfl ?_
  have h := h.2
  obtain ⟨hs0, hs1, hs2, hs3, hs4, hs5, hs6, hs7, hd0⟩ := h
  by_cases hq0 : (gI u 51 (Int32.toNatClampNeg a0)) = 2
  · have h := hs0 hq0
    refine a_tableIn C (off := 48) 72 dX12_isPlayed_24 (by rw [hq0]; decide) (by rw [hq0]; decide) (by rw [hq0]; decide +kernel) (by decide) ?_
    refine a_aload_n C 2 dX12_isPlayed_72 rfl rfl ?_
    refine a_iload_n C 1 dX12_isPlayed_73 rfl rfl ?_
    refine a_iconst C 1 dX12_isPlayed_74 (by decide) ?_
    refine a_callVi C dX12_isPlayed_75 (m_X12_person l V h) bw_1479 bw_1137 bw_1138 bw_123 bw_1139 (by decide) rfl rfl np_X12_person rfl rfl (by decide) (Nat.le_of_ble_eq_true rfl) ⟨Nat.zero_le _, Nat.zero_le _⟩ (fun r3 u4 h => ?_)
    refine a_if_lt C 85 dX12_isPlayed_78 (by decide) (fun c5 => ?_) (fun c5 => ?_)
    · have h := h.1 c5
      refine a_iconst C 0 dX12_isPlayed_85 (by decide) ?_
      exact a_zret C rfl dX12_isPlayed_86 h
    · have h := h.2 c5
      refine a_iconst C 1 dX12_isPlayed_81 (by decide) ?_
      refine a_goto C 86 dX12_isPlayed_82 (by decide) ?_
      exact a_zret C rfl dX12_isPlayed_86 h
  by_cases hq1 : (gI u 51 (Int32.toNatClampNeg a0)) = 3
  · have h := hs1 hq1
    refine a_tableIn C (off := 63) 87 dX12_isPlayed_24 (by rw [hq1]; decide) (by rw [hq1]; decide) (by rw [hq1]; decide +kernel) (by decide) ?_
    refine a_aload_n C 2 dX12_isPlayed_87 rfl rfl ?_
    refine a_iload_n C 0 dX12_isPlayed_88 rfl rfl ?_
    refine a_iload_n C 1 dX12_isPlayed_89 rfl rfl ?_
    refine a_callVi C dX12_isPlayed_90 (m_X12_field l V h) bw_1480 bw_1163 bw_1164 bw_123 bw_1165 (by decide) rfl rfl np_X12_field rfl rfl (by decide) (Nat.le_of_ble_eq_true rfl) ⟨Nat.zero_le _, Nat.zero_le _⟩ (fun r6 u7 h => ?_)
    exact a_zret C (isB_n h.1) dX12_isPlayed_93 h.2
  by_cases hq2 : (gI u 51 (Int32.toNatClampNeg a0)) = 4
  · have h := hs2 hq2
    refine a_tableIn C (off := 70) 94 dX12_isPlayed_24 (by rw [hq2]; decide) (by rw [hq2]; decide) (by rw [hq2]; decide +kernel) (by decide) ?_
    refine a_aload_n C 2 dX12_isPlayed_94 rfl rfl ?_
    refine a_iload_n C 1 dX12_isPlayed_95 rfl rfl ?_
    refine a_iconst C 1 dX12_isPlayed_96 (by decide) ?_
    refine a_callVi C dX12_isPlayed_97 (m_X12_shed l V h) bw_1481 bw_1167 bw_1168 bw_123 bw_1169 (by decide) rfl rfl np_X12_shed rfl rfl (by decide) (Nat.le_of_ble_eq_true rfl) ⟨Nat.zero_le _, Nat.zero_le _⟩ (fun r8 u9 h => ?_)
    exact a_zret C (isB_n h.1) dX12_isPlayed_100 h.2
  by_cases hq3 : (gI u 51 (Int32.toNatClampNeg a0)) = 5
  · have h := hs3 hq3
    refine a_tableIn C (off := 77) 101 dX12_isPlayed_24 (by rw [hq3]; decide) (by rw [hq3]; decide) (by rw [hq3]; decide +kernel) (by decide) ?_
    refine a_aload_n C 2 dX12_isPlayed_101 rfl rfl ?_
    refine a_iload_n C 1 dX12_isPlayed_102 rfl rfl ?_
    refine a_iload_n C 0 dX12_isPlayed_103 rfl rfl ?_
    refine a_callVi C dX12_isPlayed_104 (m_X12_walk l V h) bw_1482 bw_1335 bw_1336 bw_123 bw_1337 (by decide) rfl rfl np_X12_walk rfl rfl (by decide) (Nat.le_of_ble_eq_true rfl) ⟨Nat.zero_le _, Nat.zero_le _⟩ (fun r10 u11 h => ?_)
    exact a_zret C (isB_n h.1) dX12_isPlayed_107 h.2
  by_cases hq4 : (gI u 51 (Int32.toNatClampNeg a0)) = 6
  · have h := hs4 hq4
    refine a_tableIn C (off := 84) 108 dX12_isPlayed_24 (by rw [hq4]; decide) (by rw [hq4]; decide) (by rw [hq4]; decide +kernel) (by decide) ?_
    refine a_aload_n C 2 dX12_isPlayed_108 rfl rfl ?_
    refine a_iload_n C 1 dX12_isPlayed_109 rfl rfl ?_
    refine a_iconst C 0 dX12_isPlayed_110 (by decide) ?_
    refine a_callVi C dX12_isPlayed_111 (m_X12_hat l V h) bw_1483 bw_1357 bw_1358 bw_123 bw_1359 (by decide) rfl rfl np_X12_hat rfl rfl (by decide) (Nat.le_of_ble_eq_true rfl) ⟨Nat.zero_le _, Nat.zero_le _⟩ (fun r12 u13 h => ?_)
    exact a_zret C (isB_n h.1) dX12_isPlayed_114 h.2
  by_cases hq5 : (gI u 51 (Int32.toNatClampNeg a0)) = 7
  · have h := hs5 hq5
    refine a_tableIn C (off := 91) 115 dX12_isPlayed_24 (by rw [hq5]; decide) (by rw [hq5]; decide) (by rw [hq5]; decide +kernel) (by decide) ?_
    refine a_aload_n C 2 dX12_isPlayed_115 rfl rfl ?_
    refine a_iload_n C 1 dX12_isPlayed_116 rfl rfl ?_
    refine a_iconst C 1 dX12_isPlayed_117 (by decide) ?_
    refine a_callVi C dX12_isPlayed_118 (m_X12_hat l V h) bw_1483 bw_1357 bw_1358 bw_123 bw_1359 (by decide) rfl rfl np_X12_hat rfl rfl (by decide) (Nat.le_of_ble_eq_true rfl) ⟨Nat.zero_le _, Nat.zero_le _⟩ (fun r14 u15 h => ?_)
    exact a_zret C (isB_n h.1) dX12_isPlayed_121 h.2
  by_cases hq6 : (gI u 51 (Int32.toNatClampNeg a0)) = 8
  · have h := hs6 hq6
    refine a_tableIn C (off := 98) 122 dX12_isPlayed_24 (by rw [hq6]; decide) (by rw [hq6]; decide) (by rw [hq6]; decide +kernel) (by decide) ?_
    refine a_aload_n C 2 dX12_isPlayed_122 rfl rfl ?_
    refine a_callVi C dX12_isPlayed_123 (m_X12_draw l V h) bw_1484 bw_1361 bw_1362 bw_123 bw_1363 (by decide) rfl rfl np_X12_draw rfl rfl (by decide) (Nat.le_of_ble_eq_true rfl) ⟨Nat.zero_le _, Nat.zero_le _⟩ (fun r16 u17 h => ?_)
    refine a_if_lt C 133 dX12_isPlayed_126 (by decide) (fun c18 => ?_) (fun c18 => ?_)
    · have h := h.1 c18
      refine a_iconst C 0 dX12_isPlayed_133 (by decide) ?_
      exact a_zret C rfl dX12_isPlayed_134 h
    · have h := h.2 c18
      refine a_iconst C 1 dX12_isPlayed_129 (by decide) ?_
      refine a_goto C 134 dX12_isPlayed_130 (by decide) ?_
      exact a_zret C rfl dX12_isPlayed_134 h
  by_cases hq7 : (gI u 51 (Int32.toNatClampNeg a0)) = 9
  · have h := hs7 hq7
    refine a_tableIn C (off := 111) 135 dX12_isPlayed_24 (by rw [hq7]; decide) (by rw [hq7]; decide) (by rw [hq7]; decide +kernel) (by decide) ?_
    refine a_aload_n C 2 dX12_isPlayed_135 rfl rfl ?_
    refine a_iload_n C 1 dX12_isPlayed_136 rfl rfl ?_
    refine a_callVi C dX12_isPlayed_137 (m_X12_arePassed l V h) bw_1379 bw_1381 bw_75 bw_123 bw_1382 (by decide) rfl rfl np_X12_arePassed rfl rfl (by decide) (Nat.le_of_ble_eq_true rfl) ⟨Nat.zero_le _, Nat.zero_le _⟩ (fun r19 u20 h => ?_)
    exact a_zret C (isB_n h.1) dX12_isPlayed_140 h.2
  have h := hd0 hq0 hq1 hq2 hq3 hq4 hq5 hq6 hq7
  refine a_tableOut C 141 dX12_isPlayed_24 (tsw_out 2 9 (fun q h1 h2 => by rcases (show q = 2 ∨ q = 3 ∨ q = 4 ∨ q = 5 ∨ q = 6 ∨ q = 7 ∨ q = 8 ∨ q = 9 by omega) with rfl | rfl | rfl | rfl | rfl | rfl | rfl | rfl <;> first | exact lv_neT hq0 (by decide) | exact lv_neT hq1 (by decide) | exact lv_neT hq2 (by decide) | exact lv_neT hq3 (by decide) | exact lv_neT hq4 (by decide) | exact lv_neT hq5 (by decide) | exact lv_neT hq6 (by decide) | exact lv_neT hq7 (by decide))) (by decide) ?_
  refine a_iconst C 1 dX12_isPlayed_141 (by decide) ?_
  exact a_zret C rfl dX12_isPlayed_142 h

/-! RainOnTheOneModel.played(I)I -/
def wl_X12_played_21 (post : Int32 → PoS → Prop) : Nat → Int32 → Int32 → PoS → Prop
  | 0, _, _, _ => False
  | n + 1, v1, v2, u => vp_in (681 * v1) 2724 ∧ (((gI u 51 (Int32.toNatClampNeg (681 * v1))) ≤ v2 → post (-1) u) ∧ (¬ (gI u 51 (Int32.toNatClampNeg (681 * v1))) ≤ v2 → wp_X12_isPlayed (((681 * v1) + 1) + (3 * v2)) u (fun (r3 : Int32) (u4 : PoS) => ((¬ r3 = 0 → wl_X12_played_21 post n v1 (v2 + 1) u4) ∧ (r3 = 0 → post v2 u4)))))
def wp_X12_played (a0 : Int32) (u : PoS) (post : Int32 → PoS → Prop) : Prop := wp_X12_isIn a0 0 ((gI u 49 1) - 1) u (fun (r1 : Int32) (u2 : PoS) => ((¬ r1 = 0 → (∃ n21, wl_X12_played_21 post n21 a0 0 u2)) ∧ (r1 = 0 → post (-2) u2)))
set_option maxHeartbeats 4000000 in
set_option maxRecDepth 100000 in
theorem tl_X12_played_21 {p : Program} {l : Launch} {e : Env} {s : State} {m : MethodId} {args : Array Value} {below : List Frame} {meth : Method} {c : Code} {V : VEn} {post : Int32 → PoS → Prop} (C : CxS p s m args meth c V cX12_played 3 RX12 (some .int)) : ∀ (n : Nat) (v1 : Int32) (v2 : Int32) (u : PoS), wl_X12_played_21 post n v1 v2 u → AtS p l e (Rm 10) s m args below meth c V 3 0 0 (QI V below args s post) 21 [(0, .ref (eA V 48)), (1, .int v1), (2, .int v2)] [] u := by
  intro n
  induction n with
  | zero => intro v1 v2 u h; exact h.elim
  | succ n ih =>
    intro v1 v2 u h
    rw [wl_X12_played_21] at h
    refine a_iload_n C 2 dX12_played_21 rfl rfl ?_
    refine a_aload_n C 0 dX12_played_22 rfl rfl ?_
    refine a_getr C 2 (r := 51) dX12_played_23 (by decide) rfl rfl rfl ib_12 (by decide) bw_1024 ?_
    refine a_sipush C 681 dX12_played_26 (by decide) ?_
    refine a_iload_n C 1 dX12_played_29 rfl rfl ?_
    refine a_imul C dX12_played_30 ?_
    refine b_iald C (Int32.toNatClampNeg (681 * v1)) dX12_played_31 (by decide) rfl h.1 rfl ?_
    have h := h.2
    refine a_icmp_ge C 61 dX12_played_32 (by decide) (fun c6 => ?_) (fun c6 => ?_)
    · have h := h.1 c6
      refine a_iconst C (-1) dX12_played_61 (by decide) ?_
      exact a_iret C dX12_played_62 h
    · have h := h.2 c6
      refine a_aload_n C 0 dX12_played_35 rfl rfl ?_
      refine a_sipush C 681 dX12_played_36 (by decide) ?_
      refine a_iload_n C 1 dX12_played_39 rfl rfl ?_
      refine a_imul C dX12_played_40 ?_
      refine a_iconst C 1 dX12_played_41 (by decide) ?_
      refine a_iadd C dX12_played_42 ?_
      refine a_iconst C 3 dX12_played_43 (by decide) ?_
      refine a_iload_n C 2 dX12_played_44 rfl rfl ?_
      refine a_imul C dX12_played_45 ?_
      refine a_iadd C dX12_played_46 ?_
      refine a_callVi C dX12_played_47 (m_X12_isPlayed l V h) bw_1475 bw_1477 bw_91 bw_123 bw_1478 (by decide) rfl rfl np_X12_isPlayed rfl rfl (by decide) (Nat.le_of_ble_eq_true rfl) ⟨Nat.zero_le _, Nat.zero_le _⟩ (fun r3 u4 h => ?_)
      refine a_if_ne C 55 dX12_played_50 (by decide) (fun c5 => ?_) (fun c5 => ?_)
      · have h := h.1 c5
        refine a_iinc C (v2 + 1) 2 [(2, .int (v2 + 1)), (0, .ref (eA V 48)), (1, .int v1)] dX12_played_55 rfl (congrArg (fun z => v2 + z) (show Int32.ofInt 1 = 1 by decide)) (by decide) rfl ?_
        refine a_goto C 21 dX12_played_58 (by decide) ?_
        refine a_sub [1, 2, 0] rfl ?_
        exact ih _ _ _ h
      · have h := h.2 c5
        refine a_iload_n C 2 dX12_played_53 rfl rfl ?_
        exact a_iret C dX12_played_54 h
theorem np_X12_played : yX12_played.cls ≠ "java/lang/invoke/MethodHandle" ∧ yX12_played.cls ≠ "java/lang/invoke/VarHandle" ∧ (parseMethodDescriptor yX12_played.desc).map (fun d => d.parameters.length) = some 1 := by decide +kernel
set_option maxHeartbeats 4000000 in
set_option maxRecDepth 100000 in
theorem m_X12_played (l : Launch) (V : VEn) {a0 : Int32} {u : PoS} {post : Int32 → PoS → Prop} (h : wp_X12_played a0 u post) : KI l V yX12_played cX12_played 3 .int 10 [.ref (eA V 48), .int a0] u post := by
  refine KI_of (by decide) (Nat.le_of_ble_eq_true rfl) (lv := [(0, .ref (eA V 48)), (1, .int a0)]) rfl ?_
  intro p e s m args below meth c C
  rw [wp_X12_played] at h
  refine a_iload_n C 1 dX12_played_0 rfl rfl ?_
  refine a_iconst C 0 dX12_played_1 (by decide) ?_
  refine a_aload_n C 0 dX12_played_2 rfl rfl ?_
  refine a_getr C 0 (r := 49) dX12_played_3 (by decide) rfl rfl rfl ib_12 (by decide) bw_1022 ?_
  refine a_iconst C 1 dX12_played_6 (by decide) ?_
  refine b_iald C 1 dX12_played_7 (by decide) rfl (vp_lit (by decide)) (by decide) ?_
  refine a_iconst C 1 dX12_played_8 (by decide) ?_
  refine a_isub C dX12_played_9 ?_
  refine a_callSi C dX12_played_10 (m_X12_isIn l V h) bw_1147 bw_1148 bw_123 bw_1149 np_X12_isIn rfl rfl (by decide) (Nat.le_of_ble_eq_true rfl) ⟨Nat.zero_le _, Nat.zero_le _⟩ (fun r1 u2 h => ?_)
  refine a_if_ne C 19 dX12_played_13 (by decide) (fun c7 => ?_) (fun c7 => ?_)
  · have h := h.1 c7
    refine a_iconst C 0 dX12_played_19 (by decide) ?_
    refine a_istore_n C [(2, .int 0), (0, .ref (eA V 48)), (1, .int a0)] dX12_played_20 rfl (by decide) rfl ?_
    refine a_sub [1, 2, 0] rfl ?_
    obtain ⟨n21, h⟩ := h
    refine tl_X12_played_21 C n21 _ _ _ h
  · have h := h.2 c7
    refine a_bipush C (-2) dX12_played_16 (by decide) ?_
    exact a_iret C dX12_played_18 h

/-! RainOnTheOneModel.happens(I)V -/
def wj_X12_happens_67 (post : PoS → Prop) (s0 : Int32) (s1 : Int32) (s2 : Int32) (u : PoS) : Prop := wp_X12_put s2 s1 s0 u (fun (u12 : PoS) => post u12)
def wp_X12_happens (a0 : Int32) (u : PoS) (post : PoS → Prop) : Prop := (((irem a0 6) ≤ 2 → ((¬ (gI u 49 0) = 0 → ¬ (gI u 49 0) = 0 ∧ ∀ x1 : Int32, x1 = (irem a0 (gI u 49 0)) → ((¬ (irem a0 6) = 2 → wp_X12_get x1 0 u (fun (r2 : Int32) (u3 : PoS) => wp_X12_sideOf r2 (irem (a0 / 6) 4) u3 (fun (r4 : Int32) (u5 : PoS) => wp_X12_isFree r4 u5 (fun (r6 : Int32) (u7 : PoS) => ((r6 = 0 → post u7) ∧ (¬ r6 = 0 → wp_X12_put x1 0 r4 u7 (fun (u9 : PoS) => post u9))))))) ∧ ((irem a0 6) = 2 → (((irem a0 4) ≤ 0 → wj_X12_happens_67 post 0 1 x1 u) ∧ (¬ (irem a0 4) ≤ 0 → wj_X12_happens_67 post 1 1 x1 u))))) ∧ ((gI u 49 0) = 0 → post u))) ∧ (¬ (irem a0 6) ≤ 2 → ((9999 ≤ (gI u 49 6) → post u) ∧ (¬ 9999 ≤ (gI u 49 6) → wp_X12_pass u (fun (u17 : PoS) => post u17)))))
set_option maxHeartbeats 4000000 in
set_option maxRecDepth 100000 in
theorem tj_X12_happens_67 {p : Program} {l : Launch} {e : Env} {s : State} {m : MethodId} {args : Array Value} {below : List Frame} {meth : Method} {c : Code} {V : VEn} {post : PoS → Prop} (C : CxS p s m args meth c V cX12_happens 4 RX12 none) (s0 : Int32) (s1 : Int32) (s2 : Int32) (u : PoS) (h : wj_X12_happens_67 post s0 s1 s2 u) : AtS p l e (Rm 8) s m args below meth c V 4 0 0 (QV V below args s post) 67 [] [.int s0, .int s1, .int s2, .ref (eA V 48)] u := by
  rw [wj_X12_happens_67] at h
  refine a_callVv C dX12_happens_67 (m_X12_put l V h) bw_1150 bw_1152 bw_40 bw_123 bw_1153 (by decide) rfl rfl np_X12_put rfl rfl (by decide) (Nat.le_of_ble_eq_true rfl) ⟨Nat.zero_le _, Nat.zero_le _⟩ (fun u12 h => ?_)
  exact a_vret C dX12_happens_70 h
theorem np_X12_happens : yX12_happens.cls ≠ "java/lang/invoke/MethodHandle" ∧ yX12_happens.cls ≠ "java/lang/invoke/VarHandle" ∧ (parseMethodDescriptor yX12_happens.desc).map (fun d => d.parameters.length) = some 1 := by decide +kernel
set_option maxHeartbeats 4000000 in
set_option maxRecDepth 100000 in
theorem m_X12_happens (l : Launch) (V : VEn) {a0 : Int32} {u : PoS} {post : PoS → Prop} (h : wp_X12_happens a0 u post) : KV l V yX12_happens cX12_happens 4 8 [.ref (eA V 48), .int a0] u post := by
  refine KV_of (by decide) (Nat.le_of_ble_eq_true rfl) (lv := [(0, .ref (eA V 48)), (1, .int a0)]) rfl ?_
  intro p e s m args below meth c C
  rw [wp_X12_happens] at h
  refine a_iload_n C 1 dX12_happens_0 rfl rfl ?_
  refine a_bipush C 6 dX12_happens_1 (by decide) ?_
  refine b_irem C dX12_happens_3 (by decide) ?_
  refine a_iconst C 2 dX12_happens_4 (by decide) ?_
  refine a_icmp_le C 26 dX12_happens_5 (by decide) (fun c19 => ?_) (fun c19 => ?_)
  · have h := h.1 c19
    refine a_aload_n C 0 dX12_happens_26 rfl rfl ?_
    refine a_getr C 0 (r := 49) dX12_happens_27 (by decide) rfl rfl rfl ib_12 (by decide) bw_1022 ?_
    refine a_iconst C 0 dX12_happens_30 (by decide) ?_
    refine b_iald C 0 dX12_happens_31 (by decide) rfl (vp_lit (by decide)) (by decide) ?_
    refine a_if_ne C 36 dX12_happens_32 (by decide) (fun c15 => ?_) (fun c15 => ?_)
    · have h := h.1 c15
      refine a_iload_n C 1 dX12_happens_36 rfl rfl ?_
      refine a_aload_n C 0 dX12_happens_37 rfl rfl ?_
      refine a_getr C 0 (r := 49) dX12_happens_38 (by decide) rfl rfl rfl ib_12 (by decide) bw_1022 ?_
      refine a_iconst C 0 dX12_happens_41 (by decide) ?_
      refine b_iald C 0 dX12_happens_42 (by decide) rfl (vp_lit (by decide)) (by decide) ?_
      refine b_irem C dX12_happens_43 h.1 ?_
      have h := h.2
      refine a_topi (fun x1 ex1 => ?_)
      have h := h x1 ex1
      refine a_istore_n C [(2, .int x1), (0, .ref (eA V 48)), (1, .int a0)] dX12_happens_44 rfl (by decide) rfl ?_
      refine a_iload_n C 2 dX12_happens_45 rfl rfl ?_
      refine a_bipush C 6 dX12_happens_46 (by decide) ?_
      refine b_irem C dX12_happens_48 (by decide) ?_
      refine a_iconst C 2 dX12_happens_49 (by decide) ?_
      refine a_icmp_ne C 71 dX12_happens_50 (by decide) (fun c14 => ?_) (fun c14 => ?_)
      · have h := h.1 c14
        refine a_aload_n C 1 dX12_happens_71 rfl rfl ?_
        refine a_iload_n C 0 dX12_happens_72 rfl rfl ?_
        refine a_iconst C 0 dX12_happens_73 (by decide) ?_
        refine a_callVi C dX12_happens_74 (m_X12_get l V h) bw_1158 bw_1160 bw_42 bw_123 bw_1161 (by decide) rfl rfl np_X12_get rfl rfl (by decide) (Nat.le_of_ble_eq_true rfl) ⟨Nat.zero_le _, Nat.zero_le _⟩ (fun r2 u3 h => ?_)
        refine a_iload_n C 2 dX12_happens_77 rfl rfl ?_
        refine a_bipush C 6 dX12_happens_78 (by decide) ?_
        refine a_idiv C dX12_happens_80 (by decide) ?_
        refine a_iconst C 4 dX12_happens_81 (by decide) ?_
        refine b_irem C dX12_happens_82 (by decide) ?_
        refine a_callSi C dX12_happens_83 (m_X12_sideOf l V h) bw_1349 bw_1350 bw_123 bw_1351 np_X12_sideOf rfl rfl (by decide) (Nat.le_of_ble_eq_true rfl) ⟨Nat.zero_le _, Nat.zero_le _⟩ (fun r4 u5 h => ?_)
        refine a_istore_n C [(3, .int r4), (2, .int x1), (0, .ref (eA V 48)), (1, .int a0)] dX12_happens_86 rfl (by decide) rfl ?_
        refine a_aload_n C 2 dX12_happens_87 rfl rfl ?_
        refine a_iload_n C 0 dX12_happens_88 rfl rfl ?_
        refine a_callVi C dX12_happens_89 (m_X12_isFree l V h) bw_1140 bw_1142 bw_39 bw_123 bw_1143 (by decide) rfl rfl np_X12_isFree rfl rfl (by decide) (Nat.le_of_ble_eq_true rfl) ⟨Nat.zero_le _, Nat.zero_le _⟩ (fun r6 u7 h => ?_)
        refine a_if_eq C 102 dX12_happens_92 (by decide) (fun c10 => ?_) (fun c10 => ?_)
        · have h := h.1 c10
          exact a_vret C dX12_happens_102 h
        · have h := h.2 c10
          refine a_aload_n C 2 dX12_happens_95 rfl rfl ?_
          refine a_iload_n C 1 dX12_happens_96 rfl rfl ?_
          refine a_iconst C 0 dX12_happens_97 (by decide) ?_
          refine a_iload_n C 0 dX12_happens_98 rfl rfl ?_
          refine a_callVv C dX12_happens_99 (m_X12_put l V h) bw_1150 bw_1152 bw_40 bw_123 bw_1153 (by decide) rfl rfl np_X12_put rfl rfl (by decide) (Nat.le_of_ble_eq_true rfl) ⟨Nat.zero_le _, Nat.zero_le _⟩ (fun u9 h => ?_)
          exact a_vret C dX12_happens_102 h
      · have h := h.2 c14
        refine a_aload_n C 1 dX12_happens_53 rfl rfl ?_
        refine a_iload_n C 0 dX12_happens_54 rfl rfl ?_
        refine a_iconst C 1 dX12_happens_55 (by decide) ?_
        refine a_iload_n C 2 dX12_happens_56 rfl rfl ?_
        refine a_iconst C 4 dX12_happens_57 (by decide) ?_
        refine b_irem C dX12_happens_58 (by decide) ?_
        refine a_if_le C 66 dX12_happens_59 (by decide) (fun c13 => ?_) (fun c13 => ?_)
        · have h := h.1 c13
          refine a_iconst C 0 dX12_happens_66 (by decide) ?_
          refine a_sub [] rfl ?_
          refine tj_X12_happens_67 C _ _ _ _ h
        · have h := h.2 c13
          refine a_iconst C 1 dX12_happens_62 (by decide) ?_
          refine a_goto C 67 dX12_happens_63 (by decide) ?_
          refine a_sub [] rfl ?_
          refine tj_X12_happens_67 C _ _ _ _ h
    · have h := h.2 c15
      exact a_vret C dX12_happens_35 h
  · have h := h.2 c19
    refine a_aload_n C 0 dX12_happens_8 rfl rfl ?_
    refine a_getr C 0 (r := 49) dX12_happens_9 (by decide) rfl rfl rfl ib_12 (by decide) bw_1022 ?_
    refine a_bipush C 6 dX12_happens_12 (by decide) ?_
    refine b_iald C 6 dX12_happens_14 (by decide) rfl (vp_lit (by decide)) (by decide) ?_
    refine a_sipush C 9999 dX12_happens_15 (by decide) ?_
    refine a_icmp_ge C 25 dX12_happens_18 (by decide) (fun c18 => ?_) (fun c18 => ?_)
    · have h := h.1 c18
      exact a_vret C dX12_happens_25 h
    · have h := h.2 c18
      refine a_aload_n C 0 dX12_happens_21 rfl rfl ?_
      refine a_callVv C dX12_happens_22 (m_X12_pass l V h) bw_1383 bw_1385 bw_76 bw_123 bw_1386 (by decide) rfl rfl np_X12_pass rfl rfl (by decide) (Nat.le_of_ble_eq_true rfl) ⟨Nat.zero_le _, Nat.zero_le _⟩ (fun u17 h => ?_)
      exact a_vret C dX12_happens_25 h

/-! RainOnTheOneModel.years(II)I -/
def wl_X12_years_43 (post : Int32 → PoS → Prop) : Nat → Int32 → Int32 → PoS → Prop
  | 0, _, _, _ => False
  | n + 1, v2, v3, u => ((v2 ≤ v3 → post (gI u 49 6) u) ∧ (¬ v2 ≤ v3 → ∀ x8 : Int32, x8 = (gI u 49 8) → wp_X12_anew u (fun (u10 : PoS) => wp_X12_happens x8 u10 (fun (u12 : PoS) => wl_X12_years_43 post n v2 (v3 + 1) u12))))
def wp_X12_years (a0 : Int32) (a1 : Int32) (u : PoS) (post : Int32 → PoS → Prop) : Prop := wp_X12_isIn a0 0 9999 u (fun (r1 : Int32) (u2 : PoS) => ((r1 = 0 → post (-1) u2) ∧ (¬ r1 = 0 → wp_X12_isIn a1 1 40 u2 (fun (r3 : Int32) (u4 : PoS) => ((¬ r3 = 0 → wp_X12_keep u4 (fun (u6 : PoS) => ∀ z7 : PoS, z7 = pI u6 49 8 ((a0 * 2) + 241) → (∃ n43, wl_X12_years_43 post n43 a1 0 z7))) ∧ (r3 = 0 → post (-1) u4))))))
set_option maxHeartbeats 4000000 in
set_option maxRecDepth 100000 in
theorem tl_X12_years_43 {p : Program} {l : Launch} {e : Env} {s : State} {m : MethodId} {args : Array Value} {below : List Frame} {meth : Method} {c : Code} {V : VEn} {post : Int32 → PoS → Prop} (C : CxS p s m args meth c V cX12_years 5 RX12 (some .int)) : ∀ (n : Nat) (v2 : Int32) (v3 : Int32) (u : PoS), wl_X12_years_43 post n v2 v3 u → AtS p l e (Rm 9) s m args below meth c V 5 0 0 (QI V below args s post) 43 [(0, .ref (eA V 48)), (2, .int v2), (3, .int v3)] [] u := by
  intro n
  induction n with
  | zero => intro v2 v3 u h; exact h.elim
  | succ n ih =>
    intro v2 v3 u h
    rw [wl_X12_years_43] at h
    refine a_iload_n C 2 dX12_years_43 rfl rfl ?_
    refine a_iload_n C 1 dX12_years_44 rfl rfl ?_
    refine a_icmp_ge C 73 dX12_years_45 (by decide) (fun c13 => ?_) (fun c13 => ?_)
    · have h := h.1 c13
      refine a_aload_n C 0 dX12_years_73 rfl rfl ?_
      refine a_getr C 0 (r := 49) dX12_years_74 (by decide) rfl rfl rfl ib_12 (by decide) bw_1022 ?_
      refine a_bipush C 6 dX12_years_77 (by decide) ?_
      refine b_iald C 6 dX12_years_79 (by decide) rfl (vp_lit (by decide)) (by decide) ?_
      exact a_iret C dX12_years_80 h
    · have h := h.2 c13
      refine a_aload_n C 0 dX12_years_48 rfl rfl ?_
      refine a_getr C 0 (r := 49) dX12_years_49 (by decide) rfl rfl rfl ib_12 (by decide) bw_1022 ?_
      refine a_bipush C 8 dX12_years_52 (by decide) ?_
      refine b_iald C 8 dX12_years_54 (by decide) rfl (vp_lit (by decide)) (by decide) ?_
      refine a_topi (fun x8 ex8 => ?_)
      have h := h x8 ex8
      refine a_istore C [(4, .int x8), (0, .ref (eA V 48)), (2, .int v2), (3, .int v3)] dX12_years_55 (by decide) rfl ?_
      refine a_aload_n C 1 dX12_years_57 rfl rfl ?_
      refine a_callVv C dX12_years_58 (m_X12_anew l V h) bw_1368 bw_1370 bw_74 bw_123 bw_1371 (by decide) rfl rfl np_X12_anew rfl rfl (by decide) (Nat.le_of_ble_eq_true rfl) ⟨Nat.zero_le _, Nat.zero_le _⟩ (fun u10 h => ?_)
      refine a_aload_n C 1 dX12_years_61 rfl rfl ?_
      refine a_iload C 0 dX12_years_62 rfl ?_
      refine a_callVv C dX12_years_64 (m_X12_happens l V h) bw_1489 bw_1491 bw_92 bw_123 bw_1492 (by decide) rfl rfl np_X12_happens rfl rfl (by decide) (Nat.le_of_ble_eq_true rfl) ⟨Nat.zero_le _, Nat.zero_le _⟩ (fun u12 h => ?_)
      refine a_iinc C (v3 + 1) 3 [(3, .int (v3 + 1)), (4, .int x8), (0, .ref (eA V 48)), (2, .int v2)] dX12_years_67 rfl (congrArg (fun z => v3 + z) (show Int32.ofInt 1 = 1 by decide)) (by decide) rfl ?_
      refine a_goto C 43 dX12_years_70 (by decide) ?_
      refine a_sub [2, 3, 0] rfl ?_
      exact ih _ _ _ h
theorem np_X12_years : yX12_years.cls ≠ "java/lang/invoke/MethodHandle" ∧ yX12_years.cls ≠ "java/lang/invoke/VarHandle" ∧ (parseMethodDescriptor yX12_years.desc).map (fun d => d.parameters.length) = some 2 := by decide +kernel
set_option maxHeartbeats 4000000 in
set_option maxRecDepth 100000 in
theorem m_X12_years (l : Launch) (V : VEn) {a0 : Int32} {a1 : Int32} {u : PoS} {post : Int32 → PoS → Prop} (h : wp_X12_years a0 a1 u post) : KI l V yX12_years cX12_years 5 .int 9 [.ref (eA V 48), .int a0, .int a1] u post := by
  refine KI_of (by decide) (Nat.le_of_ble_eq_true rfl) (lv := [(0, .ref (eA V 48)), (1, .int a0), (2, .int a1)]) rfl ?_
  intro p e s m args below meth c C
  rw [wp_X12_years] at h
  refine a_iload_n C 1 dX12_years_0 rfl rfl ?_
  refine a_iconst C 0 dX12_years_1 (by decide) ?_
  refine a_sipush C 9999 dX12_years_2 (by decide) ?_
  refine a_callSi C dX12_years_5 (m_X12_isIn l V h) bw_1147 bw_1148 bw_123 bw_1149 np_X12_isIn rfl rfl (by decide) (Nat.le_of_ble_eq_true rfl) ⟨Nat.zero_le _, Nat.zero_le _⟩ (fun r1 u2 h => ?_)
  refine a_if_eq C 21 dX12_years_8 (by decide) (fun c15 => ?_) (fun c15 => ?_)
  · have h := h.1 c15
    refine a_iconst C (-1) dX12_years_21 (by decide) ?_
    exact a_iret C dX12_years_22 h
  · have h := h.2 c15
    refine a_iload_n C 2 dX12_years_11 rfl rfl ?_
    refine a_iconst C 1 dX12_years_12 (by decide) ?_
    refine a_bipush C 40 dX12_years_13 (by decide) ?_
    refine a_callSi C dX12_years_15 (m_X12_isIn l V h) bw_1147 bw_1148 bw_123 bw_1149 np_X12_isIn rfl rfl (by decide) (Nat.le_of_ble_eq_true rfl) ⟨Nat.zero_le _, Nat.zero_le _⟩ (fun r3 u4 h => ?_)
    refine a_if_ne C 23 dX12_years_18 (by decide) (fun c14 => ?_) (fun c14 => ?_)
    · have h := h.1 c14
      refine a_aload_n C 0 dX12_years_23 rfl rfl ?_
      refine a_callVv C dX12_years_24 (m_X12_keep l V h) bw_1352 bw_1354 bw_72 bw_123 bw_1355 (by decide) rfl rfl np_X12_keep rfl rfl (by decide) (Nat.le_of_ble_eq_true rfl) ⟨Nat.zero_le _, Nat.zero_le _⟩ (fun u6 h => ?_)
      refine a_aload_n C 0 dX12_years_27 rfl rfl ?_
      refine a_getr C 0 (r := 49) dX12_years_28 (by decide) rfl rfl rfl ib_12 (by decide) bw_1022 ?_
      refine a_bipush C 8 dX12_years_31 (by decide) ?_
      refine a_iload_n C 1 dX12_years_33 rfl rfl ?_
      refine a_iconst C 2 dX12_years_34 (by decide) ?_
      refine a_imul C dX12_years_35 ?_
      refine a_sipush C 241 dX12_years_36 (by decide) ?_
      refine a_iadd C dX12_years_39 ?_
      refine b_iast C 8 dX12_years_40 (by decide) rfl (vp_lit (by decide)) (by decide) ?_
      refine a_topu (fun z7 ez7 => ?_)
      have h := h z7 ez7
      refine a_iconst C 0 dX12_years_41 (by decide) ?_
      refine a_istore_n C [(3, .int 0), (0, .ref (eA V 48)), (1, .int a0), (2, .int a1)] dX12_years_42 rfl (by decide) rfl ?_
      refine a_sub [1, 3, 0] rfl ?_
      obtain ⟨n43, h⟩ := h
      refine tl_X12_years_43 C n43 _ _ _ h
    · have h := h.2 c14
      refine a_iconst C (-1) dX12_years_21 (by decide) ?_
      exact a_iret C dX12_years_22 h

/-! RainOnTheOneModel.of(II)I -/
def wp_X12_of (a0 : Int32) (a1 : Int32) (u : PoS) (post : Int32 → PoS → Prop) : Prop := wp_X12_isPerson a0 u (fun (r1 : Int32) (u2 : PoS) => ((¬ r1 = 0 → wp_X12_isIn a1 0 3 u2 (fun (r3 : Int32) (u4 : PoS) => ((r3 = 0 → ((¬ a1 = 4 → ((¬ a1 = 5 → post (-1) u4) ∧ (a1 = 5 → wp_X12_poursOf a0 u4 (fun (r5 : Int32) (u6 : PoS) => post r5 u6)))) ∧ (a1 = 4 → wp_X12_wantsOf (gI u4 49 2) a0 u4 (fun (r8 : Int32) (u9 : PoS) => post r8 u9)))) ∧ (¬ r3 = 0 → wp_X12_get a0 a1 u4 (fun (r11 : Int32) (u12 : PoS) => post r11 u12))))) ∧ (r1 = 0 → post (-1) u2)))
theorem np_X12_of : yX12_of.cls ≠ "java/lang/invoke/MethodHandle" ∧ yX12_of.cls ≠ "java/lang/invoke/VarHandle" ∧ (parseMethodDescriptor yX12_of.desc).map (fun d => d.parameters.length) = some 2 := by decide +kernel
set_option maxHeartbeats 4000000 in
set_option maxRecDepth 100000 in
theorem m_X12_of (l : Launch) (V : VEn) {a0 : Int32} {a1 : Int32} {u : PoS} {post : Int32 → PoS → Prop} (h : wp_X12_of a0 a1 u post) : KI l V yX12_of cX12_of 3 .int 6 [.ref (eA V 48), .int a0, .int a1] u post := by
  refine KI_of (by decide) (Nat.le_of_ble_eq_true rfl) (lv := [(0, .ref (eA V 48)), (1, .int a0), (2, .int a1)]) rfl ?_
  intro p e s m args below meth c C
  rw [wp_X12_of] at h
  refine a_aload_n C 0 dX12_of_0 rfl rfl ?_
  refine a_iload_n C 1 dX12_of_1 rfl rfl ?_
  refine a_callVi C dX12_of_2 (m_X12_isPerson l V h) bw_1342 bw_1344 bw_71 bw_123 bw_1345 (by decide) rfl rfl np_X12_isPerson rfl rfl (by decide) (Nat.le_of_ble_eq_true rfl) ⟨Nat.zero_le _, Nat.zero_le _⟩ (fun r1 u2 h => ?_)
  refine a_if_ne C 10 dX12_of_5 (by decide) (fun c14 => ?_) (fun c14 => ?_)
  · have h := h.1 c14
    refine a_iload_n C 2 dX12_of_10 rfl rfl ?_
    refine a_iconst C 0 dX12_of_11 (by decide) ?_
    refine a_iconst C 3 dX12_of_12 (by decide) ?_
    refine a_callSi C dX12_of_13 (m_X12_isIn l V h) bw_1147 bw_1148 bw_123 bw_1149 np_X12_isIn rfl rfl (by decide) (Nat.le_of_ble_eq_true rfl) ⟨Nat.zero_le _, Nat.zero_le _⟩ (fun r3 u4 h => ?_)
    refine a_if_eq C 28 dX12_of_16 (by decide) (fun c13 => ?_) (fun c13 => ?_)
    · have h := h.1 c13
      refine a_iload_n C 2 dX12_of_28 rfl rfl ?_
      refine a_iconst C 4 dX12_of_29 (by decide) ?_
      refine a_icmp_ne C 47 dX12_of_30 (by decide) (fun c10 => ?_) (fun c10 => ?_)
      · have h := h.1 c10
        refine a_iload_n C 2 dX12_of_47 rfl rfl ?_
        refine a_iconst C 5 dX12_of_48 (by decide) ?_
        refine a_icmp_ne C 60 dX12_of_49 (by decide) (fun c7 => ?_) (fun c7 => ?_)
        · have h := h.1 c7
          refine a_iconst C (-1) dX12_of_60 (by decide) ?_
          exact a_iret C dX12_of_61 h
        · have h := h.2 c7
          refine a_aload_n C 0 dX12_of_52 rfl rfl ?_
          refine a_iload_n C 1 dX12_of_53 rfl rfl ?_
          refine a_callVi C dX12_of_54 (m_X12_poursOf l V h) bw_1455 bw_1457 bw_87 bw_123 bw_1458 (by decide) rfl rfl np_X12_poursOf rfl rfl (by decide) (Nat.le_of_ble_eq_true rfl) ⟨Nat.zero_le _, Nat.zero_le _⟩ (fun r5 u6 h => ?_)
          refine a_goto C 61 dX12_of_57 (by decide) ?_
          exact a_iret C dX12_of_61 h
      · have h := h.2 c10
        refine a_aload_n C 0 dX12_of_33 rfl rfl ?_
        refine a_aload_n C 0 dX12_of_34 rfl rfl ?_
        refine a_getr C 0 (r := 49) dX12_of_35 (by decide) rfl rfl rfl ib_12 (by decide) bw_1022 ?_
        refine a_iconst C 2 dX12_of_38 (by decide) ?_
        refine b_iald C 2 dX12_of_39 (by decide) rfl (vp_lit (by decide)) (by decide) ?_
        refine a_iload_n C 1 dX12_of_40 rfl rfl ?_
        refine a_callVi C dX12_of_41 (m_X12_wantsOf l V h) bw_1409 bw_1411 bw_81 bw_123 bw_1412 (by decide) rfl rfl np_X12_wantsOf rfl rfl (by decide) (Nat.le_of_ble_eq_true rfl) ⟨Nat.zero_le _, Nat.zero_le _⟩ (fun r8 u9 h => ?_)
        refine a_goto C 61 dX12_of_44 (by decide) ?_
        exact a_iret C dX12_of_61 h
    · have h := h.2 c13
      refine a_aload_n C 0 dX12_of_19 rfl rfl ?_
      refine a_iload_n C 1 dX12_of_20 rfl rfl ?_
      refine a_iload_n C 2 dX12_of_21 rfl rfl ?_
      refine a_callVi C dX12_of_22 (m_X12_get l V h) bw_1158 bw_1160 bw_42 bw_123 bw_1161 (by decide) rfl rfl np_X12_get rfl rfl (by decide) (Nat.le_of_ble_eq_true rfl) ⟨Nat.zero_le _, Nat.zero_le _⟩ (fun r11 u12 h => ?_)
      refine a_goto C 61 dX12_of_25 (by decide) ?_
      exact a_iret C dX12_of_61 h
  · have h := h.2 c14
    refine a_iconst C (-1) dX12_of_8 (by decide) ?_
    exact a_iret C dX12_of_9 h

/-! RainOnTheOneModel.ofCell(II)I -/
def wp_X12_ofCell (a0 : Int32) (a1 : Int32) (u : PoS) (post : Int32 → PoS → Prop) : Prop := wp_X12_isCell a0 u (fun (r1 : Int32) (u2 : PoS) => ((¬ r1 = 0 → ((¬ a1 = 0 → ((¬ a1 = 1 → ((¬ a1 = 2 → ((¬ a1 = 3 → post (-1) u2) ∧ (a1 = 3 → wp_X12_peopleAt a0 u2 (fun (r3 : Int32) (u4 : PoS) => post r3 u4)))) ∧ (a1 = 2 → vp_in (100 + a0) 3703 ∧ post (gI u2 49 (Int32.toNatClampNeg (100 + a0))) u2))) ∧ (a1 = 1 → vp_in (40 + a0) 3703 ∧ post (gI u2 49 (Int32.toNatClampNeg (40 + a0))) u2))) ∧ (a1 = 0 → vp_in (70 + a0) 3703 ∧ post (gI u2 49 (Int32.toNatClampNeg (70 + a0))) u2))) ∧ (r1 = 0 → post (-1) u2)))
theorem np_X12_ofCell : yX12_ofCell.cls ≠ "java/lang/invoke/MethodHandle" ∧ yX12_ofCell.cls ≠ "java/lang/invoke/VarHandle" ∧ (parseMethodDescriptor yX12_ofCell.desc).map (fun d => d.parameters.length) = some 2 := by decide +kernel
set_option maxHeartbeats 4000000 in
set_option maxRecDepth 100000 in
theorem m_X12_ofCell (l : Launch) (V : VEn) {a0 : Int32} {a1 : Int32} {u : PoS} {post : Int32 → PoS → Prop} (h : wp_X12_ofCell a0 a1 u post) : KI l V yX12_ofCell cX12_ofCell 3 .int 2 [.ref (eA V 48), .int a0, .int a1] u post := by
  refine KI_of (by decide) (Nat.le_of_ble_eq_true rfl) (lv := [(0, .ref (eA V 48)), (1, .int a0), (2, .int a1)]) rfl ?_
  intro p e s m args below meth c C
  rw [wp_X12_ofCell] at h
  refine a_iload_n C 1 dX12_ofCell_0 rfl rfl ?_
  refine a_callSi C dX12_ofCell_1 (m_X12_isCell l V h) bw_1144 bw_1145 bw_123 bw_1146 np_X12_isCell rfl rfl (by decide) (Nat.le_of_ble_eq_true rfl) ⟨Nat.zero_le _, Nat.zero_le _⟩ (fun r1 u2 h => ?_)
  refine a_if_ne C 9 dX12_ofCell_4 (by decide) (fun c9 => ?_) (fun c9 => ?_)
  · have h := h.1 c9
    refine a_iload_n C 2 dX12_ofCell_9 rfl rfl ?_
    refine a_if_ne C 25 dX12_ofCell_10 (by decide) (fun c8 => ?_) (fun c8 => ?_)
    · have h := h.1 c8
      refine a_iload_n C 2 dX12_ofCell_25 rfl rfl ?_
      refine a_iconst C 1 dX12_ofCell_26 (by decide) ?_
      refine a_icmp_ne C 42 dX12_ofCell_27 (by decide) (fun c7 => ?_) (fun c7 => ?_)
      · have h := h.1 c7
        refine a_iload_n C 2 dX12_ofCell_42 rfl rfl ?_
        refine a_iconst C 2 dX12_ofCell_43 (by decide) ?_
        refine a_icmp_ne C 59 dX12_ofCell_44 (by decide) (fun c6 => ?_) (fun c6 => ?_)
        · have h := h.1 c6
          refine a_iload_n C 2 dX12_ofCell_59 rfl rfl ?_
          refine a_iconst C 3 dX12_ofCell_60 (by decide) ?_
          refine a_icmp_ne C 72 dX12_ofCell_61 (by decide) (fun c5 => ?_) (fun c5 => ?_)
          · have h := h.1 c5
            refine a_iconst C (-1) dX12_ofCell_72 (by decide) ?_
            exact a_iret C dX12_ofCell_73 h
          · have h := h.2 c5
            refine a_aload_n C 0 dX12_ofCell_64 rfl rfl ?_
            refine a_iload_n C 1 dX12_ofCell_65 rfl rfl ?_
            refine a_callVi C dX12_ofCell_66 (m_X12_peopleAt l V h) bw_1170 bw_1172 bw_43 bw_123 bw_1173 (by decide) rfl rfl np_X12_peopleAt rfl rfl (by decide) (Nat.le_of_ble_eq_true rfl) ⟨Nat.zero_le _, Nat.zero_le _⟩ (fun r3 u4 h => ?_)
            refine a_goto C 73 dX12_ofCell_69 (by decide) ?_
            exact a_iret C dX12_ofCell_73 h
        · have h := h.2 c6
          refine a_aload_n C 0 dX12_ofCell_47 rfl rfl ?_
          refine a_getr C 0 (r := 49) dX12_ofCell_48 (by decide) rfl rfl rfl ib_12 (by decide) bw_1022 ?_
          refine a_bipush C 100 dX12_ofCell_51 (by decide) ?_
          refine a_iload_n C 1 dX12_ofCell_53 rfl rfl ?_
          refine a_iadd C dX12_ofCell_54 ?_
          refine b_iald C (Int32.toNatClampNeg (100 + a0)) dX12_ofCell_55 (by decide) rfl h.1 rfl ?_
          have h := h.2
          refine a_goto C 73 dX12_ofCell_56 (by decide) ?_
          exact a_iret C dX12_ofCell_73 h
      · have h := h.2 c7
        refine a_aload_n C 0 dX12_ofCell_30 rfl rfl ?_
        refine a_getr C 0 (r := 49) dX12_ofCell_31 (by decide) rfl rfl rfl ib_12 (by decide) bw_1022 ?_
        refine a_bipush C 40 dX12_ofCell_34 (by decide) ?_
        refine a_iload_n C 1 dX12_ofCell_36 rfl rfl ?_
        refine a_iadd C dX12_ofCell_37 ?_
        refine b_iald C (Int32.toNatClampNeg (40 + a0)) dX12_ofCell_38 (by decide) rfl h.1 rfl ?_
        have h := h.2
        refine a_goto C 73 dX12_ofCell_39 (by decide) ?_
        exact a_iret C dX12_ofCell_73 h
    · have h := h.2 c8
      refine a_aload_n C 0 dX12_ofCell_13 rfl rfl ?_
      refine a_getr C 0 (r := 49) dX12_ofCell_14 (by decide) rfl rfl rfl ib_12 (by decide) bw_1022 ?_
      refine a_bipush C 70 dX12_ofCell_17 (by decide) ?_
      refine a_iload_n C 1 dX12_ofCell_19 rfl rfl ?_
      refine a_iadd C dX12_ofCell_20 ?_
      refine b_iald C (Int32.toNatClampNeg (70 + a0)) dX12_ofCell_21 (by decide) rfl h.1 rfl ?_
      have h := h.2
      refine a_goto C 73 dX12_ofCell_22 (by decide) ?_
      exact a_iret C dX12_ofCell_73 h
  · have h := h.2 c9
    refine a_iconst C (-1) dX12_ofCell_7 (by decide) ?_
    exact a_iret C dX12_ofCell_8 h

/-! RainOnTheOneModel.is(I)I -/
def wp_X12_is (a0 : Int32) (u : PoS) (post : Int32 → PoS → Prop) : Prop := wp_X12_isIn a0 0 2 u (fun (r1 : Int32) (u2 : PoS) => ((r1 = 0 → ((¬ a0 = 3 → post (-2) u2) ∧ (a0 = 3 → wp_X12_goesFor u2 (fun (r3 : Int32) (u4 : PoS) => post r3 u4)))) ∧ (¬ r1 = 0 → vp_in (6 + a0) 3703 ∧ post (gI u2 49 (Int32.toNatClampNeg (6 + a0))) u2)))
theorem np_X12_is : yX12_is.cls ≠ "java/lang/invoke/MethodHandle" ∧ yX12_is.cls ≠ "java/lang/invoke/VarHandle" ∧ (parseMethodDescriptor yX12_is.desc).map (fun d => d.parameters.length) = some 1 := by decide +kernel
set_option maxHeartbeats 4000000 in
set_option maxRecDepth 100000 in
theorem m_X12_is (l : Launch) (V : VEn) {a0 : Int32} {u : PoS} {post : Int32 → PoS → Prop} (h : wp_X12_is a0 u post) : KI l V yX12_is cX12_is 2 .int 7 [.ref (eA V 48), .int a0] u post := by
  refine KI_of (by decide) (Nat.le_of_ble_eq_true rfl) (lv := [(0, .ref (eA V 48)), (1, .int a0)]) rfl ?_
  intro p e s m args below meth c C
  rw [wp_X12_is] at h
  refine a_iload_n C 1 dX12_is_0 rfl rfl ?_
  refine a_iconst C 0 dX12_is_1 (by decide) ?_
  refine a_iconst C 2 dX12_is_2 (by decide) ?_
  refine a_callSi C dX12_is_3 (m_X12_isIn l V h) bw_1147 bw_1148 bw_123 bw_1149 np_X12_isIn rfl rfl (by decide) (Nat.le_of_ble_eq_true rfl) ⟨Nat.zero_le _, Nat.zero_le _⟩ (fun r1 u2 h => ?_)
  refine a_if_eq C 21 dX12_is_6 (by decide) (fun c6 => ?_) (fun c6 => ?_)
  · have h := h.1 c6
    refine a_iload_n C 1 dX12_is_21 rfl rfl ?_
    refine a_iconst C 3 dX12_is_22 (by decide) ?_
    refine a_icmp_ne C 33 dX12_is_23 (by decide) (fun c5 => ?_) (fun c5 => ?_)
    · have h := h.1 c5
      refine a_bipush C (-2) dX12_is_33 (by decide) ?_
      exact a_iret C dX12_is_35 h
    · have h := h.2 c5
      refine a_aload_n C 0 dX12_is_26 rfl rfl ?_
      refine a_callVi C dX12_is_27 (m_X12_goesFor l V h) bw_1387 bw_1389 bw_77 bw_123 bw_1390 (by decide) rfl rfl np_X12_goesFor rfl rfl (by decide) (Nat.le_of_ble_eq_true rfl) ⟨Nat.zero_le _, Nat.zero_le _⟩ (fun r3 u4 h => ?_)
      refine a_goto C 35 dX12_is_30 (by decide) ?_
      exact a_iret C dX12_is_35 h
  · have h := h.2 c6
    refine a_aload_n C 0 dX12_is_9 rfl rfl ?_
    refine a_getr C 0 (r := 49) dX12_is_10 (by decide) rfl rfl rfl ib_12 (by decide) bw_1022 ?_
    refine a_bipush C 6 dX12_is_13 (by decide) ?_
    refine a_iload_n C 1 dX12_is_15 rfl rfl ?_
    refine a_iadd C dX12_is_16 ?_
    refine b_iald C (Int32.toNatClampNeg (6 + a0)) dX12_is_17 (by decide) rfl h.1 rfl ?_
    have h := h.2
    refine a_goto C 35 dX12_is_18 (by decide) ?_
    exact a_iret C dX12_is_35 h

/-! RainOnTheOneModel.book(II)I -/
def wp_X12_book (a0 : Int32) (a1 : Int32) (u : PoS) (post : Int32 → PoS → Prop) : Prop := ((¬ a0 = (-1) → wp_X12_isIn a0 0 ((gI u 49 9) - 1) u (fun (r1 : Int32) (u2 : PoS) => ((¬ r1 = 0 → vp_in ((3643 + (2 * a0)) + 1) 3703 ∧ ∀ x3 : Int32, x3 = (gI u2 49 (Int32.toNatClampNeg ((3643 + (2 * a0)) + 1))) → ((¬ a1 = 0 → ((¬ a1 = 1 → ((¬ a1 = 2 → ((¬ a1 = 3 → post (-2) u2) ∧ (a1 = 3 → post (irem x3 100) u2))) ∧ (a1 = 2 → post (irem (x3 / 100) 30) u2))) ∧ (a1 = 1 → post (x3 / 3000) u2))) ∧ (a1 = 0 → vp_in (3643 + (2 * a0)) 3703 ∧ post (gI u2 49 (Int32.toNatClampNeg (3643 + (2 * a0)))) u2))) ∧ (r1 = 0 → post (-2) u2)))) ∧ (a0 = (-1) → post (gI u 49 9) u))
theorem np_X12_book : yX12_book.cls ≠ "java/lang/invoke/MethodHandle" ∧ yX12_book.cls ≠ "java/lang/invoke/VarHandle" ∧ (parseMethodDescriptor yX12_book.desc).map (fun d => d.parameters.length) = some 2 := by decide +kernel
set_option maxHeartbeats 4000000 in
set_option maxRecDepth 100000 in
theorem m_X12_book (l : Launch) (V : VEn) {a0 : Int32} {a1 : Int32} {u : PoS} {post : Int32 → PoS → Prop} (h : wp_X12_book a0 a1 u post) : KI l V yX12_book cX12_book 4 .int 1 [.ref (eA V 48), .int a0, .int a1] u post := by
  refine KI_of (by decide) (Nat.le_of_ble_eq_true rfl) (lv := [(0, .ref (eA V 48)), (1, .int a0), (2, .int a1)]) rfl ?_
  intro p e s m args below meth c C
  rw [wp_X12_book] at h
  refine a_iload_n C 1 dX12_book_0 rfl rfl ?_
  refine a_iconst C (-1) dX12_book_1 (by decide) ?_
  refine a_icmp_ne C 13 dX12_book_2 (by decide) (fun c9 => ?_) (fun c9 => ?_)
  · have h := h.1 c9
    refine a_iload_n C 1 dX12_book_13 rfl rfl ?_
    refine a_iconst C 0 dX12_book_14 (by decide) ?_
    refine a_aload_n C 0 dX12_book_15 rfl rfl ?_
    refine a_getr C 0 (r := 49) dX12_book_16 (by decide) rfl rfl rfl ib_12 (by decide) bw_1022 ?_
    refine a_bipush C 9 dX12_book_19 (by decide) ?_
    refine b_iald C 9 dX12_book_21 (by decide) rfl (vp_lit (by decide)) (by decide) ?_
    refine a_iconst C 1 dX12_book_22 (by decide) ?_
    refine a_isub C dX12_book_23 ?_
    refine a_callSi C dX12_book_24 (m_X12_isIn l V h) bw_1147 bw_1148 bw_123 bw_1149 np_X12_isIn rfl rfl (by decide) (Nat.le_of_ble_eq_true rfl) ⟨Nat.zero_le _, Nat.zero_le _⟩ (fun r1 u2 h => ?_)
    refine a_if_ne C 33 dX12_book_27 (by decide) (fun c8 => ?_) (fun c8 => ?_)
    · have h := h.1 c8
      refine a_aload_n C 0 dX12_book_33 rfl rfl ?_
      refine a_getr C 0 (r := 49) dX12_book_34 (by decide) rfl rfl rfl ib_12 (by decide) bw_1022 ?_
      refine a_sipush C 3643 dX12_book_37 (by decide) ?_
      refine a_iconst C 2 dX12_book_40 (by decide) ?_
      refine a_iload_n C 1 dX12_book_41 rfl rfl ?_
      refine a_imul C dX12_book_42 ?_
      refine a_iadd C dX12_book_43 ?_
      refine a_iconst C 1 dX12_book_44 (by decide) ?_
      refine a_iadd C dX12_book_45 ?_
      refine b_iald C (Int32.toNatClampNeg ((3643 + (2 * a0)) + 1)) dX12_book_46 (by decide) rfl h.1 rfl ?_
      have h := h.2
      refine a_topi (fun x3 ex3 => ?_)
      have h := h x3 ex3
      refine a_istore_n C [(3, .int x3), (0, .ref (eA V 48)), (1, .int a0), (2, .int a1)] dX12_book_47 rfl (by decide) rfl ?_
      refine a_iload_n C 3 dX12_book_48 rfl rfl ?_
      refine a_if_ne C 67 dX12_book_49 (by decide) (fun c7 => ?_) (fun c7 => ?_)
      · have h := h.1 c7
        refine a_iload_n C 3 dX12_book_67 rfl rfl ?_
        refine a_iconst C 1 dX12_book_68 (by decide) ?_
        refine a_icmp_ne C 80 dX12_book_69 (by decide) (fun c6 => ?_) (fun c6 => ?_)
        · have h := h.1 c6
          refine a_iload_n C 3 dX12_book_80 rfl rfl ?_
          refine a_iconst C 2 dX12_book_81 (by decide) ?_
          refine a_icmp_ne C 95 dX12_book_82 (by decide) (fun c5 => ?_) (fun c5 => ?_)
          · have h := h.1 c5
            refine a_iload_n C 3 dX12_book_95 rfl rfl ?_
            refine a_iconst C 3 dX12_book_96 (by decide) ?_
            refine a_icmp_ne C 107 dX12_book_97 (by decide) (fun c4 => ?_) (fun c4 => ?_)
            · have h := h.1 c4
              refine a_bipush C (-2) dX12_book_107 (by decide) ?_
              exact a_iret C dX12_book_109 h
            · have h := h.2 c4
              refine a_iload_n C 0 dX12_book_100 rfl rfl ?_
              refine a_bipush C 100 dX12_book_101 (by decide) ?_
              refine b_irem C dX12_book_103 (by decide) ?_
              refine a_goto C 109 dX12_book_104 (by decide) ?_
              exact a_iret C dX12_book_109 h
          · have h := h.2 c5
            refine a_iload_n C 0 dX12_book_85 rfl rfl ?_
            refine a_bipush C 100 dX12_book_86 (by decide) ?_
            refine a_idiv C dX12_book_88 (by decide) ?_
            refine a_bipush C 30 dX12_book_89 (by decide) ?_
            refine b_irem C dX12_book_91 (by decide) ?_
            refine a_goto C 109 dX12_book_92 (by decide) ?_
            exact a_iret C dX12_book_109 h
        · have h := h.2 c6
          refine a_iload_n C 0 dX12_book_72 rfl rfl ?_
          refine a_sipush C 3000 dX12_book_73 (by decide) ?_
          refine a_idiv C dX12_book_76 (by decide) ?_
          refine a_goto C 109 dX12_book_77 (by decide) ?_
          exact a_iret C dX12_book_109 h
      · have h := h.2 c7
        refine a_aload_n C 1 dX12_book_52 rfl rfl ?_
        refine a_getr C 0 (r := 49) dX12_book_53 (by decide) rfl rfl rfl ib_12 (by decide) bw_1022 ?_
        refine a_sipush C 3643 dX12_book_56 (by decide) ?_
        refine a_iconst C 2 dX12_book_59 (by decide) ?_
        refine a_iload_n C 2 dX12_book_60 rfl rfl ?_
        refine a_imul C dX12_book_61 ?_
        refine a_iadd C dX12_book_62 ?_
        refine b_iald C (Int32.toNatClampNeg (3643 + (2 * a0))) dX12_book_63 (by decide) rfl h.1 rfl ?_
        have h := h.2
        refine a_goto C 109 dX12_book_64 (by decide) ?_
        exact a_iret C dX12_book_109 h
    · have h := h.2 c8
      refine a_bipush C (-2) dX12_book_30 (by decide) ?_
      exact a_iret C dX12_book_32 h
  · have h := h.2 c9
    refine a_aload_n C 0 dX12_book_5 rfl rfl ?_
    refine a_getr C 0 (r := 49) dX12_book_6 (by decide) rfl rfl rfl ib_12 (by decide) bw_1022 ?_
    refine a_bipush C 9 dX12_book_9 (by decide) ?_
    refine b_iald C 9 dX12_book_11 (by decide) rfl (vp_lit (by decide)) (by decide) ?_
    exact a_iret C dX12_book_12 h

/-! RainOnTheOneModel.ledger(I)I -/
def wj_X12_ledger_57 (k20 : Int32 → Int32 → Int32 → PoS → Prop) (post : Int32 → PoS → Prop) (v1 : Int32) (v3 : Int32) (s0 : Int32) (s1 : Int32) (u : PoS) : Prop := ∀ x3 : Int32, x3 = (s1 + s0) → k20 v1 x3 (v3 + 1) u
def wj_X12_ledger_47 (k20 : Int32 → Int32 → Int32 → PoS → Prop) (post : Int32 → PoS → Prop) (v1 : Int32) (v3 : Int32) (s0 : Int32) (u : PoS) : Prop := wp_X12_book v3 3 u (fun (r1 : Int32) (u2 : PoS) => wj_X12_ledger_57 k20 post v1 v3 r1 s0 u2)
def wl_X12_ledger_20 (post : Int32 → PoS → Prop) : Nat → Int32 → Int32 → Int32 → PoS → Prop
  | 0, _, _, _, _ => False
  | n + 1, v1, v2, v3, u => (((gI u 49 9) ≤ v3 → post v2 u) ∧ (¬ (gI u 49 9) ≤ v3 → ((v1 = (-1) → wj_X12_ledger_47 (wl_X12_ledger_20 post n) post v1 v3 v2 u) ∧ (¬ v1 = (-1) → wp_X12_book v3 1 u (fun (r4 : Int32) (u5 : PoS) => ((¬ r4 = v1 → wj_X12_ledger_57 (wl_X12_ledger_20 post n) post v1 v3 0 v2 u5) ∧ (r4 = v1 → wj_X12_ledger_47 (wl_X12_ledger_20 post n) post v1 v3 v2 u5)))))))
def wj_X12_ledger_16 (post : Int32 → PoS → Prop) (v1 : Int32) (u : PoS) : Prop := (∃ n20, wl_X12_ledger_20 post n20 v1 0 0 u)
def wp_X12_ledger (a0 : Int32) (u : PoS) (post : Int32 → PoS → Prop) : Prop := ((a0 = (-1) → wj_X12_ledger_16 post a0 u) ∧ (¬ a0 = (-1) → wp_X12_isPerson a0 u (fun (r9 : Int32) (u10 : PoS) => ((¬ r9 = 0 → wj_X12_ledger_16 post a0 u10) ∧ (r9 = 0 → post (-2) u10)))))
set_option maxHeartbeats 4000000 in
set_option maxRecDepth 100000 in
theorem tj_X12_ledger_57 {p : Program} {l : Launch} {e : Env} {s : State} {m : MethodId} {args : Array Value} {below : List Frame} {meth : Method} {c : Code} {V : VEn} {k20 : Int32 → Int32 → Int32 → PoS → Prop} {post : Int32 → PoS → Prop} (C : CxS p s m args meth c V cX12_ledger 4 RX12 (some .int)) (hk20 : ∀ (v1 : Int32) (v2 : Int32) (v3 : Int32) (u : PoS), k20 v1 v2 v3 u → AtS p l e (Rm 2) s m args below meth c V 4 0 0 (QI V below args s post) 20 [(0, .ref (eA V 48)), (1, .int v1), (2, .int v2), (3, .int v3)] [] u) (v1 : Int32) (v3 : Int32) (s0 : Int32) (s1 : Int32) (u : PoS) (h : wj_X12_ledger_57 k20 post v1 v3 s0 s1 u) : AtS p l e (Rm 2) s m args below meth c V 4 0 0 (QI V below args s post) 57 [(0, .ref (eA V 48)), (1, .int v1), (3, .int v3)] [.int s0, .int s1] u := by
  rw [wj_X12_ledger_57] at h
  refine a_iadd C dX12_ledger_57 ?_
  refine a_topi (fun x3 ex3 => ?_)
  have h := h x3 ex3
  refine a_istore_n C [(2, .int x3), (0, .ref (eA V 48)), (1, .int v1), (3, .int v3)] dX12_ledger_58 rfl (by decide) rfl ?_
  refine a_iinc C (v3 + 1) 3 [(3, .int (v3 + 1)), (2, .int x3), (0, .ref (eA V 48)), (1, .int v1)] dX12_ledger_59 rfl (congrArg (fun z => v3 + z) (show Int32.ofInt 1 = 1 by decide)) (by decide) rfl ?_
  refine a_goto C 20 dX12_ledger_62 (by decide) ?_
  refine a_sub [2, 3, 1, 0] rfl ?_
  exact hk20 _ _ _ _ h
set_option maxHeartbeats 4000000 in
set_option maxRecDepth 100000 in
theorem tj_X12_ledger_47 {p : Program} {l : Launch} {e : Env} {s : State} {m : MethodId} {args : Array Value} {below : List Frame} {meth : Method} {c : Code} {V : VEn} {k20 : Int32 → Int32 → Int32 → PoS → Prop} {post : Int32 → PoS → Prop} (C : CxS p s m args meth c V cX12_ledger 4 RX12 (some .int)) (hk20 : ∀ (v1 : Int32) (v2 : Int32) (v3 : Int32) (u : PoS), k20 v1 v2 v3 u → AtS p l e (Rm 2) s m args below meth c V 4 0 0 (QI V below args s post) 20 [(0, .ref (eA V 48)), (1, .int v1), (2, .int v2), (3, .int v3)] [] u) (v1 : Int32) (v3 : Int32) (s0 : Int32) (u : PoS) (h : wj_X12_ledger_47 k20 post v1 v3 s0 u) : AtS p l e (Rm 2) s m args below meth c V 4 0 0 (QI V below args s post) 47 [(0, .ref (eA V 48)), (1, .int v1), (3, .int v3)] [.int s0] u := by
  rw [wj_X12_ledger_47] at h
  refine a_aload_n C 0 dX12_ledger_47 rfl rfl ?_
  refine a_iload_n C 2 dX12_ledger_48 rfl rfl ?_
  refine a_iconst C 3 dX12_ledger_49 (by decide) ?_
  refine a_callVi C dX12_ledger_50 (m_X12_book l V h) bw_1513 bw_1506 bw_1507 bw_123 bw_1508 (by decide) rfl rfl np_X12_book rfl rfl (by decide) (Nat.le_of_ble_eq_true rfl) ⟨Nat.zero_le _, Nat.zero_le _⟩ (fun r1 u2 h => ?_)
  refine a_goto C 57 dX12_ledger_53 (by decide) ?_
  refine tj_X12_ledger_57 C hk20 _ _ _ _ _ h
set_option maxHeartbeats 4000000 in
set_option maxRecDepth 100000 in
theorem tl_X12_ledger_20 {p : Program} {l : Launch} {e : Env} {s : State} {m : MethodId} {args : Array Value} {below : List Frame} {meth : Method} {c : Code} {V : VEn} {post : Int32 → PoS → Prop} (C : CxS p s m args meth c V cX12_ledger 4 RX12 (some .int)) : ∀ (n : Nat) (v1 : Int32) (v2 : Int32) (v3 : Int32) (u : PoS), wl_X12_ledger_20 post n v1 v2 v3 u → AtS p l e (Rm 2) s m args below meth c V 4 0 0 (QI V below args s post) 20 [(0, .ref (eA V 48)), (1, .int v1), (2, .int v2), (3, .int v3)] [] u := by
  intro n
  induction n with
  | zero => intro v1 v2 v3 u h; exact h.elim
  | succ n ih =>
    intro v1 v2 v3 u h
    rw [wl_X12_ledger_20] at h
    refine a_iload_n C 3 dX12_ledger_20 rfl rfl ?_
    refine a_aload_n C 0 dX12_ledger_21 rfl rfl ?_
    refine a_getr C 0 (r := 49) dX12_ledger_22 (by decide) rfl rfl rfl ib_12 (by decide) bw_1022 ?_
    refine a_bipush C 9 dX12_ledger_25 (by decide) ?_
    refine b_iald C 9 dX12_ledger_27 (by decide) rfl (vp_lit (by decide)) (by decide) ?_
    refine a_icmp_ge C 65 dX12_ledger_28 (by decide) (fun c8 => ?_) (fun c8 => ?_)
    · have h := h.1 c8
      refine a_iload_n C 2 dX12_ledger_65 rfl rfl ?_
      exact a_iret C dX12_ledger_66 h
    · have h := h.2 c8
      refine a_iload_n C 2 dX12_ledger_31 rfl rfl ?_
      refine a_iload_n C 1 dX12_ledger_32 rfl rfl ?_
      refine a_iconst C (-1) dX12_ledger_33 (by decide) ?_
      refine a_icmp_eq C 47 dX12_ledger_34 (by decide) (fun c7 => ?_) (fun c7 => ?_)
      · have h := h.1 c7
        refine a_sub [0, 1, 3] rfl ?_
        refine tj_X12_ledger_47 C ih _ _ _ _ h
      · have h := h.2 c7
        refine a_aload_n C 0 dX12_ledger_37 rfl rfl ?_
        refine a_iload_n C 3 dX12_ledger_38 rfl rfl ?_
        refine a_iconst C 1 dX12_ledger_39 (by decide) ?_
        refine a_callVi C dX12_ledger_40 (m_X12_book l V h) bw_1513 bw_1506 bw_1507 bw_123 bw_1508 (by decide) rfl rfl np_X12_book rfl rfl (by decide) (Nat.le_of_ble_eq_true rfl) ⟨Nat.zero_le _, Nat.zero_le _⟩ (fun r4 u5 h => ?_)
        refine a_iload_n C 1 dX12_ledger_43 rfl rfl ?_
        refine a_icmp_ne C 56 dX12_ledger_44 (by decide) (fun c6 => ?_) (fun c6 => ?_)
        · have h := h.1 c6
          refine a_iconst C 0 dX12_ledger_56 (by decide) ?_
          refine a_sub [0, 1, 3] rfl ?_
          refine tj_X12_ledger_57 C ih _ _ _ _ _ h
        · have h := h.2 c6
          refine a_sub [0, 1, 3] rfl ?_
          refine tj_X12_ledger_47 C ih _ _ _ _ h
set_option maxHeartbeats 4000000 in
set_option maxRecDepth 100000 in
theorem tj_X12_ledger_16 {p : Program} {l : Launch} {e : Env} {s : State} {m : MethodId} {args : Array Value} {below : List Frame} {meth : Method} {c : Code} {V : VEn} {post : Int32 → PoS → Prop} (C : CxS p s m args meth c V cX12_ledger 4 RX12 (some .int)) (v1 : Int32) (u : PoS) (h : wj_X12_ledger_16 post v1 u) : AtS p l e (Rm 2) s m args below meth c V 4 0 0 (QI V below args s post) 16 [(0, .ref (eA V 48)), (1, .int v1)] [] u := by
  rw [wj_X12_ledger_16] at h
  refine a_iconst C 0 dX12_ledger_16 (by decide) ?_
  refine a_istore_n C [(2, .int 0), (0, .ref (eA V 48)), (1, .int v1)] dX12_ledger_17 rfl (by decide) rfl ?_
  refine a_iconst C 0 dX12_ledger_18 (by decide) ?_
  refine a_istore_n C [(3, .int 0), (2, .int 0), (0, .ref (eA V 48)), (1, .int v1)] dX12_ledger_19 rfl (by decide) rfl ?_
  refine a_sub [2, 3, 1, 0] rfl ?_
  obtain ⟨n20, h⟩ := h
  refine tl_X12_ledger_20 C n20 _ _ _ _ h
theorem np_X12_ledger : yX12_ledger.cls ≠ "java/lang/invoke/MethodHandle" ∧ yX12_ledger.cls ≠ "java/lang/invoke/VarHandle" ∧ (parseMethodDescriptor yX12_ledger.desc).map (fun d => d.parameters.length) = some 1 := by decide +kernel
set_option maxHeartbeats 4000000 in
set_option maxRecDepth 100000 in
theorem m_X12_ledger (l : Launch) (V : VEn) {a0 : Int32} {u : PoS} {post : Int32 → PoS → Prop} (h : wp_X12_ledger a0 u post) : KI l V yX12_ledger cX12_ledger 4 .int 2 [.ref (eA V 48), .int a0] u post := by
  refine KI_of (by decide) (Nat.le_of_ble_eq_true rfl) (lv := [(0, .ref (eA V 48)), (1, .int a0)]) rfl ?_
  intro p e s m args below meth c C
  rw [wp_X12_ledger] at h
  refine a_iload_n C 1 dX12_ledger_0 rfl rfl ?_
  refine a_iconst C (-1) dX12_ledger_1 (by decide) ?_
  refine a_icmp_eq C 16 dX12_ledger_2 (by decide) (fun c12 => ?_) (fun c12 => ?_)
  · have h := h.1 c12
    refine tj_X12_ledger_16 C _ _ h
  · have h := h.2 c12
    refine a_aload_n C 0 dX12_ledger_5 rfl rfl ?_
    refine a_iload_n C 1 dX12_ledger_6 rfl rfl ?_
    refine a_callVi C dX12_ledger_7 (m_X12_isPerson l V h) bw_1342 bw_1344 bw_71 bw_123 bw_1345 (by decide) rfl rfl np_X12_isPerson rfl rfl (by decide) (Nat.le_of_ble_eq_true rfl) ⟨Nat.zero_le _, Nat.zero_le _⟩ (fun r9 u10 h => ?_)
    refine a_if_ne C 16 dX12_ledger_10 (by decide) (fun c11 => ?_) (fun c11 => ?_)
    · have h := h.1 c11
      refine tj_X12_ledger_16 C _ _ h
    · have h := h.2 c11
      refine a_bipush C (-2) dX12_ledger_13 (by decide) ?_
      exact a_iret C dX12_ledger_15 h

/-! RainOnTheOneModel.lackOf(I)I -/
def wp_X12_lackOf (a0 : Int32) (u : PoS) (post : Int32 → PoS → Prop) : Prop := vp_in (70 + a0) 3703 ∧ vp_in (40 + a0) 3703 ∧ (((gI u 49 (Int32.toNatClampNeg (70 + a0))) ≤ (gI u 49 (Int32.toNatClampNeg (40 + a0))) → post 0 u) ∧ (¬ (gI u 49 (Int32.toNatClampNeg (70 + a0))) ≤ (gI u 49 (Int32.toNatClampNeg (40 + a0))) → vp_in (70 + a0) 3703 ∧ vp_in (40 + a0) 3703 ∧ post ((gI u 49 (Int32.toNatClampNeg (70 + a0))) - (gI u 49 (Int32.toNatClampNeg (40 + a0)))) u))
theorem np_X12_lackOf : yX12_lackOf.cls ≠ "java/lang/invoke/MethodHandle" ∧ yX12_lackOf.cls ≠ "java/lang/invoke/VarHandle" ∧ (parseMethodDescriptor yX12_lackOf.desc).map (fun d => d.parameters.length) = some 1 := by decide +kernel
set_option maxHeartbeats 4000000 in
set_option maxRecDepth 100000 in
theorem m_X12_lackOf (l : Launch) (V : VEn) {a0 : Int32} {u : PoS} {post : Int32 → PoS → Prop} (h : wp_X12_lackOf a0 u post) : KI l V yX12_lackOf cX12_lackOf 2 .int 0 [.ref (eA V 48), .int a0] u post := by
  refine KI_of (by decide) (Nat.le_of_ble_eq_true rfl) (lv := [(0, .ref (eA V 48)), (1, .int a0)]) rfl ?_
  intro p e s m args below meth c C
  rw [wp_X12_lackOf] at h
  refine a_aload_n C 0 dX12_lackOf_0 rfl rfl ?_
  refine a_getr C 0 (r := 49) dX12_lackOf_1 (by decide) rfl rfl rfl ib_12 (by decide) bw_1022 ?_
  refine a_bipush C 70 dX12_lackOf_4 (by decide) ?_
  refine a_iload_n C 1 dX12_lackOf_6 rfl rfl ?_
  refine a_iadd C dX12_lackOf_7 ?_
  refine b_iald C (Int32.toNatClampNeg (70 + a0)) dX12_lackOf_8 (by decide) rfl h.1 rfl ?_
  have h := h.2
  refine a_aload_n C 0 dX12_lackOf_9 rfl rfl ?_
  refine a_getr C 0 (r := 49) dX12_lackOf_10 (by decide) rfl rfl rfl ib_12 (by decide) bw_1022 ?_
  refine a_bipush C 40 dX12_lackOf_13 (by decide) ?_
  refine a_iload_n C 1 dX12_lackOf_15 rfl rfl ?_
  refine a_iadd C dX12_lackOf_16 ?_
  refine b_iald C (Int32.toNatClampNeg (40 + a0)) dX12_lackOf_17 (by decide) rfl h.1 rfl ?_
  have h := h.2
  refine a_icmp_le C 43 dX12_lackOf_18 (by decide) (fun c1 => ?_) (fun c1 => ?_)
  · have h := h.1 c1
    refine a_iconst C 0 dX12_lackOf_43 (by decide) ?_
    exact a_iret C dX12_lackOf_44 h
  · have h := h.2 c1
    refine a_aload_n C 0 dX12_lackOf_21 rfl rfl ?_
    refine a_getr C 0 (r := 49) dX12_lackOf_22 (by decide) rfl rfl rfl ib_12 (by decide) bw_1022 ?_
    refine a_bipush C 70 dX12_lackOf_25 (by decide) ?_
    refine a_iload_n C 1 dX12_lackOf_27 rfl rfl ?_
    refine a_iadd C dX12_lackOf_28 ?_
    refine b_iald C (Int32.toNatClampNeg (70 + a0)) dX12_lackOf_29 (by decide) rfl h.1 rfl ?_
    have h := h.2
    refine a_aload_n C 0 dX12_lackOf_30 rfl rfl ?_
    refine a_getr C 0 (r := 49) dX12_lackOf_31 (by decide) rfl rfl rfl ib_12 (by decide) bw_1022 ?_
    refine a_bipush C 40 dX12_lackOf_34 (by decide) ?_
    refine a_iload_n C 1 dX12_lackOf_36 rfl rfl ?_
    refine a_iadd C dX12_lackOf_37 ?_
    refine b_iald C (Int32.toNatClampNeg (40 + a0)) dX12_lackOf_38 (by decide) rfl h.1 rfl ?_
    have h := h.2
    refine a_isub C dX12_lackOf_39 ?_
    refine a_goto C 44 dX12_lackOf_40 (by decide) ?_
    exact a_iret C dX12_lackOf_44 h

/-! RainOnTheOneModel.thirsty(Z)I -/
def wj_X12_thirsty_32 (k7 : Int32 → Int32 → Int32 → Int32 → PoS → Prop) (post : Int32 → PoS → Prop) (v1 : Int32) (v3 : Int32) (v4 : Int32) (s0 : Int32) (s1 : Int32) (u : PoS) : Prop := ∀ x3 : Int32, x3 = (s1 ||| s0) → wp_X12_lackOf v4 u (fun (r4 : Int32) (u5 : PoS) => ∀ x6 : Int32, x6 = (v3 + r4) → k7 v1 x3 x6 (v4 + 1) u5)
def wl_X12_thirsty_7 (k49 : Int32 → Int32 → Int32 → PoS → Prop) (post : Int32 → PoS → Prop) : Nat → Int32 → Int32 → Int32 → Int32 → PoS → Prop
  | 0, _, _, _, _, _ => False
  | n + 1, v1, v2, v3, v4, u => ((30 ≤ v4 → k49 v1 v2 v3 u) ∧ (¬ 30 ≤ v4 → wp_X12_lackOf v4 u (fun (r1 : Int32) (u2 : PoS) => ((r1 ≤ 0 → wj_X12_thirsty_32 (wl_X12_thirsty_7 k49 post n) post v1 v3 v4 0 v2 u2) ∧ (¬ r1 ≤ 0 → wj_X12_thirsty_32 (wl_X12_thirsty_7 k49 post n) post v1 v3 v4 (1 <<< (v4 &&& 31)) v2 u2)))))
def wp_X12_thirsty (a0 : Int32) (u : PoS) (post : Int32 → PoS → Prop) : Prop := (∃ n7, wl_X12_thirsty_7 (fun (v19 : Int32) (v29 : Int32) (v39 : Int32) (u9 : PoS) => ((v19 = 0 → post v29 u9) ∧ (¬ v19 = 0 → post v39 u9))) post n7 a0 0 0 0 u)
set_option maxHeartbeats 4000000 in
set_option maxRecDepth 100000 in
theorem tj_X12_thirsty_32 {p : Program} {l : Launch} {e : Env} {s : State} {m : MethodId} {args : Array Value} {below : List Frame} {meth : Method} {c : Code} {V : VEn} {k7 : Int32 → Int32 → Int32 → Int32 → PoS → Prop} {post : Int32 → PoS → Prop} (C : CxS p s m args meth c V cX12_thirsty 5 RX12 (some .int)) (hk7 : ∀ (v1 : Int32) (v2 : Int32) (v3 : Int32) (v4 : Int32) (u : PoS), k7 v1 v2 v3 v4 u → AtS p l e (Rm 1) s m args below meth c V 5 0 0 (QI V below args s post) 7 [(0, .ref (eA V 48)), (1, .int v1), (2, .int v2), (3, .int v3), (4, .int v4)] [] u) (v1 : Int32) (v3 : Int32) (v4 : Int32) (s0 : Int32) (s1 : Int32) (u : PoS) (h : wj_X12_thirsty_32 k7 post v1 v3 v4 s0 s1 u) : AtS p l e (Rm 1) s m args below meth c V 5 0 0 (QI V below args s post) 32 [(0, .ref (eA V 48)), (1, .int v1), (3, .int v3), (4, .int v4)] [.int s0, .int s1] u := by
  rw [wj_X12_thirsty_32] at h
  refine a_ior C dX12_thirsty_32 ?_
  refine a_topi (fun x3 ex3 => ?_)
  have h := h x3 ex3
  refine a_istore_n C [(2, .int x3), (0, .ref (eA V 48)), (1, .int v1), (3, .int v3), (4, .int v4)] dX12_thirsty_33 rfl (by decide) rfl ?_
  refine a_iload_n C 3 dX12_thirsty_34 rfl rfl ?_
  refine a_aload_n C 1 dX12_thirsty_35 rfl rfl ?_
  refine a_iload C 4 dX12_thirsty_36 rfl ?_
  refine a_callVi C dX12_thirsty_38 (m_X12_lackOf l V h) bw_1518 bw_1520 bw_93 bw_123 bw_1521 (by decide) rfl rfl np_X12_lackOf rfl rfl (by decide) (Nat.le_of_ble_eq_true rfl) ⟨Nat.zero_le _, Nat.zero_le _⟩ (fun r4 u5 h => ?_)
  refine a_iadd C dX12_thirsty_41 ?_
  refine a_topi (fun x6 ex6 => ?_)
  have h := h x6 ex6
  refine a_istore_n C [(3, .int x6), (2, .int x3), (0, .ref (eA V 48)), (1, .int v1), (4, .int v4)] dX12_thirsty_42 rfl (by decide) rfl ?_
  refine a_iinc C (v4 + 1) 4 [(4, .int (v4 + 1)), (3, .int x6), (2, .int x3), (0, .ref (eA V 48)), (1, .int v1)] dX12_thirsty_43 rfl (congrArg (fun z => v4 + z) (show Int32.ofInt 1 = 1 by decide)) (by decide) rfl ?_
  refine a_goto C 7 dX12_thirsty_46 (by decide) ?_
  refine a_sub [3, 4, 2, 1, 0] rfl ?_
  exact hk7 _ _ _ _ _ h
set_option maxHeartbeats 4000000 in
set_option maxRecDepth 100000 in
theorem tl_X12_thirsty_7 {p : Program} {l : Launch} {e : Env} {s : State} {m : MethodId} {args : Array Value} {below : List Frame} {meth : Method} {c : Code} {V : VEn} {k49 : Int32 → Int32 → Int32 → PoS → Prop} {post : Int32 → PoS → Prop} (C : CxS p s m args meth c V cX12_thirsty 5 RX12 (some .int)) (hk49 : ∀ (v1 : Int32) (v2 : Int32) (v3 : Int32) (u : PoS), k49 v1 v2 v3 u → AtS p l e (Rm 1) s m args below meth c V 5 0 0 (QI V below args s post) 49 [(1, .int v1), (2, .int v2), (3, .int v3)] [] u) : ∀ (n : Nat) (v1 : Int32) (v2 : Int32) (v3 : Int32) (v4 : Int32) (u : PoS), wl_X12_thirsty_7 k49 post n v1 v2 v3 v4 u → AtS p l e (Rm 1) s m args below meth c V 5 0 0 (QI V below args s post) 7 [(0, .ref (eA V 48)), (1, .int v1), (2, .int v2), (3, .int v3), (4, .int v4)] [] u := by
  intro n
  induction n with
  | zero => intro v1 v2 v3 v4 u h; exact h.elim
  | succ n ih =>
    intro v1 v2 v3 v4 u h
    rw [wl_X12_thirsty_7] at h
    refine a_iload C 4 dX12_thirsty_7 rfl ?_
    refine a_bipush C 30 dX12_thirsty_9 (by decide) ?_
    refine a_icmp_ge C 49 dX12_thirsty_11 (by decide) (fun c8 => ?_) (fun c8 => ?_)
    · have h := h.1 c8
      refine a_sub [1, 2, 3] rfl ?_
      exact hk49 _ _ _ _ h
    · have h := h.2 c8
      refine a_iload_n C 2 dX12_thirsty_14 rfl rfl ?_
      refine a_aload_n C 0 dX12_thirsty_15 rfl rfl ?_
      refine a_iload C 4 dX12_thirsty_16 rfl ?_
      refine a_callVi C dX12_thirsty_18 (m_X12_lackOf l V h) bw_1518 bw_1520 bw_93 bw_123 bw_1521 (by decide) rfl rfl np_X12_lackOf rfl rfl (by decide) (Nat.le_of_ble_eq_true rfl) ⟨Nat.zero_le _, Nat.zero_le _⟩ (fun r1 u2 h => ?_)
      refine a_if_le C 31 dX12_thirsty_21 (by decide) (fun c7 => ?_) (fun c7 => ?_)
      · have h := h.1 c7
        refine a_iconst C 0 dX12_thirsty_31 (by decide) ?_
        refine a_sub [0, 1, 3, 4] rfl ?_
        refine tj_X12_thirsty_32 C ih _ _ _ _ _ _ h
      · have h := h.2 c7
        refine a_iconst C 1 dX12_thirsty_24 (by decide) ?_
        refine a_iload C 4 dX12_thirsty_25 rfl ?_
        refine a_ishl C dX12_thirsty_27 ?_
        refine a_goto C 32 dX12_thirsty_28 (by decide) ?_
        refine a_sub [0, 1, 3, 4] rfl ?_
        refine tj_X12_thirsty_32 C ih _ _ _ _ _ _ h
theorem np_X12_thirsty : yX12_thirsty.cls ≠ "java/lang/invoke/MethodHandle" ∧ yX12_thirsty.cls ≠ "java/lang/invoke/VarHandle" ∧ (parseMethodDescriptor yX12_thirsty.desc).map (fun d => d.parameters.length) = some 1 := by decide +kernel
set_option maxHeartbeats 4000000 in
set_option maxRecDepth 100000 in
theorem m_X12_thirsty (l : Launch) (V : VEn) {a0 : Int32} {u : PoS} {post : Int32 → PoS → Prop} (h : wp_X12_thirsty a0 u post) : KI l V yX12_thirsty cX12_thirsty 5 .int 1 [.ref (eA V 48), .int a0] u post := by
  refine KI_of (by decide) (Nat.le_of_ble_eq_true rfl) (lv := [(0, .ref (eA V 48)), (1, .int a0)]) rfl ?_
  intro p e s m args below meth c C
  rw [wp_X12_thirsty] at h
  refine a_iconst C 0 dX12_thirsty_0 (by decide) ?_
  refine a_istore_n C [(2, .int 0), (0, .ref (eA V 48)), (1, .int a0)] dX12_thirsty_1 rfl (by decide) rfl ?_
  refine a_iconst C 0 dX12_thirsty_2 (by decide) ?_
  refine a_istore_n C [(3, .int 0), (2, .int 0), (0, .ref (eA V 48)), (1, .int a0)] dX12_thirsty_3 rfl (by decide) rfl ?_
  refine a_iconst C 0 dX12_thirsty_4 (by decide) ?_
  refine a_istore C [(4, .int 0), (3, .int 0), (2, .int 0), (0, .ref (eA V 48)), (1, .int a0)] dX12_thirsty_5 (by decide) rfl ?_
  refine a_sub [3, 4, 2, 1, 0] rfl ?_
  obtain ⟨n7, h⟩ := h
  refine tl_X12_thirsty_7 C (fun v19 v29 v39 u9 h => ?_) n7 _ _ _ _ _ h
  refine a_iload_n C 0 dX12_thirsty_49 rfl rfl ?_
  refine a_if_eq C 57 dX12_thirsty_50 (by decide) (fun c10 => ?_) (fun c10 => ?_)
  · have h := h.1 c10
    refine a_iload_n C 1 dX12_thirsty_57 rfl rfl ?_
    exact a_iret C dX12_thirsty_58 h
  · have h := h.2 c10
    refine a_iload_n C 2 dX12_thirsty_53 rfl rfl ?_
    refine a_goto C 58 dX12_thirsty_54 (by decide) ?_
    exact a_iret C dX12_thirsty_58 h

/-! RainOnTheOneModel.driest()I -/
def wj_X12_driest_34 (k4 : Int32 → Int32 → PoS → Prop) (post : Int32 → PoS → Prop) (v1 : Int32) (v2 : Int32) (u : PoS) : Prop := k4 v1 (v2 + 1) u
def wj_X12_driest_29 (k4 : Int32 → Int32 → PoS → Prop) (post : Int32 → PoS → Prop) (v1 : Int32) (v2 : Int32) (s0 : Int32) (s1 : Int32) (u : PoS) : Prop := ((s1 ≤ s0 → wj_X12_driest_34 k4 post v1 v2 u) ∧ (¬ s1 ≤ s0 → wj_X12_driest_34 k4 post v2 v2 u))
def wl_X12_driest_4 (post : Int32 → PoS → Prop) : Nat → Int32 → Int32 → PoS → Prop
  | 0, _, _, _ => False
  | n + 1, v1, v2, u => ((30 ≤ v2 → post v1 u) ∧ (¬ 30 ≤ v2 → wp_X12_lackOf v2 u (fun (r1 : Int32) (u2 : PoS) => ((¬ v1 = (-1) → wp_X12_lackOf v1 u2 (fun (r3 : Int32) (u4 : PoS) => wj_X12_driest_29 (wl_X12_driest_4 post n) post v1 v2 r3 r1 u4)) ∧ (v1 = (-1) → wj_X12_driest_29 (wl_X12_driest_4 post n) post v1 v2 0 r1 u2)))))
def wp_X12_driest (u : PoS) (post : Int32 → PoS → Prop) : Prop := (∃ n4, wl_X12_driest_4 post n4 (-1) 0 u)
set_option maxHeartbeats 4000000 in
set_option maxRecDepth 100000 in
theorem tj_X12_driest_34 {p : Program} {l : Launch} {e : Env} {s : State} {m : MethodId} {args : Array Value} {below : List Frame} {meth : Method} {c : Code} {V : VEn} {k4 : Int32 → Int32 → PoS → Prop} {post : Int32 → PoS → Prop} (C : CxS p s m args meth c V cX12_driest 3 RX12 (some .int)) (hk4 : ∀ (v1 : Int32) (v2 : Int32) (u : PoS), k4 v1 v2 u → AtS p l e (Rm 1) s m args below meth c V 3 0 0 (QI V below args s post) 4 [(0, .ref (eA V 48)), (1, .int v1), (2, .int v2)] [] u) (v1 : Int32) (v2 : Int32) (u : PoS) (h : wj_X12_driest_34 k4 post v1 v2 u) : AtS p l e (Rm 1) s m args below meth c V 3 0 0 (QI V below args s post) 34 [(0, .ref (eA V 48)), (1, .int v1), (2, .int v2)] [] u := by
  rw [wj_X12_driest_34] at h
  refine a_iinc C (v2 + 1) 2 [(2, .int (v2 + 1)), (0, .ref (eA V 48)), (1, .int v1)] dX12_driest_34 rfl (congrArg (fun z => v2 + z) (show Int32.ofInt 1 = 1 by decide)) (by decide) rfl ?_
  refine a_goto C 4 dX12_driest_37 (by decide) ?_
  refine a_sub [1, 2, 0] rfl ?_
  exact hk4 _ _ _ h
set_option maxHeartbeats 4000000 in
set_option maxRecDepth 100000 in
theorem tj_X12_driest_29 {p : Program} {l : Launch} {e : Env} {s : State} {m : MethodId} {args : Array Value} {below : List Frame} {meth : Method} {c : Code} {V : VEn} {k4 : Int32 → Int32 → PoS → Prop} {post : Int32 → PoS → Prop} (C : CxS p s m args meth c V cX12_driest 3 RX12 (some .int)) (hk4 : ∀ (v1 : Int32) (v2 : Int32) (u : PoS), k4 v1 v2 u → AtS p l e (Rm 1) s m args below meth c V 3 0 0 (QI V below args s post) 4 [(0, .ref (eA V 48)), (1, .int v1), (2, .int v2)] [] u) (v1 : Int32) (v2 : Int32) (s0 : Int32) (s1 : Int32) (u : PoS) (h : wj_X12_driest_29 k4 post v1 v2 s0 s1 u) : AtS p l e (Rm 1) s m args below meth c V 3 0 0 (QI V below args s post) 29 [(0, .ref (eA V 48)), (1, .int v1), (2, .int v2)] [.int s0, .int s1] u := by
  rw [wj_X12_driest_29] at h
  refine a_icmp_le C 34 dX12_driest_29 (by decide) (fun c5 => ?_) (fun c5 => ?_)
  · have h := h.1 c5
    refine tj_X12_driest_34 C hk4 _ _ _ h
  · have h := h.2 c5
    refine a_iload_n C 2 dX12_driest_32 rfl rfl ?_
    refine a_istore_n C [(1, .int v2), (0, .ref (eA V 48)), (2, .int v2)] dX12_driest_33 rfl (by decide) rfl ?_
    refine a_sub [1, 0, 2] rfl ?_
    refine tj_X12_driest_34 C hk4 _ _ _ h
set_option maxHeartbeats 4000000 in
set_option maxRecDepth 100000 in
theorem tl_X12_driest_4 {p : Program} {l : Launch} {e : Env} {s : State} {m : MethodId} {args : Array Value} {below : List Frame} {meth : Method} {c : Code} {V : VEn} {post : Int32 → PoS → Prop} (C : CxS p s m args meth c V cX12_driest 3 RX12 (some .int)) : ∀ (n : Nat) (v1 : Int32) (v2 : Int32) (u : PoS), wl_X12_driest_4 post n v1 v2 u → AtS p l e (Rm 1) s m args below meth c V 3 0 0 (QI V below args s post) 4 [(0, .ref (eA V 48)), (1, .int v1), (2, .int v2)] [] u := by
  intro n
  induction n with
  | zero => intro v1 v2 u h; exact h.elim
  | succ n ih =>
    intro v1 v2 u h
    rw [wl_X12_driest_4] at h
    refine a_iload_n C 2 dX12_driest_4 rfl rfl ?_
    refine a_bipush C 30 dX12_driest_5 (by decide) ?_
    refine a_icmp_ge C 40 dX12_driest_7 (by decide) (fun c7 => ?_) (fun c7 => ?_)
    · have h := h.1 c7
      refine a_iload_n C 1 dX12_driest_40 rfl rfl ?_
      exact a_iret C dX12_driest_41 h
    · have h := h.2 c7
      refine a_aload_n C 0 dX12_driest_10 rfl rfl ?_
      refine a_iload_n C 2 dX12_driest_11 rfl rfl ?_
      refine a_callVi C dX12_driest_12 (m_X12_lackOf l V h) bw_1518 bw_1520 bw_93 bw_123 bw_1521 (by decide) rfl rfl np_X12_lackOf rfl rfl (by decide) (Nat.le_of_ble_eq_true rfl) ⟨Nat.zero_le _, Nat.zero_le _⟩ (fun r1 u2 h => ?_)
      refine a_iload_n C 1 dX12_driest_15 rfl rfl ?_
      refine a_iconst C (-1) dX12_driest_16 (by decide) ?_
      refine a_icmp_ne C 24 dX12_driest_17 (by decide) (fun c6 => ?_) (fun c6 => ?_)
      · have h := h.1 c6
        refine a_aload_n C 0 dX12_driest_24 rfl rfl ?_
        refine a_iload_n C 1 dX12_driest_25 rfl rfl ?_
        refine a_callVi C dX12_driest_26 (m_X12_lackOf l V h) bw_1518 bw_1520 bw_93 bw_123 bw_1521 (by decide) rfl rfl np_X12_lackOf rfl rfl (by decide) (Nat.le_of_ble_eq_true rfl) ⟨Nat.zero_le _, Nat.zero_le _⟩ (fun r3 u4 h => ?_)
        refine tj_X12_driest_29 C ih _ _ _ _ _ h
      · have h := h.2 c6
        refine a_iconst C 0 dX12_driest_20 (by decide) ?_
        refine a_goto C 29 dX12_driest_21 (by decide) ?_
        refine tj_X12_driest_29 C ih _ _ _ _ _ h
theorem np_X12_driest : yX12_driest.cls ≠ "java/lang/invoke/MethodHandle" ∧ yX12_driest.cls ≠ "java/lang/invoke/VarHandle" ∧ (parseMethodDescriptor yX12_driest.desc).map (fun d => d.parameters.length) = some 0 := by decide +kernel
set_option maxHeartbeats 4000000 in
set_option maxRecDepth 100000 in
theorem m_X12_driest (l : Launch) (V : VEn) {u : PoS} {post : Int32 → PoS → Prop} (h : wp_X12_driest  u post) : KI l V yX12_driest cX12_driest 3 .int 1 [.ref (eA V 48)] u post := by
  refine KI_of (by decide) (Nat.le_of_ble_eq_true rfl) (lv := [(0, .ref (eA V 48))]) rfl ?_
  intro p e s m args below meth c C
  rw [wp_X12_driest] at h
  refine a_iconst C (-1) dX12_driest_0 (by decide) ?_
  refine a_istore_n C [(1, .int (-1)), (0, .ref (eA V 48))] dX12_driest_1 rfl (by decide) rfl ?_
  refine a_iconst C 0 dX12_driest_2 (by decide) ?_
  refine a_istore_n C [(2, .int 0), (1, .int (-1)), (0, .ref (eA V 48))] dX12_driest_3 rfl (by decide) rfl ?_
  refine a_sub [2, 1, 0] rfl ?_
  obtain ⟨n4, h⟩ := h
  refine tl_X12_driest_4 C n4 _ _ _ h

/-! RainOnTheOneModel.wettest()I -/
def wj_X12_wettest_40 (k4 : Int32 → Int32 → PoS → Prop) (post : Int32 → PoS → Prop) (v1 : Int32) (v2 : Int32) (u : PoS) : Prop := k4 v1 (v2 + 1) u
def wj_X12_wettest_35 (k4 : Int32 → Int32 → PoS → Prop) (post : Int32 → PoS → Prop) (v1 : Int32) (v2 : Int32) (s0 : Int32) (s1 : Int32) (u : PoS) : Prop := ((s1 ≤ s0 → wj_X12_wettest_40 k4 post v1 v2 u) ∧ (¬ s1 ≤ s0 → wj_X12_wettest_40 k4 post v2 v2 u))
def wl_X12_wettest_4 (post : Int32 → PoS → Prop) : Nat → Int32 → Int32 → PoS → Prop
  | 0, _, _, _ => False
  | n + 1, v1, v2, u => (((gI u 49 0) ≤ v2 → post v1 u) ∧ (¬ (gI u 49 0) ≤ v2 → wp_X12_get v2 2 u (fun (r1 : Int32) (u2 : PoS) => ((¬ v1 = (-1) → wp_X12_get v1 2 u2 (fun (r3 : Int32) (u4 : PoS) => wj_X12_wettest_35 (wl_X12_wettest_4 post n) post v1 v2 r3 r1 u4)) ∧ (v1 = (-1) → wj_X12_wettest_35 (wl_X12_wettest_4 post n) post v1 v2 0 r1 u2)))))
def wp_X12_wettest (u : PoS) (post : Int32 → PoS → Prop) : Prop := (∃ n4, wl_X12_wettest_4 post n4 (-1) 0 u)
set_option maxHeartbeats 4000000 in
set_option maxRecDepth 100000 in
theorem tj_X12_wettest_40 {p : Program} {l : Launch} {e : Env} {s : State} {m : MethodId} {args : Array Value} {below : List Frame} {meth : Method} {c : Code} {V : VEn} {k4 : Int32 → Int32 → PoS → Prop} {post : Int32 → PoS → Prop} (C : CxS p s m args meth c V cX12_wettest 3 RX12 (some .int)) (hk4 : ∀ (v1 : Int32) (v2 : Int32) (u : PoS), k4 v1 v2 u → AtS p l e (Rm 1) s m args below meth c V 3 0 0 (QI V below args s post) 4 [(0, .ref (eA V 48)), (1, .int v1), (2, .int v2)] [] u) (v1 : Int32) (v2 : Int32) (u : PoS) (h : wj_X12_wettest_40 k4 post v1 v2 u) : AtS p l e (Rm 1) s m args below meth c V 3 0 0 (QI V below args s post) 40 [(0, .ref (eA V 48)), (1, .int v1), (2, .int v2)] [] u := by
  rw [wj_X12_wettest_40] at h
  refine a_iinc C (v2 + 1) 2 [(2, .int (v2 + 1)), (0, .ref (eA V 48)), (1, .int v1)] dX12_wettest_40 rfl (congrArg (fun z => v2 + z) (show Int32.ofInt 1 = 1 by decide)) (by decide) rfl ?_
  refine a_goto C 4 dX12_wettest_43 (by decide) ?_
  refine a_sub [1, 2, 0] rfl ?_
  exact hk4 _ _ _ h
set_option maxHeartbeats 4000000 in
set_option maxRecDepth 100000 in
theorem tj_X12_wettest_35 {p : Program} {l : Launch} {e : Env} {s : State} {m : MethodId} {args : Array Value} {below : List Frame} {meth : Method} {c : Code} {V : VEn} {k4 : Int32 → Int32 → PoS → Prop} {post : Int32 → PoS → Prop} (C : CxS p s m args meth c V cX12_wettest 3 RX12 (some .int)) (hk4 : ∀ (v1 : Int32) (v2 : Int32) (u : PoS), k4 v1 v2 u → AtS p l e (Rm 1) s m args below meth c V 3 0 0 (QI V below args s post) 4 [(0, .ref (eA V 48)), (1, .int v1), (2, .int v2)] [] u) (v1 : Int32) (v2 : Int32) (s0 : Int32) (s1 : Int32) (u : PoS) (h : wj_X12_wettest_35 k4 post v1 v2 s0 s1 u) : AtS p l e (Rm 1) s m args below meth c V 3 0 0 (QI V below args s post) 35 [(0, .ref (eA V 48)), (1, .int v1), (2, .int v2)] [.int s0, .int s1] u := by
  rw [wj_X12_wettest_35] at h
  refine a_icmp_le C 40 dX12_wettest_35 (by decide) (fun c5 => ?_) (fun c5 => ?_)
  · have h := h.1 c5
    refine tj_X12_wettest_40 C hk4 _ _ _ h
  · have h := h.2 c5
    refine a_iload_n C 2 dX12_wettest_38 rfl rfl ?_
    refine a_istore_n C [(1, .int v2), (0, .ref (eA V 48)), (2, .int v2)] dX12_wettest_39 rfl (by decide) rfl ?_
    refine a_sub [1, 0, 2] rfl ?_
    refine tj_X12_wettest_40 C hk4 _ _ _ h
set_option maxHeartbeats 4000000 in
set_option maxRecDepth 100000 in
theorem tl_X12_wettest_4 {p : Program} {l : Launch} {e : Env} {s : State} {m : MethodId} {args : Array Value} {below : List Frame} {meth : Method} {c : Code} {V : VEn} {post : Int32 → PoS → Prop} (C : CxS p s m args meth c V cX12_wettest 3 RX12 (some .int)) : ∀ (n : Nat) (v1 : Int32) (v2 : Int32) (u : PoS), wl_X12_wettest_4 post n v1 v2 u → AtS p l e (Rm 1) s m args below meth c V 3 0 0 (QI V below args s post) 4 [(0, .ref (eA V 48)), (1, .int v1), (2, .int v2)] [] u := by
  intro n
  induction n with
  | zero => intro v1 v2 u h; exact h.elim
  | succ n ih =>
    intro v1 v2 u h
    rw [wl_X12_wettest_4] at h
    refine a_iload_n C 2 dX12_wettest_4 rfl rfl ?_
    refine a_aload_n C 0 dX12_wettest_5 rfl rfl ?_
    refine a_getr C 0 (r := 49) dX12_wettest_6 (by decide) rfl rfl rfl ib_12 (by decide) bw_1022 ?_
    refine a_iconst C 0 dX12_wettest_9 (by decide) ?_
    refine b_iald C 0 dX12_wettest_10 (by decide) rfl (vp_lit (by decide)) (by decide) ?_
    refine a_icmp_ge C 46 dX12_wettest_11 (by decide) (fun c7 => ?_) (fun c7 => ?_)
    · have h := h.1 c7
      refine a_iload_n C 1 dX12_wettest_46 rfl rfl ?_
      exact a_iret C dX12_wettest_47 h
    · have h := h.2 c7
      refine a_aload_n C 0 dX12_wettest_14 rfl rfl ?_
      refine a_iload_n C 2 dX12_wettest_15 rfl rfl ?_
      refine a_iconst C 2 dX12_wettest_16 (by decide) ?_
      refine a_callVi C dX12_wettest_17 (m_X12_get l V h) bw_1158 bw_1160 bw_42 bw_123 bw_1161 (by decide) rfl rfl np_X12_get rfl rfl (by decide) (Nat.le_of_ble_eq_true rfl) ⟨Nat.zero_le _, Nat.zero_le _⟩ (fun r1 u2 h => ?_)
      refine a_iload_n C 1 dX12_wettest_20 rfl rfl ?_
      refine a_iconst C (-1) dX12_wettest_21 (by decide) ?_
      refine a_icmp_ne C 29 dX12_wettest_22 (by decide) (fun c6 => ?_) (fun c6 => ?_)
      · have h := h.1 c6
        refine a_aload_n C 0 dX12_wettest_29 rfl rfl ?_
        refine a_iload_n C 1 dX12_wettest_30 rfl rfl ?_
        refine a_iconst C 2 dX12_wettest_31 (by decide) ?_
        refine a_callVi C dX12_wettest_32 (m_X12_get l V h) bw_1158 bw_1160 bw_42 bw_123 bw_1161 (by decide) rfl rfl np_X12_get rfl rfl (by decide) (Nat.le_of_ble_eq_true rfl) ⟨Nat.zero_le _, Nat.zero_le _⟩ (fun r3 u4 h => ?_)
        refine tj_X12_wettest_35 C ih _ _ _ _ _ h
      · have h := h.2 c6
        refine a_iconst C 0 dX12_wettest_25 (by decide) ?_
        refine a_goto C 35 dX12_wettest_26 (by decide) ?_
        refine tj_X12_wettest_35 C ih _ _ _ _ _ h
theorem np_X12_wettest : yX12_wettest.cls ≠ "java/lang/invoke/MethodHandle" ∧ yX12_wettest.cls ≠ "java/lang/invoke/VarHandle" ∧ (parseMethodDescriptor yX12_wettest.desc).map (fun d => d.parameters.length) = some 0 := by decide +kernel
set_option maxHeartbeats 4000000 in
set_option maxRecDepth 100000 in
theorem m_X12_wettest (l : Launch) (V : VEn) {u : PoS} {post : Int32 → PoS → Prop} (h : wp_X12_wettest  u post) : KI l V yX12_wettest cX12_wettest 3 .int 1 [.ref (eA V 48)] u post := by
  refine KI_of (by decide) (Nat.le_of_ble_eq_true rfl) (lv := [(0, .ref (eA V 48))]) rfl ?_
  intro p e s m args below meth c C
  rw [wp_X12_wettest] at h
  refine a_iconst C (-1) dX12_wettest_0 (by decide) ?_
  refine a_istore_n C [(1, .int (-1)), (0, .ref (eA V 48))] dX12_wettest_1 rfl (by decide) rfl ?_
  refine a_iconst C 0 dX12_wettest_2 (by decide) ?_
  refine a_istore_n C [(2, .int 0), (1, .int (-1)), (0, .ref (eA V 48))] dX12_wettest_3 rfl (by decide) rfl ?_
  refine a_sub [2, 1, 0] rfl ?_
  obtain ⟨n4, h⟩ := h
  refine tl_X12_wettest_4 C n4 _ _ _ h

/-! RainOnTheOneModel.near(I)I -/
def wj_X12_near_79 (k22 : Int32 → Int32 → PoS → Prop) (post : Int32 → PoS → Prop) (v2 : Int32) (v3 : Int32) (u : PoS) : Prop := k22 v2 (v3 + 1) u
def wj_X12_near_77 (k22 : Int32 → Int32 → PoS → Prop) (post : Int32 → PoS → Prop) (v3 : Int32) (u : PoS) : Prop := wj_X12_near_79 k22 post v3 v3 u
def wl_X12_near_22 (post : Int32 → PoS → Prop) : Nat → Int32 → Int32 → PoS → Prop
  | 0, _, _, _ => False
  | n + 1, v2, v3, u => (((gI u 49 0) ≤ v3 → post v2 u) ∧ (¬ (gI u 49 0) ≤ v3 → wp_X12_get v3 0 u (fun (r7 : Int32) (u8 : PoS) => vp_in r7 30 ∧ (((gI u8 57 (Int32.toNatClampNeg r7)) = (-1) → wj_X12_near_79 (wl_X12_near_22 post n) post v2 v3 u8) ∧ (¬ (gI u8 57 (Int32.toNatClampNeg r7)) = (-1) → ((v2 = (-1) → wj_X12_near_77 (wl_X12_near_22 post n) post v3 u8) ∧ (¬ v2 = (-1) → wp_X12_get v3 0 u8 (fun (r9 : Int32) (u10 : PoS) => vp_in r9 30 ∧ wp_X12_get v2 0 u10 (fun (r11 : Int32) (u12 : PoS) => vp_in r11 30 ∧ (((gI u12 57 (Int32.toNatClampNeg r11)) ≤ (gI u10 57 (Int32.toNatClampNeg r9)) → wj_X12_near_79 (wl_X12_near_22 post n) post v2 v3 u12) ∧ (¬ (gI u12 57 (Int32.toNatClampNeg r11)) ≤ (gI u10 57 (Int32.toNatClampNeg r9)) → wj_X12_near_77 (wl_X12_near_22 post n) post v3 u12)))))))))))
def wp_X12_near (a0 : Int32) (u : PoS) (post : Int32 → PoS → Prop) : Prop := wp_X12_isCell a0 u (fun (r1 : Int32) (u2 : PoS) => ((¬ r1 = 0 → wp_X12_free u2 (fun (r3 : Int32) (u4 : PoS) => wp_X12_layFar a0 r3 u4 (fun (u6 : PoS) => (∃ n22, wl_X12_near_22 post n22 (-1) 0 u6)))) ∧ (r1 = 0 → post (-1) u2)))
set_option maxHeartbeats 4000000 in
set_option maxRecDepth 100000 in
theorem tj_X12_near_79 {p : Program} {l : Launch} {e : Env} {s : State} {m : MethodId} {args : Array Value} {below : List Frame} {meth : Method} {c : Code} {V : VEn} {k22 : Int32 → Int32 → PoS → Prop} {post : Int32 → PoS → Prop} (C : CxS p s m args meth c V cX12_near 4 RX12 (some .int)) (hk22 : ∀ (v2 : Int32) (v3 : Int32) (u : PoS), k22 v2 v3 u → AtS p l e (Rm 4) s m args below meth c V 4 0 0 (QI V below args s post) 22 [(0, .ref (eA V 48)), (2, .int v2), (3, .int v3)] [] u) (v2 : Int32) (v3 : Int32) (u : PoS) (h : wj_X12_near_79 k22 post v2 v3 u) : AtS p l e (Rm 4) s m args below meth c V 4 0 0 (QI V below args s post) 79 [(0, .ref (eA V 48)), (2, .int v2), (3, .int v3)] [] u := by
  rw [wj_X12_near_79] at h
  refine a_iinc C (v3 + 1) 2 [(3, .int (v3 + 1)), (0, .ref (eA V 48)), (2, .int v2)] dX12_near_79 rfl (congrArg (fun z => v3 + z) (show Int32.ofInt 1 = 1 by decide)) (by decide) rfl ?_
  refine a_goto C 22 dX12_near_82 (by decide) ?_
  refine a_sub [1, 2, 0] rfl ?_
  exact hk22 _ _ _ h
set_option maxHeartbeats 4000000 in
set_option maxRecDepth 100000 in
theorem tj_X12_near_77 {p : Program} {l : Launch} {e : Env} {s : State} {m : MethodId} {args : Array Value} {below : List Frame} {meth : Method} {c : Code} {V : VEn} {k22 : Int32 → Int32 → PoS → Prop} {post : Int32 → PoS → Prop} (C : CxS p s m args meth c V cX12_near 4 RX12 (some .int)) (hk22 : ∀ (v2 : Int32) (v3 : Int32) (u : PoS), k22 v2 v3 u → AtS p l e (Rm 4) s m args below meth c V 4 0 0 (QI V below args s post) 22 [(0, .ref (eA V 48)), (2, .int v2), (3, .int v3)] [] u) (v3 : Int32) (u : PoS) (h : wj_X12_near_77 k22 post v3 u) : AtS p l e (Rm 4) s m args below meth c V 4 0 0 (QI V below args s post) 77 [(0, .ref (eA V 48)), (3, .int v3)] [] u := by
  rw [wj_X12_near_77] at h
  refine a_iload_n C 1 dX12_near_77 rfl rfl ?_
  refine a_istore_n C [(2, .int v3), (0, .ref (eA V 48)), (3, .int v3)] dX12_near_78 rfl (by decide) rfl ?_
  refine a_sub [1, 0, 2] rfl ?_
  refine tj_X12_near_79 C hk22 _ _ _ h
set_option maxHeartbeats 4000000 in
set_option maxRecDepth 100000 in
theorem tl_X12_near_22 {p : Program} {l : Launch} {e : Env} {s : State} {m : MethodId} {args : Array Value} {below : List Frame} {meth : Method} {c : Code} {V : VEn} {post : Int32 → PoS → Prop} (C : CxS p s m args meth c V cX12_near 4 RX12 (some .int)) : ∀ (n : Nat) (v2 : Int32) (v3 : Int32) (u : PoS), wl_X12_near_22 post n v2 v3 u → AtS p l e (Rm 4) s m args below meth c V 4 0 0 (QI V below args s post) 22 [(0, .ref (eA V 48)), (2, .int v2), (3, .int v3)] [] u := by
  intro n
  induction n with
  | zero => intro v2 v3 u h; exact h.elim
  | succ n ih =>
    intro v2 v3 u h
    rw [wl_X12_near_22] at h
    refine a_iload_n C 2 dX12_near_22 rfl rfl ?_
    refine a_aload_n C 0 dX12_near_23 rfl rfl ?_
    refine a_getr C 0 (r := 49) dX12_near_24 (by decide) rfl rfl rfl ib_12 (by decide) bw_1022 ?_
    refine a_iconst C 0 dX12_near_27 (by decide) ?_
    refine b_iald C 0 dX12_near_28 (by decide) rfl (vp_lit (by decide)) (by decide) ?_
    refine a_icmp_ge C 85 dX12_near_29 (by decide) (fun c16 => ?_) (fun c16 => ?_)
    · have h := h.1 c16
      refine a_iload_n C 1 dX12_near_85 rfl rfl ?_
      exact a_iret C dX12_near_86 h
    · have h := h.2 c16
      refine a_aload_n C 0 dX12_near_32 rfl rfl ?_
      refine a_getr C 23 (r := 57) dX12_near_33 (by decide) rfl rfl rfl ib_12 (by decide) bw_1045 ?_
      refine a_aload_n C 0 dX12_near_36 rfl rfl ?_
      refine a_iload_n C 2 dX12_near_37 rfl rfl ?_
      refine a_iconst C 0 dX12_near_38 (by decide) ?_
      refine a_callVi C dX12_near_39 (m_X12_get l V h) bw_1158 bw_1160 bw_42 bw_123 bw_1161 (by decide) rfl rfl np_X12_get rfl rfl (by decide) (Nat.le_of_ble_eq_true rfl) ⟨Nat.zero_le _, Nat.zero_le _⟩ (fun r7 u8 h => ?_)
      refine b_iald C (Int32.toNatClampNeg r7) dX12_near_42 (by decide) rfl h.1 rfl ?_
      have h := h.2
      refine a_iconst C (-1) dX12_near_43 (by decide) ?_
      refine a_icmp_eq C 79 dX12_near_44 (by decide) (fun c15 => ?_) (fun c15 => ?_)
      · have h := h.1 c15
        refine tj_X12_near_79 C ih _ _ _ h
      · have h := h.2 c15
        refine a_iload_n C 1 dX12_near_47 rfl rfl ?_
        refine a_iconst C (-1) dX12_near_48 (by decide) ?_
        refine a_icmp_eq C 77 dX12_near_49 (by decide) (fun c14 => ?_) (fun c14 => ?_)
        · have h := h.1 c14
          refine a_sub [0, 2] rfl ?_
          refine tj_X12_near_77 C ih _ _ h
        · have h := h.2 c14
          refine a_aload_n C 0 dX12_near_52 rfl rfl ?_
          refine a_getr C 23 (r := 57) dX12_near_53 (by decide) rfl rfl rfl ib_12 (by decide) bw_1045 ?_
          refine a_aload_n C 0 dX12_near_56 rfl rfl ?_
          refine a_iload_n C 2 dX12_near_57 rfl rfl ?_
          refine a_iconst C 0 dX12_near_58 (by decide) ?_
          refine a_callVi C dX12_near_59 (m_X12_get l V h) bw_1158 bw_1160 bw_42 bw_123 bw_1161 (by decide) rfl rfl np_X12_get rfl rfl (by decide) (Nat.le_of_ble_eq_true rfl) ⟨Nat.zero_le _, Nat.zero_le _⟩ (fun r9 u10 h => ?_)
          refine b_iald C (Int32.toNatClampNeg r9) dX12_near_62 (by decide) rfl h.1 rfl ?_
          have h := h.2
          refine a_aload_n C 0 dX12_near_63 rfl rfl ?_
          refine a_getr C 23 (r := 57) dX12_near_64 (by decide) rfl rfl rfl ib_12 (by decide) bw_1045 ?_
          refine a_aload_n C 0 dX12_near_67 rfl rfl ?_
          refine a_iload_n C 1 dX12_near_68 rfl rfl ?_
          refine a_iconst C 0 dX12_near_69 (by decide) ?_
          refine a_callVi C dX12_near_70 (m_X12_get l V h) bw_1158 bw_1160 bw_42 bw_123 bw_1161 (by decide) rfl rfl np_X12_get rfl rfl (by decide) (Nat.le_of_ble_eq_true rfl) ⟨Nat.zero_le _, Nat.zero_le _⟩ (fun r11 u12 h => ?_)
          refine b_iald C (Int32.toNatClampNeg r11) dX12_near_73 (by decide) rfl h.1 rfl ?_
          have h := h.2
          refine a_icmp_ge C 79 dX12_near_74 (by decide) (fun c13 => ?_) (fun c13 => ?_)
          · have h := h.1 c13
            refine tj_X12_near_79 C ih _ _ _ h
          · have h := h.2 c13
            refine a_sub [0, 2] rfl ?_
            refine tj_X12_near_77 C ih _ _ h
theorem np_X12_near : yX12_near.cls ≠ "java/lang/invoke/MethodHandle" ∧ yX12_near.cls ≠ "java/lang/invoke/VarHandle" ∧ (parseMethodDescriptor yX12_near.desc).map (fun d => d.parameters.length) = some 1 := by decide +kernel
set_option maxHeartbeats 4000000 in
set_option maxRecDepth 100000 in
theorem m_X12_near (l : Launch) (V : VEn) {a0 : Int32} {u : PoS} {post : Int32 → PoS → Prop} (h : wp_X12_near a0 u post) : KI l V yX12_near cX12_near 4 .int 4 [.ref (eA V 48), .int a0] u post := by
  refine KI_of (by decide) (Nat.le_of_ble_eq_true rfl) (lv := [(0, .ref (eA V 48)), (1, .int a0)]) rfl ?_
  intro p e s m args below meth c C
  rw [wp_X12_near] at h
  refine a_iload_n C 1 dX12_near_0 rfl rfl ?_
  refine a_callSi C dX12_near_1 (m_X12_isCell l V h) bw_1144 bw_1145 bw_123 bw_1146 np_X12_isCell rfl rfl (by decide) (Nat.le_of_ble_eq_true rfl) ⟨Nat.zero_le _, Nat.zero_le _⟩ (fun r1 u2 h => ?_)
  refine a_if_ne C 9 dX12_near_4 (by decide) (fun c17 => ?_) (fun c17 => ?_)
  · have h := h.1 c17
    refine a_aload_n C 0 dX12_near_9 rfl rfl ?_
    refine a_iload_n C 1 dX12_near_10 rfl rfl ?_
    refine a_aload_n C 0 dX12_near_11 rfl rfl ?_
    refine a_callVi C dX12_near_12 (m_X12_free l V h) bw_1395 bw_1397 bw_79 bw_123 bw_1398 (by decide) rfl rfl np_X12_free rfl rfl (by decide) (Nat.le_of_ble_eq_true rfl) ⟨Nat.zero_le _, Nat.zero_le _⟩ (fun r3 u4 h => ?_)
    refine a_callVv C dX12_near_15 (m_X12_layFar l V h) bw_1399 bw_1401 bw_80 bw_123 bw_1402 (by decide) rfl rfl np_X12_layFar rfl rfl (by decide) (Nat.le_of_ble_eq_true rfl) ⟨Nat.zero_le _, Nat.zero_le _⟩ (fun u6 h => ?_)
    refine a_iconst C (-1) dX12_near_18 (by decide) ?_
    refine a_istore_n C [(2, .int (-1)), (0, .ref (eA V 48)), (1, .int a0)] dX12_near_19 rfl (by decide) rfl ?_
    refine a_iconst C 0 dX12_near_20 (by decide) ?_
    refine a_istore_n C [(3, .int 0), (2, .int (-1)), (0, .ref (eA V 48)), (1, .int a0)] dX12_near_21 rfl (by decide) rfl ?_
    refine a_sub [2, 1, 0] rfl ?_
    obtain ⟨n22, h⟩ := h
    refine tl_X12_near_22 C n22 _ _ _ h
  · have h := h.2 c17
    refine a_iconst C (-1) dX12_near_7 (by decide) ?_
    exact a_iret C dX12_near_8 h

/-! RainOnTheOneModel.setAside()V -/
def wl_X12_setAside_3 (k27 : PoS → Prop) (post : PoS → Prop) : Nat → Int32 → PoS → Prop
  | 0, _, _ => False
  | n + 1, v1, u => ((70 ≤ v1 → k27  u) ∧ (¬ 70 ≤ v1 → vp_in v1 3703 ∧ vp_in v1 70 ∧ ∀ z1 : PoS, z1 = pI u 58 (Int32.toNatClampNeg v1) (gI u 49 (Int32.toNatClampNeg v1)) → wl_X12_setAside_3 k27 post n (v1 + 1) z1))
def wp_X12_setAside (u : PoS) (post : PoS → Prop) : Prop := (∃ n3, wl_X12_setAside_3 (fun (u3 : PoS) => ∀ z4 : PoS, z4 = pI u3 48 24 0 → post z4) post n3 6 u)
set_option maxHeartbeats 4000000 in
set_option maxRecDepth 100000 in
theorem tl_X12_setAside_3 {p : Program} {l : Launch} {e : Env} {s : State} {m : MethodId} {args : Array Value} {below : List Frame} {meth : Method} {c : Code} {V : VEn} {k27 : PoS → Prop} {post : PoS → Prop} (C : CxS p s m args meth c V cX12_setAside 2 RX12 none) (hk27 : ∀ (u : PoS), k27  u → AtS p l e (Rm 0) s m args below meth c V 2 0 0 (QV V below args s post) 27 [(0, .ref (eA V 48))] [] u) : ∀ (n : Nat) (v1 : Int32) (u : PoS), wl_X12_setAside_3 k27 post n v1 u → AtS p l e (Rm 0) s m args below meth c V 2 0 0 (QV V below args s post) 3 [(0, .ref (eA V 48)), (1, .int v1)] [] u := by
  intro n
  induction n with
  | zero => intro v1 u h; exact h.elim
  | succ n ih =>
    intro v1 u h
    rw [wl_X12_setAside_3] at h
    refine a_iload_n C 1 dX12_setAside_3 rfl rfl ?_
    refine a_bipush C 70 dX12_setAside_4 (by decide) ?_
    refine a_icmp_ge C 27 dX12_setAside_6 (by decide) (fun c2 => ?_) (fun c2 => ?_)
    · have h := h.1 c2
      refine a_sub [0] rfl ?_
      exact hk27 _ h
    · have h := h.2 c2
      refine a_aload_n C 0 dX12_setAside_9 rfl rfl ?_
      refine a_getr C 26 (r := 58) dX12_setAside_10 (by decide) rfl rfl rfl ib_12 (by decide) bw_1048 ?_
      refine a_iload_n C 1 dX12_setAside_13 rfl rfl ?_
      refine a_aload_n C 0 dX12_setAside_14 rfl rfl ?_
      refine a_getr C 0 (r := 49) dX12_setAside_15 (by decide) rfl rfl rfl ib_12 (by decide) bw_1022 ?_
      refine a_iload_n C 1 dX12_setAside_18 rfl rfl ?_
      refine b_iald C (Int32.toNatClampNeg v1) dX12_setAside_19 (by decide) rfl h.1 rfl ?_
      have h := h.2
      refine b_iast C (Int32.toNatClampNeg v1) dX12_setAside_20 (by decide) rfl h.1 rfl ?_
      have h := h.2
      refine a_topu (fun z1 ez1 => ?_)
      have h := h z1 ez1
      refine a_iinc C (v1 + 1) 1 [(1, .int (v1 + 1)), (0, .ref (eA V 48))] dX12_setAside_21 rfl (congrArg (fun z => v1 + z) (show Int32.ofInt 1 = 1 by decide)) (by decide) rfl ?_
      refine a_goto C 3 dX12_setAside_24 (by decide) ?_
      refine a_sub [1, 0] rfl ?_
      exact ih _ _ h
theorem np_X12_setAside : yX12_setAside.cls ≠ "java/lang/invoke/MethodHandle" ∧ yX12_setAside.cls ≠ "java/lang/invoke/VarHandle" ∧ (parseMethodDescriptor yX12_setAside.desc).map (fun d => d.parameters.length) = some 0 := by decide +kernel
set_option maxHeartbeats 4000000 in
set_option maxRecDepth 100000 in
theorem m_X12_setAside (l : Launch) (V : VEn) {u : PoS} {post : PoS → Prop} (h : wp_X12_setAside  u post) : KV l V yX12_setAside cX12_setAside 2 0 [.ref (eA V 48)] u post := by
  refine KV_of (by decide) (Nat.le_of_ble_eq_true rfl) (lv := [(0, .ref (eA V 48))]) rfl ?_
  intro p e s m args below meth c C
  rw [wp_X12_setAside] at h
  refine a_bipush C 6 dX12_setAside_0 (by decide) ?_
  refine a_istore_n C [(1, .int 6), (0, .ref (eA V 48))] dX12_setAside_2 rfl (by decide) rfl ?_
  refine a_sub [1, 0] rfl ?_
  obtain ⟨n3, h⟩ := h
  refine tl_X12_setAside_3 C (fun u3 h => ?_) n3 _ _ h
  refine a_aload_n C 0 dX12_setAside_27 rfl rfl ?_
  refine a_iconst C 0 dX12_setAside_28 (by decide) ?_
  refine a_puti C (ty := .boolean) 24 dX12_setAside_29 (by decide) rfl rfl rfl ib_12 (by decide) bw_1046 tyX12 tyX12_ok nmX12 rfl (by decide +kernel) rfl rfl ?_
  refine a_topu (fun z4 ez4 => ?_)
  have h := h z4 ez4
  exact a_vret C dX12_setAside_32 h

/-! RainOnTheOneModel.putBack()V -/
def wl_X12_putBack_3 (k27 : PoS → Prop) (post : PoS → Prop) : Nat → Int32 → PoS → Prop
  | 0, _, _ => False
  | n + 1, v1, u => ((70 ≤ v1 → k27  u) ∧ (¬ 70 ≤ v1 → vp_in v1 70 ∧ vp_in v1 3703 ∧ ∀ z1 : PoS, z1 = pI u 49 (Int32.toNatClampNeg v1) (gI u 58 (Int32.toNatClampNeg v1)) → wl_X12_putBack_3 k27 post n (v1 + 1) z1))
def wp_X12_putBack (u : PoS) (post : PoS → Prop) : Prop := (∃ n3, wl_X12_putBack_3 (fun (u3 : PoS) => ∀ z4 : PoS, z4 = pI u3 48 24 1 → post z4) post n3 6 u)
set_option maxHeartbeats 4000000 in
set_option maxRecDepth 100000 in
theorem tl_X12_putBack_3 {p : Program} {l : Launch} {e : Env} {s : State} {m : MethodId} {args : Array Value} {below : List Frame} {meth : Method} {c : Code} {V : VEn} {k27 : PoS → Prop} {post : PoS → Prop} (C : CxS p s m args meth c V cX12_putBack 2 RX12 none) (hk27 : ∀ (u : PoS), k27  u → AtS p l e (Rm 0) s m args below meth c V 2 0 0 (QV V below args s post) 27 [(0, .ref (eA V 48))] [] u) : ∀ (n : Nat) (v1 : Int32) (u : PoS), wl_X12_putBack_3 k27 post n v1 u → AtS p l e (Rm 0) s m args below meth c V 2 0 0 (QV V below args s post) 3 [(0, .ref (eA V 48)), (1, .int v1)] [] u := by
  intro n
  induction n with
  | zero => intro v1 u h; exact h.elim
  | succ n ih =>
    intro v1 u h
    rw [wl_X12_putBack_3] at h
    refine a_iload_n C 1 dX12_putBack_3 rfl rfl ?_
    refine a_bipush C 70 dX12_putBack_4 (by decide) ?_
    refine a_icmp_ge C 27 dX12_putBack_6 (by decide) (fun c2 => ?_) (fun c2 => ?_)
    · have h := h.1 c2
      refine a_sub [0] rfl ?_
      exact hk27 _ h
    · have h := h.2 c2
      refine a_aload_n C 0 dX12_putBack_9 rfl rfl ?_
      refine a_getr C 0 (r := 49) dX12_putBack_10 (by decide) rfl rfl rfl ib_12 (by decide) bw_1022 ?_
      refine a_iload_n C 1 dX12_putBack_13 rfl rfl ?_
      refine a_aload_n C 0 dX12_putBack_14 rfl rfl ?_
      refine a_getr C 26 (r := 58) dX12_putBack_15 (by decide) rfl rfl rfl ib_12 (by decide) bw_1048 ?_
      refine a_iload_n C 1 dX12_putBack_18 rfl rfl ?_
      refine b_iald C (Int32.toNatClampNeg v1) dX12_putBack_19 (by decide) rfl h.1 rfl ?_
      have h := h.2
      refine b_iast C (Int32.toNatClampNeg v1) dX12_putBack_20 (by decide) rfl h.1 rfl ?_
      have h := h.2
      refine a_topu (fun z1 ez1 => ?_)
      have h := h z1 ez1
      refine a_iinc C (v1 + 1) 1 [(1, .int (v1 + 1)), (0, .ref (eA V 48))] dX12_putBack_21 rfl (congrArg (fun z => v1 + z) (show Int32.ofInt 1 = 1 by decide)) (by decide) rfl ?_
      refine a_goto C 3 dX12_putBack_24 (by decide) ?_
      refine a_sub [1, 0] rfl ?_
      exact ih _ _ h
theorem np_X12_putBack : yX12_putBack.cls ≠ "java/lang/invoke/MethodHandle" ∧ yX12_putBack.cls ≠ "java/lang/invoke/VarHandle" ∧ (parseMethodDescriptor yX12_putBack.desc).map (fun d => d.parameters.length) = some 0 := by decide +kernel
set_option maxHeartbeats 4000000 in
set_option maxRecDepth 100000 in
theorem m_X12_putBack (l : Launch) (V : VEn) {u : PoS} {post : PoS → Prop} (h : wp_X12_putBack  u post) : KV l V yX12_putBack cX12_putBack 2 0 [.ref (eA V 48)] u post := by
  refine KV_of (by decide) (Nat.le_of_ble_eq_true rfl) (lv := [(0, .ref (eA V 48))]) rfl ?_
  intro p e s m args below meth c C
  rw [wp_X12_putBack] at h
  refine a_bipush C 6 dX12_putBack_0 (by decide) ?_
  refine a_istore_n C [(1, .int 6), (0, .ref (eA V 48))] dX12_putBack_2 rfl (by decide) rfl ?_
  refine a_sub [1, 0] rfl ?_
  obtain ⟨n3, h⟩ := h
  refine tl_X12_putBack_3 C (fun u3 h => ?_) n3 _ _ h
  refine a_aload_n C 0 dX12_putBack_27 rfl rfl ?_
  refine a_iconst C 1 dX12_putBack_28 (by decide) ?_
  refine a_puti C (ty := .boolean) 24 dX12_putBack_29 (by decide) rfl rfl rfl ib_12 (by decide) bw_1046 tyX12 tyX12_ok nmX12 rfl (by decide +kernel) rfl rfl ?_
  refine a_topu (fun z4 ez4 => ?_)
  have h := h z4 ez4
  exact a_vret C dX12_putBack_32 h

/-! RainOnTheOneModel.foretold(III)I -/
def wj_X12_foretold_76 (k53 : Int32 → Int32 → Int32 → Int32 → PoS → Prop) (post : Int32 → PoS → Prop) (v1 : Int32) (v2 : Int32) (v3 : Int32) (v4 : Int32) (u : PoS) : Prop := k53 v1 v2 v3 (v4 + 1) u
def wl_X12_foretold_53 (k82 : Int32 → Int32 → PoS → Prop) (post : Int32 → PoS → Prop) : Nat → Int32 → Int32 → Int32 → Int32 → PoS → Prop
  | 0, _, _, _, _, _ => False
  | n + 1, v1, v2, v3, v4, u => ((v1 ≤ v4 → k82 v2 v3 u) ∧ (¬ v1 ≤ v4 → ((9999 ≤ (gI u 49 6) → wj_X12_foretold_76 (wl_X12_foretold_53 k82 post n) post v1 v2 v3 v4 u) ∧ (¬ 9999 ≤ (gI u 49 6) → wp_X12_pass u (fun (u8 : PoS) => wj_X12_foretold_76 (wl_X12_foretold_53 k82 post n) post v1 v2 v3 v4 u8)))))
def wj_X12_foretold_119 (post : Int32 → PoS → Prop) (s0 : Int32) (u : PoS) : Prop := wp_X12_putBack u (fun (u13 : PoS) => post s0 u13)
def wj_X12_foretold_46 (post : Int32 → PoS → Prop) (v1 : Int32) (v2 : Int32) (v3 : Int32) (u : PoS) : Prop := wp_X12_setAside u (fun (u6 : PoS) => (∃ n53, wl_X12_foretold_53 (fun (v211 : Int32) (v311 : Int32) (u11 : PoS) => ((¬ v211 = 0 → ((¬ v211 = 1 → vp_in (40 + v311) 3703 ∧ wj_X12_foretold_119 post (gI u11 49 (Int32.toNatClampNeg (40 + v311))) u11) ∧ (v211 = 1 → wp_X12_get v311 2 u11 (fun (r14 : Int32) (u15 : PoS) => wj_X12_foretold_119 post r14 u15)))) ∧ (v211 = 0 → wj_X12_foretold_119 post (gI u11 49 7) u11))) post n53 v1 v2 v3 0 u6))
def wj_X12_foretold_32 (post : Int32 → PoS → Prop) (v1 : Int32) (v2 : Int32) (v3 : Int32) (u : PoS) : Prop := ((¬ v2 = 2 → wj_X12_foretold_46 post v1 v2 v3 u) ∧ (v2 = 2 → wp_X12_isCell v3 u (fun (r18 : Int32) (u19 : PoS) => ((¬ r18 = 0 → wj_X12_foretold_46 post v1 v2 v3 u19) ∧ (r18 = 0 → post (-1) u19)))))
def wp_X12_foretold (a0 : Int32) (a1 : Int32) (a2 : Int32) (u : PoS) (post : Int32 → PoS → Prop) : Prop := wp_X12_isIn a0 1 60 u (fun (r1 : Int32) (u2 : PoS) => ((r1 = 0 → post (-1) u2) ∧ (¬ r1 = 0 → wp_X12_isIn a1 0 2 u2 (fun (r3 : Int32) (u4 : PoS) => ((r3 = 0 → post (-1) u4) ∧ (¬ r3 = 0 → ((¬ a1 = 1 → wj_X12_foretold_32 post a0 a1 a2 u4) ∧ (a1 = 1 → wp_X12_isPerson a2 u4 (fun (r22 : Int32) (u23 : PoS) => ((r22 = 0 → post (-1) u23) ∧ (¬ r22 = 0 → wj_X12_foretold_32 post a0 a1 a2 u23)))))))))))
set_option maxHeartbeats 4000000 in
set_option maxRecDepth 100000 in
theorem tj_X12_foretold_76 {p : Program} {l : Launch} {e : Env} {s : State} {m : MethodId} {args : Array Value} {below : List Frame} {meth : Method} {c : Code} {V : VEn} {k53 : Int32 → Int32 → Int32 → Int32 → PoS → Prop} {post : Int32 → PoS → Prop} (C : CxS p s m args meth c V cX12_foretold 5 RX12 (some .int)) (hk53 : ∀ (v1 : Int32) (v2 : Int32) (v3 : Int32) (v4 : Int32) (u : PoS), k53 v1 v2 v3 v4 u → AtS p l e (Rm 8) s m args below meth c V 5 0 0 (QI V below args s post) 53 [(0, .ref (eA V 48)), (1, .int v1), (2, .int v2), (3, .int v3), (4, .int v4)] [] u) (v1 : Int32) (v2 : Int32) (v3 : Int32) (v4 : Int32) (u : PoS) (h : wj_X12_foretold_76 k53 post v1 v2 v3 v4 u) : AtS p l e (Rm 8) s m args below meth c V 5 0 0 (QI V below args s post) 76 [(0, .ref (eA V 48)), (1, .int v1), (2, .int v2), (3, .int v3), (4, .int v4)] [] u := by
  rw [wj_X12_foretold_76] at h
  refine a_iinc C (v4 + 1) 4 [(4, .int (v4 + 1)), (0, .ref (eA V 48)), (1, .int v1), (2, .int v2), (3, .int v3)] dX12_foretold_76 rfl (congrArg (fun z => v4 + z) (show Int32.ofInt 1 = 1 by decide)) (by decide) rfl ?_
  refine a_goto C 53 dX12_foretold_79 (by decide) ?_
  refine a_sub [1, 2, 3, 4, 0] rfl ?_
  exact hk53 _ _ _ _ _ h
set_option maxHeartbeats 4000000 in
set_option maxRecDepth 100000 in
theorem tl_X12_foretold_53 {p : Program} {l : Launch} {e : Env} {s : State} {m : MethodId} {args : Array Value} {below : List Frame} {meth : Method} {c : Code} {V : VEn} {k82 : Int32 → Int32 → PoS → Prop} {post : Int32 → PoS → Prop} (C : CxS p s m args meth c V cX12_foretold 5 RX12 (some .int)) (hk82 : ∀ (v2 : Int32) (v3 : Int32) (u : PoS), k82 v2 v3 u → AtS p l e (Rm 8) s m args below meth c V 5 0 0 (QI V below args s post) 82 [(0, .ref (eA V 48)), (2, .int v2), (3, .int v3)] [] u) : ∀ (n : Nat) (v1 : Int32) (v2 : Int32) (v3 : Int32) (v4 : Int32) (u : PoS), wl_X12_foretold_53 k82 post n v1 v2 v3 v4 u → AtS p l e (Rm 8) s m args below meth c V 5 0 0 (QI V below args s post) 53 [(0, .ref (eA V 48)), (1, .int v1), (2, .int v2), (3, .int v3), (4, .int v4)] [] u := by
  intro n
  induction n with
  | zero => intro v1 v2 v3 v4 u h; exact h.elim
  | succ n ih =>
    intro v1 v2 v3 v4 u h
    rw [wl_X12_foretold_53] at h
    refine a_iload C 4 dX12_foretold_53 rfl ?_
    refine a_iload_n C 1 dX12_foretold_55 rfl rfl ?_
    refine a_icmp_ge C 82 dX12_foretold_56 (by decide) (fun c10 => ?_) (fun c10 => ?_)
    · have h := h.1 c10
      refine a_sub [0, 2, 3] rfl ?_
      exact hk82 _ _ _ h
    · have h := h.2 c10
      refine a_aload_n C 0 dX12_foretold_59 rfl rfl ?_
      refine a_getr C 0 (r := 49) dX12_foretold_60 (by decide) rfl rfl rfl ib_12 (by decide) bw_1022 ?_
      refine a_bipush C 6 dX12_foretold_63 (by decide) ?_
      refine b_iald C 6 dX12_foretold_65 (by decide) rfl (vp_lit (by decide)) (by decide) ?_
      refine a_sipush C 9999 dX12_foretold_66 (by decide) ?_
      refine a_icmp_ge C 76 dX12_foretold_69 (by decide) (fun c9 => ?_) (fun c9 => ?_)
      · have h := h.1 c9
        refine tj_X12_foretold_76 C ih _ _ _ _ _ h
      · have h := h.2 c9
        refine a_aload_n C 0 dX12_foretold_72 rfl rfl ?_
        refine a_callVv C dX12_foretold_73 (m_X12_pass l V h) bw_1383 bw_1385 bw_76 bw_123 bw_1386 (by decide) rfl rfl np_X12_pass rfl rfl (by decide) (Nat.le_of_ble_eq_true rfl) ⟨Nat.zero_le _, Nat.zero_le _⟩ (fun u8 h => ?_)
        refine tj_X12_foretold_76 C ih _ _ _ _ _ h
set_option maxHeartbeats 4000000 in
set_option maxRecDepth 100000 in
theorem tj_X12_foretold_119 {p : Program} {l : Launch} {e : Env} {s : State} {m : MethodId} {args : Array Value} {below : List Frame} {meth : Method} {c : Code} {V : VEn} {post : Int32 → PoS → Prop} (C : CxS p s m args meth c V cX12_foretold 5 RX12 (some .int)) (s0 : Int32) (u : PoS) (h : wj_X12_foretold_119 post s0 u) : AtS p l e (Rm 8) s m args below meth c V 5 0 0 (QI V below args s post) 119 [(0, .ref (eA V 48))] [.int s0] u := by
  rw [wj_X12_foretold_119] at h
  refine a_istore C [(4, .int s0), (0, .ref (eA V 48))] dX12_foretold_119 (by decide) rfl ?_
  refine a_aload_n C 1 dX12_foretold_121 rfl rfl ?_
  refine a_callVv C dX12_foretold_122 (m_X12_putBack l V h) bw_1542 bw_1544 bw_95 bw_123 bw_1545 (by decide) rfl rfl np_X12_putBack rfl rfl (by decide) (Nat.le_of_ble_eq_true rfl) ⟨Nat.zero_le _, Nat.zero_le _⟩ (fun u13 h => ?_)
  refine a_iload C 0 dX12_foretold_125 rfl ?_
  exact a_iret C dX12_foretold_127 h
set_option maxHeartbeats 4000000 in
set_option maxRecDepth 100000 in
theorem tj_X12_foretold_46 {p : Program} {l : Launch} {e : Env} {s : State} {m : MethodId} {args : Array Value} {below : List Frame} {meth : Method} {c : Code} {V : VEn} {post : Int32 → PoS → Prop} (C : CxS p s m args meth c V cX12_foretold 5 RX12 (some .int)) (v1 : Int32) (v2 : Int32) (v3 : Int32) (u : PoS) (h : wj_X12_foretold_46 post v1 v2 v3 u) : AtS p l e (Rm 8) s m args below meth c V 5 0 0 (QI V below args s post) 46 [(0, .ref (eA V 48)), (1, .int v1), (2, .int v2), (3, .int v3)] [] u := by
  rw [wj_X12_foretold_46] at h
  refine a_aload_n C 0 dX12_foretold_46 rfl rfl ?_
  refine a_callVv C dX12_foretold_47 (m_X12_setAside l V h) bw_1538 bw_1540 bw_94 bw_123 bw_1541 (by decide) rfl rfl np_X12_setAside rfl rfl (by decide) (Nat.le_of_ble_eq_true rfl) ⟨Nat.zero_le _, Nat.zero_le _⟩ (fun u6 h => ?_)
  refine a_iconst C 0 dX12_foretold_50 (by decide) ?_
  refine a_istore C [(4, .int 0), (0, .ref (eA V 48)), (1, .int v1), (2, .int v2), (3, .int v3)] dX12_foretold_51 (by decide) rfl ?_
  refine a_sub [1, 2, 3, 4, 0] rfl ?_
  obtain ⟨n53, h⟩ := h
  refine tl_X12_foretold_53 C (fun v211 v311 u11 h => ?_) n53 _ _ _ _ _ h
  refine a_iload_n C 1 dX12_foretold_82 rfl rfl ?_
  refine a_if_ne C 96 dX12_foretold_83 (by decide) (fun c17 => ?_) (fun c17 => ?_)
  · have h := h.1 c17
    refine a_iload_n C 1 dX12_foretold_96 rfl rfl ?_
    refine a_iconst C 1 dX12_foretold_97 (by decide) ?_
    refine a_icmp_ne C 110 dX12_foretold_98 (by decide) (fun c16 => ?_) (fun c16 => ?_)
    · have h := h.1 c16
      refine a_aload_n C 0 dX12_foretold_110 rfl rfl ?_
      refine a_getr C 0 (r := 49) dX12_foretold_111 (by decide) rfl rfl rfl ib_12 (by decide) bw_1022 ?_
      refine a_bipush C 40 dX12_foretold_114 (by decide) ?_
      refine a_iload_n C 2 dX12_foretold_116 rfl rfl ?_
      refine a_iadd C dX12_foretold_117 ?_
      refine b_iald C (Int32.toNatClampNeg (40 + v311)) dX12_foretold_118 (by decide) rfl h.1 rfl ?_
      have h := h.2
      refine a_sub [0] rfl ?_
      refine tj_X12_foretold_119 C _ _ h
    · have h := h.2 c16
      refine a_aload_n C 0 dX12_foretold_101 rfl rfl ?_
      refine a_iload_n C 2 dX12_foretold_102 rfl rfl ?_
      refine a_iconst C 2 dX12_foretold_103 (by decide) ?_
      refine a_callVi C dX12_foretold_104 (m_X12_get l V h) bw_1158 bw_1160 bw_42 bw_123 bw_1161 (by decide) rfl rfl np_X12_get rfl rfl (by decide) (Nat.le_of_ble_eq_true rfl) ⟨Nat.zero_le _, Nat.zero_le _⟩ (fun r14 u15 h => ?_)
      refine a_goto C 119 dX12_foretold_107 (by decide) ?_
      refine a_sub [0] rfl ?_
      refine tj_X12_foretold_119 C _ _ h
  · have h := h.2 c17
    refine a_aload_n C 0 dX12_foretold_86 rfl rfl ?_
    refine a_getr C 0 (r := 49) dX12_foretold_87 (by decide) rfl rfl rfl ib_12 (by decide) bw_1022 ?_
    refine a_bipush C 7 dX12_foretold_90 (by decide) ?_
    refine b_iald C 7 dX12_foretold_92 (by decide) rfl (vp_lit (by decide)) (by decide) ?_
    refine a_goto C 119 dX12_foretold_93 (by decide) ?_
    refine a_sub [0] rfl ?_
    refine tj_X12_foretold_119 C _ _ h
set_option maxHeartbeats 4000000 in
set_option maxRecDepth 100000 in
theorem tj_X12_foretold_32 {p : Program} {l : Launch} {e : Env} {s : State} {m : MethodId} {args : Array Value} {below : List Frame} {meth : Method} {c : Code} {V : VEn} {post : Int32 → PoS → Prop} (C : CxS p s m args meth c V cX12_foretold 5 RX12 (some .int)) (v1 : Int32) (v2 : Int32) (v3 : Int32) (u : PoS) (h : wj_X12_foretold_32 post v1 v2 v3 u) : AtS p l e (Rm 8) s m args below meth c V 5 0 0 (QI V below args s post) 32 [(0, .ref (eA V 48)), (1, .int v1), (2, .int v2), (3, .int v3)] [] u := by
  rw [wj_X12_foretold_32] at h
  refine a_iload_n C 2 dX12_foretold_32 rfl rfl ?_
  refine a_iconst C 2 dX12_foretold_33 (by decide) ?_
  refine a_icmp_ne C 46 dX12_foretold_34 (by decide) (fun c21 => ?_) (fun c21 => ?_)
  · have h := h.1 c21
    refine tj_X12_foretold_46 C _ _ _ _ h
  · have h := h.2 c21
    refine a_iload_n C 3 dX12_foretold_37 rfl rfl ?_
    refine a_callSi C dX12_foretold_38 (m_X12_isCell l V h) bw_1144 bw_1145 bw_123 bw_1146 np_X12_isCell rfl rfl (by decide) (Nat.le_of_ble_eq_true rfl) ⟨Nat.zero_le _, Nat.zero_le _⟩ (fun r18 u19 h => ?_)
    refine a_if_ne C 46 dX12_foretold_41 (by decide) (fun c20 => ?_) (fun c20 => ?_)
    · have h := h.1 c20
      refine tj_X12_foretold_46 C _ _ _ _ h
    · have h := h.2 c20
      refine a_iconst C (-1) dX12_foretold_44 (by decide) ?_
      exact a_iret C dX12_foretold_45 h
theorem np_X12_foretold : yX12_foretold.cls ≠ "java/lang/invoke/MethodHandle" ∧ yX12_foretold.cls ≠ "java/lang/invoke/VarHandle" ∧ (parseMethodDescriptor yX12_foretold.desc).map (fun d => d.parameters.length) = some 3 := by decide +kernel
set_option maxHeartbeats 4000000 in
set_option maxRecDepth 100000 in
theorem m_X12_foretold (l : Launch) (V : VEn) {a0 : Int32} {a1 : Int32} {a2 : Int32} {u : PoS} {post : Int32 → PoS → Prop} (h : wp_X12_foretold a0 a1 a2 u post) : KI l V yX12_foretold cX12_foretold 5 .int 8 [.ref (eA V 48), .int a0, .int a1, .int a2] u post := by
  refine KI_of (by decide) (Nat.le_of_ble_eq_true rfl) (lv := [(0, .ref (eA V 48)), (1, .int a0), (2, .int a1), (3, .int a2)]) rfl ?_
  intro p e s m args below meth c C
  rw [wp_X12_foretold] at h
  refine a_iload_n C 1 dX12_foretold_0 rfl rfl ?_
  refine a_iconst C 1 dX12_foretold_1 (by decide) ?_
  refine a_bipush C 60 dX12_foretold_2 (by decide) ?_
  refine a_callSi C dX12_foretold_4 (m_X12_isIn l V h) bw_1147 bw_1148 bw_123 bw_1149 np_X12_isIn rfl rfl (by decide) (Nat.le_of_ble_eq_true rfl) ⟨Nat.zero_le _, Nat.zero_le _⟩ (fun r1 u2 h => ?_)
  refine a_if_eq C 44 dX12_foretold_7 (by decide) (fun c27 => ?_) (fun c27 => ?_)
  · have h := h.1 c27
    refine a_iconst C (-1) dX12_foretold_44 (by decide) ?_
    exact a_iret C dX12_foretold_45 h
  · have h := h.2 c27
    refine a_iload_n C 2 dX12_foretold_10 rfl rfl ?_
    refine a_iconst C 0 dX12_foretold_11 (by decide) ?_
    refine a_iconst C 2 dX12_foretold_12 (by decide) ?_
    refine a_callSi C dX12_foretold_13 (m_X12_isIn l V h) bw_1147 bw_1148 bw_123 bw_1149 np_X12_isIn rfl rfl (by decide) (Nat.le_of_ble_eq_true rfl) ⟨Nat.zero_le _, Nat.zero_le _⟩ (fun r3 u4 h => ?_)
    refine a_if_eq C 44 dX12_foretold_16 (by decide) (fun c26 => ?_) (fun c26 => ?_)
    · have h := h.1 c26
      refine a_iconst C (-1) dX12_foretold_44 (by decide) ?_
      exact a_iret C dX12_foretold_45 h
    · have h := h.2 c26
      refine a_iload_n C 2 dX12_foretold_19 rfl rfl ?_
      refine a_iconst C 1 dX12_foretold_20 (by decide) ?_
      refine a_icmp_ne C 32 dX12_foretold_21 (by decide) (fun c25 => ?_) (fun c25 => ?_)
      · have h := h.1 c25
        refine tj_X12_foretold_32 C _ _ _ _ h
      · have h := h.2 c25
        refine a_aload_n C 0 dX12_foretold_24 rfl rfl ?_
        refine a_iload_n C 3 dX12_foretold_25 rfl rfl ?_
        refine a_callVi C dX12_foretold_26 (m_X12_isPerson l V h) bw_1342 bw_1344 bw_71 bw_123 bw_1345 (by decide) rfl rfl np_X12_isPerson rfl rfl (by decide) (Nat.le_of_ble_eq_true rfl) ⟨Nat.zero_le _, Nat.zero_le _⟩ (fun r22 u23 h => ?_)
        refine a_if_eq C 44 dX12_foretold_29 (by decide) (fun c24 => ?_) (fun c24 => ?_)
        · have h := h.1 c24
          refine a_iconst C (-1) dX12_foretold_44 (by decide) ?_
          exact a_iret C dX12_foretold_45 h
        · have h := h.2 c24
          refine tj_X12_foretold_32 C _ _ _ _ h

/-! RainOnTheOneModel.isRainOn(I)Z -/
def wj_X12_isRainOn_29 (post : Int32 → PoS → Prop) (s0 : Int32) (u : PoS) : Prop := wp_X12_pass u (fun (u4 : PoS) => IsB s0 ∧ post s0 u4)
def wj_X12_isRainOn_28 (post : Int32 → PoS → Prop) (u : PoS) : Prop := wj_X12_isRainOn_29 post 0 u
def wp_X12_isRainOn (a0 : Int32) (u : PoS) (post : Int32 → PoS → Prop) : Prop := wp_X12_goesFor u (fun (r1 : Int32) (u2 : PoS) => ((¬ r1 = a0 → wj_X12_isRainOn_28 post  u2) ∧ (r1 = a0 → wp_X12_get a0 0 u2 (fun (r5 : Int32) (u6 : PoS) => ((¬ r5 = (gI u6 49 7) → wj_X12_isRainOn_28 post  u6) ∧ (r5 = (gI u6 49 7) → wj_X12_isRainOn_29 post 1 u6))))))
set_option maxHeartbeats 4000000 in
set_option maxRecDepth 100000 in
theorem tj_X12_isRainOn_29 {p : Program} {l : Launch} {e : Env} {s : State} {m : MethodId} {args : Array Value} {below : List Frame} {meth : Method} {c : Code} {V : VEn} {post : Int32 → PoS → Prop} (C : CxS p s m args meth c V cX12_isRainOn 3 RX12 (some .boolean)) (s0 : Int32) (u : PoS) (h : wj_X12_isRainOn_29 post s0 u) : AtS p l e (Rm 8) s m args below meth c V 3 0 0 (QI V below args s post) 29 [(0, .ref (eA V 48))] [.int s0] u := by
  rw [wj_X12_isRainOn_29] at h
  refine a_istore_n C [(2, .int s0), (0, .ref (eA V 48))] dX12_isRainOn_29 rfl (by decide) rfl ?_
  refine a_aload_n C 1 dX12_isRainOn_30 rfl rfl ?_
  refine a_callVv C dX12_isRainOn_31 (m_X12_pass l V h) bw_1383 bw_1385 bw_76 bw_123 bw_1386 (by decide) rfl rfl np_X12_pass rfl rfl (by decide) (Nat.le_of_ble_eq_true rfl) ⟨Nat.zero_le _, Nat.zero_le _⟩ (fun u4 h => ?_)
  refine a_iload_n C 0 dX12_isRainOn_34 rfl rfl ?_
  exact a_zret C (isB_n h.1) dX12_isRainOn_35 h.2
set_option maxHeartbeats 4000000 in
set_option maxRecDepth 100000 in
theorem tj_X12_isRainOn_28 {p : Program} {l : Launch} {e : Env} {s : State} {m : MethodId} {args : Array Value} {below : List Frame} {meth : Method} {c : Code} {V : VEn} {post : Int32 → PoS → Prop} (C : CxS p s m args meth c V cX12_isRainOn 3 RX12 (some .boolean)) (u : PoS) (h : wj_X12_isRainOn_28 post  u) : AtS p l e (Rm 8) s m args below meth c V 3 0 0 (QI V below args s post) 28 [(0, .ref (eA V 48))] [] u := by
  rw [wj_X12_isRainOn_28] at h
  refine a_iconst C 0 dX12_isRainOn_28 (by decide) ?_
  refine tj_X12_isRainOn_29 C _ _ h
theorem np_X12_isRainOn : yX12_isRainOn.cls ≠ "java/lang/invoke/MethodHandle" ∧ yX12_isRainOn.cls ≠ "java/lang/invoke/VarHandle" ∧ (parseMethodDescriptor yX12_isRainOn.desc).map (fun d => d.parameters.length) = some 1 := by decide +kernel
set_option maxHeartbeats 4000000 in
set_option maxRecDepth 100000 in
theorem m_X12_isRainOn (l : Launch) (V : VEn) {a0 : Int32} {u : PoS} {post : Int32 → PoS → Prop} (h : wp_X12_isRainOn a0 u post) : KI l V yX12_isRainOn cX12_isRainOn 3 .boolean 8 [.ref (eA V 48), .int a0] u post := by
  refine KI_of (by decide) (Nat.le_of_ble_eq_true rfl) (lv := [(0, .ref (eA V 48)), (1, .int a0)]) rfl ?_
  intro p e s m args below meth c C
  rw [wp_X12_isRainOn] at h
  refine a_aload_n C 0 dX12_isRainOn_0 rfl rfl ?_
  refine a_callVi C dX12_isRainOn_1 (m_X12_goesFor l V h) bw_1387 bw_1389 bw_77 bw_123 bw_1390 (by decide) rfl rfl np_X12_goesFor rfl rfl (by decide) (Nat.le_of_ble_eq_true rfl) ⟨Nat.zero_le _, Nat.zero_le _⟩ (fun r1 u2 h => ?_)
  refine a_iload_n C 1 dX12_isRainOn_4 rfl rfl ?_
  refine a_icmp_ne C 28 dX12_isRainOn_5 (by decide) (fun c8 => ?_) (fun c8 => ?_)
  · have h := h.1 c8
    refine a_sub [0] rfl ?_
    refine tj_X12_isRainOn_28 C _ h
  · have h := h.2 c8
    refine a_aload_n C 0 dX12_isRainOn_8 rfl rfl ?_
    refine a_iload_n C 1 dX12_isRainOn_9 rfl rfl ?_
    refine a_iconst C 0 dX12_isRainOn_10 (by decide) ?_
    refine a_callVi C dX12_isRainOn_11 (m_X12_get l V h) bw_1158 bw_1160 bw_42 bw_123 bw_1161 (by decide) rfl rfl np_X12_get rfl rfl (by decide) (Nat.le_of_ble_eq_true rfl) ⟨Nat.zero_le _, Nat.zero_le _⟩ (fun r5 u6 h => ?_)
    refine a_aload_n C 0 dX12_isRainOn_14 rfl rfl ?_
    refine a_getr C 0 (r := 49) dX12_isRainOn_15 (by decide) rfl rfl rfl ib_12 (by decide) bw_1022 ?_
    refine a_bipush C 7 dX12_isRainOn_18 (by decide) ?_
    refine b_iald C 7 dX12_isRainOn_20 (by decide) rfl (vp_lit (by decide)) (by decide) ?_
    refine a_icmp_ne C 28 dX12_isRainOn_21 (by decide) (fun c7 => ?_) (fun c7 => ?_)
    · have h := h.1 c7
      refine a_sub [0] rfl ?_
      refine tj_X12_isRainOn_28 C _ h
    · have h := h.2 c7
      refine a_iconst C 1 dX12_isRainOn_24 (by decide) ?_
      refine a_goto C 29 dX12_isRainOn_25 (by decide) ?_
      refine a_sub [0] rfl ?_
      refine tj_X12_isRainOn_29 C _ _ h

/-! RainOnTheOneModel.when(I)I -/
def wj_X12_when_52 (k18 : Int32 → Int32 → Int32 → PoS → Prop) (post : Int32 → PoS → Prop) (v1 : Int32) (v2 : Int32) (v3 : Int32) (u : PoS) : Prop := k18 v1 v2 (v3 + 1) u
def wl_X12_when_18 (k58 : Int32 → PoS → Prop) (post : Int32 → PoS → Prop) : Nat → Int32 → Int32 → Int32 → PoS → Prop
  | 0, _, _, _, _ => False
  | n + 1, v1, v2, v3, u => ((60 < v3 → k58 v2 u) ∧ (¬ 60 < v3 → ((¬ v2 = (-1) → k58 v2 u) ∧ (v2 = (-1) → ((9999 ≤ (gI u 49 6) → k58 v2 u) ∧ (¬ 9999 ≤ (gI u 49 6) → wp_X12_isRainOn v1 u (fun (r5 : Int32) (u6 : PoS) => ((r5 = 0 → wj_X12_when_52 (wl_X12_when_18 k58 post n) post v1 v2 v3 u6) ∧ (¬ r5 = 0 → wj_X12_when_52 (wl_X12_when_18 k58 post n) post v1 v3 v3 u6)))))))))
def wj_X12_when_58 (post : Int32 → PoS → Prop) (v2 : Int32) (u : PoS) : Prop := wp_X12_putBack u (fun (u13 : PoS) => post v2 u13)
def wp_X12_when (a0 : Int32) (u : PoS) (post : Int32 → PoS → Prop) : Prop := wp_X12_isPerson a0 u (fun (r1 : Int32) (u2 : PoS) => ((¬ r1 = 0 → wp_X12_setAside u2 (fun (u4 : PoS) => (∃ n18, wl_X12_when_18 (fun (v211 : Int32) (u11 : PoS) => wj_X12_when_58 post v211 u11) post n18 a0 (-1) 1 u4))) ∧ (r1 = 0 → post (-1) u2)))
set_option maxHeartbeats 4000000 in
set_option maxRecDepth 100000 in
theorem tj_X12_when_52 {p : Program} {l : Launch} {e : Env} {s : State} {m : MethodId} {args : Array Value} {below : List Frame} {meth : Method} {c : Code} {V : VEn} {k18 : Int32 → Int32 → Int32 → PoS → Prop} {post : Int32 → PoS → Prop} (C : CxS p s m args meth c V cX12_when 4 RX12 (some .int)) (hk18 : ∀ (v1 : Int32) (v2 : Int32) (v3 : Int32) (u : PoS), k18 v1 v2 v3 u → AtS p l e (Rm 9) s m args below meth c V 4 0 0 (QI V below args s post) 18 [(0, .ref (eA V 48)), (1, .int v1), (2, .int v2), (3, .int v3)] [] u) (v1 : Int32) (v2 : Int32) (v3 : Int32) (u : PoS) (h : wj_X12_when_52 k18 post v1 v2 v3 u) : AtS p l e (Rm 9) s m args below meth c V 4 0 0 (QI V below args s post) 52 [(0, .ref (eA V 48)), (1, .int v1), (2, .int v2), (3, .int v3)] [] u := by
  rw [wj_X12_when_52] at h
  refine a_iinc C (v3 + 1) 3 [(3, .int (v3 + 1)), (0, .ref (eA V 48)), (1, .int v1), (2, .int v2)] dX12_when_52 rfl (congrArg (fun z => v3 + z) (show Int32.ofInt 1 = 1 by decide)) (by decide) rfl ?_
  refine a_goto C 18 dX12_when_55 (by decide) ?_
  refine a_sub [1, 2, 3, 0] rfl ?_
  exact hk18 _ _ _ _ h
set_option maxHeartbeats 4000000 in
set_option maxRecDepth 100000 in
theorem tl_X12_when_18 {p : Program} {l : Launch} {e : Env} {s : State} {m : MethodId} {args : Array Value} {below : List Frame} {meth : Method} {c : Code} {V : VEn} {k58 : Int32 → PoS → Prop} {post : Int32 → PoS → Prop} (C : CxS p s m args meth c V cX12_when 4 RX12 (some .int)) (hk58 : ∀ (v2 : Int32) (u : PoS), k58 v2 u → AtS p l e (Rm 9) s m args below meth c V 4 0 0 (QI V below args s post) 58 [(0, .ref (eA V 48)), (2, .int v2)] [] u) : ∀ (n : Nat) (v1 : Int32) (v2 : Int32) (v3 : Int32) (u : PoS), wl_X12_when_18 k58 post n v1 v2 v3 u → AtS p l e (Rm 9) s m args below meth c V 4 0 0 (QI V below args s post) 18 [(0, .ref (eA V 48)), (1, .int v1), (2, .int v2), (3, .int v3)] [] u := by
  intro n
  induction n with
  | zero => intro v1 v2 v3 u h; exact h.elim
  | succ n ih =>
    intro v1 v2 v3 u h
    rw [wl_X12_when_18] at h
    refine a_iload_n C 3 dX12_when_18 rfl rfl ?_
    refine a_bipush C 60 dX12_when_19 (by decide) ?_
    refine a_icmp_gt C 58 dX12_when_21 (by decide) (fun c10 => ?_) (fun c10 => ?_)
    · have h := h.1 c10
      refine a_sub [0, 2] rfl ?_
      exact hk58 _ _ h
    · have h := h.2 c10
      refine a_iload_n C 2 dX12_when_24 rfl rfl ?_
      refine a_iconst C (-1) dX12_when_25 (by decide) ?_
      refine a_icmp_ne C 58 dX12_when_26 (by decide) (fun c9 => ?_) (fun c9 => ?_)
      · have h := h.1 c9
        refine a_sub [0, 2] rfl ?_
        exact hk58 _ _ h
      · have h := h.2 c9
        refine a_aload_n C 0 dX12_when_29 rfl rfl ?_
        refine a_getr C 0 (r := 49) dX12_when_30 (by decide) rfl rfl rfl ib_12 (by decide) bw_1022 ?_
        refine a_bipush C 6 dX12_when_33 (by decide) ?_
        refine b_iald C 6 dX12_when_35 (by decide) rfl (vp_lit (by decide)) (by decide) ?_
        refine a_sipush C 9999 dX12_when_36 (by decide) ?_
        refine a_icmp_ge C 58 dX12_when_39 (by decide) (fun c8 => ?_) (fun c8 => ?_)
        · have h := h.1 c8
          refine a_sub [0, 2] rfl ?_
          exact hk58 _ _ h
        · have h := h.2 c8
          refine a_aload_n C 0 dX12_when_42 rfl rfl ?_
          refine a_iload_n C 1 dX12_when_43 rfl rfl ?_
          refine a_callVi C dX12_when_44 (m_X12_isRainOn l V h) bw_1550 bw_1552 bw_96 bw_123 bw_1553 (by decide) rfl rfl np_X12_isRainOn rfl rfl (by decide) (Nat.le_of_ble_eq_true rfl) ⟨Nat.zero_le _, Nat.zero_le _⟩ (fun r5 u6 h => ?_)
          refine a_if_eq C 52 dX12_when_47 (by decide) (fun c7 => ?_) (fun c7 => ?_)
          · have h := h.1 c7
            refine tj_X12_when_52 C ih _ _ _ _ h
          · have h := h.2 c7
            refine a_iload_n C 3 dX12_when_50 rfl rfl ?_
            refine a_istore_n C [(2, .int v3), (0, .ref (eA V 48)), (1, .int v1), (3, .int v3)] dX12_when_51 rfl (by decide) rfl ?_
            refine a_sub [1, 2, 0, 3] rfl ?_
            refine tj_X12_when_52 C ih _ _ _ _ h
set_option maxHeartbeats 4000000 in
set_option maxRecDepth 100000 in
theorem tj_X12_when_58 {p : Program} {l : Launch} {e : Env} {s : State} {m : MethodId} {args : Array Value} {below : List Frame} {meth : Method} {c : Code} {V : VEn} {post : Int32 → PoS → Prop} (C : CxS p s m args meth c V cX12_when 4 RX12 (some .int)) (v2 : Int32) (u : PoS) (h : wj_X12_when_58 post v2 u) : AtS p l e (Rm 9) s m args below meth c V 4 0 0 (QI V below args s post) 58 [(0, .ref (eA V 48)), (2, .int v2)] [] u := by
  rw [wj_X12_when_58] at h
  refine a_aload_n C 0 dX12_when_58 rfl rfl ?_
  refine a_callVv C dX12_when_59 (m_X12_putBack l V h) bw_1542 bw_1544 bw_95 bw_123 bw_1545 (by decide) rfl rfl np_X12_putBack rfl rfl (by decide) (Nat.le_of_ble_eq_true rfl) ⟨Nat.zero_le _, Nat.zero_le _⟩ (fun u13 h => ?_)
  refine a_iload_n C 1 dX12_when_62 rfl rfl ?_
  exact a_iret C dX12_when_63 h
theorem np_X12_when : yX12_when.cls ≠ "java/lang/invoke/MethodHandle" ∧ yX12_when.cls ≠ "java/lang/invoke/VarHandle" ∧ (parseMethodDescriptor yX12_when.desc).map (fun d => d.parameters.length) = some 1 := by decide +kernel
set_option maxHeartbeats 4000000 in
set_option maxRecDepth 100000 in
theorem m_X12_when (l : Launch) (V : VEn) {a0 : Int32} {u : PoS} {post : Int32 → PoS → Prop} (h : wp_X12_when a0 u post) : KI l V yX12_when cX12_when 4 .int 9 [.ref (eA V 48), .int a0] u post := by
  refine KI_of (by decide) (Nat.le_of_ble_eq_true rfl) (lv := [(0, .ref (eA V 48)), (1, .int a0)]) rfl ?_
  intro p e s m args below meth c C
  rw [wp_X12_when] at h
  refine a_aload_n C 0 dX12_when_0 rfl rfl ?_
  refine a_iload_n C 1 dX12_when_1 rfl rfl ?_
  refine a_callVi C dX12_when_2 (m_X12_isPerson l V h) bw_1342 bw_1344 bw_71 bw_123 bw_1345 (by decide) rfl rfl np_X12_isPerson rfl rfl (by decide) (Nat.le_of_ble_eq_true rfl) ⟨Nat.zero_le _, Nat.zero_le _⟩ (fun r1 u2 h => ?_)
  refine a_if_ne C 10 dX12_when_5 (by decide) (fun c14 => ?_) (fun c14 => ?_)
  · have h := h.1 c14
    refine a_aload_n C 0 dX12_when_10 rfl rfl ?_
    refine a_callVv C dX12_when_11 (m_X12_setAside l V h) bw_1538 bw_1540 bw_94 bw_123 bw_1541 (by decide) rfl rfl np_X12_setAside rfl rfl (by decide) (Nat.le_of_ble_eq_true rfl) ⟨Nat.zero_le _, Nat.zero_le _⟩ (fun u4 h => ?_)
    refine a_iconst C (-1) dX12_when_14 (by decide) ?_
    refine a_istore_n C [(2, .int (-1)), (0, .ref (eA V 48)), (1, .int a0)] dX12_when_15 rfl (by decide) rfl ?_
    refine a_iconst C 1 dX12_when_16 (by decide) ?_
    refine a_istore_n C [(3, .int 1), (2, .int (-1)), (0, .ref (eA V 48)), (1, .int a0)] dX12_when_17 rfl (by decide) rfl ?_
    refine a_sub [2, 3, 1, 0] rfl ?_
    obtain ⟨n18, h⟩ := h
    refine tl_X12_when_18 C (fun v211 u11 h => ?_) n18 _ _ _ _ h
    refine tj_X12_when_58 C _ _ h
  · have h := h.2 c14
    refine a_iconst C (-1) dX12_when_8 (by decide) ?_
    exact a_iret C dX12_when_9 h

/-! RainOnTheOneModel.steps(II)I -/
def wp_X12_steps (a0 : Int32) (a1 : Int32) (u : PoS) (post : Int32 → PoS → Prop) : Prop := wp_X12_isCell a0 u (fun (r1 : Int32) (u2 : PoS) => ((r1 = 0 → post (-1) u2) ∧ (¬ r1 = 0 → wp_X12_isCell a1 u2 (fun (r3 : Int32) (u4 : PoS) => ((r3 = 0 → post (-1) u4) ∧ (¬ r3 = 0 → wp_X12_stepsOf a0 a1 u4 (fun (r5 : Int32) (u6 : PoS) => post r5 u6)))))))
theorem np_X12_steps : yX12_steps.cls ≠ "java/lang/invoke/MethodHandle" ∧ yX12_steps.cls ≠ "java/lang/invoke/VarHandle" ∧ (parseMethodDescriptor yX12_steps.desc).map (fun d => d.parameters.length) = some 2 := by decide +kernel
set_option maxHeartbeats 4000000 in
set_option maxRecDepth 100000 in
theorem m_X12_steps (l : Launch) (V : VEn) {a0 : Int32} {a1 : Int32} {u : PoS} {post : Int32 → PoS → Prop} (h : wp_X12_steps a0 a1 u post) : KI l V yX12_steps cX12_steps 3 .int 5 [.ref (eA V 48), .int a0, .int a1] u post := by
  refine KI_of (by decide) (Nat.le_of_ble_eq_true rfl) (lv := [(0, .ref (eA V 48)), (1, .int a0), (2, .int a1)]) rfl ?_
  intro p e s m args below meth c C
  rw [wp_X12_steps] at h
  refine a_iload_n C 1 dX12_steps_0 rfl rfl ?_
  refine a_callSi C dX12_steps_1 (m_X12_isCell l V h) bw_1144 bw_1145 bw_123 bw_1146 np_X12_isCell rfl rfl (by decide) (Nat.le_of_ble_eq_true rfl) ⟨Nat.zero_le _, Nat.zero_le _⟩ (fun r1 u2 h => ?_)
  refine a_if_eq C 23 dX12_steps_4 (by decide) (fun c8 => ?_) (fun c8 => ?_)
  · have h := h.1 c8
    refine a_iconst C (-1) dX12_steps_23 (by decide) ?_
    exact a_iret C dX12_steps_24 h
  · have h := h.2 c8
    refine a_iload_n C 2 dX12_steps_7 rfl rfl ?_
    refine a_callSi C dX12_steps_8 (m_X12_isCell l V h) bw_1144 bw_1145 bw_123 bw_1146 np_X12_isCell rfl rfl (by decide) (Nat.le_of_ble_eq_true rfl) ⟨Nat.zero_le _, Nat.zero_le _⟩ (fun r3 u4 h => ?_)
    refine a_if_eq C 23 dX12_steps_11 (by decide) (fun c7 => ?_) (fun c7 => ?_)
    · have h := h.1 c7
      refine a_iconst C (-1) dX12_steps_23 (by decide) ?_
      exact a_iret C dX12_steps_24 h
    · have h := h.2 c7
      refine a_aload_n C 0 dX12_steps_14 rfl rfl ?_
      refine a_iload_n C 1 dX12_steps_15 rfl rfl ?_
      refine a_iload_n C 2 dX12_steps_16 rfl rfl ?_
      refine a_callVi C dX12_steps_17 (m_X12_stepsOf l V h) bw_1391 bw_1393 bw_78 bw_123 bw_1394 (by decide) rfl rfl np_X12_stepsOf rfl rfl (by decide) (Nat.le_of_ble_eq_true rfl) ⟨Nat.zero_le _, Nat.zero_le _⟩ (fun r5 u6 h => ?_)
      refine a_goto C 24 dX12_steps_20 (by decide) ?_
      exact a_iret C dX12_steps_24 h

/-! RainOnTheOneModel.way(III)I -/
def wl_X12_way_52 (post : Int32 → PoS → Prop) : Nat → Int32 → Int32 → Int32 → Int32 → PoS → Prop
  | 0, _, _, _, _, _ => False
  | n + 1, v2, v3, v5, v6, u => ((v3 < v6 → post v5 u) ∧ (¬ v3 < v6 → wp_X12_nextTo v5 v2 u (fun (r9 : Int32) (u10 : PoS) => wl_X12_way_52 post n v2 v3 r9 (v6 + 1) u10)))
def wp_X12_way (a0 : Int32) (a1 : Int32) (a2 : Int32) (u : PoS) (post : Int32 → PoS → Prop) : Prop := wp_X12_isCell a0 u (fun (r1 : Int32) (u2 : PoS) => ((r1 = 0 → post (-2) u2) ∧ (¬ r1 = 0 → wp_X12_isCell a1 u2 (fun (r3 : Int32) (u4 : PoS) => ((¬ r3 = 0 → wp_X12_stepsOf a0 a1 u4 (fun (r5 : Int32) (u6 : PoS) => ((r5 = (-1) → post (-2) u6) ∧ (¬ r5 = (-1) → wp_X12_isIn a2 0 (r5 - 1) u6 (fun (r7 : Int32) (u8 : PoS) => ((¬ r7 = 0 → (∃ n52, wl_X12_way_52 post n52 a1 a2 a0 0 u8)) ∧ (r7 = 0 → post (-2) u8))))))) ∧ (r3 = 0 → post (-2) u4))))))
set_option maxHeartbeats 4000000 in
set_option maxRecDepth 100000 in
theorem tl_X12_way_52 {p : Program} {l : Launch} {e : Env} {s : State} {m : MethodId} {args : Array Value} {below : List Frame} {meth : Method} {c : Code} {V : VEn} {post : Int32 → PoS → Prop} (C : CxS p s m args meth c V cX12_way 7 RX12 (some .int)) : ∀ (n : Nat) (v2 : Int32) (v3 : Int32) (v5 : Int32) (v6 : Int32) (u : PoS), wl_X12_way_52 post n v2 v3 v5 v6 u → AtS p l e (Rm 5) s m args below meth c V 7 0 0 (QI V below args s post) 52 [(0, .ref (eA V 48)), (2, .int v2), (3, .int v3), (5, .int v5), (6, .int v6)] [] u := by
  intro n
  induction n with
  | zero => intro v2 v3 v5 v6 u h; exact h.elim
  | succ n ih =>
    intro v2 v3 v5 v6 u h
    rw [wl_X12_way_52] at h
    refine a_iload C 4 dX12_way_52 rfl ?_
    refine a_iload_n C 2 dX12_way_54 rfl rfl ?_
    refine a_icmp_gt C 73 dX12_way_55 (by decide) (fun c11 => ?_) (fun c11 => ?_)
    · have h := h.1 c11
      refine a_iload C 3 dX12_way_73 rfl ?_
      exact a_iret C dX12_way_75 h
    · have h := h.2 c11
      refine a_aload_n C 0 dX12_way_58 rfl rfl ?_
      refine a_iload C 3 dX12_way_59 rfl ?_
      refine a_iload_n C 1 dX12_way_61 rfl rfl ?_
      refine a_callVi C dX12_way_62 (m_X12_nextTo l V h) bw_1467 bw_1469 bw_90 bw_123 bw_1470 (by decide) rfl rfl np_X12_nextTo rfl rfl (by decide) (Nat.le_of_ble_eq_true rfl) ⟨Nat.zero_le _, Nat.zero_le _⟩ (fun r9 u10 h => ?_)
      refine a_istore C [(5, .int r9), (0, .ref (eA V 48)), (2, .int v2), (3, .int v3), (6, .int v6)] dX12_way_65 (by decide) rfl ?_
      refine a_iinc C (v6 + 1) 4 [(6, .int (v6 + 1)), (5, .int r9), (0, .ref (eA V 48)), (2, .int v2), (3, .int v3)] dX12_way_67 rfl (congrArg (fun z => v6 + z) (show Int32.ofInt 1 = 1 by decide)) (by decide) rfl ?_
      refine a_goto C 52 dX12_way_70 (by decide) ?_
      refine a_sub [2, 3, 4, 1, 0] rfl ?_
      exact ih _ _ _ _ _ h
theorem np_X12_way : yX12_way.cls ≠ "java/lang/invoke/MethodHandle" ∧ yX12_way.cls ≠ "java/lang/invoke/VarHandle" ∧ (parseMethodDescriptor yX12_way.desc).map (fun d => d.parameters.length) = some 3 := by decide +kernel
set_option maxHeartbeats 4000000 in
set_option maxRecDepth 100000 in
theorem m_X12_way (l : Launch) (V : VEn) {a0 : Int32} {a1 : Int32} {a2 : Int32} {u : PoS} {post : Int32 → PoS → Prop} (h : wp_X12_way a0 a1 a2 u post) : KI l V yX12_way cX12_way 7 .int 5 [.ref (eA V 48), .int a0, .int a1, .int a2] u post := by
  refine KI_of (by decide) (Nat.le_of_ble_eq_true rfl) (lv := [(0, .ref (eA V 48)), (1, .int a0), (2, .int a1), (3, .int a2)]) rfl ?_
  intro p e s m args below meth c C
  rw [wp_X12_way] at h
  refine a_iload_n C 1 dX12_way_0 rfl rfl ?_
  refine a_callSi C dX12_way_1 (m_X12_isCell l V h) bw_1144 bw_1145 bw_123 bw_1146 np_X12_isCell rfl rfl (by decide) (Nat.le_of_ble_eq_true rfl) ⟨Nat.zero_le _, Nat.zero_le _⟩ (fun r1 u2 h => ?_)
  refine a_if_eq C 14 dX12_way_4 (by decide) (fun c15 => ?_) (fun c15 => ?_)
  · have h := h.1 c15
    refine a_bipush C (-2) dX12_way_14 (by decide) ?_
    exact a_iret C dX12_way_16 h
  · have h := h.2 c15
    refine a_iload_n C 2 dX12_way_7 rfl rfl ?_
    refine a_callSi C dX12_way_8 (m_X12_isCell l V h) bw_1144 bw_1145 bw_123 bw_1146 np_X12_isCell rfl rfl (by decide) (Nat.le_of_ble_eq_true rfl) ⟨Nat.zero_le _, Nat.zero_le _⟩ (fun r3 u4 h => ?_)
    refine a_if_ne C 17 dX12_way_11 (by decide) (fun c14 => ?_) (fun c14 => ?_)
    · have h := h.1 c14
      refine a_aload_n C 0 dX12_way_17 rfl rfl ?_
      refine a_iload_n C 1 dX12_way_18 rfl rfl ?_
      refine a_iload_n C 2 dX12_way_19 rfl rfl ?_
      refine a_callVi C dX12_way_20 (m_X12_stepsOf l V h) bw_1391 bw_1393 bw_78 bw_123 bw_1394 (by decide) rfl rfl np_X12_stepsOf rfl rfl (by decide) (Nat.le_of_ble_eq_true rfl) ⟨Nat.zero_le _, Nat.zero_le _⟩ (fun r5 u6 h => ?_)
      refine a_istore C [(4, .int r5), (0, .ref (eA V 48)), (1, .int a0), (2, .int a1), (3, .int a2)] dX12_way_23 (by decide) rfl ?_
      refine a_iload C 0 dX12_way_25 rfl ?_
      refine a_iconst C (-1) dX12_way_27 (by decide) ?_
      refine a_icmp_eq C 43 dX12_way_28 (by decide) (fun c13 => ?_) (fun c13 => ?_)
      · have h := h.1 c13
        refine a_bipush C (-2) dX12_way_43 (by decide) ?_
        exact a_iret C dX12_way_45 h
      · have h := h.2 c13
        refine a_iload_n C 4 dX12_way_31 rfl rfl ?_
        refine a_iconst C 0 dX12_way_32 (by decide) ?_
        refine a_iload C 0 dX12_way_33 rfl ?_
        refine a_iconst C 1 dX12_way_35 (by decide) ?_
        refine a_isub C dX12_way_36 ?_
        refine a_callSi C dX12_way_37 (m_X12_isIn l V h) bw_1147 bw_1148 bw_123 bw_1149 np_X12_isIn rfl rfl (by decide) (Nat.le_of_ble_eq_true rfl) ⟨Nat.zero_le _, Nat.zero_le _⟩ (fun r7 u8 h => ?_)
        refine a_if_ne C 46 dX12_way_40 (by decide) (fun c12 => ?_) (fun c12 => ?_)
        · have h := h.1 c12
          refine a_iload_n C 2 dX12_way_46 rfl rfl ?_
          refine a_istore C [(5, .int a0), (4, .int r5), (0, .ref (eA V 48)), (1, .int a0), (2, .int a1), (3, .int a2)] dX12_way_47 (by decide) rfl ?_
          refine a_iconst C 0 dX12_way_49 (by decide) ?_
          refine a_istore C [(6, .int 0), (5, .int a0), (4, .int r5), (0, .ref (eA V 48)), (1, .int a0), (2, .int a1), (3, .int a2)] dX12_way_50 (by decide) rfl ?_
          refine a_sub [3, 5, 6, 1, 0] rfl ?_
          obtain ⟨n52, h⟩ := h
          refine tl_X12_way_52 C n52 _ _ _ _ _ h
        · have h := h.2 c12
          refine a_bipush C (-2) dX12_way_43 (by decide) ?_
          exact a_iret C dX12_way_45 h
    · have h := h.2 c14
      refine a_bipush C (-2) dX12_way_14 (by decide) ?_
      exact a_iret C dX12_way_16 h

/-! RainOnTheOneModel.layReach(I)V -/
def wl_X12_layReach_31 (k65 : Int32 → Int32 → PoS → Prop) (post : PoS → Prop) : Nat → Int32 → Int32 → Int32 → PoS → Prop
  | 0, _, _, _, _ => False
  | n + 1, v1, v2, v3, u => ((v1 ≤ v3 → k65 v1 v2 u) ∧ (¬ v1 ≤ v3 → vp_in v2 30 ∧ vp_in v2 30 ∧ wp_X12_aside (gI u 60 (Int32.toNatClampNeg v2)) u (fun (r4 : Int32) (u5 : PoS) => wp_X12_free u5 (fun (r6 : Int32) (u7 : PoS) => vp_in v2 30 ∧ ∀ z8 : PoS, z8 = pI u7 60 (Int32.toNatClampNeg v2) ((gI u 60 (Int32.toNatClampNeg v2)) ||| (r4 &&& r6)) → wl_X12_layReach_31 k65 post n v1 v2 (v3 + 1) z8))))
def wj_X12_layReach_28 (k2 : Int32 → Int32 → PoS → Prop) (post : PoS → Prop) (v1 : Int32) (v2 : Int32) (s0 : Int32) (s1 : Int32) (u : PoS) : Prop := vp_in s1 30 ∧ ∀ z3 : PoS, z3 = pI u 60 (Int32.toNatClampNeg s1) s0 → (∃ n31, wl_X12_layReach_31 (fun (v110 : Int32) (v210 : Int32) (u10 : PoS) => k2 v110 (v210 + 1) u10) post n31 v1 v2 0 z3)
def wl_X12_layReach_2 (post : PoS → Prop) : Nat → Int32 → Int32 → PoS → Prop
  | 0, _, _, _ => False
  | n + 1, v1, v2, u => ((30 ≤ v2 → post u) ∧ (¬ 30 ≤ v2 → wp_X12_isFree v2 u (fun (r1 : Int32) (u2 : PoS) => ((r1 = 0 → wj_X12_layReach_28 (wl_X12_layReach_2 post n) post v1 v2 0 v2 u2) ∧ (¬ r1 = 0 → wj_X12_layReach_28 (wl_X12_layReach_2 post n) post v1 v2 (1 <<< (v2 &&& 31)) v2 u2)))))
def wp_X12_layReach (a0 : Int32) (u : PoS) (post : PoS → Prop) : Prop := (∃ n2, wl_X12_layReach_2 post n2 a0 0 u)
set_option maxHeartbeats 4000000 in
set_option maxRecDepth 100000 in
theorem tl_X12_layReach_31 {p : Program} {l : Launch} {e : Env} {s : State} {m : MethodId} {args : Array Value} {below : List Frame} {meth : Method} {c : Code} {V : VEn} {k65 : Int32 → Int32 → PoS → Prop} {post : PoS → Prop} (C : CxS p s m args meth c V cX12_layReach 4 RX12 none) (hk65 : ∀ (v1 : Int32) (v2 : Int32) (u : PoS), k65 v1 v2 u → AtS p l e (Rm 4) s m args below meth c V 4 0 0 (QV V below args s post) 65 [(0, .ref (eA V 48)), (1, .int v1), (2, .int v2)] [] u) : ∀ (n : Nat) (v1 : Int32) (v2 : Int32) (v3 : Int32) (u : PoS), wl_X12_layReach_31 k65 post n v1 v2 v3 u → AtS p l e (Rm 4) s m args below meth c V 4 0 0 (QV V below args s post) 31 [(0, .ref (eA V 48)), (1, .int v1), (2, .int v2), (3, .int v3)] [] u := by
  intro n
  induction n with
  | zero => intro v1 v2 v3 u h; exact h.elim
  | succ n ih =>
    intro v1 v2 v3 u h
    rw [wl_X12_layReach_31] at h
    refine a_iload_n C 3 dX12_layReach_31 rfl rfl ?_
    refine a_iload_n C 1 dX12_layReach_32 rfl rfl ?_
    refine a_icmp_ge C 65 dX12_layReach_33 (by decide) (fun c9 => ?_) (fun c9 => ?_)
    · have h := h.1 c9
      refine a_sub [0, 1, 2] rfl ?_
      exact hk65 _ _ _ h
    · have h := h.2 c9
      refine a_aload_n C 0 dX12_layReach_36 rfl rfl ?_
      refine a_getr C 28 (r := 60) dX12_layReach_37 (by decide) rfl rfl rfl ib_12 (by decide) bw_1050 ?_
      refine a_iload_n C 2 dX12_layReach_40 rfl rfl ?_
      refine a_dup2 C dX12_layReach_41 rfl rfl ?_
      refine b_iald C (Int32.toNatClampNeg v2) dX12_layReach_42 (by decide) rfl h.1 rfl ?_
      have h := h.2
      refine a_aload_n C 0 dX12_layReach_43 rfl rfl ?_
      refine a_getr C 28 (r := 60) dX12_layReach_44 (by decide) rfl rfl rfl ib_12 (by decide) bw_1050 ?_
      refine a_iload_n C 2 dX12_layReach_47 rfl rfl ?_
      refine b_iald C (Int32.toNatClampNeg v2) dX12_layReach_48 (by decide) rfl h.1 rfl ?_
      have h := h.2
      refine a_callSi C dX12_layReach_49 (m_X12_aside l V h) bw_1403 bw_1404 bw_123 bw_1405 np_X12_aside rfl rfl (by decide) (Nat.le_of_ble_eq_true rfl) ⟨Nat.zero_le _, Nat.zero_le _⟩ (fun r4 u5 h => ?_)
      refine a_aload_n C 0 dX12_layReach_52 rfl rfl ?_
      refine a_callVi C dX12_layReach_53 (m_X12_free l V h) bw_1395 bw_1397 bw_79 bw_123 bw_1398 (by decide) rfl rfl np_X12_free rfl rfl (by decide) (Nat.le_of_ble_eq_true rfl) ⟨Nat.zero_le _, Nat.zero_le _⟩ (fun r6 u7 h => ?_)
      refine a_iand C dX12_layReach_56 ?_
      refine a_ior C dX12_layReach_57 ?_
      refine b_iast C (Int32.toNatClampNeg v2) dX12_layReach_58 (by decide) rfl h.1 rfl ?_
      have h := h.2
      refine a_topu (fun z8 ez8 => ?_)
      have h := h z8 ez8
      refine a_iinc C (v3 + 1) 3 [(3, .int (v3 + 1)), (0, .ref (eA V 48)), (1, .int v1), (2, .int v2)] dX12_layReach_59 rfl (congrArg (fun z => v3 + z) (show Int32.ofInt 1 = 1 by decide)) (by decide) rfl ?_
      refine a_goto C 31 dX12_layReach_62 (by decide) ?_
      refine a_sub [1, 2, 3, 0] rfl ?_
      exact ih _ _ _ _ h
set_option maxHeartbeats 4000000 in
set_option maxRecDepth 100000 in
theorem tj_X12_layReach_28 {p : Program} {l : Launch} {e : Env} {s : State} {m : MethodId} {args : Array Value} {below : List Frame} {meth : Method} {c : Code} {V : VEn} {k2 : Int32 → Int32 → PoS → Prop} {post : PoS → Prop} (C : CxS p s m args meth c V cX12_layReach 4 RX12 none) (hk2 : ∀ (v1 : Int32) (v2 : Int32) (u : PoS), k2 v1 v2 u → AtS p l e (Rm 4) s m args below meth c V 4 0 0 (QV V below args s post) 2 [(0, .ref (eA V 48)), (1, .int v1), (2, .int v2)] [] u) (v1 : Int32) (v2 : Int32) (s0 : Int32) (s1 : Int32) (u : PoS) (h : wj_X12_layReach_28 k2 post v1 v2 s0 s1 u) : AtS p l e (Rm 4) s m args below meth c V 4 0 0 (QV V below args s post) 28 [(0, .ref (eA V 48)), (1, .int v1), (2, .int v2)] [.int s0, .int s1, .ref (eA V 60)] u := by
  rw [wj_X12_layReach_28] at h
  refine b_iast C (Int32.toNatClampNeg s1) dX12_layReach_28 (by decide) rfl h.1 rfl ?_
  have h := h.2
  refine a_topu (fun z3 ez3 => ?_)
  have h := h z3 ez3
  refine a_iconst C 0 dX12_layReach_29 (by decide) ?_
  refine a_istore_n C [(3, .int 0), (0, .ref (eA V 48)), (1, .int v1), (2, .int v2)] dX12_layReach_30 rfl (by decide) rfl ?_
  refine a_sub [1, 2, 3, 0] rfl ?_
  obtain ⟨n31, h⟩ := h
  refine tl_X12_layReach_31 C (fun v110 v210 u10 h => ?_) n31 _ _ _ _ h
  refine a_iinc C (v210 + 1) 2 [(2, .int (v210 + 1)), (0, .ref (eA V 48)), (1, .int v110)] dX12_layReach_65 rfl (congrArg (fun z => v210 + z) (show Int32.ofInt 1 = 1 by decide)) (by decide) rfl ?_
  refine a_goto C 2 dX12_layReach_68 (by decide) ?_
  refine a_sub [1, 2, 0] rfl ?_
  exact hk2 _ _ _ h
set_option maxHeartbeats 4000000 in
set_option maxRecDepth 100000 in
theorem tl_X12_layReach_2 {p : Program} {l : Launch} {e : Env} {s : State} {m : MethodId} {args : Array Value} {below : List Frame} {meth : Method} {c : Code} {V : VEn} {post : PoS → Prop} (C : CxS p s m args meth c V cX12_layReach 4 RX12 none) : ∀ (n : Nat) (v1 : Int32) (v2 : Int32) (u : PoS), wl_X12_layReach_2 post n v1 v2 u → AtS p l e (Rm 4) s m args below meth c V 4 0 0 (QV V below args s post) 2 [(0, .ref (eA V 48)), (1, .int v1), (2, .int v2)] [] u := by
  intro n
  induction n with
  | zero => intro v1 v2 u h; exact h.elim
  | succ n ih =>
    intro v1 v2 u h
    rw [wl_X12_layReach_2] at h
    refine a_iload_n C 2 dX12_layReach_2 rfl rfl ?_
    refine a_bipush C 30 dX12_layReach_3 (by decide) ?_
    refine a_icmp_ge C 71 dX12_layReach_5 (by decide) (fun c12 => ?_) (fun c12 => ?_)
    · have h := h.1 c12
      exact a_vret C dX12_layReach_71 h
    · have h := h.2 c12
      refine a_aload_n C 0 dX12_layReach_8 rfl rfl ?_
      refine a_getr C 28 (r := 60) dX12_layReach_9 (by decide) rfl rfl rfl ib_12 (by decide) bw_1050 ?_
      refine a_iload_n C 2 dX12_layReach_12 rfl rfl ?_
      refine a_aload_n C 0 dX12_layReach_13 rfl rfl ?_
      refine a_iload_n C 2 dX12_layReach_14 rfl rfl ?_
      refine a_callVi C dX12_layReach_15 (m_X12_isFree l V h) bw_1140 bw_1142 bw_39 bw_123 bw_1143 (by decide) rfl rfl np_X12_isFree rfl rfl (by decide) (Nat.le_of_ble_eq_true rfl) ⟨Nat.zero_le _, Nat.zero_le _⟩ (fun r1 u2 h => ?_)
      refine a_if_eq C 27 dX12_layReach_18 (by decide) (fun c11 => ?_) (fun c11 => ?_)
      · have h := h.1 c11
        refine a_iconst C 0 dX12_layReach_27 (by decide) ?_
        refine tj_X12_layReach_28 C ih _ _ _ _ _ h
      · have h := h.2 c11
        refine a_iconst C 1 dX12_layReach_21 (by decide) ?_
        refine a_iload_n C 2 dX12_layReach_22 rfl rfl ?_
        refine a_ishl C dX12_layReach_23 ?_
        refine a_goto C 28 dX12_layReach_24 (by decide) ?_
        refine tj_X12_layReach_28 C ih _ _ _ _ _ h
theorem np_X12_layReach : yX12_layReach.cls ≠ "java/lang/invoke/MethodHandle" ∧ yX12_layReach.cls ≠ "java/lang/invoke/VarHandle" ∧ (parseMethodDescriptor yX12_layReach.desc).map (fun d => d.parameters.length) = some 1 := by decide +kernel
set_option maxHeartbeats 4000000 in
set_option maxRecDepth 100000 in
theorem m_X12_layReach (l : Launch) (V : VEn) {a0 : Int32} {u : PoS} {post : PoS → Prop} (h : wp_X12_layReach a0 u post) : KV l V yX12_layReach cX12_layReach 4 4 [.ref (eA V 48), .int a0] u post := by
  refine KV_of (by decide) (Nat.le_of_ble_eq_true rfl) (lv := [(0, .ref (eA V 48)), (1, .int a0)]) rfl ?_
  intro p e s m args below meth c C
  rw [wp_X12_layReach] at h
  refine a_iconst C 0 dX12_layReach_0 (by decide) ?_
  refine a_istore_n C [(2, .int 0), (0, .ref (eA V 48)), (1, .int a0)] dX12_layReach_1 rfl (by decide) rfl ?_
  refine a_sub [1, 2, 0] rfl ?_
  obtain ⟨n2, h⟩ := h
  refine tl_X12_layReach_2 C n2 _ _ _ h

/-! RainOnTheOneModel.turnsBehind(II)I -/
def wj_X12_turnsBehind_72 (k22 : Int32 → Int32 → Int32 → Int32 → PoS → Prop) (post : Int32 → PoS → Prop) (v1 : Int32) (v2 : Int32) (v3 : Int32) (v4 : Int32) (u : PoS) : Prop := k22 v1 v2 v3 (v4 + 1) u
def wl_X12_turnsBehind_22 (k78 : Int32 → PoS → Prop) (post : Int32 → PoS → Prop) : Nat → Int32 → Int32 → Int32 → Int32 → PoS → Prop
  | 0, _, _, _, _, _ => False
  | n + 1, v1, v2, v3, v4, u => ((30 ≤ v4 → k78 v3 u) ∧ (¬ 30 ≤ v4 → vp_in v2 30 ∧ wp_X12_has (gI u 60 (Int32.toNatClampNeg v2)) v4 u (fun (r3 : Int32) (u4 : PoS) => ((r3 = 0 → wj_X12_turnsBehind_72 (wl_X12_turnsBehind_22 k78 post n) post v1 v2 v3 v4 u4) ∧ (¬ r3 = 0 → vp_in ((30 * v1) + v4) 900 ∧ ((v3 ≤ (gI u4 59 (Int32.toNatClampNeg ((30 * v1) + v4))) → wj_X12_turnsBehind_72 (wl_X12_turnsBehind_22 k78 post n) post v1 v2 v3 v4 u4) ∧ (¬ v3 ≤ (gI u4 59 (Int32.toNatClampNeg ((30 * v1) + v4))) → vp_in ((30 * v1) + v4) 900 ∧ ∀ x5 : Int32, x5 = (gI u4 59 (Int32.toNatClampNeg ((30 * v1) + v4))) → wj_X12_turnsBehind_72 (wl_X12_turnsBehind_22 k78 post n) post v1 v2 x5 v4 u4)))))))
def wp_X12_turnsBehind (a0 : Int32) (a1 : Int32) (u : PoS) (post : Int32 → PoS → Prop) : Prop := vp_in a1 30 ∧ wp_X12_has (gI u 60 (Int32.toNatClampNeg a1)) a0 u (fun (r1 : Int32) (u2 : PoS) => ((r1 = 0 → (∃ n22, wl_X12_turnsBehind_22 (fun (v39 : Int32) (u9 : PoS) => ((¬ v39 = 1000000 → post (v39 + 1) u9) ∧ (v39 = 1000000 → post 1000000 u9))) post n22 a0 a1 1000000 0 u2)) ∧ (¬ r1 = 0 → post 1 u2)))
set_option maxHeartbeats 4000000 in
set_option maxRecDepth 100000 in
theorem tj_X12_turnsBehind_72 {p : Program} {l : Launch} {e : Env} {s : State} {m : MethodId} {args : Array Value} {below : List Frame} {meth : Method} {c : Code} {V : VEn} {k22 : Int32 → Int32 → Int32 → Int32 → PoS → Prop} {post : Int32 → PoS → Prop} (C : CxS p s m args meth c V cX12_turnsBehind 5 RX12 (some .int)) (hk22 : ∀ (v1 : Int32) (v2 : Int32) (v3 : Int32) (v4 : Int32) (u : PoS), k22 v1 v2 v3 v4 u → AtS p l e (Rm 1) s m args below meth c V 5 0 0 (QI V below args s post) 22 [(0, .ref (eA V 48)), (1, .int v1), (2, .int v2), (3, .int v3), (4, .int v4)] [] u) (v1 : Int32) (v2 : Int32) (v3 : Int32) (v4 : Int32) (u : PoS) (h : wj_X12_turnsBehind_72 k22 post v1 v2 v3 v4 u) : AtS p l e (Rm 1) s m args below meth c V 5 0 0 (QI V below args s post) 72 [(0, .ref (eA V 48)), (1, .int v1), (2, .int v2), (3, .int v3), (4, .int v4)] [] u := by
  rw [wj_X12_turnsBehind_72] at h
  refine a_iinc C (v4 + 1) 4 [(4, .int (v4 + 1)), (0, .ref (eA V 48)), (1, .int v1), (2, .int v2), (3, .int v3)] dX12_turnsBehind_72 rfl (congrArg (fun z => v4 + z) (show Int32.ofInt 1 = 1 by decide)) (by decide) rfl ?_
  refine a_goto C 22 dX12_turnsBehind_75 (by decide) ?_
  refine a_sub [1, 2, 3, 4, 0] rfl ?_
  exact hk22 _ _ _ _ _ h
set_option maxHeartbeats 4000000 in
set_option maxRecDepth 100000 in
theorem tl_X12_turnsBehind_22 {p : Program} {l : Launch} {e : Env} {s : State} {m : MethodId} {args : Array Value} {below : List Frame} {meth : Method} {c : Code} {V : VEn} {k78 : Int32 → PoS → Prop} {post : Int32 → PoS → Prop} (C : CxS p s m args meth c V cX12_turnsBehind 5 RX12 (some .int)) (hk78 : ∀ (v3 : Int32) (u : PoS), k78 v3 u → AtS p l e (Rm 1) s m args below meth c V 5 0 0 (QI V below args s post) 78 [(3, .int v3)] [] u) : ∀ (n : Nat) (v1 : Int32) (v2 : Int32) (v3 : Int32) (v4 : Int32) (u : PoS), wl_X12_turnsBehind_22 k78 post n v1 v2 v3 v4 u → AtS p l e (Rm 1) s m args below meth c V 5 0 0 (QI V below args s post) 22 [(0, .ref (eA V 48)), (1, .int v1), (2, .int v2), (3, .int v3), (4, .int v4)] [] u := by
  intro n
  induction n with
  | zero => intro v1 v2 v3 v4 u h; exact h.elim
  | succ n ih =>
    intro v1 v2 v3 v4 u h
    rw [wl_X12_turnsBehind_22] at h
    refine a_iload C 4 dX12_turnsBehind_22 rfl ?_
    refine a_bipush C 30 dX12_turnsBehind_24 (by decide) ?_
    refine a_icmp_ge C 78 dX12_turnsBehind_26 (by decide) (fun c8 => ?_) (fun c8 => ?_)
    · have h := h.1 c8
      refine a_sub [3] rfl ?_
      exact hk78 _ _ h
    · have h := h.2 c8
      refine a_aload_n C 0 dX12_turnsBehind_29 rfl rfl ?_
      refine a_getr C 28 (r := 60) dX12_turnsBehind_30 (by decide) rfl rfl rfl ib_12 (by decide) bw_1050 ?_
      refine a_iload_n C 2 dX12_turnsBehind_33 rfl rfl ?_
      refine b_iald C (Int32.toNatClampNeg v2) dX12_turnsBehind_34 (by decide) rfl h.1 rfl ?_
      have h := h.2
      refine a_iload C 4 dX12_turnsBehind_35 rfl ?_
      refine a_callSi C dX12_turnsBehind_37 (m_X12_has l V h) bw_1240 bw_1241 bw_123 bw_1242 np_X12_has rfl rfl (by decide) (Nat.le_of_ble_eq_true rfl) ⟨Nat.zero_le _, Nat.zero_le _⟩ (fun r3 u4 h => ?_)
      refine a_if_eq C 72 dX12_turnsBehind_40 (by decide) (fun c7 => ?_) (fun c7 => ?_)
      · have h := h.1 c7
        refine tj_X12_turnsBehind_72 C ih _ _ _ _ _ h
      · have h := h.2 c7
        refine a_aload_n C 0 dX12_turnsBehind_43 rfl rfl ?_
        refine a_getr C 27 (r := 59) dX12_turnsBehind_44 (by decide) rfl rfl rfl ib_12 (by decide) bw_1049 ?_
        refine a_bipush C 30 dX12_turnsBehind_47 (by decide) ?_
        refine a_iload_n C 1 dX12_turnsBehind_49 rfl rfl ?_
        refine a_imul C dX12_turnsBehind_50 ?_
        refine a_iload C 4 dX12_turnsBehind_51 rfl ?_
        refine a_iadd C dX12_turnsBehind_53 ?_
        refine b_iald C (Int32.toNatClampNeg ((30 * v1) + v4)) dX12_turnsBehind_54 (by decide) rfl h.1 rfl ?_
        have h := h.2
        refine a_iload_n C 3 dX12_turnsBehind_55 rfl rfl ?_
        refine a_icmp_ge C 72 dX12_turnsBehind_56 (by decide) (fun c6 => ?_) (fun c6 => ?_)
        · have h := h.1 c6
          refine tj_X12_turnsBehind_72 C ih _ _ _ _ _ h
        · have h := h.2 c6
          refine a_aload_n C 0 dX12_turnsBehind_59 rfl rfl ?_
          refine a_getr C 27 (r := 59) dX12_turnsBehind_60 (by decide) rfl rfl rfl ib_12 (by decide) bw_1049 ?_
          refine a_bipush C 30 dX12_turnsBehind_63 (by decide) ?_
          refine a_iload_n C 1 dX12_turnsBehind_65 rfl rfl ?_
          refine a_imul C dX12_turnsBehind_66 ?_
          refine a_iload C 4 dX12_turnsBehind_67 rfl ?_
          refine a_iadd C dX12_turnsBehind_69 ?_
          refine b_iald C (Int32.toNatClampNeg ((30 * v1) + v4)) dX12_turnsBehind_70 (by decide) rfl h.1 rfl ?_
          have h := h.2
          refine a_topi (fun x5 ex5 => ?_)
          have h := h x5 ex5
          refine a_istore_n C [(3, .int x5), (0, .ref (eA V 48)), (1, .int v1), (2, .int v2), (4, .int v4)] dX12_turnsBehind_71 rfl (by decide) rfl ?_
          refine a_sub [1, 2, 3, 0, 4] rfl ?_
          refine tj_X12_turnsBehind_72 C ih _ _ _ _ _ h
theorem np_X12_turnsBehind : yX12_turnsBehind.cls ≠ "java/lang/invoke/MethodHandle" ∧ yX12_turnsBehind.cls ≠ "java/lang/invoke/VarHandle" ∧ (parseMethodDescriptor yX12_turnsBehind.desc).map (fun d => d.parameters.length) = some 2 := by decide +kernel
set_option maxHeartbeats 4000000 in
set_option maxRecDepth 100000 in
theorem m_X12_turnsBehind (l : Launch) (V : VEn) {a0 : Int32} {a1 : Int32} {u : PoS} {post : Int32 → PoS → Prop} (h : wp_X12_turnsBehind a0 a1 u post) : KI l V yX12_turnsBehind cX12_turnsBehind 5 .int 1 [.ref (eA V 48), .int a0, .int a1] u post := by
  refine KI_of (by decide) (Nat.le_of_ble_eq_true rfl) (lv := [(0, .ref (eA V 48)), (1, .int a0), (2, .int a1)]) rfl ?_
  intro p e s m args below meth c C
  rw [wp_X12_turnsBehind] at h
  refine a_aload_n C 0 dX12_turnsBehind_0 rfl rfl ?_
  refine a_getr C 28 (r := 60) dX12_turnsBehind_1 (by decide) rfl rfl rfl ib_12 (by decide) bw_1050 ?_
  refine a_iload_n C 2 dX12_turnsBehind_4 rfl rfl ?_
  refine b_iald C (Int32.toNatClampNeg a1) dX12_turnsBehind_5 (by decide) rfl h.1 rfl ?_
  have h := h.2
  refine a_iload_n C 1 dX12_turnsBehind_6 rfl rfl ?_
  refine a_callSi C dX12_turnsBehind_7 (m_X12_has l V h) bw_1240 bw_1241 bw_123 bw_1242 np_X12_has rfl rfl (by decide) (Nat.le_of_ble_eq_true rfl) ⟨Nat.zero_le _, Nat.zero_le _⟩ (fun r1 u2 h => ?_)
  refine a_if_eq C 15 dX12_turnsBehind_10 (by decide) (fun c11 => ?_) (fun c11 => ?_)
  · have h := h.1 c11
    refine a_ldcw C dX12_turnsBehind_15 bw_1578 ?_
    refine a_istore_n C [(3, .int 1000000), (0, .ref (eA V 48)), (1, .int a0), (2, .int a1)] dX12_turnsBehind_18 rfl (by decide) rfl ?_
    refine a_iconst C 0 dX12_turnsBehind_19 (by decide) ?_
    refine a_istore C [(4, .int 0), (3, .int 1000000), (0, .ref (eA V 48)), (1, .int a0), (2, .int a1)] dX12_turnsBehind_20 (by decide) rfl ?_
    refine a_sub [2, 3, 4, 1, 0] rfl ?_
    obtain ⟨n22, h⟩ := h
    refine tl_X12_turnsBehind_22 C (fun v39 u9 h => ?_) n22 _ _ _ _ _ h
    refine a_iload_n C 0 dX12_turnsBehind_78 rfl rfl ?_
    refine a_ldcw C dX12_turnsBehind_79 bw_1578 ?_
    refine a_icmp_ne C 91 dX12_turnsBehind_82 (by decide) (fun c10 => ?_) (fun c10 => ?_)
    · have h := h.1 c10
      refine a_iload_n C 0 dX12_turnsBehind_91 rfl rfl ?_
      refine a_iconst C 1 dX12_turnsBehind_92 (by decide) ?_
      refine a_iadd C dX12_turnsBehind_93 ?_
      exact a_iret C dX12_turnsBehind_94 h
    · have h := h.2 c10
      refine a_ldcw C dX12_turnsBehind_85 bw_1578 ?_
      refine a_goto C 94 dX12_turnsBehind_88 (by decide) ?_
      exact a_iret C dX12_turnsBehind_94 h
  · have h := h.2 c11
    refine a_iconst C 1 dX12_turnsBehind_13 (by decide) ?_
    exact a_iret C dX12_turnsBehind_14 h

/-! RainOnTheOneModel.goals(I)I -/
def wp_X12_goals (a0 : Int32) (u : PoS) (post : Int32 → PoS → Prop) : Prop := wp_X12_beside a0 u (fun (r1 : Int32) (u2 : PoS) => wp_X12_free u2 (fun (r3 : Int32) (u4 : PoS) => post ((r1 ||| (1 <<< (a0 &&& 31))) &&& r3) u4))
theorem np_X12_goals : yX12_goals.cls ≠ "java/lang/invoke/MethodHandle" ∧ yX12_goals.cls ≠ "java/lang/invoke/VarHandle" ∧ (parseMethodDescriptor yX12_goals.desc).map (fun d => d.parameters.length) = some 1 := by decide +kernel
set_option maxHeartbeats 4000000 in
set_option maxRecDepth 100000 in
theorem m_X12_goals (l : Launch) (V : VEn) {a0 : Int32} {u : PoS} {post : Int32 → PoS → Prop} (h : wp_X12_goals a0 u post) : KI l V yX12_goals cX12_goals 2 .int 4 [.ref (eA V 48), .int a0] u post := by
  refine KI_of (by decide) (Nat.le_of_ble_eq_true rfl) (lv := [(0, .ref (eA V 48)), (1, .int a0)]) rfl ?_
  intro p e s m args below meth c C
  rw [wp_X12_goals] at h
  refine a_iload_n C 1 dX12_goals_0 rfl rfl ?_
  refine a_callSi C dX12_goals_1 (m_X12_beside l V h) bw_1346 bw_1347 bw_123 bw_1348 np_X12_beside rfl rfl (by decide) (Nat.le_of_ble_eq_true rfl) ⟨Nat.zero_le _, Nat.zero_le _⟩ (fun r1 u2 h => ?_)
  refine a_iconst C 1 dX12_goals_4 (by decide) ?_
  refine a_iload_n C 1 dX12_goals_5 rfl rfl ?_
  refine a_ishl C dX12_goals_6 ?_
  refine a_ior C dX12_goals_7 ?_
  refine a_aload_n C 0 dX12_goals_8 rfl rfl ?_
  refine a_callVi C dX12_goals_9 (m_X12_free l V h) bw_1395 bw_1397 bw_79 bw_123 bw_1398 (by decide) rfl rfl np_X12_free rfl rfl (by decide) (Nat.le_of_ble_eq_true rfl) ⟨Nat.zero_le _, Nat.zero_le _⟩ (fun r3 u4 h => ?_)
  refine a_iand C dX12_goals_12 ?_
  exact a_iret C dX12_goals_13 h

/-! RainOnTheOneModel.longest(II)I -/
def wj_X12_longest_50 (k5 : Int32 → Int32 → Int32 → Int32 → PoS → Prop) (post : Int32 → PoS → Prop) (v1 : Int32) (v2 : Int32) (v4 : Int32) (s0 : Int32) (u : PoS) : Prop := k5 v1 v2 s0 (v4 + 1) u
def wj_X12_longest_36 (k5 : Int32 → Int32 → Int32 → Int32 → PoS → Prop) (post : Int32 → PoS → Prop) (v1 : Int32) (v2 : Int32) (v3 : Int32) (v4 : Int32) (s0 : Int32) (u : PoS) : Prop := ((s0 ≤ v3 → wj_X12_longest_50 k5 post v1 v2 v4 v3 u) ∧ (¬ s0 ≤ v3 → wj_X12_longest_50 k5 post v1 v2 v4 s0 u))
def wl_X12_longest_5 (post : Int32 → PoS → Prop) : Nat → Int32 → Int32 → Int32 → Int32 → PoS → Prop
  | 0, _, _, _, _, _ => False
  | n + 1, v1, v2, v3, v4, u => ((30 ≤ v4 → post v3 u) ∧ (¬ 30 ≤ v4 → wp_X12_goals v1 u (fun (r1 : Int32) (u2 : PoS) => wp_X12_has r1 v4 u2 (fun (r3 : Int32) (u4 : PoS) => ((r3 = 0 → wj_X12_longest_36 (wl_X12_longest_5 post n) post v1 v2 v3 v4 0 u4) ∧ (¬ r3 = 0 → wp_X12_turnsBehind v4 v2 u4 (fun (r6 : Int32) (u7 : PoS) => wj_X12_longest_36 (wl_X12_longest_5 post n) post v1 v2 v3 v4 r6 u7)))))))
def wp_X12_longest (a0 : Int32) (a1 : Int32) (u : PoS) (post : Int32 → PoS → Prop) : Prop := (∃ n5, wl_X12_longest_5 post n5 a0 a1 0 0 u)
set_option maxHeartbeats 4000000 in
set_option maxRecDepth 100000 in
theorem tj_X12_longest_50 {p : Program} {l : Launch} {e : Env} {s : State} {m : MethodId} {args : Array Value} {below : List Frame} {meth : Method} {c : Code} {V : VEn} {k5 : Int32 → Int32 → Int32 → Int32 → PoS → Prop} {post : Int32 → PoS → Prop} (C : CxS p s m args meth c V cX12_longest 6 RX12 (some .int)) (hk5 : ∀ (v1 : Int32) (v2 : Int32) (v3 : Int32) (v4 : Int32) (u : PoS), k5 v1 v2 v3 v4 u → AtS p l e (Rm 5) s m args below meth c V 6 0 0 (QI V below args s post) 5 [(0, .ref (eA V 48)), (1, .int v1), (2, .int v2), (3, .int v3), (4, .int v4)] [] u) (v1 : Int32) (v2 : Int32) (v4 : Int32) (s0 : Int32) (u : PoS) (h : wj_X12_longest_50 k5 post v1 v2 v4 s0 u) : AtS p l e (Rm 5) s m args below meth c V 6 0 0 (QI V below args s post) 50 [(0, .ref (eA V 48)), (1, .int v1), (2, .int v2), (4, .int v4)] [.int s0] u := by
  rw [wj_X12_longest_50] at h
  refine a_istore_n C [(3, .int s0), (0, .ref (eA V 48)), (1, .int v1), (2, .int v2), (4, .int v4)] dX12_longest_50 rfl (by decide) rfl ?_
  refine a_iinc C (v4 + 1) 4 [(4, .int (v4 + 1)), (3, .int s0), (0, .ref (eA V 48)), (1, .int v1), (2, .int v2)] dX12_longest_51 rfl (congrArg (fun z => v4 + z) (show Int32.ofInt 1 = 1 by decide)) (by decide) rfl ?_
  refine a_goto C 5 dX12_longest_54 (by decide) ?_
  refine a_sub [2, 3, 4, 1, 0] rfl ?_
  exact hk5 _ _ _ _ _ h
set_option maxHeartbeats 4000000 in
set_option maxRecDepth 100000 in
theorem tj_X12_longest_36 {p : Program} {l : Launch} {e : Env} {s : State} {m : MethodId} {args : Array Value} {below : List Frame} {meth : Method} {c : Code} {V : VEn} {k5 : Int32 → Int32 → Int32 → Int32 → PoS → Prop} {post : Int32 → PoS → Prop} (C : CxS p s m args meth c V cX12_longest 6 RX12 (some .int)) (hk5 : ∀ (v1 : Int32) (v2 : Int32) (v3 : Int32) (v4 : Int32) (u : PoS), k5 v1 v2 v3 v4 u → AtS p l e (Rm 5) s m args below meth c V 6 0 0 (QI V below args s post) 5 [(0, .ref (eA V 48)), (1, .int v1), (2, .int v2), (3, .int v3), (4, .int v4)] [] u) (v1 : Int32) (v2 : Int32) (v3 : Int32) (v4 : Int32) (s0 : Int32) (u : PoS) (h : wj_X12_longest_36 k5 post v1 v2 v3 v4 s0 u) : AtS p l e (Rm 5) s m args below meth c V 6 0 0 (QI V below args s post) 36 [(0, .ref (eA V 48)), (1, .int v1), (2, .int v2), (3, .int v3), (4, .int v4)] [.int s0] u := by
  rw [wj_X12_longest_36] at h
  refine a_istore C [(5, .int s0), (0, .ref (eA V 48)), (1, .int v1), (2, .int v2), (3, .int v3), (4, .int v4)] dX12_longest_36 (by decide) rfl ?_
  refine a_iload C 0 dX12_longest_38 rfl ?_
  refine a_iload_n C 4 dX12_longest_40 rfl rfl ?_
  refine a_icmp_le C 49 dX12_longest_41 (by decide) (fun c5 => ?_) (fun c5 => ?_)
  · have h := h.1 c5
    refine a_iload_n C 4 dX12_longest_49 rfl rfl ?_
    refine a_sub [1, 2, 3, 5] rfl ?_
    refine tj_X12_longest_50 C hk5 _ _ _ _ _ h
  · have h := h.2 c5
    refine a_iload C 0 dX12_longest_44 rfl ?_
    refine a_goto C 50 dX12_longest_46 (by decide) ?_
    refine a_sub [1, 2, 3, 5] rfl ?_
    refine tj_X12_longest_50 C hk5 _ _ _ _ _ h
set_option maxHeartbeats 4000000 in
set_option maxRecDepth 100000 in
theorem tl_X12_longest_5 {p : Program} {l : Launch} {e : Env} {s : State} {m : MethodId} {args : Array Value} {below : List Frame} {meth : Method} {c : Code} {V : VEn} {post : Int32 → PoS → Prop} (C : CxS p s m args meth c V cX12_longest 6 RX12 (some .int)) : ∀ (n : Nat) (v1 : Int32) (v2 : Int32) (v3 : Int32) (v4 : Int32) (u : PoS), wl_X12_longest_5 post n v1 v2 v3 v4 u → AtS p l e (Rm 5) s m args below meth c V 6 0 0 (QI V below args s post) 5 [(0, .ref (eA V 48)), (1, .int v1), (2, .int v2), (3, .int v3), (4, .int v4)] [] u := by
  intro n
  induction n with
  | zero => intro v1 v2 v3 v4 u h; exact h.elim
  | succ n ih =>
    intro v1 v2 v3 v4 u h
    rw [wl_X12_longest_5] at h
    refine a_iload C 4 dX12_longest_5 rfl ?_
    refine a_bipush C 30 dX12_longest_7 (by decide) ?_
    refine a_icmp_ge C 57 dX12_longest_9 (by decide) (fun c9 => ?_) (fun c9 => ?_)
    · have h := h.1 c9
      refine a_iload_n C 3 dX12_longest_57 rfl rfl ?_
      exact a_iret C dX12_longest_58 h
    · have h := h.2 c9
      refine a_aload_n C 0 dX12_longest_12 rfl rfl ?_
      refine a_iload_n C 1 dX12_longest_13 rfl rfl ?_
      refine a_callVi C dX12_longest_14 (m_X12_goals l V h) bw_1583 bw_1585 bw_101 bw_123 bw_1586 (by decide) rfl rfl np_X12_goals rfl rfl (by decide) (Nat.le_of_ble_eq_true rfl) ⟨Nat.zero_le _, Nat.zero_le _⟩ (fun r1 u2 h => ?_)
      refine a_iload C 4 dX12_longest_17 rfl ?_
      refine a_callSi C dX12_longest_19 (m_X12_has l V h) bw_1240 bw_1241 bw_123 bw_1242 np_X12_has rfl rfl (by decide) (Nat.le_of_ble_eq_true rfl) ⟨Nat.zero_le _, Nat.zero_le _⟩ (fun r3 u4 h => ?_)
      refine a_if_eq C 35 dX12_longest_22 (by decide) (fun c8 => ?_) (fun c8 => ?_)
      · have h := h.1 c8
        refine a_iconst C 0 dX12_longest_35 (by decide) ?_
        refine tj_X12_longest_36 C ih _ _ _ _ _ _ h
      · have h := h.2 c8
        refine a_aload_n C 0 dX12_longest_25 rfl rfl ?_
        refine a_iload C 4 dX12_longest_26 rfl ?_
        refine a_iload_n C 2 dX12_longest_28 rfl rfl ?_
        refine a_callVi C dX12_longest_29 (m_X12_turnsBehind l V h) bw_1587 bw_1589 bw_102 bw_123 bw_1590 (by decide) rfl rfl np_X12_turnsBehind rfl rfl (by decide) (Nat.le_of_ble_eq_true rfl) ⟨Nat.zero_le _, Nat.zero_le _⟩ (fun r6 u7 h => ?_)
        refine a_goto C 36 dX12_longest_32 (by decide) ?_
        refine tj_X12_longest_36 C ih _ _ _ _ _ _ h
theorem np_X12_longest : yX12_longest.cls ≠ "java/lang/invoke/MethodHandle" ∧ yX12_longest.cls ≠ "java/lang/invoke/VarHandle" ∧ (parseMethodDescriptor yX12_longest.desc).map (fun d => d.parameters.length) = some 2 := by decide +kernel
set_option maxHeartbeats 4000000 in
set_option maxRecDepth 100000 in
theorem m_X12_longest (l : Launch) (V : VEn) {a0 : Int32} {a1 : Int32} {u : PoS} {post : Int32 → PoS → Prop} (h : wp_X12_longest a0 a1 u post) : KI l V yX12_longest cX12_longest 6 .int 5 [.ref (eA V 48), .int a0, .int a1] u post := by
  refine KI_of (by decide) (Nat.le_of_ble_eq_true rfl) (lv := [(0, .ref (eA V 48)), (1, .int a0), (2, .int a1)]) rfl ?_
  intro p e s m args below meth c C
  rw [wp_X12_longest] at h
  refine a_iconst C 0 dX12_longest_0 (by decide) ?_
  refine a_istore_n C [(3, .int 0), (0, .ref (eA V 48)), (1, .int a0), (2, .int a1)] dX12_longest_1 rfl (by decide) rfl ?_
  refine a_iconst C 0 dX12_longest_2 (by decide) ?_
  refine a_istore C [(4, .int 0), (3, .int 0), (0, .ref (eA V 48)), (1, .int a0), (2, .int a1)] dX12_longest_3 (by decide) rfl ?_
  refine a_sub [2, 3, 4, 1, 0] rfl ?_
  obtain ⟨n5, h⟩ := h
  refine tl_X12_longest_5 C n5 _ _ _ _ _ h

/-! RainOnTheOneModel.layTurns(I)V -/
def wj_X12_layTurns_42 (k12 : Int32 → Int32 → PoS → Prop) (post : PoS → Prop) (v2 : Int32) (v3 : Int32) (s0 : Int32) (s1 : Int32) (u : PoS) : Prop := vp_in s1 900 ∧ ∀ z5 : PoS, z5 = pI u 59 (Int32.toNatClampNeg s1) s0 → k12 v2 (v3 + 1) z5
def wl_X12_layTurns_12 (k49 : Int32 → PoS → Prop) (post : PoS → Prop) : Nat → Int32 → Int32 → PoS → Prop
  | 0, _, _, _ => False
  | n + 1, v2, v3, u => ((900 ≤ v3 → k49 v2 u) ∧ (¬ 900 ≤ v3 → ((¬ (v3 / 30) = (irem v3 30) → wj_X12_layTurns_42 (wl_X12_layTurns_12 k49 post n) post v2 v3 1000000 v3 u) ∧ ((v3 / 30) = (irem v3 30) → wj_X12_layTurns_42 (wl_X12_layTurns_12 k49 post n) post v2 v3 0 v3 u))))
def wj_X12_layTurns_141 (k63 : Int32 → Int32 → Int32 → Int32 → PoS → Prop) (post : PoS → Prop) (v2 : Int32) (v3 : Int32) (v4 : Int32) (v5 : Int32) (u : PoS) : Prop := k63 v2 v3 v4 (v5 + 1) u
def wl_X12_layTurns_63 (k147 : Int32 → Int32 → Int32 → PoS → Prop) (post : PoS → Prop) : Nat → Int32 → Int32 → Int32 → Int32 → PoS → Prop
  | 0, _, _, _, _, _ => False
  | n + 1, v2, v3, v4, v5, u => ((900 ≤ v5 → k147 v2 v3 v4 u) ∧ (¬ 900 ≤ v5 → vp_in v5 900 ∧ ((¬ (gI u 59 (Int32.toNatClampNeg v5)) = 1000000 → wj_X12_layTurns_141 (wl_X12_layTurns_63 k147 post n) post v2 v3 v4 v5 u) ∧ ((gI u 59 (Int32.toNatClampNeg v5)) = 1000000 → wp_X12_has v2 (v5 / 30) u (fun (r9 : Int32) (u10 : PoS) => ((r9 = 0 → wj_X12_layTurns_141 (wl_X12_layTurns_63 k147 post n) post v2 v3 v4 v5 u10) ∧ (¬ r9 = 0 → wp_X12_has v2 (irem v5 30) u10 (fun (r11 : Int32) (u12 : PoS) => ((r11 = 0 → wj_X12_layTurns_141 (wl_X12_layTurns_63 k147 post n) post v2 v3 v4 v5 u12) ∧ (¬ r11 = 0 → wp_X12_longest (v5 / 30) (irem v5 30) u12 (fun (r13 : Int32) (u14 : PoS) => ((r13 = v4 → vp_in v5 900 ∧ ∀ z15 : PoS, z15 = pI u14 59 (Int32.toNatClampNeg v5) v4 → wj_X12_layTurns_141 (wl_X12_layTurns_63 k147 post n) post v2 1 v4 v5 z15) ∧ (¬ r13 = v4 → wj_X12_layTurns_141 (wl_X12_layTurns_63 k147 post n) post v2 v3 v4 v5 u14)))))))))))))
def wl_X12_layTurns_54 (post : PoS → Prop) : Nat → Int32 → Int32 → Int32 → PoS → Prop
  | 0, _, _, _, _ => False
  | n + 1, v2, v3, v4, u => ((v3 = 0 → post u) ∧ (¬ v3 = 0 → (∃ n63, wl_X12_layTurns_63 (fun (v221 : Int32) (v321 : Int32) (v421 : Int32) (u21 : PoS) => wl_X12_layTurns_54 post n v221 v321 (v421 + 1) u21) post n63 v2 0 v4 0 u)))
def wp_X12_layTurns (a0 : Int32) (u : PoS) (post : PoS → Prop) : Prop := wp_X12_layReach a0 u (fun (u2 : PoS) => wp_X12_free u2 (fun (r3 : Int32) (u4 : PoS) => (∃ n12, wl_X12_layTurns_12 (fun (v28 : Int32) (u8 : PoS) => (∃ n54, wl_X12_layTurns_54 post n54 v28 1 1 u8)) post n12 r3 0 u4)))
set_option maxHeartbeats 4000000 in
set_option maxRecDepth 100000 in
theorem tj_X12_layTurns_42 {p : Program} {l : Launch} {e : Env} {s : State} {m : MethodId} {args : Array Value} {below : List Frame} {meth : Method} {c : Code} {V : VEn} {k12 : Int32 → Int32 → PoS → Prop} {post : PoS → Prop} (C : CxS p s m args meth c V cX12_layTurns 6 RX12 none) (hk12 : ∀ (v2 : Int32) (v3 : Int32) (u : PoS), k12 v2 v3 u → AtS p l e (Rm 6) s m args below meth c V 6 0 0 (QV V below args s post) 12 [(0, .ref (eA V 48)), (2, .int v2), (3, .int v3)] [] u) (v2 : Int32) (v3 : Int32) (s0 : Int32) (s1 : Int32) (u : PoS) (h : wj_X12_layTurns_42 k12 post v2 v3 s0 s1 u) : AtS p l e (Rm 6) s m args below meth c V 6 0 0 (QV V below args s post) 42 [(0, .ref (eA V 48)), (2, .int v2), (3, .int v3)] [.int s0, .int s1, .ref (eA V 59)] u := by
  rw [wj_X12_layTurns_42] at h
  refine b_iast C (Int32.toNatClampNeg s1) dX12_layTurns_42 (by decide) rfl h.1 rfl ?_
  have h := h.2
  refine a_topu (fun z5 ez5 => ?_)
  have h := h z5 ez5
  refine a_iinc C (v3 + 1) 2 [(3, .int (v3 + 1)), (0, .ref (eA V 48)), (2, .int v2)] dX12_layTurns_43 rfl (congrArg (fun z => v3 + z) (show Int32.ofInt 1 = 1 by decide)) (by decide) rfl ?_
  refine a_goto C 12 dX12_layTurns_46 (by decide) ?_
  refine a_sub [1, 2, 0] rfl ?_
  exact hk12 _ _ _ h
set_option maxHeartbeats 4000000 in
set_option maxRecDepth 100000 in
theorem tl_X12_layTurns_12 {p : Program} {l : Launch} {e : Env} {s : State} {m : MethodId} {args : Array Value} {below : List Frame} {meth : Method} {c : Code} {V : VEn} {k49 : Int32 → PoS → Prop} {post : PoS → Prop} (C : CxS p s m args meth c V cX12_layTurns 6 RX12 none) (hk49 : ∀ (v2 : Int32) (u : PoS), k49 v2 u → AtS p l e (Rm 6) s m args below meth c V 6 0 0 (QV V below args s post) 49 [(0, .ref (eA V 48)), (2, .int v2)] [] u) : ∀ (n : Nat) (v2 : Int32) (v3 : Int32) (u : PoS), wl_X12_layTurns_12 k49 post n v2 v3 u → AtS p l e (Rm 6) s m args below meth c V 6 0 0 (QV V below args s post) 12 [(0, .ref (eA V 48)), (2, .int v2), (3, .int v3)] [] u := by
  intro n
  induction n with
  | zero => intro v2 v3 u h; exact h.elim
  | succ n ih =>
    intro v2 v3 u h
    rw [wl_X12_layTurns_12] at h
    refine a_iload_n C 2 dX12_layTurns_12 rfl rfl ?_
    refine a_sipush C 900 dX12_layTurns_13 (by decide) ?_
    refine a_icmp_ge C 49 dX12_layTurns_16 (by decide) (fun c7 => ?_) (fun c7 => ?_)
    · have h := h.1 c7
      refine a_sub [0, 1] rfl ?_
      exact hk49 _ _ h
    · have h := h.2 c7
      refine a_aload_n C 0 dX12_layTurns_19 rfl rfl ?_
      refine a_getr C 27 (r := 59) dX12_layTurns_20 (by decide) rfl rfl rfl ib_12 (by decide) bw_1049 ?_
      refine a_iload_n C 2 dX12_layTurns_23 rfl rfl ?_
      refine a_iload_n C 2 dX12_layTurns_24 rfl rfl ?_
      refine a_bipush C 30 dX12_layTurns_25 (by decide) ?_
      refine a_idiv C dX12_layTurns_27 (by decide) ?_
      refine a_iload_n C 2 dX12_layTurns_28 rfl rfl ?_
      refine a_bipush C 30 dX12_layTurns_29 (by decide) ?_
      refine b_irem C dX12_layTurns_31 (by decide) ?_
      refine a_icmp_ne C 39 dX12_layTurns_32 (by decide) (fun c6 => ?_) (fun c6 => ?_)
      · have h := h.1 c6
        refine a_ldcw C dX12_layTurns_39 bw_1578 ?_
        refine tj_X12_layTurns_42 C ih _ _ _ _ _ h
      · have h := h.2 c6
        refine a_iconst C 0 dX12_layTurns_35 (by decide) ?_
        refine a_goto C 42 dX12_layTurns_36 (by decide) ?_
        refine tj_X12_layTurns_42 C ih _ _ _ _ _ h
set_option maxHeartbeats 4000000 in
set_option maxRecDepth 100000 in
theorem tj_X12_layTurns_141 {p : Program} {l : Launch} {e : Env} {s : State} {m : MethodId} {args : Array Value} {below : List Frame} {meth : Method} {c : Code} {V : VEn} {k63 : Int32 → Int32 → Int32 → Int32 → PoS → Prop} {post : PoS → Prop} (C : CxS p s m args meth c V cX12_layTurns 6 RX12 none) (hk63 : ∀ (v2 : Int32) (v3 : Int32) (v4 : Int32) (v5 : Int32) (u : PoS), k63 v2 v3 v4 v5 u → AtS p l e (Rm 6) s m args below meth c V 6 0 0 (QV V below args s post) 63 [(0, .ref (eA V 48)), (2, .int v2), (3, .int v3), (4, .int v4), (5, .int v5)] [] u) (v2 : Int32) (v3 : Int32) (v4 : Int32) (v5 : Int32) (u : PoS) (h : wj_X12_layTurns_141 k63 post v2 v3 v4 v5 u) : AtS p l e (Rm 6) s m args below meth c V 6 0 0 (QV V below args s post) 141 [(0, .ref (eA V 48)), (2, .int v2), (3, .int v3), (4, .int v4), (5, .int v5)] [] u := by
  rw [wj_X12_layTurns_141] at h
  refine a_iinc C (v5 + 1) 4 [(5, .int (v5 + 1)), (0, .ref (eA V 48)), (2, .int v2), (3, .int v3), (4, .int v4)] dX12_layTurns_141 rfl (congrArg (fun z => v5 + z) (show Int32.ofInt 1 = 1 by decide)) (by decide) rfl ?_
  refine a_goto C 63 dX12_layTurns_144 (by decide) ?_
  refine a_sub [1, 2, 3, 4, 0] rfl ?_
  exact hk63 _ _ _ _ _ h
set_option maxHeartbeats 4000000 in
set_option maxRecDepth 100000 in
theorem tl_X12_layTurns_63 {p : Program} {l : Launch} {e : Env} {s : State} {m : MethodId} {args : Array Value} {below : List Frame} {meth : Method} {c : Code} {V : VEn} {k147 : Int32 → Int32 → Int32 → PoS → Prop} {post : PoS → Prop} (C : CxS p s m args meth c V cX12_layTurns 6 RX12 none) (hk147 : ∀ (v2 : Int32) (v3 : Int32) (v4 : Int32) (u : PoS), k147 v2 v3 v4 u → AtS p l e (Rm 6) s m args below meth c V 6 0 0 (QV V below args s post) 147 [(0, .ref (eA V 48)), (2, .int v2), (3, .int v3), (4, .int v4)] [] u) : ∀ (n : Nat) (v2 : Int32) (v3 : Int32) (v4 : Int32) (v5 : Int32) (u : PoS), wl_X12_layTurns_63 k147 post n v2 v3 v4 v5 u → AtS p l e (Rm 6) s m args below meth c V 6 0 0 (QV V below args s post) 63 [(0, .ref (eA V 48)), (2, .int v2), (3, .int v3), (4, .int v4), (5, .int v5)] [] u := by
  intro n
  induction n with
  | zero => intro v2 v3 v4 v5 u h; exact h.elim
  | succ n ih =>
    intro v2 v3 v4 v5 u h
    rw [wl_X12_layTurns_63] at h
    refine a_iload C 4 dX12_layTurns_63 rfl ?_
    refine a_sipush C 900 dX12_layTurns_65 (by decide) ?_
    refine a_icmp_ge C 147 dX12_layTurns_68 (by decide) (fun c20 => ?_) (fun c20 => ?_)
    · have h := h.1 c20
      refine a_sub [0, 1, 2, 3] rfl ?_
      exact hk147 _ _ _ _ h
    · have h := h.2 c20
      refine a_aload_n C 0 dX12_layTurns_71 rfl rfl ?_
      refine a_getr C 27 (r := 59) dX12_layTurns_72 (by decide) rfl rfl rfl ib_12 (by decide) bw_1049 ?_
      refine a_iload C 4 dX12_layTurns_75 rfl ?_
      refine b_iald C (Int32.toNatClampNeg v5) dX12_layTurns_77 (by decide) rfl h.1 rfl ?_
      have h := h.2
      refine a_ldcw C dX12_layTurns_78 bw_1578 ?_
      refine a_icmp_ne C 141 dX12_layTurns_81 (by decide) (fun c19 => ?_) (fun c19 => ?_)
      · have h := h.1 c19
        refine tj_X12_layTurns_141 C ih _ _ _ _ _ h
      · have h := h.2 c19
        refine a_iload_n C 1 dX12_layTurns_84 rfl rfl ?_
        refine a_iload C 4 dX12_layTurns_85 rfl ?_
        refine a_bipush C 30 dX12_layTurns_87 (by decide) ?_
        refine a_idiv C dX12_layTurns_89 (by decide) ?_
        refine a_callSi C dX12_layTurns_90 (m_X12_has l V h) bw_1240 bw_1241 bw_123 bw_1242 np_X12_has rfl rfl (by decide) (Nat.le_of_ble_eq_true rfl) ⟨Nat.zero_le _, Nat.zero_le _⟩ (fun r9 u10 h => ?_)
        refine a_if_eq C 141 dX12_layTurns_93 (by decide) (fun c18 => ?_) (fun c18 => ?_)
        · have h := h.1 c18
          refine tj_X12_layTurns_141 C ih _ _ _ _ _ h
        · have h := h.2 c18
          refine a_iload_n C 1 dX12_layTurns_96 rfl rfl ?_
          refine a_iload C 4 dX12_layTurns_97 rfl ?_
          refine a_bipush C 30 dX12_layTurns_99 (by decide) ?_
          refine b_irem C dX12_layTurns_101 (by decide) ?_
          refine a_callSi C dX12_layTurns_102 (m_X12_has l V h) bw_1240 bw_1241 bw_123 bw_1242 np_X12_has rfl rfl (by decide) (Nat.le_of_ble_eq_true rfl) ⟨Nat.zero_le _, Nat.zero_le _⟩ (fun r11 u12 h => ?_)
          refine a_if_eq C 141 dX12_layTurns_105 (by decide) (fun c17 => ?_) (fun c17 => ?_)
          · have h := h.1 c17
            refine tj_X12_layTurns_141 C ih _ _ _ _ _ h
          · have h := h.2 c17
            refine a_aload_n C 0 dX12_layTurns_108 rfl rfl ?_
            refine a_iload C 4 dX12_layTurns_109 rfl ?_
            refine a_bipush C 30 dX12_layTurns_111 (by decide) ?_
            refine a_idiv C dX12_layTurns_113 (by decide) ?_
            refine a_iload C 4 dX12_layTurns_114 rfl ?_
            refine a_bipush C 30 dX12_layTurns_116 (by decide) ?_
            refine b_irem C dX12_layTurns_118 (by decide) ?_
            refine a_callVi C dX12_layTurns_119 (m_X12_longest l V h) bw_1579 bw_1581 bw_100 bw_123 bw_1582 (by decide) rfl rfl np_X12_longest rfl rfl (by decide) (Nat.le_of_ble_eq_true rfl) ⟨Nat.zero_le _, Nat.zero_le _⟩ (fun r13 u14 h => ?_)
            refine a_iload C 3 dX12_layTurns_122 rfl ?_
            refine a_icmp_eq C 130 dX12_layTurns_124 (by decide) (fun c16 => ?_) (fun c16 => ?_)
            · have h := h.1 c16
              refine a_aload_n C 0 dX12_layTurns_130 rfl rfl ?_
              refine a_getr C 27 (r := 59) dX12_layTurns_131 (by decide) rfl rfl rfl ib_12 (by decide) bw_1049 ?_
              refine a_iload C 4 dX12_layTurns_134 rfl ?_
              refine a_iload C 3 dX12_layTurns_136 rfl ?_
              refine b_iast C (Int32.toNatClampNeg v5) dX12_layTurns_138 (by decide) rfl h.1 rfl ?_
              have h := h.2
              refine a_topu (fun z15 ez15 => ?_)
              have h := h z15 ez15
              refine a_iconst C 1 dX12_layTurns_139 (by decide) ?_
              refine a_istore_n C [(3, .int 1), (0, .ref (eA V 48)), (2, .int v2), (4, .int v4), (5, .int v5)] dX12_layTurns_140 rfl (by decide) rfl ?_
              refine a_sub [1, 2, 0, 3, 4] rfl ?_
              refine tj_X12_layTurns_141 C ih _ _ _ _ _ h
            · have h := h.2 c16
              refine a_goto C 141 dX12_layTurns_127 (by decide) ?_
              refine tj_X12_layTurns_141 C ih _ _ _ _ _ h
set_option maxHeartbeats 4000000 in
set_option maxRecDepth 100000 in
theorem tl_X12_layTurns_54 {p : Program} {l : Launch} {e : Env} {s : State} {m : MethodId} {args : Array Value} {below : List Frame} {meth : Method} {c : Code} {V : VEn} {post : PoS → Prop} (C : CxS p s m args meth c V cX12_layTurns 6 RX12 none) : ∀ (n : Nat) (v2 : Int32) (v3 : Int32) (v4 : Int32) (u : PoS), wl_X12_layTurns_54 post n v2 v3 v4 u → AtS p l e (Rm 6) s m args below meth c V 6 0 0 (QV V below args s post) 54 [(0, .ref (eA V 48)), (2, .int v2), (3, .int v3), (4, .int v4)] [] u := by
  intro n
  induction n with
  | zero => intro v2 v3 v4 u h; exact h.elim
  | succ n ih =>
    intro v2 v3 v4 u h
    rw [wl_X12_layTurns_54] at h
    refine a_iload_n C 2 dX12_layTurns_54 rfl rfl ?_
    refine a_if_eq C 153 dX12_layTurns_55 (by decide) (fun c22 => ?_) (fun c22 => ?_)
    · have h := h.1 c22
      exact a_vret C dX12_layTurns_153 h
    · have h := h.2 c22
      refine a_iconst C 0 dX12_layTurns_58 (by decide) ?_
      refine a_istore_n C [(3, .int 0), (0, .ref (eA V 48)), (2, .int v2), (4, .int v4)] dX12_layTurns_59 rfl (by decide) rfl ?_
      refine a_iconst C 0 dX12_layTurns_60 (by decide) ?_
      refine a_istore C [(5, .int 0), (3, .int 0), (0, .ref (eA V 48)), (2, .int v2), (4, .int v4)] dX12_layTurns_61 (by decide) rfl ?_
      refine a_sub [2, 3, 1, 4, 0] rfl ?_
      obtain ⟨n63, h⟩ := h
      refine tl_X12_layTurns_63 C (fun v221 v321 v421 u21 h => ?_) n63 _ _ _ _ _ h
      refine a_iinc C (v421 + 1) 3 [(4, .int (v421 + 1)), (0, .ref (eA V 48)), (2, .int v221), (3, .int v321)] dX12_layTurns_147 rfl (congrArg (fun z => v421 + z) (show Int32.ofInt 1 = 1 by decide)) (by decide) rfl ?_
      refine a_goto C 54 dX12_layTurns_150 (by decide) ?_
      refine a_sub [1, 2, 3, 0] rfl ?_
      exact ih _ _ _ _ h
theorem np_X12_layTurns : yX12_layTurns.cls ≠ "java/lang/invoke/MethodHandle" ∧ yX12_layTurns.cls ≠ "java/lang/invoke/VarHandle" ∧ (parseMethodDescriptor yX12_layTurns.desc).map (fun d => d.parameters.length) = some 1 := by decide +kernel
set_option maxHeartbeats 4000000 in
set_option maxRecDepth 100000 in
theorem m_X12_layTurns (l : Launch) (V : VEn) {a0 : Int32} {u : PoS} {post : PoS → Prop} (h : wp_X12_layTurns a0 u post) : KV l V yX12_layTurns cX12_layTurns 6 6 [.ref (eA V 48), .int a0] u post := by
  refine KV_of (by decide) (Nat.le_of_ble_eq_true rfl) (lv := [(0, .ref (eA V 48)), (1, .int a0)]) rfl ?_
  intro p e s m args below meth c C
  rw [wp_X12_layTurns] at h
  refine a_aload_n C 0 dX12_layTurns_0 rfl rfl ?_
  refine a_iload_n C 1 dX12_layTurns_1 rfl rfl ?_
  refine a_callVv C dX12_layTurns_2 (m_X12_layReach l V h) bw_1574 bw_1576 bw_99 bw_123 bw_1577 (by decide) rfl rfl np_X12_layReach rfl rfl (by decide) (Nat.le_of_ble_eq_true rfl) ⟨Nat.zero_le _, Nat.zero_le _⟩ (fun u2 h => ?_)
  refine a_aload_n C 0 dX12_layTurns_5 rfl rfl ?_
  refine a_callVi C dX12_layTurns_6 (m_X12_free l V h) bw_1395 bw_1397 bw_79 bw_123 bw_1398 (by decide) rfl rfl np_X12_free rfl rfl (by decide) (Nat.le_of_ble_eq_true rfl) ⟨Nat.zero_le _, Nat.zero_le _⟩ (fun r3 u4 h => ?_)
  refine a_istore_n C [(2, .int r3), (0, .ref (eA V 48)), (1, .int a0)] dX12_layTurns_9 rfl (by decide) rfl ?_
  refine a_iconst C 0 dX12_layTurns_10 (by decide) ?_
  refine a_istore_n C [(3, .int 0), (2, .int r3), (0, .ref (eA V 48)), (1, .int a0)] dX12_layTurns_11 rfl (by decide) rfl ?_
  refine a_sub [2, 1, 0] rfl ?_
  obtain ⟨n12, h⟩ := h
  refine tl_X12_layTurns_12 C (fun v28 u8 h => ?_) n12 _ _ _ h
  refine a_iconst C 1 dX12_layTurns_49 (by decide) ?_
  refine a_istore_n C [(3, .int 1), (0, .ref (eA V 48)), (2, .int v28)] dX12_layTurns_50 rfl (by decide) rfl ?_
  refine a_iconst C 1 dX12_layTurns_51 (by decide) ?_
  refine a_istore C [(4, .int 1), (3, .int 1), (0, .ref (eA V 48)), (2, .int v28)] dX12_layTurns_52 (by decide) rfl ?_
  refine a_sub [2, 3, 1, 0] rfl ?_
  obtain ⟨n54, h⟩ := h
  refine tl_X12_layTurns_54 C n54 _ _ _ _ h

/-! RainOnTheOneModel.areFlying(III)Z -/
def wp_X12_areFlying (a0 : Int32) (a1 : Int32) (a2 : Int32) (u : PoS) (post : Int32 → PoS → Prop) : Prop := wp_X12_isFree a0 u (fun (r1 : Int32) (u2 : PoS) => ((r1 = 0 → post 0 u2) ∧ (¬ r1 = 0 → wp_X12_isFree a1 u2 (fun (r3 : Int32) (u4 : PoS) => ((r3 = 0 → post 0 u4) ∧ (¬ r3 = 0 → wp_X12_isIn a2 1 2 u4 (fun (r5 : Int32) (u6 : PoS) => ((r5 = 0 → post 0 u6) ∧ (¬ r5 = 0 → post 1 u6)))))))))
theorem np_X12_areFlying : yX12_areFlying.cls ≠ "java/lang/invoke/MethodHandle" ∧ yX12_areFlying.cls ≠ "java/lang/invoke/VarHandle" ∧ (parseMethodDescriptor yX12_areFlying.desc).map (fun d => d.parameters.length) = some 3 := by decide +kernel
set_option maxHeartbeats 4000000 in
set_option maxRecDepth 100000 in
theorem m_X12_areFlying (l : Launch) (V : VEn) {a0 : Int32} {a1 : Int32} {a2 : Int32} {u : PoS} {post : Int32 → PoS → Prop} (h : wp_X12_areFlying a0 a1 a2 u post) : KI l V yX12_areFlying cX12_areFlying 4 .boolean 3 [.ref (eA V 48), .int a0, .int a1, .int a2] u post := by
  refine KI_of (by decide) (Nat.le_of_ble_eq_true rfl) (lv := [(0, .ref (eA V 48)), (1, .int a0), (2, .int a1), (3, .int a2)]) rfl ?_
  intro p e s m args below meth c C
  rw [wp_X12_areFlying] at h
  refine a_aload_n C 0 dX12_areFlying_0 rfl rfl ?_
  refine a_iload_n C 1 dX12_areFlying_1 rfl rfl ?_
  refine a_callVi C dX12_areFlying_2 (m_X12_isFree l V h) bw_1140 bw_1142 bw_39 bw_123 bw_1143 (by decide) rfl rfl np_X12_isFree rfl rfl (by decide) (Nat.le_of_ble_eq_true rfl) ⟨Nat.zero_le _, Nat.zero_le _⟩ (fun r1 u2 h => ?_)
  refine a_if_eq C 29 dX12_areFlying_5 (by decide) (fun c9 => ?_) (fun c9 => ?_)
  · have h := h.1 c9
    refine a_iconst C 0 dX12_areFlying_29 (by decide) ?_
    exact a_zret C rfl dX12_areFlying_30 h
  · have h := h.2 c9
    refine a_aload_n C 0 dX12_areFlying_8 rfl rfl ?_
    refine a_iload_n C 2 dX12_areFlying_9 rfl rfl ?_
    refine a_callVi C dX12_areFlying_10 (m_X12_isFree l V h) bw_1140 bw_1142 bw_39 bw_123 bw_1143 (by decide) rfl rfl np_X12_isFree rfl rfl (by decide) (Nat.le_of_ble_eq_true rfl) ⟨Nat.zero_le _, Nat.zero_le _⟩ (fun r3 u4 h => ?_)
    refine a_if_eq C 29 dX12_areFlying_13 (by decide) (fun c8 => ?_) (fun c8 => ?_)
    · have h := h.1 c8
      refine a_iconst C 0 dX12_areFlying_29 (by decide) ?_
      exact a_zret C rfl dX12_areFlying_30 h
    · have h := h.2 c8
      refine a_iload_n C 3 dX12_areFlying_16 rfl rfl ?_
      refine a_iconst C 1 dX12_areFlying_17 (by decide) ?_
      refine a_iconst C 2 dX12_areFlying_18 (by decide) ?_
      refine a_callSi C dX12_areFlying_19 (m_X12_isIn l V h) bw_1147 bw_1148 bw_123 bw_1149 np_X12_isIn rfl rfl (by decide) (Nat.le_of_ble_eq_true rfl) ⟨Nat.zero_le _, Nat.zero_le _⟩ (fun r5 u6 h => ?_)
      refine a_if_eq C 29 dX12_areFlying_22 (by decide) (fun c7 => ?_) (fun c7 => ?_)
      · have h := h.1 c7
        refine a_iconst C 0 dX12_areFlying_29 (by decide) ?_
        exact a_zret C rfl dX12_areFlying_30 h
      · have h := h.2 c7
        refine a_iconst C 1 dX12_areFlying_25 (by decide) ?_
        refine a_goto C 30 dX12_areFlying_26 (by decide) ?_
        exact a_zret C rfl dX12_areFlying_30 h

/-! RainOnTheOneModel.caught(III)I -/
def wp_X12_caught (a0 : Int32) (a1 : Int32) (a2 : Int32) (u : PoS) (post : Int32 → PoS → Prop) : Prop := wp_X12_areFlying a0 a1 a2 u (fun (r1 : Int32) (u2 : PoS) => ((¬ r1 = 0 → wp_X12_layTurns a2 u2 (fun (u4 : PoS) => vp_in ((30 * a0) + a1) 900 ∧ ∀ x5 : Int32, x5 = (gI u4 59 (Int32.toNatClampNeg ((30 * a0) + a1))) → ((¬ x5 = 1000000 → post x5 u4) ∧ (x5 = 1000000 → post (-1) u4)))) ∧ (r1 = 0 → post (-1) u2)))
theorem np_X12_caught : yX12_caught.cls ≠ "java/lang/invoke/MethodHandle" ∧ yX12_caught.cls ≠ "java/lang/invoke/VarHandle" ∧ (parseMethodDescriptor yX12_caught.desc).map (fun d => d.parameters.length) = some 3 := by decide +kernel
set_option maxHeartbeats 4000000 in
set_option maxRecDepth 100000 in
theorem m_X12_caught (l : Launch) (V : VEn) {a0 : Int32} {a1 : Int32} {a2 : Int32} {u : PoS} {post : Int32 → PoS → Prop} (h : wp_X12_caught a0 a1 a2 u post) : KI l V yX12_caught cX12_caught 5 .int 7 [.ref (eA V 48), .int a0, .int a1, .int a2] u post := by
  refine KI_of (by decide) (Nat.le_of_ble_eq_true rfl) (lv := [(0, .ref (eA V 48)), (1, .int a0), (2, .int a1), (3, .int a2)]) rfl ?_
  intro p e s m args below meth c C
  rw [wp_X12_caught] at h
  refine a_aload_n C 0 dX12_caught_0 rfl rfl ?_
  refine a_iload_n C 1 dX12_caught_1 rfl rfl ?_
  refine a_iload_n C 2 dX12_caught_2 rfl rfl ?_
  refine a_iload_n C 3 dX12_caught_3 rfl rfl ?_
  refine a_callVi C dX12_caught_4 (m_X12_areFlying l V h) bw_1566 bw_1568 bw_97 bw_123 bw_1569 (by decide) rfl rfl np_X12_areFlying rfl rfl (by decide) (Nat.le_of_ble_eq_true rfl) ⟨Nat.zero_le _, Nat.zero_le _⟩ (fun r1 u2 h => ?_)
  refine a_if_ne C 12 dX12_caught_7 (by decide) (fun c7 => ?_) (fun c7 => ?_)
  · have h := h.1 c7
    refine a_aload_n C 0 dX12_caught_12 rfl rfl ?_
    refine a_iload_n C 3 dX12_caught_13 rfl rfl ?_
    refine a_callVv C dX12_caught_14 (m_X12_layTurns l V h) bw_1570 bw_1572 bw_98 bw_123 bw_1573 (by decide) rfl rfl np_X12_layTurns rfl rfl (by decide) (Nat.le_of_ble_eq_true rfl) ⟨Nat.zero_le _, Nat.zero_le _⟩ (fun u4 h => ?_)
    refine a_aload_n C 0 dX12_caught_17 rfl rfl ?_
    refine a_getr C 27 (r := 59) dX12_caught_18 (by decide) rfl rfl rfl ib_12 (by decide) bw_1049 ?_
    refine a_bipush C 30 dX12_caught_21 (by decide) ?_
    refine a_iload_n C 1 dX12_caught_23 rfl rfl ?_
    refine a_imul C dX12_caught_24 ?_
    refine a_iload_n C 2 dX12_caught_25 rfl rfl ?_
    refine a_iadd C dX12_caught_26 ?_
    refine b_iald C (Int32.toNatClampNeg ((30 * a0) + a1)) dX12_caught_27 (by decide) rfl h.1 rfl ?_
    have h := h.2
    refine a_topi (fun x5 ex5 => ?_)
    have h := h x5 ex5
    refine a_istore C [(4, .int x5), (0, .ref (eA V 48)), (1, .int a0), (2, .int a1), (3, .int a2)] dX12_caught_28 (by decide) rfl ?_
    refine a_iload C 0 dX12_caught_30 rfl ?_
    refine a_ldcw C dX12_caught_32 bw_1578 ?_
    refine a_icmp_ne C 42 dX12_caught_35 (by decide) (fun c6 => ?_) (fun c6 => ?_)
    · have h := h.1 c6
      refine a_iload C 0 dX12_caught_42 rfl ?_
      exact a_iret C dX12_caught_44 h
    · have h := h.2 c6
      refine a_iconst C (-1) dX12_caught_38 (by decide) ?_
      refine a_goto C 44 dX12_caught_39 (by decide) ?_
      exact a_iret C dX12_caught_44 h
  · have h := h.2 c7
    refine a_iconst C (-1) dX12_caught_10 (by decide) ?_
    exact a_iret C dX12_caught_11 h

/-! RainOnTheOneModel.flee(III)I -/
def wj_X12_flee_77 (k30 : Int32 → Int32 → Int32 → Int32 → PoS → Prop) (post : Int32 → PoS → Prop) (v1 : Int32) (v2 : Int32) (v4 : Int32) (v5 : Int32) (u : PoS) : Prop := k30 v1 v2 v4 (v5 + 1) u
def wj_X12_flee_73 (k30 : Int32 → Int32 → Int32 → Int32 → PoS → Prop) (post : Int32 → PoS → Prop) (v1 : Int32) (v2 : Int32) (v5 : Int32) (u : PoS) : Prop := wj_X12_flee_77 k30 post v1 v2 v5 v5 u
def wl_X12_flee_30 (post : Int32 → PoS → Prop) : Nat → Int32 → Int32 → Int32 → Int32 → PoS → Prop
  | 0, _, _, _, _, _ => False
  | n + 1, v1, v2, v4, v5, u => ((30 ≤ v5 → post v4 u) ∧ (¬ 30 ≤ v5 → wp_X12_goals v1 u (fun (r5 : Int32) (u6 : PoS) => wp_X12_has r5 v5 u6 (fun (r7 : Int32) (u8 : PoS) => ((r7 = 0 → wj_X12_flee_77 (wl_X12_flee_30 post n) post v1 v2 v4 v5 u8) ∧ (¬ r7 = 0 → ((v4 = (-1) → wj_X12_flee_73 (wl_X12_flee_30 post n) post v1 v2 v5 u8) ∧ (¬ v4 = (-1) → wp_X12_turnsBehind v5 v2 u8 (fun (r9 : Int32) (u10 : PoS) => wp_X12_turnsBehind v4 v2 u10 (fun (r11 : Int32) (u12 : PoS) => ((r9 ≤ r11 → wj_X12_flee_77 (wl_X12_flee_30 post n) post v1 v2 v4 v5 u12) ∧ (¬ r9 ≤ r11 → wj_X12_flee_73 (wl_X12_flee_30 post n) post v1 v2 v5 u12))))))))))))
def wp_X12_flee (a0 : Int32) (a1 : Int32) (a2 : Int32) (u : PoS) (post : Int32 → PoS → Prop) : Prop := wp_X12_areFlying a0 a1 a2 u (fun (r1 : Int32) (u2 : PoS) => ((¬ r1 = 0 → ((¬ a0 = a1 → wp_X12_layTurns a2 u2 (fun (u4 : PoS) => (∃ n30, wl_X12_flee_30 post n30 a0 a1 (-1) 0 u4))) ∧ (a0 = a1 → post a0 u2))) ∧ (r1 = 0 → post (-1) u2)))
set_option maxHeartbeats 4000000 in
set_option maxRecDepth 100000 in
theorem tj_X12_flee_77 {p : Program} {l : Launch} {e : Env} {s : State} {m : MethodId} {args : Array Value} {below : List Frame} {meth : Method} {c : Code} {V : VEn} {k30 : Int32 → Int32 → Int32 → Int32 → PoS → Prop} {post : Int32 → PoS → Prop} (C : CxS p s m args meth c V cX12_flee 6 RX12 (some .int)) (hk30 : ∀ (v1 : Int32) (v2 : Int32) (v4 : Int32) (v5 : Int32) (u : PoS), k30 v1 v2 v4 v5 u → AtS p l e (Rm 7) s m args below meth c V 6 0 0 (QI V below args s post) 30 [(0, .ref (eA V 48)), (1, .int v1), (2, .int v2), (4, .int v4), (5, .int v5)] [] u) (v1 : Int32) (v2 : Int32) (v4 : Int32) (v5 : Int32) (u : PoS) (h : wj_X12_flee_77 k30 post v1 v2 v4 v5 u) : AtS p l e (Rm 7) s m args below meth c V 6 0 0 (QI V below args s post) 77 [(0, .ref (eA V 48)), (1, .int v1), (2, .int v2), (4, .int v4), (5, .int v5)] [] u := by
  rw [wj_X12_flee_77] at h
  refine a_iinc C (v5 + 1) 4 [(5, .int (v5 + 1)), (0, .ref (eA V 48)), (1, .int v1), (2, .int v2), (4, .int v4)] dX12_flee_77 rfl (congrArg (fun z => v5 + z) (show Int32.ofInt 1 = 1 by decide)) (by decide) rfl ?_
  refine a_goto C 30 dX12_flee_80 (by decide) ?_
  refine a_sub [1, 2, 3, 4, 0] rfl ?_
  exact hk30 _ _ _ _ _ h
set_option maxHeartbeats 4000000 in
set_option maxRecDepth 100000 in
theorem tj_X12_flee_73 {p : Program} {l : Launch} {e : Env} {s : State} {m : MethodId} {args : Array Value} {below : List Frame} {meth : Method} {c : Code} {V : VEn} {k30 : Int32 → Int32 → Int32 → Int32 → PoS → Prop} {post : Int32 → PoS → Prop} (C : CxS p s m args meth c V cX12_flee 6 RX12 (some .int)) (hk30 : ∀ (v1 : Int32) (v2 : Int32) (v4 : Int32) (v5 : Int32) (u : PoS), k30 v1 v2 v4 v5 u → AtS p l e (Rm 7) s m args below meth c V 6 0 0 (QI V below args s post) 30 [(0, .ref (eA V 48)), (1, .int v1), (2, .int v2), (4, .int v4), (5, .int v5)] [] u) (v1 : Int32) (v2 : Int32) (v5 : Int32) (u : PoS) (h : wj_X12_flee_73 k30 post v1 v2 v5 u) : AtS p l e (Rm 7) s m args below meth c V 6 0 0 (QI V below args s post) 73 [(0, .ref (eA V 48)), (1, .int v1), (2, .int v2), (5, .int v5)] [] u := by
  rw [wj_X12_flee_73] at h
  refine a_iload C 3 dX12_flee_73 rfl ?_
  refine a_istore C [(4, .int v5), (0, .ref (eA V 48)), (1, .int v1), (2, .int v2), (5, .int v5)] dX12_flee_75 (by decide) rfl ?_
  refine a_sub [1, 2, 3, 0, 4] rfl ?_
  refine tj_X12_flee_77 C hk30 _ _ _ _ _ h
set_option maxHeartbeats 4000000 in
set_option maxRecDepth 100000 in
theorem tl_X12_flee_30 {p : Program} {l : Launch} {e : Env} {s : State} {m : MethodId} {args : Array Value} {below : List Frame} {meth : Method} {c : Code} {V : VEn} {post : Int32 → PoS → Prop} (C : CxS p s m args meth c V cX12_flee 6 RX12 (some .int)) : ∀ (n : Nat) (v1 : Int32) (v2 : Int32) (v4 : Int32) (v5 : Int32) (u : PoS), wl_X12_flee_30 post n v1 v2 v4 v5 u → AtS p l e (Rm 7) s m args below meth c V 6 0 0 (QI V below args s post) 30 [(0, .ref (eA V 48)), (1, .int v1), (2, .int v2), (4, .int v4), (5, .int v5)] [] u := by
  intro n
  induction n with
  | zero => intro v1 v2 v4 v5 u h; exact h.elim
  | succ n ih =>
    intro v1 v2 v4 v5 u h
    rw [wl_X12_flee_30] at h
    refine a_iload C 4 dX12_flee_30 rfl ?_
    refine a_bipush C 30 dX12_flee_32 (by decide) ?_
    refine a_icmp_ge C 83 dX12_flee_34 (by decide) (fun c16 => ?_) (fun c16 => ?_)
    · have h := h.1 c16
      refine a_iload C 3 dX12_flee_83 rfl ?_
      exact a_iret C dX12_flee_85 h
    · have h := h.2 c16
      refine a_aload_n C 0 dX12_flee_37 rfl rfl ?_
      refine a_iload_n C 1 dX12_flee_38 rfl rfl ?_
      refine a_callVi C dX12_flee_39 (m_X12_goals l V h) bw_1583 bw_1585 bw_101 bw_123 bw_1586 (by decide) rfl rfl np_X12_goals rfl rfl (by decide) (Nat.le_of_ble_eq_true rfl) ⟨Nat.zero_le _, Nat.zero_le _⟩ (fun r5 u6 h => ?_)
      refine a_iload C 4 dX12_flee_42 rfl ?_
      refine a_callSi C dX12_flee_44 (m_X12_has l V h) bw_1240 bw_1241 bw_123 bw_1242 np_X12_has rfl rfl (by decide) (Nat.le_of_ble_eq_true rfl) ⟨Nat.zero_le _, Nat.zero_le _⟩ (fun r7 u8 h => ?_)
      refine a_if_eq C 77 dX12_flee_47 (by decide) (fun c15 => ?_) (fun c15 => ?_)
      · have h := h.1 c15
        refine tj_X12_flee_77 C ih _ _ _ _ _ h
      · have h := h.2 c15
        refine a_iload C 3 dX12_flee_50 rfl ?_
        refine a_iconst C (-1) dX12_flee_52 (by decide) ?_
        refine a_icmp_eq C 73 dX12_flee_53 (by decide) (fun c14 => ?_) (fun c14 => ?_)
        · have h := h.1 c14
          refine a_sub [0, 1, 2, 4] rfl ?_
          refine tj_X12_flee_73 C ih _ _ _ _ h
        · have h := h.2 c14
          refine a_aload_n C 0 dX12_flee_56 rfl rfl ?_
          refine a_iload C 4 dX12_flee_57 rfl ?_
          refine a_iload_n C 2 dX12_flee_59 rfl rfl ?_
          refine a_callVi C dX12_flee_60 (m_X12_turnsBehind l V h) bw_1587 bw_1589 bw_102 bw_123 bw_1590 (by decide) rfl rfl np_X12_turnsBehind rfl rfl (by decide) (Nat.le_of_ble_eq_true rfl) ⟨Nat.zero_le _, Nat.zero_le _⟩ (fun r9 u10 h => ?_)
          refine a_aload_n C 0 dX12_flee_63 rfl rfl ?_
          refine a_iload C 3 dX12_flee_64 rfl ?_
          refine a_iload_n C 2 dX12_flee_66 rfl rfl ?_
          refine a_callVi C dX12_flee_67 (m_X12_turnsBehind l V h) bw_1587 bw_1589 bw_102 bw_123 bw_1590 (by decide) rfl rfl np_X12_turnsBehind rfl rfl (by decide) (Nat.le_of_ble_eq_true rfl) ⟨Nat.zero_le _, Nat.zero_le _⟩ (fun r11 u12 h => ?_)
          refine a_icmp_le C 77 dX12_flee_70 (by decide) (fun c13 => ?_) (fun c13 => ?_)
          · have h := h.1 c13
            refine tj_X12_flee_77 C ih _ _ _ _ _ h
          · have h := h.2 c13
            refine a_sub [0, 1, 2, 4] rfl ?_
            refine tj_X12_flee_73 C ih _ _ _ _ h
theorem np_X12_flee : yX12_flee.cls ≠ "java/lang/invoke/MethodHandle" ∧ yX12_flee.cls ≠ "java/lang/invoke/VarHandle" ∧ (parseMethodDescriptor yX12_flee.desc).map (fun d => d.parameters.length) = some 3 := by decide +kernel
set_option maxHeartbeats 4000000 in
set_option maxRecDepth 100000 in
theorem m_X12_flee (l : Launch) (V : VEn) {a0 : Int32} {a1 : Int32} {a2 : Int32} {u : PoS} {post : Int32 → PoS → Prop} (h : wp_X12_flee a0 a1 a2 u post) : KI l V yX12_flee cX12_flee 6 .int 7 [.ref (eA V 48), .int a0, .int a1, .int a2] u post := by
  refine KI_of (by decide) (Nat.le_of_ble_eq_true rfl) (lv := [(0, .ref (eA V 48)), (1, .int a0), (2, .int a1), (3, .int a2)]) rfl ?_
  intro p e s m args below meth c C
  rw [wp_X12_flee] at h
  refine a_aload_n C 0 dX12_flee_0 rfl rfl ?_
  refine a_iload_n C 1 dX12_flee_1 rfl rfl ?_
  refine a_iload_n C 2 dX12_flee_2 rfl rfl ?_
  refine a_iload_n C 3 dX12_flee_3 rfl rfl ?_
  refine a_callVi C dX12_flee_4 (m_X12_areFlying l V h) bw_1566 bw_1568 bw_97 bw_123 bw_1569 (by decide) rfl rfl np_X12_areFlying rfl rfl (by decide) (Nat.le_of_ble_eq_true rfl) ⟨Nat.zero_le _, Nat.zero_le _⟩ (fun r1 u2 h => ?_)
  refine a_if_ne C 12 dX12_flee_7 (by decide) (fun c18 => ?_) (fun c18 => ?_)
  · have h := h.1 c18
    refine a_iload_n C 1 dX12_flee_12 rfl rfl ?_
    refine a_iload_n C 2 dX12_flee_13 rfl rfl ?_
    refine a_icmp_ne C 19 dX12_flee_14 (by decide) (fun c17 => ?_) (fun c17 => ?_)
    · have h := h.1 c17
      refine a_aload_n C 0 dX12_flee_19 rfl rfl ?_
      refine a_iload_n C 3 dX12_flee_20 rfl rfl ?_
      refine a_callVv C dX12_flee_21 (m_X12_layTurns l V h) bw_1570 bw_1572 bw_98 bw_123 bw_1573 (by decide) rfl rfl np_X12_layTurns rfl rfl (by decide) (Nat.le_of_ble_eq_true rfl) ⟨Nat.zero_le _, Nat.zero_le _⟩ (fun u4 h => ?_)
      refine a_iconst C (-1) dX12_flee_24 (by decide) ?_
      refine a_istore C [(4, .int (-1)), (0, .ref (eA V 48)), (1, .int a0), (2, .int a1), (3, .int a2)] dX12_flee_25 (by decide) rfl ?_
      refine a_iconst C 0 dX12_flee_27 (by decide) ?_
      refine a_istore C [(5, .int 0), (4, .int (-1)), (0, .ref (eA V 48)), (1, .int a0), (2, .int a1), (3, .int a2)] dX12_flee_28 (by decide) rfl ?_
      refine a_sub [2, 3, 4, 1, 0] rfl ?_
      obtain ⟨n30, h⟩ := h
      refine tl_X12_flee_30 C n30 _ _ _ _ _ h
    · have h := h.2 c17
      refine a_iload_n C 1 dX12_flee_17 rfl rfl ?_
      exact a_iret C dX12_flee_18 h
  · have h := h.2 c18
    refine a_iconst C (-1) dX12_flee_10 (by decide) ?_
    exact a_iret C dX12_flee_11 h

/-! RainOnTheOneModel.change(II)V -/
def wp_X12_change (a0 : Int32) (a1 : Int32) (u : PoS) (post : PoS → Prop) : Prop := vp_in a0 5 ∧ ∀ x1 : Int32, x1 = (gI u 61 (Int32.toNatClampNeg a0)) → vp_in a1 5 ∧ vp_in a0 5 ∧ ∀ z2 : PoS, z2 = pI u 61 (Int32.toNatClampNeg a0) (gI u 61 (Int32.toNatClampNeg a1)) → vp_in a1 5 ∧ ∀ z3 : PoS, z3 = pI z2 61 (Int32.toNatClampNeg a1) x1 → post z3
theorem np_X12_change : yX12_change.cls ≠ "java/lang/invoke/MethodHandle" ∧ yX12_change.cls ≠ "java/lang/invoke/VarHandle" ∧ (parseMethodDescriptor yX12_change.desc).map (fun d => d.parameters.length) = some 2 := by decide +kernel
set_option maxHeartbeats 4000000 in
set_option maxRecDepth 100000 in
theorem m_X12_change (l : Launch) (V : VEn) {a0 : Int32} {a1 : Int32} {u : PoS} {post : PoS → Prop} (h : wp_X12_change a0 a1 u post) : KV l V yX12_change cX12_change 4 0 [.ref (eA V 48), .int a0, .int a1] u post := by
  refine KV_of (by decide) (Nat.le_of_ble_eq_true rfl) (lv := [(0, .ref (eA V 48)), (1, .int a0), (2, .int a1)]) rfl ?_
  intro p e s m args below meth c C
  rw [wp_X12_change] at h
  refine a_aload_n C 0 dX12_change_0 rfl rfl ?_
  refine a_getr C 29 (r := 61) dX12_change_1 (by decide) rfl rfl rfl ib_12 (by decide) bw_1051 ?_
  refine a_iload_n C 1 dX12_change_4 rfl rfl ?_
  refine b_iald C (Int32.toNatClampNeg a0) dX12_change_5 (by decide) rfl h.1 rfl ?_
  have h := h.2
  refine a_topi (fun x1 ex1 => ?_)
  have h := h x1 ex1
  refine a_istore_n C [(3, .int x1), (0, .ref (eA V 48)), (1, .int a0), (2, .int a1)] dX12_change_6 rfl (by decide) rfl ?_
  refine a_aload_n C 1 dX12_change_7 rfl rfl ?_
  refine a_getr C 29 (r := 61) dX12_change_8 (by decide) rfl rfl rfl ib_12 (by decide) bw_1051 ?_
  refine a_iload_n C 2 dX12_change_11 rfl rfl ?_
  refine a_aload_n C 1 dX12_change_12 rfl rfl ?_
  refine a_getr C 29 (r := 61) dX12_change_13 (by decide) rfl rfl rfl ib_12 (by decide) bw_1051 ?_
  refine a_iload_n C 3 dX12_change_16 rfl rfl ?_
  refine b_iald C (Int32.toNatClampNeg a1) dX12_change_17 (by decide) rfl h.1 rfl ?_
  have h := h.2
  refine b_iast C (Int32.toNatClampNeg a0) dX12_change_18 (by decide) rfl h.1 rfl ?_
  have h := h.2
  refine a_topu (fun z2 ez2 => ?_)
  have h := h z2 ez2
  refine a_aload_n C 1 dX12_change_19 rfl rfl ?_
  refine a_getr C 29 (r := 61) dX12_change_20 (by decide) rfl rfl rfl ib_12 (by decide) bw_1051 ?_
  refine a_iload_n C 3 dX12_change_23 rfl rfl ?_
  refine a_iload_n C 0 dX12_change_24 rfl rfl ?_
  refine b_iast C (Int32.toNatClampNeg a1) dX12_change_25 (by decide) rfl h.1 rfl ?_
  have h := h.2
  refine a_topu (fun z3 ez3 => ?_)
  have h := h z3 ez3
  exact a_vret C dX12_change_26 h
