/-! RainOnTheOneModel.isCutByThree(III)Z -/
def wj_X12_isCutByThree_46 (k2 : Int32 → Int32 → Int32 → Int32 → PoS → Prop) (post : Int32 → PoS → Prop) (v0 : Int32) (v1 : Int32) (v2 : Int32) (v3 : Int32) (u : PoS) : Prop := k2 v0 v1 v2 (v3 + 1) u
def wl_X12_isCutByThree_2 (post : Int32 → PoS → Prop) : Nat → Int32 → Int32 → Int32 → Int32 → PoS → Prop
  | 0, _, _, _, _, _ => False
  | n + 1, v0, v1, v2, v3, u => ((30 ≤ v3 → post 0 u) ∧ (¬ 30 ≤ v3 → wp_X12_has v2 v3 u (fun (r1 : Int32) (u2 : PoS) => ((r1 = 0 → wj_X12_isCutByThree_46 (wl_X12_isCutByThree_2 post n) post v0 v1 v2 v3 u2) ∧ (¬ r1 = 0 → ((v3 = v0 → wj_X12_isCutByThree_46 (wl_X12_isCutByThree_2 post n) post v0 v1 v2 v3 u2) ∧ (¬ v3 = v0 → ((v3 = v1 → wj_X12_isCutByThree_46 (wl_X12_isCutByThree_2 post n) post v0 v1 v2 v3 u2) ∧ (¬ v3 = v1 → wp_X12_isCutByTwo v0 v1 (v2 &&& ((1 <<< (v3 &&& 31)) ^^^ (-1))) (v3 + 1) u2 (fun (r3 : Int32) (u4 : PoS) => ((r3 = 0 → wj_X12_isCutByThree_46 (wl_X12_isCutByThree_2 post n) post v0 v1 v2 v3 u4) ∧ (¬ r3 = 0 → post 1 u4))))))))))))
def wp_X12_isCutByThree (a0 : Int32) (a1 : Int32) (a2 : Int32) (u : PoS) (post : Int32 → PoS → Prop) : Prop := (∃ n2, wl_X12_isCutByThree_2 post n2 a0 a1 a2 0 u)
set_option maxHeartbeats 4000000 in
set_option maxRecDepth 100000 in
theorem tj_X12_isCutByThree_46 {p : Program} {l : Launch} {e : Env} {s : State} {m : MethodId} {args : Array Value} {below : List Frame} {meth : Method} {c : Code} {V : VEn} {k2 : Int32 → Int32 → Int32 → Int32 → PoS → Prop} {post : Int32 → PoS → Prop} (C : CxS p s m args meth c V cX12_isCutByThree 4 RX12 (some .boolean)) (hk2 : ∀ (v0 : Int32) (v1 : Int32) (v2 : Int32) (v3 : Int32) (u : PoS), k2 v0 v1 v2 v3 u → AtS p l e (Rm 5) s m args below meth c V 4 0 0 (QI V below args s post) 2 [(0, .int v0), (1, .int v1), (2, .int v2), (3, .int v3)] [] u) (v0 : Int32) (v1 : Int32) (v2 : Int32) (v3 : Int32) (u : PoS) (h : wj_X12_isCutByThree_46 k2 post v0 v1 v2 v3 u) : AtS p l e (Rm 5) s m args below meth c V 4 0 0 (QI V below args s post) 46 [(0, .int v0), (1, .int v1), (2, .int v2), (3, .int v3)] [] u := by
  rw [wj_X12_isCutByThree_46] at h
  refine a_iinc C (v3 + 1) 3 [(3, .int (v3 + 1)), (0, .int v0), (1, .int v1), (2, .int v2)] dX12_isCutByThree_46 rfl (congrArg (fun z => v3 + z) (show Int32.ofInt 1 = 1 by decide)) (by decide) rfl ?_
  refine a_goto C 2 dX12_isCutByThree_49 (by decide) ?_
  refine a_sub [1, 2, 3, 0] rfl ?_
  exact hk2 _ _ _ _ _ h
set_option maxHeartbeats 4000000 in
set_option maxRecDepth 100000 in
theorem tl_X12_isCutByThree_2 {p : Program} {l : Launch} {e : Env} {s : State} {m : MethodId} {args : Array Value} {below : List Frame} {meth : Method} {c : Code} {V : VEn} {post : Int32 → PoS → Prop} (C : CxS p s m args meth c V cX12_isCutByThree 4 RX12 (some .boolean)) : ∀ (n : Nat) (v0 : Int32) (v1 : Int32) (v2 : Int32) (v3 : Int32) (u : PoS), wl_X12_isCutByThree_2 post n v0 v1 v2 v3 u → AtS p l e (Rm 5) s m args below meth c V 4 0 0 (QI V below args s post) 2 [(0, .int v0), (1, .int v1), (2, .int v2), (3, .int v3)] [] u := by
  intro n
  induction n with
  | zero => intro v0 v1 v2 v3 u h; exact h.elim
  | succ n ih =>
    intro v0 v1 v2 v3 u h
    rw [wl_X12_isCutByThree_2] at h
    refine a_iload_n C 3 dX12_isCutByThree_2 rfl rfl ?_
    refine a_bipush C 30 dX12_isCutByThree_3 (by decide) ?_
    refine a_icmp_ge C 52 dX12_isCutByThree_5 (by decide) (fun c9 => ?_) (fun c9 => ?_)
    · have h := h.1 c9
      refine a_iconst C 0 dX12_isCutByThree_52 (by decide) ?_
      exact a_zret C rfl dX12_isCutByThree_53 h
    · have h := h.2 c9
      refine a_iload_n C 2 dX12_isCutByThree_8 rfl rfl ?_
      refine a_iload_n C 3 dX12_isCutByThree_9 rfl rfl ?_
      refine a_callSi C dX12_isCutByThree_10 (m_X12_has l V h) bw_1240 bw_1241 bw_123 bw_1242 np_X12_has rfl rfl (by decide) (Nat.le_of_ble_eq_true rfl) ⟨Nat.zero_le _, Nat.zero_le _⟩ (fun r1 u2 h => ?_)
      refine a_if_eq C 46 dX12_isCutByThree_13 (by decide) (fun c8 => ?_) (fun c8 => ?_)
      · have h := h.1 c8
        refine tj_X12_isCutByThree_46 C ih _ _ _ _ _ h
      · have h := h.2 c8
        refine a_iload_n C 3 dX12_isCutByThree_16 rfl rfl ?_
        refine a_iload_n C 0 dX12_isCutByThree_17 rfl rfl ?_
        refine a_icmp_eq C 46 dX12_isCutByThree_18 (by decide) (fun c7 => ?_) (fun c7 => ?_)
        · have h := h.1 c7
          refine tj_X12_isCutByThree_46 C ih _ _ _ _ _ h
        · have h := h.2 c7
          refine a_iload_n C 3 dX12_isCutByThree_21 rfl rfl ?_
          refine a_iload_n C 1 dX12_isCutByThree_22 rfl rfl ?_
          refine a_icmp_eq C 46 dX12_isCutByThree_23 (by decide) (fun c6 => ?_) (fun c6 => ?_)
          · have h := h.1 c6
            refine tj_X12_isCutByThree_46 C ih _ _ _ _ _ h
          · have h := h.2 c6
            refine a_iload_n C 0 dX12_isCutByThree_26 rfl rfl ?_
            refine a_iload_n C 1 dX12_isCutByThree_27 rfl rfl ?_
            refine a_iload_n C 2 dX12_isCutByThree_28 rfl rfl ?_
            refine a_iconst C 1 dX12_isCutByThree_29 (by decide) ?_
            refine a_iload_n C 3 dX12_isCutByThree_30 rfl rfl ?_
            refine a_ishl C dX12_isCutByThree_31 ?_
            refine a_iconst C (-1) dX12_isCutByThree_32 (by decide) ?_
            refine a_ixor C dX12_isCutByThree_33 ?_
            refine a_iand C dX12_isCutByThree_34 ?_
            refine a_iload_n C 3 dX12_isCutByThree_35 rfl rfl ?_
            refine a_iconst C 1 dX12_isCutByThree_36 (by decide) ?_
            refine a_iadd C dX12_isCutByThree_37 ?_
            refine a_callSi C dX12_isCutByThree_38 (m_X12_isCutByTwo l V h) bw_1627 bw_1628 bw_123 bw_1629 np_X12_isCutByTwo rfl rfl (by decide) (Nat.le_of_ble_eq_true rfl) ⟨Nat.zero_le _, Nat.zero_le _⟩ (fun r3 u4 h => ?_)
            refine a_if_eq C 46 dX12_isCutByThree_41 (by decide) (fun c5 => ?_) (fun c5 => ?_)
            · have h := h.1 c5
              refine tj_X12_isCutByThree_46 C ih _ _ _ _ _ h
            · have h := h.2 c5
              refine a_iconst C 1 dX12_isCutByThree_44 (by decide) ?_
              exact a_zret C rfl dX12_isCutByThree_45 h
theorem np_X12_isCutByThree : yX12_isCutByThree.cls ≠ "java/lang/invoke/MethodHandle" ∧ yX12_isCutByThree.cls ≠ "java/lang/invoke/VarHandle" ∧ (parseMethodDescriptor yX12_isCutByThree.desc).map (fun d => d.parameters.length) = some 3 := by decide +kernel
set_option maxHeartbeats 4000000 in
set_option maxRecDepth 100000 in
theorem m_X12_isCutByThree (l : Launch) (V : VEn) {a0 : Int32} {a1 : Int32} {a2 : Int32} {u : PoS} {post : Int32 → PoS → Prop} (h : wp_X12_isCutByThree a0 a1 a2 u post) : KI l V yX12_isCutByThree cX12_isCutByThree 4 .boolean 5 [.int a0, .int a1, .int a2] u post := by
  refine KI_of (by decide) (Nat.le_of_ble_eq_true rfl) (lv := [(0, .int a0), (1, .int a1), (2, .int a2)]) rfl ?_
  intro p e s m args below meth c C
  rw [wp_X12_isCutByThree] at h
  refine a_iconst C 0 dX12_isCutByThree_0 (by decide) ?_
  refine a_istore_n C [(3, .int 0), (0, .int a0), (1, .int a1), (2, .int a2)] dX12_isCutByThree_1 rfl (by decide) rfl ?_
  refine a_sub [1, 2, 3, 0] rfl ?_
  obtain ⟨n2, h⟩ := h
  refine tl_X12_isCutByThree_2 C n2 _ _ _ _ _ h

/-! RainOnTheOneModel.cut(II)I -/
def wp_X12_cut (a0 : Int32) (a1 : Int32) (u : PoS) (post : Int32 → PoS → Prop) : Prop := wp_X12_isFree a0 u (fun (r1 : Int32) (u2 : PoS) => ((r1 = 0 → post (-1) u2) ∧ (¬ r1 = 0 → wp_X12_isFree a1 u2 (fun (r3 : Int32) (u4 : PoS) => ((r3 = 0 → post (-1) u4) ∧ (¬ r3 = 0 → ((a0 = a1 → post (-1) u4) ∧ (¬ a0 = a1 → wp_X12_beside a0 u4 (fun (r5 : Int32) (u6 : PoS) => wp_X12_has r5 a1 u6 (fun (r7 : Int32) (u8 : PoS) => ((r7 = 0 → wp_X12_stepsOf a0 a1 u8 (fun (r9 : Int32) (u10 : PoS) => ((¬ r9 = (-1) → wp_X12_free u10 (fun (r11 : Int32) (u12 : PoS) => wp_X12_isCutByOne a0 a1 r11 0 u12 (fun (r13 : Int32) (u14 : PoS) => ((r13 = 0 → wp_X12_isCutByTwo a0 a1 r11 0 u14 (fun (r15 : Int32) (u16 : PoS) => ((r15 = 0 → wp_X12_isCutByThree a0 a1 r11 u16 (fun (r17 : Int32) (u18 : PoS) => ((r17 = 0 → post 4 u18) ∧ (¬ r17 = 0 → post 3 u18)))) ∧ (¬ r15 = 0 → post 2 u16)))) ∧ (¬ r13 = 0 → post 1 u14))))) ∧ (r9 = (-1) → post 0 u10)))) ∧ (¬ r7 = 0 → post (-1) u8))))))))))))
theorem np_X12_cut : yX12_cut.cls ≠ "java/lang/invoke/MethodHandle" ∧ yX12_cut.cls ≠ "java/lang/invoke/VarHandle" ∧ (parseMethodDescriptor yX12_cut.desc).map (fun d => d.parameters.length) = some 2 := by decide +kernel
set_option maxHeartbeats 4000000 in
set_option maxRecDepth 100000 in
theorem m_X12_cut (l : Launch) (V : VEn) {a0 : Int32} {a1 : Int32} {u : PoS} {post : Int32 → PoS → Prop} (h : wp_X12_cut a0 a1 u post) : KI l V yX12_cut cX12_cut 4 .int 6 [.ref (eA V 48), .int a0, .int a1] u post := by
  refine KI_of (by decide) (Nat.le_of_ble_eq_true rfl) (lv := [(0, .ref (eA V 48)), (1, .int a0), (2, .int a1)]) rfl ?_
  intro p e s m args below meth c C
  rw [wp_X12_cut] at h
  refine a_aload_n C 0 dX12_cut_0 rfl rfl ?_
  refine a_iload_n C 1 dX12_cut_1 rfl rfl ?_
  refine a_callVi C dX12_cut_2 (m_X12_isFree l V h) bw_1140 bw_1142 bw_39 bw_123 bw_1143 (by decide) rfl rfl np_X12_isFree rfl rfl (by decide) (Nat.le_of_ble_eq_true rfl) ⟨Nat.zero_le _, Nat.zero_le _⟩ (fun r1 u2 h => ?_)
  refine a_if_eq C 32 dX12_cut_5 (by decide) (fun c26 => ?_) (fun c26 => ?_)
  · have h := h.1 c26
    refine a_iconst C (-1) dX12_cut_32 (by decide) ?_
    exact a_iret C dX12_cut_33 h
  · have h := h.2 c26
    refine a_aload_n C 0 dX12_cut_8 rfl rfl ?_
    refine a_iload_n C 2 dX12_cut_9 rfl rfl ?_
    refine a_callVi C dX12_cut_10 (m_X12_isFree l V h) bw_1140 bw_1142 bw_39 bw_123 bw_1143 (by decide) rfl rfl np_X12_isFree rfl rfl (by decide) (Nat.le_of_ble_eq_true rfl) ⟨Nat.zero_le _, Nat.zero_le _⟩ (fun r3 u4 h => ?_)
    refine a_if_eq C 32 dX12_cut_13 (by decide) (fun c25 => ?_) (fun c25 => ?_)
    · have h := h.1 c25
      refine a_iconst C (-1) dX12_cut_32 (by decide) ?_
      exact a_iret C dX12_cut_33 h
    · have h := h.2 c25
      refine a_iload_n C 1 dX12_cut_16 rfl rfl ?_
      refine a_iload_n C 2 dX12_cut_17 rfl rfl ?_
      refine a_icmp_eq C 32 dX12_cut_18 (by decide) (fun c24 => ?_) (fun c24 => ?_)
      · have h := h.1 c24
        refine a_iconst C (-1) dX12_cut_32 (by decide) ?_
        exact a_iret C dX12_cut_33 h
      · have h := h.2 c24
        refine a_iload_n C 1 dX12_cut_21 rfl rfl ?_
        refine a_callSi C dX12_cut_22 (m_X12_beside l V h) bw_1346 bw_1347 bw_123 bw_1348 np_X12_beside rfl rfl (by decide) (Nat.le_of_ble_eq_true rfl) ⟨Nat.zero_le _, Nat.zero_le _⟩ (fun r5 u6 h => ?_)
        refine a_iload_n C 2 dX12_cut_25 rfl rfl ?_
        refine a_callSi C dX12_cut_26 (m_X12_has l V h) bw_1240 bw_1241 bw_123 bw_1242 np_X12_has rfl rfl (by decide) (Nat.le_of_ble_eq_true rfl) ⟨Nat.zero_le _, Nat.zero_le _⟩ (fun r7 u8 h => ?_)
        refine a_if_eq C 34 dX12_cut_29 (by decide) (fun c23 => ?_) (fun c23 => ?_)
        · have h := h.1 c23
          refine a_aload_n C 0 dX12_cut_34 rfl rfl ?_
          refine a_iload_n C 1 dX12_cut_35 rfl rfl ?_
          refine a_iload_n C 2 dX12_cut_36 rfl rfl ?_
          refine a_callVi C dX12_cut_37 (m_X12_stepsOf l V h) bw_1391 bw_1393 bw_78 bw_123 bw_1394 (by decide) rfl rfl np_X12_stepsOf rfl rfl (by decide) (Nat.le_of_ble_eq_true rfl) ⟨Nat.zero_le _, Nat.zero_le _⟩ (fun r9 u10 h => ?_)
          refine a_iconst C (-1) dX12_cut_40 (by decide) ?_
          refine a_icmp_ne C 46 dX12_cut_41 (by decide) (fun c22 => ?_) (fun c22 => ?_)
          · have h := h.1 c22
            refine a_aload_n C 0 dX12_cut_46 rfl rfl ?_
            refine a_callVi C dX12_cut_47 (m_X12_free l V h) bw_1395 bw_1397 bw_79 bw_123 bw_1398 (by decide) rfl rfl np_X12_free rfl rfl (by decide) (Nat.le_of_ble_eq_true rfl) ⟨Nat.zero_le _, Nat.zero_le _⟩ (fun r11 u12 h => ?_)
            refine a_istore_n C [(3, .int r11), (0, .ref (eA V 48)), (1, .int a0), (2, .int a1)] dX12_cut_50 rfl (by decide) rfl ?_
            refine a_iload_n C 2 dX12_cut_51 rfl rfl ?_
            refine a_iload_n C 3 dX12_cut_52 rfl rfl ?_
            refine a_iload_n C 0 dX12_cut_53 rfl rfl ?_
            refine a_iconst C 0 dX12_cut_54 (by decide) ?_
            refine a_callSi C dX12_cut_55 (m_X12_isCutByOne l V h) bw_1618 bw_1619 bw_123 bw_1620 np_X12_isCutByOne rfl rfl (by decide) (Nat.le_of_ble_eq_true rfl) ⟨Nat.zero_le _, Nat.zero_le _⟩ (fun r13 u14 h => ?_)
            refine a_if_eq C 65 dX12_cut_58 (by decide) (fun c21 => ?_) (fun c21 => ?_)
            · have h := h.1 c21
              refine a_iload_n C 2 dX12_cut_65 rfl rfl ?_
              refine a_iload_n C 3 dX12_cut_66 rfl rfl ?_
              refine a_iload_n C 0 dX12_cut_67 rfl rfl ?_
              refine a_iconst C 0 dX12_cut_68 (by decide) ?_
              refine a_callSi C dX12_cut_69 (m_X12_isCutByTwo l V h) bw_1627 bw_1628 bw_123 bw_1629 np_X12_isCutByTwo rfl rfl (by decide) (Nat.le_of_ble_eq_true rfl) ⟨Nat.zero_le _, Nat.zero_le _⟩ (fun r15 u16 h => ?_)
              refine a_if_eq C 79 dX12_cut_72 (by decide) (fun c20 => ?_) (fun c20 => ?_)
              · have h := h.1 c20
                refine a_iload_n C 2 dX12_cut_79 rfl rfl ?_
                refine a_iload_n C 3 dX12_cut_80 rfl rfl ?_
                refine a_iload_n C 0 dX12_cut_81 rfl rfl ?_
                refine a_callSi C dX12_cut_82 (m_X12_isCutByThree l V h) bw_1630 bw_1631 bw_123 bw_1632 np_X12_isCutByThree rfl rfl (by decide) (Nat.le_of_ble_eq_true rfl) ⟨Nat.zero_le _, Nat.zero_le _⟩ (fun r17 u18 h => ?_)
                refine a_if_eq C 92 dX12_cut_85 (by decide) (fun c19 => ?_) (fun c19 => ?_)
                · have h := h.1 c19
                  refine a_iconst C 4 dX12_cut_92 (by decide) ?_
                  exact a_iret C dX12_cut_93 h
                · have h := h.2 c19
                  refine a_iconst C 3 dX12_cut_88 (by decide) ?_
                  refine a_goto C 93 dX12_cut_89 (by decide) ?_
                  exact a_iret C dX12_cut_93 h
              · have h := h.2 c20
                refine a_iconst C 2 dX12_cut_75 (by decide) ?_
                refine a_goto C 93 dX12_cut_76 (by decide) ?_
                exact a_iret C dX12_cut_93 h
            · have h := h.2 c21
              refine a_iconst C 1 dX12_cut_61 (by decide) ?_
              refine a_goto C 93 dX12_cut_62 (by decide) ?_
              exact a_iret C dX12_cut_93 h
          · have h := h.2 c22
            refine a_iconst C 0 dX12_cut_44 (by decide) ?_
            exact a_iret C dX12_cut_45 h
        · have h := h.2 c23
          refine a_iconst C (-1) dX12_cut_32 (by decide) ?_
          exact a_iret C dX12_cut_33 h

/-! RainOnTheOneModel.roomsOf(I)I -/
def wl_X12_roomsOf_4 (post : Int32 → PoS → Prop) : Nat → Int32 → Int32 → PoS → Prop
  | 0, _, _, _ => False
  | n + 1, v1, v2, u => ((v1 = 0 → post v2 u) ∧ (¬ v1 = 0 → wp_X12_comeTo (v1 &&& (-v1)) v1 u (fun (r1 : Int32) (u2 : PoS) => ∀ x3 : Int32, x3 = (v1 &&& (r1 ^^^ (-1))) → wl_X12_roomsOf_4 post n x3 (v2 + 1) u2)))
def wp_X12_roomsOf (a0 : Int32) (u : PoS) (post : Int32 → PoS → Prop) : Prop := (∃ n4, wl_X12_roomsOf_4 post n4 a0 0 u)
set_option maxHeartbeats 4000000 in
set_option maxRecDepth 100000 in
theorem tl_X12_roomsOf_4 {p : Program} {l : Launch} {e : Env} {s : State} {m : MethodId} {args : Array Value} {below : List Frame} {meth : Method} {c : Code} {V : VEn} {post : Int32 → PoS → Prop} (C : CxS p s m args meth c V cX12_roomsOf 3 RX12 (some .int)) : ∀ (n : Nat) (v1 : Int32) (v2 : Int32) (u : PoS), wl_X12_roomsOf_4 post n v1 v2 u → AtS p l e (Rm 2) s m args below meth c V 3 0 0 (QI V below args s post) 4 [(1, .int v1), (2, .int v2)] [] u := by
  intro n
  induction n with
  | zero => intro v1 v2 u h; exact h.elim
  | succ n ih =>
    intro v1 v2 u h
    rw [wl_X12_roomsOf_4] at h
    refine a_iload_n C 0 dX12_roomsOf_4 rfl rfl ?_
    refine a_if_eq C 27 dX12_roomsOf_5 (by decide) (fun c4 => ?_) (fun c4 => ?_)
    · have h := h.1 c4
      refine a_iload_n C 1 dX12_roomsOf_27 rfl rfl ?_
      exact a_iret C dX12_roomsOf_28 h
    · have h := h.2 c4
      refine a_iload_n C 0 dX12_roomsOf_8 rfl rfl ?_
      refine a_iload_n C 0 dX12_roomsOf_9 rfl rfl ?_
      refine a_iload_n C 0 dX12_roomsOf_10 rfl rfl ?_
      refine a_ineg C dX12_roomsOf_11 ?_
      refine a_iand C dX12_roomsOf_12 ?_
      refine a_iload_n C 0 dX12_roomsOf_13 rfl rfl ?_
      refine a_callSi C dX12_roomsOf_14 (m_X12_comeTo l V h) bw_1624 bw_1625 bw_123 bw_1626 np_X12_comeTo rfl rfl (by decide) (Nat.le_of_ble_eq_true rfl) ⟨Nat.zero_le _, Nat.zero_le _⟩ (fun r1 u2 h => ?_)
      refine a_iconst C (-1) dX12_roomsOf_17 (by decide) ?_
      refine a_ixor C dX12_roomsOf_18 ?_
      refine a_iand C dX12_roomsOf_19 ?_
      refine a_topi (fun x3 ex3 => ?_)
      have h := h x3 ex3
      refine a_istore_n C [(1, .int x3), (2, .int v2)] dX12_roomsOf_20 rfl (by decide) rfl ?_
      refine a_iinc C (v2 + 1) 1 [(2, .int (v2 + 1)), (1, .int x3)] dX12_roomsOf_21 rfl (congrArg (fun z => v2 + z) (show Int32.ofInt 1 = 1 by decide)) (by decide) rfl ?_
      refine a_goto C 4 dX12_roomsOf_24 (by decide) ?_
      refine a_sub [1, 0] rfl ?_
      exact ih _ _ _ h
theorem np_X12_roomsOf : yX12_roomsOf.cls ≠ "java/lang/invoke/MethodHandle" ∧ yX12_roomsOf.cls ≠ "java/lang/invoke/VarHandle" ∧ (parseMethodDescriptor yX12_roomsOf.desc).map (fun d => d.parameters.length) = some 1 := by decide +kernel
set_option maxHeartbeats 4000000 in
set_option maxRecDepth 100000 in
theorem m_X12_roomsOf (l : Launch) (V : VEn) {a0 : Int32} {u : PoS} {post : Int32 → PoS → Prop} (h : wp_X12_roomsOf a0 u post) : KI l V yX12_roomsOf cX12_roomsOf 3 .int 2 [.int a0] u post := by
  refine KI_of (by decide) (Nat.le_of_ble_eq_true rfl) (lv := [(0, .int a0)]) rfl ?_
  intro p e s m args below meth c C
  rw [wp_X12_roomsOf] at h
  refine a_iload_n C 0 dX12_roomsOf_0 rfl rfl ?_
  refine a_istore_n C [(1, .int a0), (0, .int a0)] dX12_roomsOf_1 rfl (by decide) rfl ?_
  refine a_iconst C 0 dX12_roomsOf_2 (by decide) ?_
  refine a_istore_n C [(2, .int 0), (1, .int a0), (0, .int a0)] dX12_roomsOf_3 rfl (by decide) rfl ?_
  refine a_sub [1, 0] rfl ?_
  obtain ⟨n4, h⟩ := h
  refine tl_X12_roomsOf_4 C n4 _ _ _ h

/-! RainOnTheOneModel.narrows()I -/
def wj_X12_narrows_60 (k15 : Int32 → Int32 → Int32 → Int32 → PoS → Prop) (post : Int32 → PoS → Prop) (v1 : Int32) (v2 : Int32) (v3 : Int32) (v4 : Int32) (u : PoS) : Prop := k15 v1 v2 v3 (v4 + 1) u
def wj_X12_narrows_58 (k15 : Int32 → Int32 → Int32 → Int32 → PoS → Prop) (post : Int32 → PoS → Prop) (v1 : Int32) (v3 : Int32) (v4 : Int32) (s0 : Int32) (s1 : Int32) (u : PoS) : Prop := ∀ x9 : Int32, x9 = (s1 ||| s0) → wj_X12_narrows_60 k15 post v1 x9 v3 v4 u
def wl_X12_narrows_15 (post : Int32 → PoS → Prop) : Nat → Int32 → Int32 → Int32 → Int32 → PoS → Prop
  | 0, _, _, _, _, _ => False
  | n + 1, v1, v2, v3, v4, u => ((30 ≤ v4 → post v2 u) ∧ (¬ 30 ≤ v4 → wp_X12_has v1 v4 u (fun (r5 : Int32) (u6 : PoS) => ((¬ r5 = 0 → wp_X12_roomsOf (v1 &&& ((1 <<< (v4 &&& 31)) ^^^ (-1))) u6 (fun (r7 : Int32) (u8 : PoS) => ((r7 ≤ v3 → wj_X12_narrows_58 (wl_X12_narrows_15 post n) post v1 v3 v4 0 v2 u8) ∧ (¬ r7 ≤ v3 → wj_X12_narrows_58 (wl_X12_narrows_15 post n) post v1 v3 v4 (1 <<< (v4 &&& 31)) v2 u8)))) ∧ (r5 = 0 → wj_X12_narrows_60 (wl_X12_narrows_15 post n) post v1 v2 v3 v4 u6)))))
def wp_X12_narrows (u : PoS) (post : Int32 → PoS → Prop) : Prop := wp_X12_free u (fun (r1 : Int32) (u2 : PoS) => wp_X12_roomsOf r1 u2 (fun (r3 : Int32) (u4 : PoS) => (∃ n15, wl_X12_narrows_15 post n15 r1 0 r3 0 u4)))
set_option maxHeartbeats 4000000 in
set_option maxRecDepth 100000 in
theorem tj_X12_narrows_60 {p : Program} {l : Launch} {e : Env} {s : State} {m : MethodId} {args : Array Value} {below : List Frame} {meth : Method} {c : Code} {V : VEn} {k15 : Int32 → Int32 → Int32 → Int32 → PoS → Prop} {post : Int32 → PoS → Prop} (C : CxS p s m args meth c V cX12_narrows 5 RX12 (some .int)) (hk15 : ∀ (v1 : Int32) (v2 : Int32) (v3 : Int32) (v4 : Int32) (u : PoS), k15 v1 v2 v3 v4 u → AtS p l e (Rm 4) s m args below meth c V 5 0 0 (QI V below args s post) 15 [(1, .int v1), (2, .int v2), (3, .int v3), (4, .int v4)] [] u) (v1 : Int32) (v2 : Int32) (v3 : Int32) (v4 : Int32) (u : PoS) (h : wj_X12_narrows_60 k15 post v1 v2 v3 v4 u) : AtS p l e (Rm 4) s m args below meth c V 5 0 0 (QI V below args s post) 60 [(1, .int v1), (2, .int v2), (3, .int v3), (4, .int v4)] [] u := by
  rw [wj_X12_narrows_60] at h
  refine a_iinc C (v4 + 1) 3 [(4, .int (v4 + 1)), (1, .int v1), (2, .int v2), (3, .int v3)] dX12_narrows_60 rfl (congrArg (fun z => v4 + z) (show Int32.ofInt 1 = 1 by decide)) (by decide) rfl ?_
  refine a_goto C 15 dX12_narrows_63 (by decide) ?_
  refine a_sub [1, 2, 3, 0] rfl ?_
  exact hk15 _ _ _ _ _ h
set_option maxHeartbeats 4000000 in
set_option maxRecDepth 100000 in
theorem tj_X12_narrows_58 {p : Program} {l : Launch} {e : Env} {s : State} {m : MethodId} {args : Array Value} {below : List Frame} {meth : Method} {c : Code} {V : VEn} {k15 : Int32 → Int32 → Int32 → Int32 → PoS → Prop} {post : Int32 → PoS → Prop} (C : CxS p s m args meth c V cX12_narrows 5 RX12 (some .int)) (hk15 : ∀ (v1 : Int32) (v2 : Int32) (v3 : Int32) (v4 : Int32) (u : PoS), k15 v1 v2 v3 v4 u → AtS p l e (Rm 4) s m args below meth c V 5 0 0 (QI V below args s post) 15 [(1, .int v1), (2, .int v2), (3, .int v3), (4, .int v4)] [] u) (v1 : Int32) (v3 : Int32) (v4 : Int32) (s0 : Int32) (s1 : Int32) (u : PoS) (h : wj_X12_narrows_58 k15 post v1 v3 v4 s0 s1 u) : AtS p l e (Rm 4) s m args below meth c V 5 0 0 (QI V below args s post) 58 [(1, .int v1), (3, .int v3), (4, .int v4)] [.int s0, .int s1] u := by
  rw [wj_X12_narrows_58] at h
  refine a_ior C dX12_narrows_58 ?_
  refine a_topi (fun x9 ex9 => ?_)
  have h := h x9 ex9
  refine a_istore_n C [(2, .int x9), (1, .int v1), (3, .int v3), (4, .int v4)] dX12_narrows_59 rfl (by decide) rfl ?_
  refine a_sub [1, 0, 2, 3] rfl ?_
  refine tj_X12_narrows_60 C hk15 _ _ _ _ _ h
set_option maxHeartbeats 4000000 in
set_option maxRecDepth 100000 in
theorem tl_X12_narrows_15 {p : Program} {l : Launch} {e : Env} {s : State} {m : MethodId} {args : Array Value} {below : List Frame} {meth : Method} {c : Code} {V : VEn} {post : Int32 → PoS → Prop} (C : CxS p s m args meth c V cX12_narrows 5 RX12 (some .int)) : ∀ (n : Nat) (v1 : Int32) (v2 : Int32) (v3 : Int32) (v4 : Int32) (u : PoS), wl_X12_narrows_15 post n v1 v2 v3 v4 u → AtS p l e (Rm 4) s m args below meth c V 5 0 0 (QI V below args s post) 15 [(1, .int v1), (2, .int v2), (3, .int v3), (4, .int v4)] [] u := by
  intro n
  induction n with
  | zero => intro v1 v2 v3 v4 u h; exact h.elim
  | succ n ih =>
    intro v1 v2 v3 v4 u h
    rw [wl_X12_narrows_15] at h
    refine a_iload C 3 dX12_narrows_15 rfl ?_
    refine a_bipush C 30 dX12_narrows_17 (by decide) ?_
    refine a_icmp_ge C 66 dX12_narrows_19 (by decide) (fun c12 => ?_) (fun c12 => ?_)
    · have h := h.1 c12
      refine a_iload_n C 1 dX12_narrows_66 rfl rfl ?_
      exact a_iret C dX12_narrows_67 h
    · have h := h.2 c12
      refine a_iload_n C 0 dX12_narrows_22 rfl rfl ?_
      refine a_iload C 3 dX12_narrows_23 rfl ?_
      refine a_callSi C dX12_narrows_25 (m_X12_has l V h) bw_1240 bw_1241 bw_123 bw_1242 np_X12_has rfl rfl (by decide) (Nat.le_of_ble_eq_true rfl) ⟨Nat.zero_le _, Nat.zero_le _⟩ (fun r5 u6 h => ?_)
      refine a_if_ne C 34 dX12_narrows_28 (by decide) (fun c11 => ?_) (fun c11 => ?_)
      · have h := h.1 c11
        refine a_iload_n C 1 dX12_narrows_34 rfl rfl ?_
        refine a_iload_n C 0 dX12_narrows_35 rfl rfl ?_
        refine a_iconst C 1 dX12_narrows_36 (by decide) ?_
        refine a_iload C 3 dX12_narrows_37 rfl ?_
        refine a_ishl C dX12_narrows_39 ?_
        refine a_iconst C (-1) dX12_narrows_40 (by decide) ?_
        refine a_ixor C dX12_narrows_41 ?_
        refine a_iand C dX12_narrows_42 ?_
        refine a_callSi C dX12_narrows_43 (m_X12_roomsOf l V h) bw_1637 bw_1638 bw_123 bw_1639 np_X12_roomsOf rfl rfl (by decide) (Nat.le_of_ble_eq_true rfl) ⟨Nat.zero_le _, Nat.zero_le _⟩ (fun r7 u8 h => ?_)
        refine a_iload_n C 2 dX12_narrows_46 rfl rfl ?_
        refine a_icmp_le C 57 dX12_narrows_47 (by decide) (fun c10 => ?_) (fun c10 => ?_)
        · have h := h.1 c10
          refine a_iconst C 0 dX12_narrows_57 (by decide) ?_
          refine a_sub [0, 2, 3] rfl ?_
          refine tj_X12_narrows_58 C ih _ _ _ _ _ _ h
        · have h := h.2 c10
          refine a_iconst C 1 dX12_narrows_50 (by decide) ?_
          refine a_iload C 3 dX12_narrows_51 rfl ?_
          refine a_ishl C dX12_narrows_53 ?_
          refine a_goto C 58 dX12_narrows_54 (by decide) ?_
          refine a_sub [0, 2, 3] rfl ?_
          refine tj_X12_narrows_58 C ih _ _ _ _ _ _ h
      · have h := h.2 c11
        refine a_goto C 60 dX12_narrows_31 (by decide) ?_
        refine tj_X12_narrows_60 C ih _ _ _ _ _ h
theorem np_X12_narrows : yX12_narrows.cls ≠ "java/lang/invoke/MethodHandle" ∧ yX12_narrows.cls ≠ "java/lang/invoke/VarHandle" ∧ (parseMethodDescriptor yX12_narrows.desc).map (fun d => d.parameters.length) = some 0 := by decide +kernel
set_option maxHeartbeats 4000000 in
set_option maxRecDepth 100000 in
theorem m_X12_narrows (l : Launch) (V : VEn) {u : PoS} {post : Int32 → PoS → Prop} (h : wp_X12_narrows  u post) : KI l V yX12_narrows cX12_narrows 5 .int 4 [.ref (eA V 48)] u post := by
  refine KI_of (by decide) (Nat.le_of_ble_eq_true rfl) (lv := [(0, .ref (eA V 48))]) rfl ?_
  intro p e s m args below meth c C
  rw [wp_X12_narrows] at h
  refine a_aload_n C 0 dX12_narrows_0 rfl rfl ?_
  refine a_callVi C dX12_narrows_1 (m_X12_free l V h) bw_1395 bw_1397 bw_79 bw_123 bw_1398 (by decide) rfl rfl np_X12_free rfl rfl (by decide) (Nat.le_of_ble_eq_true rfl) ⟨Nat.zero_le _, Nat.zero_le _⟩ (fun r1 u2 h => ?_)
  refine a_istore_n C [(1, .int r1), (0, .ref (eA V 48))] dX12_narrows_4 rfl (by decide) rfl ?_
  refine a_iconst C 0 dX12_narrows_5 (by decide) ?_
  refine a_istore_n C [(2, .int 0), (1, .int r1), (0, .ref (eA V 48))] dX12_narrows_6 rfl (by decide) rfl ?_
  refine a_iload_n C 1 dX12_narrows_7 rfl rfl ?_
  refine a_callSi C dX12_narrows_8 (m_X12_roomsOf l V h) bw_1637 bw_1638 bw_123 bw_1639 np_X12_roomsOf rfl rfl (by decide) (Nat.le_of_ble_eq_true rfl) ⟨Nat.zero_le _, Nat.zero_le _⟩ (fun r3 u4 h => ?_)
  refine a_istore_n C [(3, .int r3), (2, .int 0), (1, .int r1), (0, .ref (eA V 48))] dX12_narrows_11 rfl (by decide) rfl ?_
  refine a_iconst C 0 dX12_narrows_12 (by decide) ?_
  refine a_istore C [(4, .int 0), (3, .int r3), (2, .int 0), (1, .int r1), (0, .ref (eA V 48))] dX12_narrows_13 (by decide) rfl ?_
  refine a_sub [3, 2, 1, 0] rfl ?_
  obtain ⟨n15, h⟩ := h
  refine tl_X12_narrows_15 C n15 _ _ _ _ _ h

/-! RainOnTheOneModel.cost(III)Z -/
def wp_X12_cost (a0 : Int32) (a1 : Int32) (a2 : Int32) (u : PoS) (post : Int32 → PoS → Prop) : Prop := wp_X12_isIn a0 0 4 u (fun (r1 : Int32) (u2 : PoS) => ((r1 = 0 → post 0 u2) ∧ (¬ r1 = 0 → wp_X12_isIn a1 0 6 u2 (fun (r3 : Int32) (u4 : PoS) => ((r3 = 0 → post 0 u4) ∧ (¬ r3 = 0 → wp_X12_isIn a2 0 99 u4 (fun (r5 : Int32) (u6 : PoS) => ((¬ r5 = 0 → vp_in ((130 + (7 * a0)) + a1) 3703 ∧ post 1 (pI u6 49 (Int32.toNatClampNeg ((130 + (7 * a0)) + a1)) a2)) ∧ (r5 = 0 → post 0 u6)))))))))
theorem np_X12_cost : yX12_cost.cls ≠ "java/lang/invoke/MethodHandle" ∧ yX12_cost.cls ≠ "java/lang/invoke/VarHandle" ∧ (parseMethodDescriptor yX12_cost.desc).map (fun d => d.parameters.length) = some 3 := by decide +kernel
set_option maxHeartbeats 4000000 in
set_option maxRecDepth 100000 in
theorem m_X12_cost (l : Launch) (V : VEn) {a0 : Int32} {a1 : Int32} {a2 : Int32} {u : PoS} {post : Int32 → PoS → Prop} (h : wp_X12_cost a0 a1 a2 u post) : KI l V yX12_cost cX12_cost 4 .boolean 1 [.ref (eA V 48), .int a0, .int a1, .int a2] u post := by
  refine KI_of (by decide) (Nat.le_of_ble_eq_true rfl) (lv := [(0, .ref (eA V 48)), (1, .int a0), (2, .int a1), (3, .int a2)]) rfl ?_
  intro p e s m args below meth c C
  rw [wp_X12_cost] at h
  refine a_iload_n C 1 dX12_cost_0 rfl rfl ?_
  refine a_iconst C 0 dX12_cost_1 (by decide) ?_
  refine a_iconst C 4 dX12_cost_2 (by decide) ?_
  refine a_callSi C dX12_cost_3 (m_X12_isIn l V h) bw_1147 bw_1148 bw_123 bw_1149 np_X12_isIn rfl rfl (by decide) (Nat.le_of_ble_eq_true rfl) ⟨Nat.zero_le _, Nat.zero_le _⟩ (fun r1 u2 h => ?_)
  refine a_if_eq C 29 dX12_cost_6 (by decide) (fun c9 => ?_) (fun c9 => ?_)
  · have h := h.1 c9
    refine a_iconst C 0 dX12_cost_29 (by decide) ?_
    exact a_zret C rfl dX12_cost_30 h
  · have h := h.2 c9
    refine a_iload_n C 2 dX12_cost_9 rfl rfl ?_
    refine a_iconst C 0 dX12_cost_10 (by decide) ?_
    refine a_bipush C 6 dX12_cost_11 (by decide) ?_
    refine a_callSi C dX12_cost_13 (m_X12_isIn l V h) bw_1147 bw_1148 bw_123 bw_1149 np_X12_isIn rfl rfl (by decide) (Nat.le_of_ble_eq_true rfl) ⟨Nat.zero_le _, Nat.zero_le _⟩ (fun r3 u4 h => ?_)
    refine a_if_eq C 29 dX12_cost_16 (by decide) (fun c8 => ?_) (fun c8 => ?_)
    · have h := h.1 c8
      refine a_iconst C 0 dX12_cost_29 (by decide) ?_
      exact a_zret C rfl dX12_cost_30 h
    · have h := h.2 c8
      refine a_iload_n C 3 dX12_cost_19 rfl rfl ?_
      refine a_iconst C 0 dX12_cost_20 (by decide) ?_
      refine a_bipush C 99 dX12_cost_21 (by decide) ?_
      refine a_callSi C dX12_cost_23 (m_X12_isIn l V h) bw_1147 bw_1148 bw_123 bw_1149 np_X12_isIn rfl rfl (by decide) (Nat.le_of_ble_eq_true rfl) ⟨Nat.zero_le _, Nat.zero_le _⟩ (fun r5 u6 h => ?_)
      refine a_if_ne C 31 dX12_cost_26 (by decide) (fun c7 => ?_) (fun c7 => ?_)
      · have h := h.1 c7
        refine a_aload_n C 0 dX12_cost_31 rfl rfl ?_
        refine a_getr C 0 (r := 49) dX12_cost_32 (by decide) rfl rfl rfl ib_12 (by decide) bw_1022 ?_
        refine a_sipush C 130 dX12_cost_35 (by decide) ?_
        refine a_bipush C 7 dX12_cost_38 (by decide) ?_
        refine a_iload_n C 1 dX12_cost_40 rfl rfl ?_
        refine a_imul C dX12_cost_41 ?_
        refine a_iadd C dX12_cost_42 ?_
        refine a_iload_n C 2 dX12_cost_43 rfl rfl ?_
        refine a_iadd C dX12_cost_44 ?_
        refine a_iload_n C 3 dX12_cost_45 rfl rfl ?_
        refine b_iast C (Int32.toNatClampNeg ((130 + (7 * a0)) + a1)) dX12_cost_46 (by decide) rfl h.1 rfl ?_
        have h := h.2
        refine a_iconst C 1 dX12_cost_47 (by decide) ?_
        exact a_zret C rfl dX12_cost_48 h
      · have h := h.2 c7
        refine a_iconst C 0 dX12_cost_29 (by decide) ?_
        exact a_zret C rfl dX12_cost_30 h

/-! RainOnTheOneModel.canBeIt(III)Z -/
def wp_X12_canBeIt (a0 : Int32) (a1 : Int32) (a2 : Int32) (u : PoS) (post : Int32 → PoS → Prop) : Prop := vp_in a1 5 ∧ ((a2 ≤ (gI u 67 (Int32.toNatClampNeg a1)) → post 0 u) ∧ (¬ a2 ≤ (gI u 67 (Int32.toNatClampNeg a1)) → ((a0 = 0 → post 1 u) ∧ (¬ a0 = 0 → vp_in (a0 - 1) 7 ∧ (((gI u 65 (Int32.toNatClampNeg (a0 - 1))) = a1 → post 0 u) ∧ (¬ (gI u 65 (Int32.toNatClampNeg (a0 - 1))) = a1 → post 1 u))))))
theorem np_X12_canBeIt : yX12_canBeIt.cls ≠ "java/lang/invoke/MethodHandle" ∧ yX12_canBeIt.cls ≠ "java/lang/invoke/VarHandle" ∧ (parseMethodDescriptor yX12_canBeIt.desc).map (fun d => d.parameters.length) = some 3 := by decide +kernel
set_option maxHeartbeats 4000000 in
set_option maxRecDepth 100000 in
theorem m_X12_canBeIt (l : Launch) (V : VEn) {a0 : Int32} {a1 : Int32} {a2 : Int32} {u : PoS} {post : Int32 → PoS → Prop} (h : wp_X12_canBeIt a0 a1 a2 u post) : KI l V yX12_canBeIt cX12_canBeIt 4 .boolean 0 [.ref (eA V 48), .int a0, .int a1, .int a2] u post := by
  refine KI_of (by decide) (Nat.le_of_ble_eq_true rfl) (lv := [(0, .ref (eA V 48)), (1, .int a0), (2, .int a1), (3, .int a2)]) rfl ?_
  intro p e s m args below meth c C
  rw [wp_X12_canBeIt] at h
  refine a_aload_n C 0 dX12_canBeIt_0 rfl rfl ?_
  refine a_getr C 35 (r := 67) dX12_canBeIt_1 (by decide) rfl rfl rfl ib_12 (by decide) bw_1057 ?_
  refine a_iload_n C 2 dX12_canBeIt_4 rfl rfl ?_
  refine b_iald C (Int32.toNatClampNeg a1) dX12_canBeIt_5 (by decide) rfl h.1 rfl ?_
  have h := h.2
  refine a_iload_n C 3 dX12_canBeIt_6 rfl rfl ?_
  refine a_icmp_ge C 30 dX12_canBeIt_7 (by decide) (fun c3 => ?_) (fun c3 => ?_)
  · have h := h.1 c3
    refine a_iconst C 0 dX12_canBeIt_30 (by decide) ?_
    exact a_zret C rfl dX12_canBeIt_31 h
  · have h := h.2 c3
    refine a_iload_n C 1 dX12_canBeIt_10 rfl rfl ?_
    refine a_if_eq C 26 dX12_canBeIt_11 (by decide) (fun c2 => ?_) (fun c2 => ?_)
    · have h := h.1 c2
      refine a_iconst C 1 dX12_canBeIt_26 (by decide) ?_
      refine a_goto C 31 dX12_canBeIt_27 (by decide) ?_
      exact a_zret C rfl dX12_canBeIt_31 h
    · have h := h.2 c2
      refine a_aload_n C 0 dX12_canBeIt_14 rfl rfl ?_
      refine a_getr C 33 (r := 65) dX12_canBeIt_15 (by decide) rfl rfl rfl ib_12 (by decide) bw_1055 ?_
      refine a_iload_n C 1 dX12_canBeIt_18 rfl rfl ?_
      refine a_iconst C 1 dX12_canBeIt_19 (by decide) ?_
      refine a_isub C dX12_canBeIt_20 ?_
      refine b_iald C (Int32.toNatClampNeg (a0 - 1)) dX12_canBeIt_21 (by decide) rfl h.1 rfl ?_
      have h := h.2
      refine a_iload_n C 2 dX12_canBeIt_22 rfl rfl ?_
      refine a_icmp_eq C 30 dX12_canBeIt_23 (by decide) (fun c1 => ?_) (fun c1 => ?_)
      · have h := h.1 c1
        refine a_iconst C 0 dX12_canBeIt_30 (by decide) ?_
        exact a_zret C rfl dX12_canBeIt_31 h
      · have h := h.2 c1
        refine a_iconst C 1 dX12_canBeIt_26 (by decide) ?_
        refine a_goto C 31 dX12_canBeIt_27 (by decide) ?_
        exact a_zret C rfl dX12_canBeIt_31 h

/-! RainOnTheOneModel.isNextRoster(II)Z -/
def wl_X12_isNextRoster_39 (k67 : Int32 → Int32 → Int32 → PoS → Prop) (post : Int32 → PoS → Prop) : Nat → Int32 → Int32 → Int32 → PoS → Prop
  | 0, _, _, _, _ => False
  | n + 1, v1, v3, v4, u => (((gI u 49 0) ≤ v4 → k67 v1 v3 v4 u) ∧ (¬ (gI u 49 0) ≤ v4 → wp_X12_canBeIt v3 v4 v1 u (fun (r2 : Int32) (u3 : PoS) => ((¬ r2 = 0 → k67 v1 v3 v4 u3) ∧ (r2 = 0 → wl_X12_isNextRoster_39 k67 post n v1 v3 (v4 + 1) u3)))))
def wj_X12_isNextRoster_129 (k2 : Int32 → Int32 → PoS → Prop) (post : Int32 → PoS → Prop) (v1 : Int32) (s0 : Int32) (s1 : Int32) (u : PoS) : Prop := ∀ x7 : Int32, x7 = (s1 + s0) → k2 v1 x7 u
def wj_X12_isNextRoster_112 (k2 : Int32 → Int32 → PoS → Prop) (post : Int32 → PoS → Prop) (v1 : Int32) (v3 : Int32) (v4 : Int32) (u : PoS) : Prop := (((gI u 49 0) ≤ v4 → wj_X12_isNextRoster_129 k2 post v1 (-1) v3 u) ∧ (¬ (gI u 49 0) ≤ v4 → wj_X12_isNextRoster_129 k2 post v1 1 v3 u))
def wj_X12_isNextRoster_89 (k2 : Int32 → Int32 → PoS → Prop) (post : Int32 → PoS → Prop) (v1 : Int32) (v3 : Int32) (v4 : Int32) (s0 : Int32) (s1 : Int32) (u : PoS) : Prop := vp_in s1 7 ∧ (((gI (pI u 65 (Int32.toNatClampNeg s1) s0) 49 0) ≤ v4 → wj_X12_isNextRoster_112 k2 post v1 v3 v4 (pI u 65 (Int32.toNatClampNeg s1) s0)) ∧ (¬ (gI (pI u 65 (Int32.toNatClampNeg s1) s0) 49 0) ≤ v4 → vp_in v4 5 ∧ vp_in v4 5 ∧ wj_X12_isNextRoster_112 k2 post v1 v3 v4 (pI (pI u 65 (Int32.toNatClampNeg s1) s0) 67 (Int32.toNatClampNeg v4) ((gI (pI u 65 (Int32.toNatClampNeg s1) s0) 67 (Int32.toNatClampNeg v4)) + 1))))
def wj_X12_isNextRoster_67 (k2 : Int32 → Int32 → PoS → Prop) (post : Int32 → PoS → Prop) (v1 : Int32) (v3 : Int32) (v4 : Int32) (u : PoS) : Prop := (((gI u 49 0) ≤ v4 → wj_X12_isNextRoster_89 k2 post v1 v3 v4 (-1) v3 u) ∧ (¬ (gI u 49 0) ≤ v4 → wj_X12_isNextRoster_89 k2 post v1 v3 v4 v4 v3 u))
def wj_X12_isNextRoster_36 (k2 : Int32 → Int32 → PoS → Prop) (post : Int32 → PoS → Prop) (v1 : Int32) (v3 : Int32) (v4 : Int32) (u : PoS) : Prop := (∃ n39, wl_X12_isNextRoster_39 (fun (v16 : Int32) (v36 : Int32) (v46 : Int32) (u6 : PoS) => wj_X12_isNextRoster_67 k2 post v16 v36 v46 u6) post n39 v1 v3 (v4 + 1) u)
def wl_X12_isNextRoster_2 (k134 : Int32 → PoS → Prop) (post : Int32 → PoS → Prop) : Nat → Int32 → Int32 → PoS → Prop
  | 0, _, _, _ => False
  | n + 1, v1, v3, u => ((v3 < 0 → k134 v3 u) ∧ (¬ v3 < 0 → ((7 ≤ v3 → k134 v3 u) ∧ (¬ 7 ≤ v3 → vp_in v3 7 ∧ ∀ x1 : Int32, x1 = (gI u 65 (Int32.toNatClampNeg v3)) → ((x1 < 0 → wj_X12_isNextRoster_36 (wl_X12_isNextRoster_2 k134 post n) post v1 v3 x1 u) ∧ (¬ x1 < 0 → vp_in x1 5 ∧ vp_in x1 5 ∧ wj_X12_isNextRoster_36 (wl_X12_isNextRoster_2 k134 post n) post v1 v3 x1 (pI u 67 (Int32.toNatClampNeg x1) ((gI u 67 (Int32.toNatClampNeg x1)) - 1))))))))
def wj_X12_isNextRoster_134 (post : Int32 → PoS → Prop) (v3 : Int32) (u : PoS) : Prop := ((v3 < 0 → post 0 u) ∧ (¬ v3 < 0 → post 1 u))
def wp_X12_isNextRoster (a0 : Int32) (a1 : Int32) (u : PoS) (post : Int32 → PoS → Prop) : Prop := (∃ n2, wl_X12_isNextRoster_2 (fun (v314 : Int32) (u14 : PoS) => wj_X12_isNextRoster_134 post v314 u14) post n2 a0 a1 u)
set_option maxHeartbeats 4000000 in
set_option maxRecDepth 100000 in
theorem tl_X12_isNextRoster_39 {p : Program} {l : Launch} {e : Env} {s : State} {m : MethodId} {args : Array Value} {below : List Frame} {meth : Method} {c : Code} {V : VEn} {k67 : Int32 → Int32 → Int32 → PoS → Prop} {post : Int32 → PoS → Prop} (C : CxS p s m args meth c V cX12_isNextRoster 5 RX12 (some .boolean)) (hk67 : ∀ (v1 : Int32) (v3 : Int32) (v4 : Int32) (u : PoS), k67 v1 v3 v4 u → AtS p l e (Rm 1) s m args below meth c V 5 0 0 (QI V below args s post) 67 [(0, .ref (eA V 48)), (1, .int v1), (3, .int v3), (4, .int v4)] [] u) : ∀ (n : Nat) (v1 : Int32) (v3 : Int32) (v4 : Int32) (u : PoS), wl_X12_isNextRoster_39 k67 post n v1 v3 v4 u → AtS p l e (Rm 1) s m args below meth c V 5 0 0 (QI V below args s post) 39 [(0, .ref (eA V 48)), (1, .int v1), (3, .int v3), (4, .int v4)] [] u := by
  intro n
  induction n with
  | zero => intro v1 v3 v4 u h; exact h.elim
  | succ n ih =>
    intro v1 v3 v4 u h
    rw [wl_X12_isNextRoster_39] at h
    refine a_iload C 3 dX12_isNextRoster_39 rfl ?_
    refine a_aload_n C 0 dX12_isNextRoster_41 rfl rfl ?_
    refine a_getr C 0 (r := 49) dX12_isNextRoster_42 (by decide) rfl rfl rfl ib_12 (by decide) bw_1022 ?_
    refine a_iconst C 0 dX12_isNextRoster_45 (by decide) ?_
    refine b_iald C 0 dX12_isNextRoster_46 (by decide) rfl (vp_lit (by decide)) (by decide) ?_
    refine a_icmp_ge C 67 dX12_isNextRoster_47 (by decide) (fun c5 => ?_) (fun c5 => ?_)
    · have h := h.1 c5
      exact hk67 _ _ _ _ h
    · have h := h.2 c5
      refine a_aload_n C 0 dX12_isNextRoster_50 rfl rfl ?_
      refine a_iload_n C 2 dX12_isNextRoster_51 rfl rfl ?_
      refine a_iload C 3 dX12_isNextRoster_52 rfl ?_
      refine a_iload_n C 1 dX12_isNextRoster_54 rfl rfl ?_
      refine a_callVi C dX12_isNextRoster_55 (m_X12_canBeIt l V h) bw_1656 bw_1658 bw_108 bw_123 bw_1659 (by decide) rfl rfl np_X12_canBeIt rfl rfl (by decide) (Nat.le_of_ble_eq_true rfl) ⟨Nat.zero_le _, Nat.zero_le _⟩ (fun r2 u3 h => ?_)
      refine a_if_ne C 67 dX12_isNextRoster_58 (by decide) (fun c4 => ?_) (fun c4 => ?_)
      · have h := h.1 c4
        exact hk67 _ _ _ _ h
      · have h := h.2 c4
        refine a_iinc C (v4 + 1) 3 [(4, .int (v4 + 1)), (0, .ref (eA V 48)), (1, .int v1), (3, .int v3)] dX12_isNextRoster_61 rfl (congrArg (fun z => v4 + z) (show Int32.ofInt 1 = 1 by decide)) (by decide) rfl ?_
        refine a_goto C 39 dX12_isNextRoster_64 (by decide) ?_
        refine a_sub [1, 2, 3, 0] rfl ?_
        exact ih _ _ _ _ h
set_option maxHeartbeats 4000000 in
set_option maxRecDepth 100000 in
theorem tj_X12_isNextRoster_129 {p : Program} {l : Launch} {e : Env} {s : State} {m : MethodId} {args : Array Value} {below : List Frame} {meth : Method} {c : Code} {V : VEn} {k2 : Int32 → Int32 → PoS → Prop} {post : Int32 → PoS → Prop} (C : CxS p s m args meth c V cX12_isNextRoster 5 RX12 (some .boolean)) (hk2 : ∀ (v1 : Int32) (v3 : Int32) (u : PoS), k2 v1 v3 u → AtS p l e (Rm 1) s m args below meth c V 5 0 0 (QI V below args s post) 2 [(0, .ref (eA V 48)), (1, .int v1), (3, .int v3)] [] u) (v1 : Int32) (s0 : Int32) (s1 : Int32) (u : PoS) (h : wj_X12_isNextRoster_129 k2 post v1 s0 s1 u) : AtS p l e (Rm 1) s m args below meth c V 5 0 0 (QI V below args s post) 129 [(0, .ref (eA V 48)), (1, .int v1)] [.int s0, .int s1] u := by
  rw [wj_X12_isNextRoster_129] at h
  refine a_iadd C dX12_isNextRoster_129 ?_
  refine a_topi (fun x7 ex7 => ?_)
  have h := h x7 ex7
  refine a_istore_n C [(3, .int x7), (0, .ref (eA V 48)), (1, .int v1)] dX12_isNextRoster_130 rfl (by decide) rfl ?_
  refine a_goto C 2 dX12_isNextRoster_131 (by decide) ?_
  refine a_sub [1, 2, 0] rfl ?_
  exact hk2 _ _ _ h
set_option maxHeartbeats 4000000 in
set_option maxRecDepth 100000 in
theorem tj_X12_isNextRoster_112 {p : Program} {l : Launch} {e : Env} {s : State} {m : MethodId} {args : Array Value} {below : List Frame} {meth : Method} {c : Code} {V : VEn} {k2 : Int32 → Int32 → PoS → Prop} {post : Int32 → PoS → Prop} (C : CxS p s m args meth c V cX12_isNextRoster 5 RX12 (some .boolean)) (hk2 : ∀ (v1 : Int32) (v3 : Int32) (u : PoS), k2 v1 v3 u → AtS p l e (Rm 1) s m args below meth c V 5 0 0 (QI V below args s post) 2 [(0, .ref (eA V 48)), (1, .int v1), (3, .int v3)] [] u) (v1 : Int32) (v3 : Int32) (v4 : Int32) (u : PoS) (h : wj_X12_isNextRoster_112 k2 post v1 v3 v4 u) : AtS p l e (Rm 1) s m args below meth c V 5 0 0 (QI V below args s post) 112 [(0, .ref (eA V 48)), (1, .int v1), (3, .int v3), (4, .int v4)] [] u := by
  rw [wj_X12_isNextRoster_112] at h
  refine a_iload_n C 2 dX12_isNextRoster_112 rfl rfl ?_
  refine a_iload C 3 dX12_isNextRoster_113 rfl ?_
  refine a_aload_n C 0 dX12_isNextRoster_115 rfl rfl ?_
  refine a_getr C 0 (r := 49) dX12_isNextRoster_116 (by decide) rfl rfl rfl ib_12 (by decide) bw_1022 ?_
  refine a_iconst C 0 dX12_isNextRoster_119 (by decide) ?_
  refine b_iald C 0 dX12_isNextRoster_120 (by decide) rfl (vp_lit (by decide)) (by decide) ?_
  refine a_icmp_ge C 128 dX12_isNextRoster_121 (by decide) (fun c8 => ?_) (fun c8 => ?_)
  · have h := h.1 c8
    refine a_iconst C (-1) dX12_isNextRoster_128 (by decide) ?_
    refine a_sub [0, 1] rfl ?_
    refine tj_X12_isNextRoster_129 C hk2 _ _ _ _ h
  · have h := h.2 c8
    refine a_iconst C 1 dX12_isNextRoster_124 (by decide) ?_
    refine a_goto C 129 dX12_isNextRoster_125 (by decide) ?_
    refine a_sub [0, 1] rfl ?_
    refine tj_X12_isNextRoster_129 C hk2 _ _ _ _ h
set_option maxHeartbeats 4000000 in
set_option maxRecDepth 100000 in
theorem tj_X12_isNextRoster_89 {p : Program} {l : Launch} {e : Env} {s : State} {m : MethodId} {args : Array Value} {below : List Frame} {meth : Method} {c : Code} {V : VEn} {k2 : Int32 → Int32 → PoS → Prop} {post : Int32 → PoS → Prop} (C : CxS p s m args meth c V cX12_isNextRoster 5 RX12 (some .boolean)) (hk2 : ∀ (v1 : Int32) (v3 : Int32) (u : PoS), k2 v1 v3 u → AtS p l e (Rm 1) s m args below meth c V 5 0 0 (QI V below args s post) 2 [(0, .ref (eA V 48)), (1, .int v1), (3, .int v3)] [] u) (v1 : Int32) (v3 : Int32) (v4 : Int32) (s0 : Int32) (s1 : Int32) (u : PoS) (h : wj_X12_isNextRoster_89 k2 post v1 v3 v4 s0 s1 u) : AtS p l e (Rm 1) s m args below meth c V 5 0 0 (QI V below args s post) 89 [(0, .ref (eA V 48)), (1, .int v1), (3, .int v3), (4, .int v4)] [.int s0, .int s1, .ref (eA V 65)] u := by
  rw [wj_X12_isNextRoster_89] at h
  refine b_iast C (Int32.toNatClampNeg s1) dX12_isNextRoster_89 (by decide) rfl h.1 rfl ?_
  have h := h.2
  refine a_iload C 3 dX12_isNextRoster_90 rfl ?_
  refine a_aload_n C 0 dX12_isNextRoster_92 rfl rfl ?_
  refine a_getr C 0 (r := 49) dX12_isNextRoster_93 (by decide) rfl rfl rfl ib_12 (by decide) bw_1022 ?_
  refine a_iconst C 0 dX12_isNextRoster_96 (by decide) ?_
  refine b_iald C 0 dX12_isNextRoster_97 (by decide) rfl (vp_lit (by decide)) (by decide) ?_
  refine a_icmp_ge C 112 dX12_isNextRoster_98 (by decide) (fun c9 => ?_) (fun c9 => ?_)
  · have h := h.1 c9
    refine tj_X12_isNextRoster_112 C hk2 _ _ _ _ h
  · have h := h.2 c9
    refine a_aload_n C 0 dX12_isNextRoster_101 rfl rfl ?_
    refine a_getr C 35 (r := 67) dX12_isNextRoster_102 (by decide) rfl rfl rfl ib_12 (by decide) bw_1057 ?_
    refine a_iload C 3 dX12_isNextRoster_105 rfl ?_
    refine a_dup2 C dX12_isNextRoster_107 rfl rfl ?_
    refine b_iald C (Int32.toNatClampNeg v4) dX12_isNextRoster_108 (by decide) rfl h.1 rfl ?_
    have h := h.2
    refine a_iconst C 1 dX12_isNextRoster_109 (by decide) ?_
    refine a_iadd C dX12_isNextRoster_110 ?_
    refine b_iast C (Int32.toNatClampNeg v4) dX12_isNextRoster_111 (by decide) rfl h.1 rfl ?_
    have h := h.2
    refine tj_X12_isNextRoster_112 C hk2 _ _ _ _ h
set_option maxHeartbeats 4000000 in
set_option maxRecDepth 100000 in
theorem tj_X12_isNextRoster_67 {p : Program} {l : Launch} {e : Env} {s : State} {m : MethodId} {args : Array Value} {below : List Frame} {meth : Method} {c : Code} {V : VEn} {k2 : Int32 → Int32 → PoS → Prop} {post : Int32 → PoS → Prop} (C : CxS p s m args meth c V cX12_isNextRoster 5 RX12 (some .boolean)) (hk2 : ∀ (v1 : Int32) (v3 : Int32) (u : PoS), k2 v1 v3 u → AtS p l e (Rm 1) s m args below meth c V 5 0 0 (QI V below args s post) 2 [(0, .ref (eA V 48)), (1, .int v1), (3, .int v3)] [] u) (v1 : Int32) (v3 : Int32) (v4 : Int32) (u : PoS) (h : wj_X12_isNextRoster_67 k2 post v1 v3 v4 u) : AtS p l e (Rm 1) s m args below meth c V 5 0 0 (QI V below args s post) 67 [(0, .ref (eA V 48)), (1, .int v1), (3, .int v3), (4, .int v4)] [] u := by
  rw [wj_X12_isNextRoster_67] at h
  refine a_aload_n C 0 dX12_isNextRoster_67 rfl rfl ?_
  refine a_getr C 33 (r := 65) dX12_isNextRoster_68 (by decide) rfl rfl rfl ib_12 (by decide) bw_1055 ?_
  refine a_iload_n C 2 dX12_isNextRoster_71 rfl rfl ?_
  refine a_iload C 3 dX12_isNextRoster_72 rfl ?_
  refine a_aload_n C 0 dX12_isNextRoster_74 rfl rfl ?_
  refine a_getr C 0 (r := 49) dX12_isNextRoster_75 (by decide) rfl rfl rfl ib_12 (by decide) bw_1022 ?_
  refine a_iconst C 0 dX12_isNextRoster_78 (by decide) ?_
  refine b_iald C 0 dX12_isNextRoster_79 (by decide) rfl (vp_lit (by decide)) (by decide) ?_
  refine a_icmp_ge C 88 dX12_isNextRoster_80 (by decide) (fun c10 => ?_) (fun c10 => ?_)
  · have h := h.1 c10
    refine a_iconst C (-1) dX12_isNextRoster_88 (by decide) ?_
    refine tj_X12_isNextRoster_89 C hk2 _ _ _ _ _ _ h
  · have h := h.2 c10
    refine a_iload C 3 dX12_isNextRoster_83 rfl ?_
    refine a_goto C 89 dX12_isNextRoster_85 (by decide) ?_
    refine tj_X12_isNextRoster_89 C hk2 _ _ _ _ _ _ h
set_option maxHeartbeats 4000000 in
set_option maxRecDepth 100000 in
theorem tj_X12_isNextRoster_36 {p : Program} {l : Launch} {e : Env} {s : State} {m : MethodId} {args : Array Value} {below : List Frame} {meth : Method} {c : Code} {V : VEn} {k2 : Int32 → Int32 → PoS → Prop} {post : Int32 → PoS → Prop} (C : CxS p s m args meth c V cX12_isNextRoster 5 RX12 (some .boolean)) (hk2 : ∀ (v1 : Int32) (v3 : Int32) (u : PoS), k2 v1 v3 u → AtS p l e (Rm 1) s m args below meth c V 5 0 0 (QI V below args s post) 2 [(0, .ref (eA V 48)), (1, .int v1), (3, .int v3)] [] u) (v1 : Int32) (v3 : Int32) (v4 : Int32) (u : PoS) (h : wj_X12_isNextRoster_36 k2 post v1 v3 v4 u) : AtS p l e (Rm 1) s m args below meth c V 5 0 0 (QI V below args s post) 36 [(0, .ref (eA V 48)), (1, .int v1), (3, .int v3), (4, .int v4)] [] u := by
  rw [wj_X12_isNextRoster_36] at h
  refine a_iinc C (v4 + 1) 3 [(4, .int (v4 + 1)), (0, .ref (eA V 48)), (1, .int v1), (3, .int v3)] dX12_isNextRoster_36 rfl (congrArg (fun z => v4 + z) (show Int32.ofInt 1 = 1 by decide)) (by decide) rfl ?_
  refine a_sub [1, 2, 3, 0] rfl ?_
  obtain ⟨n39, h⟩ := h
  refine tl_X12_isNextRoster_39 C (fun v16 v36 v46 u6 h => ?_) n39 _ _ _ _ h
  refine tj_X12_isNextRoster_67 C hk2 _ _ _ _ h
set_option maxHeartbeats 4000000 in
set_option maxRecDepth 100000 in
theorem tl_X12_isNextRoster_2 {p : Program} {l : Launch} {e : Env} {s : State} {m : MethodId} {args : Array Value} {below : List Frame} {meth : Method} {c : Code} {V : VEn} {k134 : Int32 → PoS → Prop} {post : Int32 → PoS → Prop} (C : CxS p s m args meth c V cX12_isNextRoster 5 RX12 (some .boolean)) (hk134 : ∀ (v3 : Int32) (u : PoS), k134 v3 u → AtS p l e (Rm 1) s m args below meth c V 5 0 0 (QI V below args s post) 134 [(3, .int v3)] [] u) : ∀ (n : Nat) (v1 : Int32) (v3 : Int32) (u : PoS), wl_X12_isNextRoster_2 k134 post n v1 v3 u → AtS p l e (Rm 1) s m args below meth c V 5 0 0 (QI V below args s post) 2 [(0, .ref (eA V 48)), (1, .int v1), (3, .int v3)] [] u := by
  intro n
  induction n with
  | zero => intro v1 v3 u h; exact h.elim
  | succ n ih =>
    intro v1 v3 u h
    rw [wl_X12_isNextRoster_2] at h
    refine a_iload_n C 2 dX12_isNextRoster_2 rfl rfl ?_
    refine a_if_lt C 134 dX12_isNextRoster_3 (by decide) (fun c13 => ?_) (fun c13 => ?_)
    · have h := h.1 c13
      refine a_sub [2] rfl ?_
      exact hk134 _ _ h
    · have h := h.2 c13
      refine a_iload_n C 2 dX12_isNextRoster_6 rfl rfl ?_
      refine a_bipush C 7 dX12_isNextRoster_7 (by decide) ?_
      refine a_icmp_ge C 134 dX12_isNextRoster_9 (by decide) (fun c12 => ?_) (fun c12 => ?_)
      · have h := h.1 c12
        refine a_sub [2] rfl ?_
        exact hk134 _ _ h
      · have h := h.2 c12
        refine a_aload_n C 0 dX12_isNextRoster_12 rfl rfl ?_
        refine a_getr C 33 (r := 65) dX12_isNextRoster_13 (by decide) rfl rfl rfl ib_12 (by decide) bw_1055 ?_
        refine a_iload_n C 2 dX12_isNextRoster_16 rfl rfl ?_
        refine b_iald C (Int32.toNatClampNeg v3) dX12_isNextRoster_17 (by decide) rfl h.1 rfl ?_
        have h := h.2
        refine a_topi (fun x1 ex1 => ?_)
        have h := h x1 ex1
        refine a_istore C [(4, .int x1), (0, .ref (eA V 48)), (1, .int v1), (3, .int v3)] dX12_isNextRoster_18 (by decide) rfl ?_
        refine a_iload C 0 dX12_isNextRoster_20 rfl ?_
        refine a_if_lt C 36 dX12_isNextRoster_22 (by decide) (fun c11 => ?_) (fun c11 => ?_)
        · have h := h.1 c11
          refine a_sub [1, 2, 3, 0] rfl ?_
          refine tj_X12_isNextRoster_36 C ih _ _ _ _ h
        · have h := h.2 c11
          refine a_aload_n C 1 dX12_isNextRoster_25 rfl rfl ?_
          refine a_getr C 35 (r := 67) dX12_isNextRoster_26 (by decide) rfl rfl rfl ib_12 (by decide) bw_1057 ?_
          refine a_iload C 0 dX12_isNextRoster_29 rfl ?_
          refine a_dup2 C dX12_isNextRoster_31 rfl rfl ?_
          refine b_iald C (Int32.toNatClampNeg x1) dX12_isNextRoster_32 (by decide) rfl h.1 rfl ?_
          have h := h.2
          refine a_iconst C 1 dX12_isNextRoster_33 (by decide) ?_
          refine a_isub C dX12_isNextRoster_34 ?_
          refine b_iast C (Int32.toNatClampNeg x1) dX12_isNextRoster_35 (by decide) rfl h.1 rfl ?_
          have h := h.2
          refine a_sub [1, 2, 3, 0] rfl ?_
          refine tj_X12_isNextRoster_36 C ih _ _ _ _ h
set_option maxHeartbeats 4000000 in
set_option maxRecDepth 100000 in
theorem tj_X12_isNextRoster_134 {p : Program} {l : Launch} {e : Env} {s : State} {m : MethodId} {args : Array Value} {below : List Frame} {meth : Method} {c : Code} {V : VEn} {post : Int32 → PoS → Prop} (C : CxS p s m args meth c V cX12_isNextRoster 5 RX12 (some .boolean)) (v3 : Int32) (u : PoS) (h : wj_X12_isNextRoster_134 post v3 u) : AtS p l e (Rm 1) s m args below meth c V 5 0 0 (QI V below args s post) 134 [(3, .int v3)] [] u := by
  rw [wj_X12_isNextRoster_134] at h
  refine a_iload_n C 0 dX12_isNextRoster_134 rfl rfl ?_
  refine a_if_lt C 142 dX12_isNextRoster_135 (by decide) (fun c15 => ?_) (fun c15 => ?_)
  · have h := h.1 c15
    refine a_iconst C 0 dX12_isNextRoster_142 (by decide) ?_
    exact a_zret C rfl dX12_isNextRoster_143 h
  · have h := h.2 c15
    refine a_iconst C 1 dX12_isNextRoster_138 (by decide) ?_
    refine a_goto C 143 dX12_isNextRoster_139 (by decide) ?_
    exact a_zret C rfl dX12_isNextRoster_143 h
theorem np_X12_isNextRoster : yX12_isNextRoster.cls ≠ "java/lang/invoke/MethodHandle" ∧ yX12_isNextRoster.cls ≠ "java/lang/invoke/VarHandle" ∧ (parseMethodDescriptor yX12_isNextRoster.desc).map (fun d => d.parameters.length) = some 2 := by decide +kernel
set_option maxHeartbeats 4000000 in
set_option maxRecDepth 100000 in
theorem m_X12_isNextRoster (l : Launch) (V : VEn) {a0 : Int32} {a1 : Int32} {u : PoS} {post : Int32 → PoS → Prop} (h : wp_X12_isNextRoster a0 a1 u post) : KI l V yX12_isNextRoster cX12_isNextRoster 5 .boolean 1 [.ref (eA V 48), .int a0, .int a1] u post := by
  refine KI_of (by decide) (Nat.le_of_ble_eq_true rfl) (lv := [(0, .ref (eA V 48)), (1, .int a0), (2, .int a1)]) rfl ?_
  intro p e s m args below meth c C
  rw [wp_X12_isNextRoster] at h
  refine a_iload_n C 2 dX12_isNextRoster_0 rfl rfl ?_
  refine a_istore_n C [(3, .int a1), (0, .ref (eA V 48)), (1, .int a0), (2, .int a1)] dX12_isNextRoster_1 rfl (by decide) rfl ?_
  refine a_sub [1, 2, 0] rfl ?_
  obtain ⟨n2, h⟩ := h
  refine tl_X12_isNextRoster_2 C (fun v314 u14 h => ?_) n2 _ _ _ h
  refine tj_X12_isNextRoster_134 C _ _ h

/-! RainOnTheOneModel.layRoster(I)I -/
def wl_X12_layRoster_2 (k20 : Int32 → PoS → Prop) (post : Int32 → PoS → Prop) : Nat → Int32 → Int32 → PoS → Prop
  | 0, _, _, _ => False
  | n + 1, v1, v2, u => ((5 ≤ v2 → k20 v1 u) ∧ (¬ 5 ≤ v2 → vp_in v2 5 ∧ wl_X12_layRoster_2 k20 post n v1 (v2 + 1) (pI u 67 (Int32.toNatClampNeg v2) 0)))
def wl_X12_layRoster_22 (k41 : Int32 → PoS → Prop) (post : Int32 → PoS → Prop) : Nat → Int32 → Int32 → PoS → Prop
  | 0, _, _, _ => False
  | n + 1, v1, v2, u => ((7 ≤ v2 → k41 v1 u) ∧ (¬ 7 ≤ v2 → vp_in v2 7 ∧ wl_X12_layRoster_22 k41 post n v1 (v2 + 1) (pI u 65 (Int32.toNatClampNeg v2) (-1))))
def wl_X12_layRoster_62 (k102 : Int32 → Int32 → Int32 → PoS → Prop) (post : Int32 → PoS → Prop) : Nat → Int32 → Int32 → Int32 → Int32 → PoS → Prop
  | 0, _, _, _, _, _ => False
  | n + 1, v1, v2, v4, v5, u => ((7 ≤ v5 → k102 v1 v2 v4 u) ∧ (¬ 7 ≤ v5 → vp_in v5 7 ∧ vp_in ((130 + (7 * (gI u 65 (Int32.toNatClampNeg v5)))) + v5) 3703 ∧ ∀ x7 : Int32, x7 = (v4 + (gI u 49 (Int32.toNatClampNeg ((130 + (7 * (gI u 65 (Int32.toNatClampNeg v5)))) + v5)))) → wl_X12_layRoster_62 k102 post n v1 v2 x7 (v5 + 1) u))
def wj_X12_layRoster_141 (k52 : Int32 → Int32 → Int32 → PoS → Prop) (post : Int32 → PoS → Prop) (v1 : Int32) (v2 : Int32) (u : PoS) : Prop := wp_X12_isNextRoster v1 6 u (fun (r10 : Int32) (u11 : PoS) => k52 v1 v2 r10 u11)
def wl_X12_layRoster_114 (k141 : Int32 → Int32 → PoS → Prop) (post : Int32 → PoS → Prop) : Nat → Int32 → Int32 → Int32 → PoS → Prop
  | 0, _, _, _, _ => False
  | n + 1, v1, v2, v5, u => ((7 ≤ v5 → k141 v1 v2 u) ∧ (¬ 7 ≤ v5 → vp_in v5 7 ∧ vp_in v5 7 ∧ wl_X12_layRoster_114 k141 post n v1 v2 (v5 + 1) (pI u 66 (Int32.toNatClampNeg v5) (gI u 65 (Int32.toNatClampNeg v5)))))
def wl_X12_layRoster_52 (k152 : Int32 → PoS → Prop) (post : Int32 → PoS → Prop) : Nat → Int32 → Int32 → Int32 → PoS → Prop
  | 0, _, _, _, _ => False
  | n + 1, v1, v2, v3, u => ((v3 = 0 → k152 v2 u) ∧ (¬ v3 = 0 → (∃ n62, wl_X12_layRoster_62 (fun (v19 : Int32) (v29 : Int32) (v49 : Int32) (u9 : PoS) => ((v29 ≤ v49 → wj_X12_layRoster_141 (wl_X12_layRoster_52 k152 post n) post v19 v29 u9) ∧ (¬ v29 ≤ v49 → (∃ n114, wl_X12_layRoster_114 (fun (v113 : Int32) (v213 : Int32) (u13 : PoS) => wj_X12_layRoster_141 (wl_X12_layRoster_52 k152 post n) post v113 v213 u13) post n114 v19 v49 0 u9)))) post n62 v1 v2 0 0 u)))
def wp_X12_layRoster (a0 : Int32) (u : PoS) (post : Int32 → PoS → Prop) : Prop := (∃ n2, wl_X12_layRoster_2 (fun (v12 : Int32) (u2 : PoS) => (∃ n22, wl_X12_layRoster_22 (fun (v14 : Int32) (u4 : PoS) => wp_X12_isNextRoster v14 0 u4 (fun (r5 : Int32) (u6 : PoS) => (∃ n52, wl_X12_layRoster_52 (fun (v216 : Int32) (u16 : PoS) => ((¬ v216 = 1000000 → post v216 u16) ∧ (v216 = 1000000 → post (-1) u16))) post n52 v14 1000000 r5 u6))) post n22 v12 0 u2)) post n2 a0 0 u)
set_option maxHeartbeats 4000000 in
set_option maxRecDepth 100000 in
theorem tl_X12_layRoster_2 {p : Program} {l : Launch} {e : Env} {s : State} {m : MethodId} {args : Array Value} {below : List Frame} {meth : Method} {c : Code} {V : VEn} {k20 : Int32 → PoS → Prop} {post : Int32 → PoS → Prop} (C : CxS p s m args meth c V cX12_layRoster 6 RX12 (some .int)) (hk20 : ∀ (v1 : Int32) (u : PoS), k20 v1 u → AtS p l e (Rm 2) s m args below meth c V 6 0 0 (QI V below args s post) 20 [(0, .ref (eA V 48)), (1, .int v1)] [] u) : ∀ (n : Nat) (v1 : Int32) (v2 : Int32) (u : PoS), wl_X12_layRoster_2 k20 post n v1 v2 u → AtS p l e (Rm 2) s m args below meth c V 6 0 0 (QI V below args s post) 2 [(0, .ref (eA V 48)), (1, .int v1), (2, .int v2)] [] u := by
  intro n
  induction n with
  | zero => intro v1 v2 u h; exact h.elim
  | succ n ih =>
    intro v1 v2 u h
    rw [wl_X12_layRoster_2] at h
    refine a_iload_n C 2 dX12_layRoster_2 rfl rfl ?_
    refine a_iconst C 5 dX12_layRoster_3 (by decide) ?_
    refine a_icmp_ge C 20 dX12_layRoster_4 (by decide) (fun c1 => ?_) (fun c1 => ?_)
    · have h := h.1 c1
      refine a_sub [0, 1] rfl ?_
      exact hk20 _ _ h
    · have h := h.2 c1
      refine a_aload_n C 0 dX12_layRoster_7 rfl rfl ?_
      refine a_getr C 35 (r := 67) dX12_layRoster_8 (by decide) rfl rfl rfl ib_12 (by decide) bw_1057 ?_
      refine a_iload_n C 2 dX12_layRoster_11 rfl rfl ?_
      refine a_iconst C 0 dX12_layRoster_12 (by decide) ?_
      refine b_iast C (Int32.toNatClampNeg v2) dX12_layRoster_13 (by decide) rfl h.1 rfl ?_
      have h := h.2
      refine a_iinc C (v2 + 1) 2 [(2, .int (v2 + 1)), (0, .ref (eA V 48)), (1, .int v1)] dX12_layRoster_14 rfl (congrArg (fun z => v2 + z) (show Int32.ofInt 1 = 1 by decide)) (by decide) rfl ?_
      refine a_goto C 2 dX12_layRoster_17 (by decide) ?_
      refine a_sub [1, 2, 0] rfl ?_
      exact ih _ _ _ h
set_option maxHeartbeats 4000000 in
set_option maxRecDepth 100000 in
theorem tl_X12_layRoster_22 {p : Program} {l : Launch} {e : Env} {s : State} {m : MethodId} {args : Array Value} {below : List Frame} {meth : Method} {c : Code} {V : VEn} {k41 : Int32 → PoS → Prop} {post : Int32 → PoS → Prop} (C : CxS p s m args meth c V cX12_layRoster 6 RX12 (some .int)) (hk41 : ∀ (v1 : Int32) (u : PoS), k41 v1 u → AtS p l e (Rm 2) s m args below meth c V 6 0 0 (QI V below args s post) 41 [(0, .ref (eA V 48)), (1, .int v1)] [] u) : ∀ (n : Nat) (v1 : Int32) (v2 : Int32) (u : PoS), wl_X12_layRoster_22 k41 post n v1 v2 u → AtS p l e (Rm 2) s m args below meth c V 6 0 0 (QI V below args s post) 22 [(0, .ref (eA V 48)), (1, .int v1), (2, .int v2)] [] u := by
  intro n
  induction n with
  | zero => intro v1 v2 u h; exact h.elim
  | succ n ih =>
    intro v1 v2 u h
    rw [wl_X12_layRoster_22] at h
    refine a_iload_n C 2 dX12_layRoster_22 rfl rfl ?_
    refine a_bipush C 7 dX12_layRoster_23 (by decide) ?_
    refine a_icmp_ge C 41 dX12_layRoster_25 (by decide) (fun c3 => ?_) (fun c3 => ?_)
    · have h := h.1 c3
      refine a_sub [0, 1] rfl ?_
      exact hk41 _ _ h
    · have h := h.2 c3
      refine a_aload_n C 0 dX12_layRoster_28 rfl rfl ?_
      refine a_getr C 33 (r := 65) dX12_layRoster_29 (by decide) rfl rfl rfl ib_12 (by decide) bw_1055 ?_
      refine a_iload_n C 2 dX12_layRoster_32 rfl rfl ?_
      refine a_iconst C (-1) dX12_layRoster_33 (by decide) ?_
      refine b_iast C (Int32.toNatClampNeg v2) dX12_layRoster_34 (by decide) rfl h.1 rfl ?_
      have h := h.2
      refine a_iinc C (v2 + 1) 2 [(2, .int (v2 + 1)), (0, .ref (eA V 48)), (1, .int v1)] dX12_layRoster_35 rfl (congrArg (fun z => v2 + z) (show Int32.ofInt 1 = 1 by decide)) (by decide) rfl ?_
      refine a_goto C 22 dX12_layRoster_38 (by decide) ?_
      refine a_sub [1, 2, 0] rfl ?_
      exact ih _ _ _ h
set_option maxHeartbeats 4000000 in
set_option maxRecDepth 100000 in
theorem tl_X12_layRoster_62 {p : Program} {l : Launch} {e : Env} {s : State} {m : MethodId} {args : Array Value} {below : List Frame} {meth : Method} {c : Code} {V : VEn} {k102 : Int32 → Int32 → Int32 → PoS → Prop} {post : Int32 → PoS → Prop} (C : CxS p s m args meth c V cX12_layRoster 6 RX12 (some .int)) (hk102 : ∀ (v1 : Int32) (v2 : Int32) (v4 : Int32) (u : PoS), k102 v1 v2 v4 u → AtS p l e (Rm 2) s m args below meth c V 6 0 0 (QI V below args s post) 102 [(0, .ref (eA V 48)), (1, .int v1), (2, .int v2), (4, .int v4)] [] u) : ∀ (n : Nat) (v1 : Int32) (v2 : Int32) (v4 : Int32) (v5 : Int32) (u : PoS), wl_X12_layRoster_62 k102 post n v1 v2 v4 v5 u → AtS p l e (Rm 2) s m args below meth c V 6 0 0 (QI V below args s post) 62 [(0, .ref (eA V 48)), (1, .int v1), (2, .int v2), (4, .int v4), (5, .int v5)] [] u := by
  intro n
  induction n with
  | zero => intro v1 v2 v4 v5 u h; exact h.elim
  | succ n ih =>
    intro v1 v2 v4 v5 u h
    rw [wl_X12_layRoster_62] at h
    refine a_iload C 4 dX12_layRoster_62 rfl ?_
    refine a_bipush C 7 dX12_layRoster_64 (by decide) ?_
    refine a_icmp_ge C 102 dX12_layRoster_66 (by decide) (fun c8 => ?_) (fun c8 => ?_)
    · have h := h.1 c8
      refine a_sub [0, 1, 2, 3] rfl ?_
      exact hk102 _ _ _ _ h
    · have h := h.2 c8
      refine a_iload C 3 dX12_layRoster_69 rfl ?_
      refine a_aload_n C 0 dX12_layRoster_71 rfl rfl ?_
      refine a_getr C 0 (r := 49) dX12_layRoster_72 (by decide) rfl rfl rfl ib_12 (by decide) bw_1022 ?_
      refine a_sipush C 130 dX12_layRoster_75 (by decide) ?_
      refine a_bipush C 7 dX12_layRoster_78 (by decide) ?_
      refine a_aload_n C 0 dX12_layRoster_80 rfl rfl ?_
      refine a_getr C 33 (r := 65) dX12_layRoster_81 (by decide) rfl rfl rfl ib_12 (by decide) bw_1055 ?_
      refine a_iload C 4 dX12_layRoster_84 rfl ?_
      refine b_iald C (Int32.toNatClampNeg v5) dX12_layRoster_86 (by decide) rfl h.1 rfl ?_
      have h := h.2
      refine a_imul C dX12_layRoster_87 ?_
      refine a_iadd C dX12_layRoster_88 ?_
      refine a_iload C 4 dX12_layRoster_89 rfl ?_
      refine a_iadd C dX12_layRoster_91 ?_
      refine b_iald C (Int32.toNatClampNeg ((130 + (7 * (gI u 65 (Int32.toNatClampNeg v5)))) + v5)) dX12_layRoster_92 (by decide) rfl h.1 rfl ?_
      have h := h.2
      refine a_iadd C dX12_layRoster_93 ?_
      refine a_topi (fun x7 ex7 => ?_)
      have h := h x7 ex7
      refine a_istore C [(4, .int x7), (0, .ref (eA V 48)), (1, .int v1), (2, .int v2), (5, .int v5)] dX12_layRoster_94 (by decide) rfl ?_
      refine a_iinc C (v5 + 1) 4 [(5, .int (v5 + 1)), (4, .int x7), (0, .ref (eA V 48)), (1, .int v1), (2, .int v2)] dX12_layRoster_96 rfl (congrArg (fun z => v5 + z) (show Int32.ofInt 1 = 1 by decide)) (by decide) rfl ?_
      refine a_goto C 62 dX12_layRoster_99 (by decide) ?_
      refine a_sub [2, 3, 4, 1, 0] rfl ?_
      exact ih _ _ _ _ _ h
set_option maxHeartbeats 4000000 in
set_option maxRecDepth 100000 in
theorem tj_X12_layRoster_141 {p : Program} {l : Launch} {e : Env} {s : State} {m : MethodId} {args : Array Value} {below : List Frame} {meth : Method} {c : Code} {V : VEn} {k52 : Int32 → Int32 → Int32 → PoS → Prop} {post : Int32 → PoS → Prop} (C : CxS p s m args meth c V cX12_layRoster 6 RX12 (some .int)) (hk52 : ∀ (v1 : Int32) (v2 : Int32) (v3 : Int32) (u : PoS), k52 v1 v2 v3 u → AtS p l e (Rm 2) s m args below meth c V 6 0 0 (QI V below args s post) 52 [(0, .ref (eA V 48)), (1, .int v1), (2, .int v2), (3, .int v3)] [] u) (v1 : Int32) (v2 : Int32) (u : PoS) (h : wj_X12_layRoster_141 k52 post v1 v2 u) : AtS p l e (Rm 2) s m args below meth c V 6 0 0 (QI V below args s post) 141 [(0, .ref (eA V 48)), (1, .int v1), (2, .int v2)] [] u := by
  rw [wj_X12_layRoster_141] at h
  refine a_aload_n C 0 dX12_layRoster_141 rfl rfl ?_
  refine a_iload_n C 1 dX12_layRoster_142 rfl rfl ?_
  refine a_bipush C 6 dX12_layRoster_143 (by decide) ?_
  refine a_callVi C dX12_layRoster_145 (m_X12_isNextRoster l V h) bw_1652 bw_1654 bw_107 bw_123 bw_1655 (by decide) rfl rfl np_X12_isNextRoster rfl rfl (by decide) (Nat.le_of_ble_eq_true rfl) ⟨Nat.zero_le _, Nat.zero_le _⟩ (fun r10 u11 h => ?_)
  refine a_istore_n C [(3, .int r10), (0, .ref (eA V 48)), (1, .int v1), (2, .int v2)] dX12_layRoster_148 rfl (by decide) rfl ?_
  refine a_goto C 52 dX12_layRoster_149 (by decide) ?_
  refine a_sub [1, 2, 3, 0] rfl ?_
  exact hk52 _ _ _ _ h
set_option maxHeartbeats 4000000 in
set_option maxRecDepth 100000 in
theorem tl_X12_layRoster_114 {p : Program} {l : Launch} {e : Env} {s : State} {m : MethodId} {args : Array Value} {below : List Frame} {meth : Method} {c : Code} {V : VEn} {k141 : Int32 → Int32 → PoS → Prop} {post : Int32 → PoS → Prop} (C : CxS p s m args meth c V cX12_layRoster 6 RX12 (some .int)) (hk141 : ∀ (v1 : Int32) (v2 : Int32) (u : PoS), k141 v1 v2 u → AtS p l e (Rm 2) s m args below meth c V 6 0 0 (QI V below args s post) 141 [(0, .ref (eA V 48)), (1, .int v1), (2, .int v2)] [] u) : ∀ (n : Nat) (v1 : Int32) (v2 : Int32) (v5 : Int32) (u : PoS), wl_X12_layRoster_114 k141 post n v1 v2 v5 u → AtS p l e (Rm 2) s m args below meth c V 6 0 0 (QI V below args s post) 114 [(0, .ref (eA V 48)), (1, .int v1), (2, .int v2), (5, .int v5)] [] u := by
  intro n
  induction n with
  | zero => intro v1 v2 v5 u h; exact h.elim
  | succ n ih =>
    intro v1 v2 v5 u h
    rw [wl_X12_layRoster_114] at h
    refine a_iload C 3 dX12_layRoster_114 rfl ?_
    refine a_bipush C 7 dX12_layRoster_116 (by decide) ?_
    refine a_icmp_ge C 141 dX12_layRoster_118 (by decide) (fun c12 => ?_) (fun c12 => ?_)
    · have h := h.1 c12
      refine a_sub [0, 1, 2] rfl ?_
      exact hk141 _ _ _ h
    · have h := h.2 c12
      refine a_aload_n C 0 dX12_layRoster_121 rfl rfl ?_
      refine a_getr C 34 (r := 66) dX12_layRoster_122 (by decide) rfl rfl rfl ib_12 (by decide) bw_1056 ?_
      refine a_iload C 3 dX12_layRoster_125 rfl ?_
      refine a_aload_n C 0 dX12_layRoster_127 rfl rfl ?_
      refine a_getr C 33 (r := 65) dX12_layRoster_128 (by decide) rfl rfl rfl ib_12 (by decide) bw_1055 ?_
      refine a_iload C 3 dX12_layRoster_131 rfl ?_
      refine b_iald C (Int32.toNatClampNeg v5) dX12_layRoster_133 (by decide) rfl h.1 rfl ?_
      have h := h.2
      refine b_iast C (Int32.toNatClampNeg v5) dX12_layRoster_134 (by decide) rfl h.1 rfl ?_
      have h := h.2
      refine a_iinc C (v5 + 1) 3 [(5, .int (v5 + 1)), (0, .ref (eA V 48)), (1, .int v1), (2, .int v2)] dX12_layRoster_135 rfl (congrArg (fun z => v5 + z) (show Int32.ofInt 1 = 1 by decide)) (by decide) rfl ?_
      refine a_goto C 114 dX12_layRoster_138 (by decide) ?_
      refine a_sub [1, 2, 3, 0] rfl ?_
      exact ih _ _ _ _ h
set_option maxHeartbeats 4000000 in
set_option maxRecDepth 100000 in
theorem tl_X12_layRoster_52 {p : Program} {l : Launch} {e : Env} {s : State} {m : MethodId} {args : Array Value} {below : List Frame} {meth : Method} {c : Code} {V : VEn} {k152 : Int32 → PoS → Prop} {post : Int32 → PoS → Prop} (C : CxS p s m args meth c V cX12_layRoster 6 RX12 (some .int)) (hk152 : ∀ (v2 : Int32) (u : PoS), k152 v2 u → AtS p l e (Rm 2) s m args below meth c V 6 0 0 (QI V below args s post) 152 [(2, .int v2)] [] u) : ∀ (n : Nat) (v1 : Int32) (v2 : Int32) (v3 : Int32) (u : PoS), wl_X12_layRoster_52 k152 post n v1 v2 v3 u → AtS p l e (Rm 2) s m args below meth c V 6 0 0 (QI V below args s post) 52 [(0, .ref (eA V 48)), (1, .int v1), (2, .int v2), (3, .int v3)] [] u := by
  intro n
  induction n with
  | zero => intro v1 v2 v3 u h; exact h.elim
  | succ n ih =>
    intro v1 v2 v3 u h
    rw [wl_X12_layRoster_52] at h
    refine a_iload_n C 3 dX12_layRoster_52 rfl rfl ?_
    refine a_if_eq C 152 dX12_layRoster_53 (by decide) (fun c15 => ?_) (fun c15 => ?_)
    · have h := h.1 c15
      refine a_sub [2] rfl ?_
      exact hk152 _ _ h
    · have h := h.2 c15
      refine a_iconst C 0 dX12_layRoster_56 (by decide) ?_
      refine a_istore C [(4, .int 0), (0, .ref (eA V 48)), (1, .int v1), (2, .int v2), (3, .int v3)] dX12_layRoster_57 (by decide) rfl ?_
      refine a_iconst C 0 dX12_layRoster_59 (by decide) ?_
      refine a_istore C [(5, .int 0), (4, .int 0), (0, .ref (eA V 48)), (1, .int v1), (2, .int v2), (3, .int v3)] dX12_layRoster_60 (by decide) rfl ?_
      refine a_sub [2, 3, 4, 1, 0] rfl ?_
      obtain ⟨n62, h⟩ := h
      refine tl_X12_layRoster_62 C (fun v19 v29 v49 u9 h => ?_) n62 _ _ _ _ _ h
      refine a_iload C 3 dX12_layRoster_102 rfl ?_
      refine a_iload_n C 2 dX12_layRoster_104 rfl rfl ?_
      refine a_icmp_ge C 141 dX12_layRoster_105 (by decide) (fun c14 => ?_) (fun c14 => ?_)
      · have h := h.1 c14
        refine a_sub [0, 1, 2] rfl ?_
        refine tj_X12_layRoster_141 C ih _ _ _ h
      · have h := h.2 c14
        refine a_iload C 3 dX12_layRoster_108 rfl ?_
        refine a_istore_n C [(2, .int v49), (0, .ref (eA V 48)), (1, .int v19), (4, .int v49)] dX12_layRoster_110 rfl (by decide) rfl ?_
        refine a_iconst C 0 dX12_layRoster_111 (by decide) ?_
        refine a_istore C [(5, .int 0), (2, .int v49), (0, .ref (eA V 48)), (1, .int v19), (4, .int v49)] dX12_layRoster_112 (by decide) rfl ?_
        refine a_sub [2, 3, 1, 0] rfl ?_
        obtain ⟨n114, h⟩ := h
        refine tl_X12_layRoster_114 C (fun v113 v213 u13 h => ?_) n114 _ _ _ _ h
        refine tj_X12_layRoster_141 C ih _ _ _ h
theorem np_X12_layRoster : yX12_layRoster.cls ≠ "java/lang/invoke/MethodHandle" ∧ yX12_layRoster.cls ≠ "java/lang/invoke/VarHandle" ∧ (parseMethodDescriptor yX12_layRoster.desc).map (fun d => d.parameters.length) = some 1 := by decide +kernel
set_option maxHeartbeats 4000000 in
set_option maxRecDepth 100000 in
theorem m_X12_layRoster (l : Launch) (V : VEn) {a0 : Int32} {u : PoS} {post : Int32 → PoS → Prop} (h : wp_X12_layRoster a0 u post) : KI l V yX12_layRoster cX12_layRoster 6 .int 2 [.ref (eA V 48), .int a0] u post := by
  refine KI_of (by decide) (Nat.le_of_ble_eq_true rfl) (lv := [(0, .ref (eA V 48)), (1, .int a0)]) rfl ?_
  intro p e s m args below meth c C
  rw [wp_X12_layRoster] at h
  refine a_iconst C 0 dX12_layRoster_0 (by decide) ?_
  refine a_istore_n C [(2, .int 0), (0, .ref (eA V 48)), (1, .int a0)] dX12_layRoster_1 rfl (by decide) rfl ?_
  refine a_sub [1, 2, 0] rfl ?_
  obtain ⟨n2, h⟩ := h
  refine tl_X12_layRoster_2 C (fun v12 u2 h => ?_) n2 _ _ _ h
  refine a_iconst C 0 dX12_layRoster_20 (by decide) ?_
  refine a_istore_n C [(2, .int 0), (0, .ref (eA V 48)), (1, .int v12)] dX12_layRoster_21 rfl (by decide) rfl ?_
  refine a_sub [1, 2, 0] rfl ?_
  obtain ⟨n22, h⟩ := h
  refine tl_X12_layRoster_22 C (fun v14 u4 h => ?_) n22 _ _ _ h
  refine a_ldcw C dX12_layRoster_41 bw_1578 ?_
  refine a_istore_n C [(2, .int 1000000), (0, .ref (eA V 48)), (1, .int v14)] dX12_layRoster_44 rfl (by decide) rfl ?_
  refine a_aload_n C 1 dX12_layRoster_45 rfl rfl ?_
  refine a_iload_n C 2 dX12_layRoster_46 rfl rfl ?_
  refine a_iconst C 0 dX12_layRoster_47 (by decide) ?_
  refine a_callVi C dX12_layRoster_48 (m_X12_isNextRoster l V h) bw_1652 bw_1654 bw_107 bw_123 bw_1655 (by decide) rfl rfl np_X12_isNextRoster rfl rfl (by decide) (Nat.le_of_ble_eq_true rfl) ⟨Nat.zero_le _, Nat.zero_le _⟩ (fun r5 u6 h => ?_)
  refine a_istore_n C [(3, .int r5), (2, .int 1000000), (0, .ref (eA V 48)), (1, .int v14)] dX12_layRoster_51 rfl (by decide) rfl ?_
  refine a_sub [2, 3, 1, 0] rfl ?_
  obtain ⟨n52, h⟩ := h
  refine tl_X12_layRoster_52 C (fun v216 u16 h => ?_) n52 _ _ _ _ h
  refine a_iload_n C 0 dX12_layRoster_152 rfl rfl ?_
  refine a_ldcw C dX12_layRoster_153 bw_1578 ?_
  refine a_icmp_ne C 163 dX12_layRoster_156 (by decide) (fun c17 => ?_) (fun c17 => ?_)
  · have h := h.1 c17
    refine a_iload_n C 0 dX12_layRoster_163 rfl rfl ?_
    exact a_iret C dX12_layRoster_164 h
  · have h := h.2 c17
    refine a_iconst C (-1) dX12_layRoster_159 (by decide) ?_
    refine a_goto C 164 dX12_layRoster_160 (by decide) ?_
    exact a_iret C dX12_layRoster_164 h

/-! RainOnTheOneModel.roster(II)I -/
def wp_X12_roster (a0 : Int32) (a1 : Int32) (u : PoS) (post : Int32 → PoS → Prop) : Prop := wp_X12_isIn a0 1 7 u (fun (r1 : Int32) (u2 : PoS) => ((r1 = 0 → post (-1) u2) ∧ (¬ r1 = 0 → wp_X12_isIn a1 (-1) 6 u2 (fun (r3 : Int32) (u4 : PoS) => ((¬ r3 = 0 → wp_X12_layRoster a0 u4 (fun (r5 : Int32) (u6 : PoS) => ((¬ r5 = (-1) → ((¬ a1 = (-1) → vp_in a1 7 ∧ post (gI u6 66 (Int32.toNatClampNeg a1)) u6) ∧ (a1 = (-1) → post r5 u6))) ∧ (r5 = (-1) → post (-1) u6)))) ∧ (r3 = 0 → post (-1) u4))))))
theorem np_X12_roster : yX12_roster.cls ≠ "java/lang/invoke/MethodHandle" ∧ yX12_roster.cls ≠ "java/lang/invoke/VarHandle" ∧ (parseMethodDescriptor yX12_roster.desc).map (fun d => d.parameters.length) = some 2 := by decide +kernel
set_option maxHeartbeats 4000000 in
set_option maxRecDepth 100000 in
theorem m_X12_roster (l : Launch) (V : VEn) {a0 : Int32} {a1 : Int32} {u : PoS} {post : Int32 → PoS → Prop} (h : wp_X12_roster a0 a1 u post) : KI l V yX12_roster cX12_roster 4 .int 3 [.ref (eA V 48), .int a0, .int a1] u post := by
  refine KI_of (by decide) (Nat.le_of_ble_eq_true rfl) (lv := [(0, .ref (eA V 48)), (1, .int a0), (2, .int a1)]) rfl ?_
  intro p e s m args below meth c C
  rw [wp_X12_roster] at h
  refine a_iload_n C 1 dX12_roster_0 rfl rfl ?_
  refine a_iconst C 1 dX12_roster_1 (by decide) ?_
  refine a_bipush C 7 dX12_roster_2 (by decide) ?_
  refine a_callSi C dX12_roster_4 (m_X12_isIn l V h) bw_1147 bw_1148 bw_123 bw_1149 np_X12_isIn rfl rfl (by decide) (Nat.le_of_ble_eq_true rfl) ⟨Nat.zero_le _, Nat.zero_le _⟩ (fun r1 u2 h => ?_)
  refine a_if_eq C 20 dX12_roster_7 (by decide) (fun c10 => ?_) (fun c10 => ?_)
  · have h := h.1 c10
    refine a_iconst C (-1) dX12_roster_20 (by decide) ?_
    exact a_iret C dX12_roster_21 h
  · have h := h.2 c10
    refine a_iload_n C 2 dX12_roster_10 rfl rfl ?_
    refine a_iconst C (-1) dX12_roster_11 (by decide) ?_
    refine a_bipush C 6 dX12_roster_12 (by decide) ?_
    refine a_callSi C dX12_roster_14 (m_X12_isIn l V h) bw_1147 bw_1148 bw_123 bw_1149 np_X12_isIn rfl rfl (by decide) (Nat.le_of_ble_eq_true rfl) ⟨Nat.zero_le _, Nat.zero_le _⟩ (fun r3 u4 h => ?_)
    refine a_if_ne C 22 dX12_roster_17 (by decide) (fun c9 => ?_) (fun c9 => ?_)
    · have h := h.1 c9
      refine a_aload_n C 0 dX12_roster_22 rfl rfl ?_
      refine a_iload_n C 1 dX12_roster_23 rfl rfl ?_
      refine a_callVi C dX12_roster_24 (m_X12_layRoster l V h) bw_1648 bw_1650 bw_106 bw_123 bw_1651 (by decide) rfl rfl np_X12_layRoster rfl rfl (by decide) (Nat.le_of_ble_eq_true rfl) ⟨Nat.zero_le _, Nat.zero_le _⟩ (fun r5 u6 h => ?_)
      refine a_istore_n C [(3, .int r5), (0, .ref (eA V 48)), (1, .int a0), (2, .int a1)] dX12_roster_27 rfl (by decide) rfl ?_
      refine a_iload_n C 0 dX12_roster_28 rfl rfl ?_
      refine a_iconst C (-1) dX12_roster_29 (by decide) ?_
      refine a_icmp_ne C 37 dX12_roster_30 (by decide) (fun c8 => ?_) (fun c8 => ?_)
      · have h := h.1 c8
        refine a_iload_n C 3 dX12_roster_37 rfl rfl ?_
        refine a_iconst C (-1) dX12_roster_38 (by decide) ?_
        refine a_icmp_ne C 46 dX12_roster_39 (by decide) (fun c7 => ?_) (fun c7 => ?_)
        · have h := h.1 c7
          refine a_aload_n C 1 dX12_roster_46 rfl rfl ?_
          refine a_getr C 34 (r := 66) dX12_roster_47 (by decide) rfl rfl rfl ib_12 (by decide) bw_1056 ?_
          refine a_iload_n C 3 dX12_roster_50 rfl rfl ?_
          refine b_iald C (Int32.toNatClampNeg a1) dX12_roster_51 (by decide) rfl h.1 rfl ?_
          have h := h.2
          exact a_iret C dX12_roster_52 h
        · have h := h.2 c7
          refine a_iload_n C 0 dX12_roster_42 rfl rfl ?_
          refine a_goto C 52 dX12_roster_43 (by decide) ?_
          exact a_iret C dX12_roster_52 h
      · have h := h.2 c8
        refine a_iconst C (-1) dX12_roster_33 (by decide) ?_
        refine a_goto C 52 dX12_roster_34 (by decide) ?_
        exact a_iret C dX12_roster_52 h
    · have h := h.2 c9
      refine a_iconst C (-1) dX12_roster_20 (by decide) ?_
      exact a_iret C dX12_roster_21 h

/-! RainOnTheOneModel.swap(III)I -/
def wp_X12_swap (a0 : Int32) (a1 : Int32) (a2 : Int32) (u : PoS) (post : Int32 → PoS → Prop) : Prop := wp_X12_isIn a0 1 7 u (fun (r1 : Int32) (u2 : PoS) => ((r1 = 0 → post (-10000) u2) ∧ (¬ r1 = 0 → wp_X12_isIn a1 0 6 u2 (fun (r3 : Int32) (u4 : PoS) => ((r3 = 0 → post (-10000) u4) ∧ (¬ r3 = 0 → wp_X12_isIn a2 0 6 u4 (fun (r5 : Int32) (u6 : PoS) => ((r5 = 0 → post (-10000) u6) ∧ (¬ r5 = 0 → ((a1 = a2 → post (-10000) u6) ∧ (¬ a1 = a2 → wp_X12_layRoster a0 u6 (fun (r7 : Int32) (u8 : PoS) => ((¬ r7 = (-1) → vp_in a1 7 ∧ ∀ x9 : Int32, x9 = (gI u8 66 (Int32.toNatClampNeg a1)) → vp_in a2 7 ∧ ∀ x10 : Int32, x10 = (gI u8 66 (Int32.toNatClampNeg a2)) → vp_in ((130 + (7 * x9)) + a1) 3703 ∧ vp_in ((130 + (7 * x10)) + a2) 3703 ∧ vp_in ((130 + (7 * x10)) + a1) 3703 ∧ vp_in ((130 + (7 * x9)) + a2) 3703 ∧ post ((((gI u8 49 (Int32.toNatClampNeg ((130 + (7 * x9)) + a1))) + (gI u8 49 (Int32.toNatClampNeg ((130 + (7 * x10)) + a2)))) - (gI u8 49 (Int32.toNatClampNeg ((130 + (7 * x10)) + a1)))) - (gI u8 49 (Int32.toNatClampNeg ((130 + (7 * x9)) + a2)))) u8) ∧ (r7 = (-1) → post (-10000) u8))))))))))))))
theorem np_X12_swap : yX12_swap.cls ≠ "java/lang/invoke/MethodHandle" ∧ yX12_swap.cls ≠ "java/lang/invoke/VarHandle" ∧ (parseMethodDescriptor yX12_swap.desc).map (fun d => d.parameters.length) = some 3 := by decide +kernel
set_option maxHeartbeats 4000000 in
set_option maxRecDepth 100000 in
theorem m_X12_swap (l : Launch) (V : VEn) {a0 : Int32} {a1 : Int32} {a2 : Int32} {u : PoS} {post : Int32 → PoS → Prop} (h : wp_X12_swap a0 a1 a2 u post) : KI l V yX12_swap cX12_swap 6 .int 3 [.ref (eA V 48), .int a0, .int a1, .int a2] u post := by
  refine KI_of (by decide) (Nat.le_of_ble_eq_true rfl) (lv := [(0, .ref (eA V 48)), (1, .int a0), (2, .int a1), (3, .int a2)]) rfl ?_
  intro p e s m args below meth c C
  rw [wp_X12_swap] at h
  refine a_iload_n C 1 dX12_swap_0 rfl rfl ?_
  refine a_iconst C 1 dX12_swap_1 (by decide) ?_
  refine a_bipush C 7 dX12_swap_2 (by decide) ?_
  refine a_callSi C dX12_swap_4 (m_X12_isIn l V h) bw_1147 bw_1148 bw_123 bw_1149 np_X12_isIn rfl rfl (by decide) (Nat.le_of_ble_eq_true rfl) ⟨Nat.zero_le _, Nat.zero_le _⟩ (fun r1 u2 h => ?_)
  refine a_if_eq C 44 dX12_swap_7 (by decide) (fun c15 => ?_) (fun c15 => ?_)
  · have h := h.1 c15
    refine a_sipush C (-10000) dX12_swap_44 (by decide) ?_
    exact a_iret C dX12_swap_47 h
  · have h := h.2 c15
    refine a_iload_n C 2 dX12_swap_10 rfl rfl ?_
    refine a_iconst C 0 dX12_swap_11 (by decide) ?_
    refine a_bipush C 6 dX12_swap_12 (by decide) ?_
    refine a_callSi C dX12_swap_14 (m_X12_isIn l V h) bw_1147 bw_1148 bw_123 bw_1149 np_X12_isIn rfl rfl (by decide) (Nat.le_of_ble_eq_true rfl) ⟨Nat.zero_le _, Nat.zero_le _⟩ (fun r3 u4 h => ?_)
    refine a_if_eq C 44 dX12_swap_17 (by decide) (fun c14 => ?_) (fun c14 => ?_)
    · have h := h.1 c14
      refine a_sipush C (-10000) dX12_swap_44 (by decide) ?_
      exact a_iret C dX12_swap_47 h
    · have h := h.2 c14
      refine a_iload_n C 3 dX12_swap_20 rfl rfl ?_
      refine a_iconst C 0 dX12_swap_21 (by decide) ?_
      refine a_bipush C 6 dX12_swap_22 (by decide) ?_
      refine a_callSi C dX12_swap_24 (m_X12_isIn l V h) bw_1147 bw_1148 bw_123 bw_1149 np_X12_isIn rfl rfl (by decide) (Nat.le_of_ble_eq_true rfl) ⟨Nat.zero_le _, Nat.zero_le _⟩ (fun r5 u6 h => ?_)
      refine a_if_eq C 44 dX12_swap_27 (by decide) (fun c13 => ?_) (fun c13 => ?_)
      · have h := h.1 c13
        refine a_sipush C (-10000) dX12_swap_44 (by decide) ?_
        exact a_iret C dX12_swap_47 h
      · have h := h.2 c13
        refine a_iload_n C 2 dX12_swap_30 rfl rfl ?_
        refine a_iload_n C 3 dX12_swap_31 rfl rfl ?_
        refine a_icmp_eq C 44 dX12_swap_32 (by decide) (fun c12 => ?_) (fun c12 => ?_)
        · have h := h.1 c12
          refine a_sipush C (-10000) dX12_swap_44 (by decide) ?_
          exact a_iret C dX12_swap_47 h
        · have h := h.2 c12
          refine a_aload_n C 0 dX12_swap_35 rfl rfl ?_
          refine a_iload_n C 1 dX12_swap_36 rfl rfl ?_
          refine a_callVi C dX12_swap_37 (m_X12_layRoster l V h) bw_1648 bw_1650 bw_106 bw_123 bw_1651 (by decide) rfl rfl np_X12_layRoster rfl rfl (by decide) (Nat.le_of_ble_eq_true rfl) ⟨Nat.zero_le _, Nat.zero_le _⟩ (fun r7 u8 h => ?_)
          refine a_iconst C (-1) dX12_swap_40 (by decide) ?_
          refine a_icmp_ne C 48 dX12_swap_41 (by decide) (fun c11 => ?_) (fun c11 => ?_)
          · have h := h.1 c11
            refine a_aload_n C 0 dX12_swap_48 rfl rfl ?_
            refine a_getr C 34 (r := 66) dX12_swap_49 (by decide) rfl rfl rfl ib_12 (by decide) bw_1056 ?_
            refine a_iload_n C 2 dX12_swap_52 rfl rfl ?_
            refine b_iald C (Int32.toNatClampNeg a1) dX12_swap_53 (by decide) rfl h.1 rfl ?_
            have h := h.2
            refine a_topi (fun x9 ex9 => ?_)
            have h := h x9 ex9
            refine a_istore C [(4, .int x9), (0, .ref (eA V 48)), (1, .int a0), (2, .int a1), (3, .int a2)] dX12_swap_54 (by decide) rfl ?_
            refine a_aload_n C 1 dX12_swap_56 rfl rfl ?_
            refine a_getr C 34 (r := 66) dX12_swap_57 (by decide) rfl rfl rfl ib_12 (by decide) bw_1056 ?_
            refine a_iload_n C 4 dX12_swap_60 rfl rfl ?_
            refine b_iald C (Int32.toNatClampNeg a2) dX12_swap_61 (by decide) rfl h.1 rfl ?_
            have h := h.2
            refine a_topi (fun x10 ex10 => ?_)
            have h := h x10 ex10
            refine a_istore C [(5, .int x10), (4, .int x9), (0, .ref (eA V 48)), (1, .int a0), (2, .int a1), (3, .int a2)] dX12_swap_62 (by decide) rfl ?_
            refine a_aload_n C 2 dX12_swap_64 rfl rfl ?_
            refine a_getr C 0 (r := 49) dX12_swap_65 (by decide) rfl rfl rfl ib_12 (by decide) bw_1022 ?_
            refine a_sipush C 130 dX12_swap_68 (by decide) ?_
            refine a_bipush C 7 dX12_swap_71 (by decide) ?_
            refine a_iload C 1 dX12_swap_73 rfl ?_
            refine a_imul C dX12_swap_75 ?_
            refine a_iadd C dX12_swap_76 ?_
            refine a_iload_n C 4 dX12_swap_77 rfl rfl ?_
            refine a_iadd C dX12_swap_78 ?_
            refine b_iald C (Int32.toNatClampNeg ((130 + (7 * x9)) + a1)) dX12_swap_79 (by decide) rfl h.1 rfl ?_
            have h := h.2
            refine a_aload_n C 2 dX12_swap_80 rfl rfl ?_
            refine a_getr C 0 (r := 49) dX12_swap_81 (by decide) rfl rfl rfl ib_12 (by decide) bw_1022 ?_
            refine a_sipush C 130 dX12_swap_84 (by decide) ?_
            refine a_bipush C 7 dX12_swap_87 (by decide) ?_
            refine a_iload C 0 dX12_swap_89 rfl ?_
            refine a_imul C dX12_swap_91 ?_
            refine a_iadd C dX12_swap_92 ?_
            refine a_iload_n C 5 dX12_swap_93 rfl rfl ?_
            refine a_iadd C dX12_swap_94 ?_
            refine b_iald C (Int32.toNatClampNeg ((130 + (7 * x10)) + a2)) dX12_swap_95 (by decide) rfl h.1 rfl ?_
            have h := h.2
            refine a_iadd C dX12_swap_96 ?_
            refine a_aload_n C 2 dX12_swap_97 rfl rfl ?_
            refine a_getr C 0 (r := 49) dX12_swap_98 (by decide) rfl rfl rfl ib_12 (by decide) bw_1022 ?_
            refine a_sipush C 130 dX12_swap_101 (by decide) ?_
            refine a_bipush C 7 dX12_swap_104 (by decide) ?_
            refine a_iload C 0 dX12_swap_106 rfl ?_
            refine a_imul C dX12_swap_108 ?_
            refine a_iadd C dX12_swap_109 ?_
            refine a_iload_n C 4 dX12_swap_110 rfl rfl ?_
            refine a_iadd C dX12_swap_111 ?_
            refine b_iald C (Int32.toNatClampNeg ((130 + (7 * x10)) + a1)) dX12_swap_112 (by decide) rfl h.1 rfl ?_
            have h := h.2
            refine a_isub C dX12_swap_113 ?_
            refine a_aload_n C 2 dX12_swap_114 rfl rfl ?_
            refine a_getr C 0 (r := 49) dX12_swap_115 (by decide) rfl rfl rfl ib_12 (by decide) bw_1022 ?_
            refine a_sipush C 130 dX12_swap_118 (by decide) ?_
            refine a_bipush C 7 dX12_swap_121 (by decide) ?_
            refine a_iload C 1 dX12_swap_123 rfl ?_
            refine a_imul C dX12_swap_125 ?_
            refine a_iadd C dX12_swap_126 ?_
            refine a_iload_n C 5 dX12_swap_127 rfl rfl ?_
            refine a_iadd C dX12_swap_128 ?_
            refine b_iald C (Int32.toNatClampNeg ((130 + (7 * x9)) + a2)) dX12_swap_129 (by decide) rfl h.1 rfl ?_
            have h := h.2
            refine a_isub C dX12_swap_130 ?_
            exact a_iret C dX12_swap_131 h
          · have h := h.2 c11
            refine a_sipush C (-10000) dX12_swap_44 (by decide) ?_
            exact a_iret C dX12_swap_47 h

/-! RainOnTheOneModel.seen(II)I -/
def wp_X12_seen (a0 : Int32) (a1 : Int32) (u : PoS) (post : Int32 → PoS → Prop) : Prop := ((¬ a0 = (-1) → wp_X12_isCell a0 u (fun (r1 : Int32) (u2 : PoS) => ((r1 = 0 → post (-2) u2) ∧ (¬ r1 = 0 → wp_X12_isIn a1 0 30 u2 (fun (r3 : Int32) (u4 : PoS) => ((r3 = 0 → post (-2) u4) ∧ (¬ r3 = 0 → ((¬ (gI u4 49 4) = 6 → vp_in (165 + (2 * (gI u4 49 4))) 3703 ∧ vp_in ((165 + (2 * (gI (pI u4 49 (Int32.toNatClampNeg (165 + (2 * (gI u4 49 4)))) a0) 49 4))) + 1) 3703 ∧ post (gI (pI (pI (pI u4 49 (Int32.toNatClampNeg (165 + (2 * (gI u4 49 4)))) a0) 49 (Int32.toNatClampNeg ((165 + (2 * (gI (pI u4 49 (Int32.toNatClampNeg (165 + (2 * (gI u4 49 4)))) a0) 49 4))) + 1)) a1) 49 4 ((gI (pI (pI u4 49 (Int32.toNatClampNeg (165 + (2 * (gI u4 49 4)))) a0) 49 (Int32.toNatClampNeg ((165 + (2 * (gI (pI u4 49 (Int32.toNatClampNeg (165 + (2 * (gI u4 49 4)))) a0) 49 4))) + 1)) a1) 49 4) + 1)) 49 4) (pI (pI (pI u4 49 (Int32.toNatClampNeg (165 + (2 * (gI u4 49 4)))) a0) 49 (Int32.toNatClampNeg ((165 + (2 * (gI (pI u4 49 (Int32.toNatClampNeg (165 + (2 * (gI u4 49 4)))) a0) 49 4))) + 1)) a1) 49 4 ((gI (pI (pI u4 49 (Int32.toNatClampNeg (165 + (2 * (gI u4 49 4)))) a0) 49 (Int32.toNatClampNeg ((165 + (2 * (gI (pI u4 49 (Int32.toNatClampNeg (165 + (2 * (gI u4 49 4)))) a0) 49 4))) + 1)) a1) 49 4) + 1))) ∧ ((gI u4 49 4) = 6 → post (-2) u4))))))))) ∧ (a0 = (-1) → post 0 (pI u 49 4 0)))
theorem np_X12_seen : yX12_seen.cls ≠ "java/lang/invoke/MethodHandle" ∧ yX12_seen.cls ≠ "java/lang/invoke/VarHandle" ∧ (parseMethodDescriptor yX12_seen.desc).map (fun d => d.parameters.length) = some 2 := by decide +kernel
set_option maxHeartbeats 4000000 in
set_option maxRecDepth 100000 in
theorem m_X12_seen (l : Launch) (V : VEn) {a0 : Int32} {a1 : Int32} {u : PoS} {post : Int32 → PoS → Prop} (h : wp_X12_seen a0 a1 u post) : KI l V yX12_seen cX12_seen 3 .int 2 [.ref (eA V 48), .int a0, .int a1] u post := by
  refine KI_of (by decide) (Nat.le_of_ble_eq_true rfl) (lv := [(0, .ref (eA V 48)), (1, .int a0), (2, .int a1)]) rfl ?_
  intro p e s m args below meth c C
  rw [wp_X12_seen] at h
  refine a_iload_n C 1 dX12_seen_0 rfl rfl ?_
  refine a_iconst C (-1) dX12_seen_1 (by decide) ?_
  refine a_icmp_ne C 14 dX12_seen_2 (by decide) (fun c8 => ?_) (fun c8 => ?_)
  · have h := h.1 c8
    refine a_iload_n C 1 dX12_seen_14 rfl rfl ?_
    refine a_callSi C dX12_seen_15 (m_X12_isCell l V h) bw_1144 bw_1145 bw_123 bw_1146 np_X12_isCell rfl rfl (by decide) (Nat.le_of_ble_eq_true rfl) ⟨Nat.zero_le _, Nat.zero_le _⟩ (fun r1 u2 h => ?_)
    refine a_if_eq C 42 dX12_seen_18 (by decide) (fun c7 => ?_) (fun c7 => ?_)
    · have h := h.1 c7
      refine a_bipush C (-2) dX12_seen_42 (by decide) ?_
      exact a_iret C dX12_seen_44 h
    · have h := h.2 c7
      refine a_iload_n C 2 dX12_seen_21 rfl rfl ?_
      refine a_iconst C 0 dX12_seen_22 (by decide) ?_
      refine a_bipush C 30 dX12_seen_23 (by decide) ?_
      refine a_callSi C dX12_seen_25 (m_X12_isIn l V h) bw_1147 bw_1148 bw_123 bw_1149 np_X12_isIn rfl rfl (by decide) (Nat.le_of_ble_eq_true rfl) ⟨Nat.zero_le _, Nat.zero_le _⟩ (fun r3 u4 h => ?_)
      refine a_if_eq C 42 dX12_seen_28 (by decide) (fun c6 => ?_) (fun c6 => ?_)
      · have h := h.1 c6
        refine a_bipush C (-2) dX12_seen_42 (by decide) ?_
        exact a_iret C dX12_seen_44 h
      · have h := h.2 c6
        refine a_aload_n C 0 dX12_seen_31 rfl rfl ?_
        refine a_getr C 0 (r := 49) dX12_seen_32 (by decide) rfl rfl rfl ib_12 (by decide) bw_1022 ?_
        refine a_iconst C 4 dX12_seen_35 (by decide) ?_
        refine b_iald C 4 dX12_seen_36 (by decide) rfl (vp_lit (by decide)) (by decide) ?_
        refine a_bipush C 6 dX12_seen_37 (by decide) ?_
        refine a_icmp_ne C 45 dX12_seen_39 (by decide) (fun c5 => ?_) (fun c5 => ?_)
        · have h := h.1 c5
          refine a_aload_n C 0 dX12_seen_45 rfl rfl ?_
          refine a_getr C 0 (r := 49) dX12_seen_46 (by decide) rfl rfl rfl ib_12 (by decide) bw_1022 ?_
          refine a_sipush C 165 dX12_seen_49 (by decide) ?_
          refine a_iconst C 2 dX12_seen_52 (by decide) ?_
          refine a_aload_n C 0 dX12_seen_53 rfl rfl ?_
          refine a_getr C 0 (r := 49) dX12_seen_54 (by decide) rfl rfl rfl ib_12 (by decide) bw_1022 ?_
          refine a_iconst C 4 dX12_seen_57 (by decide) ?_
          refine b_iald C 4 dX12_seen_58 (by decide) rfl (vp_lit (by decide)) (by decide) ?_
          refine a_imul C dX12_seen_59 ?_
          refine a_iadd C dX12_seen_60 ?_
          refine a_iload_n C 1 dX12_seen_61 rfl rfl ?_
          refine b_iast C (Int32.toNatClampNeg (165 + (2 * (gI u4 49 4)))) dX12_seen_62 (by decide) rfl h.1 rfl ?_
          have h := h.2
          refine a_aload_n C 0 dX12_seen_63 rfl rfl ?_
          refine a_getr C 0 (r := 49) dX12_seen_64 (by decide) rfl rfl rfl ib_12 (by decide) bw_1022 ?_
          refine a_sipush C 165 dX12_seen_67 (by decide) ?_
          refine a_iconst C 2 dX12_seen_70 (by decide) ?_
          refine a_aload_n C 0 dX12_seen_71 rfl rfl ?_
          refine a_getr C 0 (r := 49) dX12_seen_72 (by decide) rfl rfl rfl ib_12 (by decide) bw_1022 ?_
          refine a_iconst C 4 dX12_seen_75 (by decide) ?_
          refine b_iald C 4 dX12_seen_76 (by decide) rfl (vp_lit (by decide)) (by decide) ?_
          refine a_imul C dX12_seen_77 ?_
          refine a_iadd C dX12_seen_78 ?_
          refine a_iconst C 1 dX12_seen_79 (by decide) ?_
          refine a_iadd C dX12_seen_80 ?_
          refine a_iload_n C 2 dX12_seen_81 rfl rfl ?_
          refine b_iast C (Int32.toNatClampNeg ((165 + (2 * (gI (pI u4 49 (Int32.toNatClampNeg (165 + (2 * (gI u4 49 4)))) a0) 49 4))) + 1)) dX12_seen_82 (by decide) rfl h.1 rfl ?_
          have h := h.2
          refine a_aload_n C 0 dX12_seen_83 rfl rfl ?_
          refine a_getr C 0 (r := 49) dX12_seen_84 (by decide) rfl rfl rfl ib_12 (by decide) bw_1022 ?_
          refine a_iconst C 4 dX12_seen_87 (by decide) ?_
          refine a_dup2 C dX12_seen_88 rfl rfl ?_
          refine b_iald C 4 dX12_seen_89 (by decide) rfl (vp_lit (by decide)) (by decide) ?_
          refine a_iconst C 1 dX12_seen_90 (by decide) ?_
          refine a_iadd C dX12_seen_91 ?_
          refine b_iast C 4 dX12_seen_92 (by decide) rfl (vp_lit (by decide)) (by decide) ?_
          refine a_aload_n C 0 dX12_seen_93 rfl rfl ?_
          refine a_getr C 0 (r := 49) dX12_seen_94 (by decide) rfl rfl rfl ib_12 (by decide) bw_1022 ?_
          refine a_iconst C 4 dX12_seen_97 (by decide) ?_
          refine b_iald C 4 dX12_seen_98 (by decide) rfl (vp_lit (by decide)) (by decide) ?_
          exact a_iret C dX12_seen_99 h
        · have h := h.2 c5
          refine a_bipush C (-2) dX12_seen_42 (by decide) ?_
          exact a_iret C dX12_seen_44 h
  · have h := h.2 c8
    refine a_aload_n C 0 dX12_seen_5 rfl rfl ?_
    refine a_getr C 0 (r := 49) dX12_seen_6 (by decide) rfl rfl rfl ib_12 (by decide) bw_1022 ?_
    refine a_iconst C 4 dX12_seen_9 (by decide) ?_
    refine a_iconst C 0 dX12_seen_10 (by decide) ?_
    refine b_iast C 4 dX12_seen_11 (by decide) rfl (vp_lit (by decide)) (by decide) ?_
    refine a_iconst C 0 dX12_seen_12 (by decide) ?_
    exact a_iret C dX12_seen_13 h

/-! RainOnTheOneModel.seenAt(II)I -/
def wj_X12_seenAt_53 (k5 : Int32 → Int32 → Int32 → PoS → Prop) (post : Int32 → PoS → Prop) (v2 : Int32) (v3 : Int32) (v4 : Int32) (u : PoS) : Prop := k5 v2 v3 (v4 + 1) u
def wl_X12_seenAt_5 (post : Int32 → PoS → Prop) : Nat → Int32 → Int32 → Int32 → PoS → Prop
  | 0, _, _, _, _ => False
  | n + 1, v2, v3, v4, u => (((gI u 49 4) ≤ v4 → post v3 u) ∧ (¬ (gI u 49 4) ≤ v4 → vp_in ((165 + (2 * v4)) + 1) 3703 ∧ ((¬ (gI u 49 (Int32.toNatClampNeg ((165 + (2 * v4)) + 1))) = v2 → wj_X12_seenAt_53 (wl_X12_seenAt_5 post n) post v2 v3 v4 u) ∧ ((gI u 49 (Int32.toNatClampNeg ((165 + (2 * v4)) + 1))) = v2 → vp_in (165 + (2 * v4)) 3703 ∧ ∀ x1 : Int32, x1 = (v3 &&& (1 <<< ((gI u 49 (Int32.toNatClampNeg (165 + (2 * v4)))) &&& 31))) → wj_X12_seenAt_53 (wl_X12_seenAt_5 post n) post v2 x1 v4 u))))
def wp_X12_seenAt (a0 : Int32) (a1 : Int32) (u : PoS) (post : Int32 → PoS → Prop) : Prop := (∃ n5, wl_X12_seenAt_5 post n5 a1 a0 0 u)
set_option maxHeartbeats 4000000 in
set_option maxRecDepth 100000 in
theorem tj_X12_seenAt_53 {p : Program} {l : Launch} {e : Env} {s : State} {m : MethodId} {args : Array Value} {below : List Frame} {meth : Method} {c : Code} {V : VEn} {k5 : Int32 → Int32 → Int32 → PoS → Prop} {post : Int32 → PoS → Prop} (C : CxS p s m args meth c V cX12_seenAt 5 RX12 (some .int)) (hk5 : ∀ (v2 : Int32) (v3 : Int32) (v4 : Int32) (u : PoS), k5 v2 v3 v4 u → AtS p l e (Rm 0) s m args below meth c V 5 0 0 (QI V below args s post) 5 [(0, .ref (eA V 48)), (2, .int v2), (3, .int v3), (4, .int v4)] [] u) (v2 : Int32) (v3 : Int32) (v4 : Int32) (u : PoS) (h : wj_X12_seenAt_53 k5 post v2 v3 v4 u) : AtS p l e (Rm 0) s m args below meth c V 5 0 0 (QI V below args s post) 53 [(0, .ref (eA V 48)), (2, .int v2), (3, .int v3), (4, .int v4)] [] u := by
  rw [wj_X12_seenAt_53] at h
  refine a_iinc C (v4 + 1) 3 [(4, .int (v4 + 1)), (0, .ref (eA V 48)), (2, .int v2), (3, .int v3)] dX12_seenAt_53 rfl (congrArg (fun z => v4 + z) (show Int32.ofInt 1 = 1 by decide)) (by decide) rfl ?_
  refine a_goto C 5 dX12_seenAt_56 (by decide) ?_
  refine a_sub [1, 2, 3, 0] rfl ?_
  exact hk5 _ _ _ _ h
set_option maxHeartbeats 4000000 in
set_option maxRecDepth 100000 in
theorem tl_X12_seenAt_5 {p : Program} {l : Launch} {e : Env} {s : State} {m : MethodId} {args : Array Value} {below : List Frame} {meth : Method} {c : Code} {V : VEn} {post : Int32 → PoS → Prop} (C : CxS p s m args meth c V cX12_seenAt 5 RX12 (some .int)) : ∀ (n : Nat) (v2 : Int32) (v3 : Int32) (v4 : Int32) (u : PoS), wl_X12_seenAt_5 post n v2 v3 v4 u → AtS p l e (Rm 0) s m args below meth c V 5 0 0 (QI V below args s post) 5 [(0, .ref (eA V 48)), (2, .int v2), (3, .int v3), (4, .int v4)] [] u := by
  intro n
  induction n with
  | zero => intro v2 v3 v4 u h; exact h.elim
  | succ n ih =>
    intro v2 v3 v4 u h
    rw [wl_X12_seenAt_5] at h
    refine a_iload C 3 dX12_seenAt_5 rfl ?_
    refine a_aload_n C 0 dX12_seenAt_7 rfl rfl ?_
    refine a_getr C 0 (r := 49) dX12_seenAt_8 (by decide) rfl rfl rfl ib_12 (by decide) bw_1022 ?_
    refine a_iconst C 4 dX12_seenAt_11 (by decide) ?_
    refine b_iald C 4 dX12_seenAt_12 (by decide) rfl (vp_lit (by decide)) (by decide) ?_
    refine a_icmp_ge C 59 dX12_seenAt_13 (by decide) (fun c3 => ?_) (fun c3 => ?_)
    · have h := h.1 c3
      refine a_iload_n C 2 dX12_seenAt_59 rfl rfl ?_
      exact a_iret C dX12_seenAt_60 h
    · have h := h.2 c3
      refine a_aload_n C 0 dX12_seenAt_16 rfl rfl ?_
      refine a_getr C 0 (r := 49) dX12_seenAt_17 (by decide) rfl rfl rfl ib_12 (by decide) bw_1022 ?_
      refine a_sipush C 165 dX12_seenAt_20 (by decide) ?_
      refine a_iconst C 2 dX12_seenAt_23 (by decide) ?_
      refine a_iload C 3 dX12_seenAt_24 rfl ?_
      refine a_imul C dX12_seenAt_26 ?_
      refine a_iadd C dX12_seenAt_27 ?_
      refine a_iconst C 1 dX12_seenAt_28 (by decide) ?_
      refine a_iadd C dX12_seenAt_29 ?_
      refine b_iald C (Int32.toNatClampNeg ((165 + (2 * v4)) + 1)) dX12_seenAt_30 (by decide) rfl h.1 rfl ?_
      have h := h.2
      refine a_iload_n C 1 dX12_seenAt_31 rfl rfl ?_
      refine a_icmp_ne C 53 dX12_seenAt_32 (by decide) (fun c2 => ?_) (fun c2 => ?_)
      · have h := h.1 c2
        refine tj_X12_seenAt_53 C ih _ _ _ _ h
      · have h := h.2 c2
        refine a_iload_n C 2 dX12_seenAt_35 rfl rfl ?_
        refine a_iconst C 1 dX12_seenAt_36 (by decide) ?_
        refine a_aload_n C 0 dX12_seenAt_37 rfl rfl ?_
        refine a_getr C 0 (r := 49) dX12_seenAt_38 (by decide) rfl rfl rfl ib_12 (by decide) bw_1022 ?_
        refine a_sipush C 165 dX12_seenAt_41 (by decide) ?_
        refine a_iconst C 2 dX12_seenAt_44 (by decide) ?_
        refine a_iload C 3 dX12_seenAt_45 rfl ?_
        refine a_imul C dX12_seenAt_47 ?_
        refine a_iadd C dX12_seenAt_48 ?_
        refine b_iald C (Int32.toNatClampNeg (165 + (2 * v4))) dX12_seenAt_49 (by decide) rfl h.1 rfl ?_
        have h := h.2
        refine a_ishl C dX12_seenAt_50 ?_
        refine a_iand C dX12_seenAt_51 ?_
        refine a_topi (fun x1 ex1 => ?_)
        have h := h x1 ex1
        refine a_istore_n C [(3, .int x1), (0, .ref (eA V 48)), (2, .int v2), (4, .int v4)] dX12_seenAt_52 rfl (by decide) rfl ?_
        refine a_sub [1, 2, 0, 3] rfl ?_
        refine tj_X12_seenAt_53 C ih _ _ _ _ h
theorem np_X12_seenAt : yX12_seenAt.cls ≠ "java/lang/invoke/MethodHandle" ∧ yX12_seenAt.cls ≠ "java/lang/invoke/VarHandle" ∧ (parseMethodDescriptor yX12_seenAt.desc).map (fun d => d.parameters.length) = some 2 := by decide +kernel
set_option maxHeartbeats 4000000 in
set_option maxRecDepth 100000 in
theorem m_X12_seenAt (l : Launch) (V : VEn) {a0 : Int32} {a1 : Int32} {u : PoS} {post : Int32 → PoS → Prop} (h : wp_X12_seenAt a0 a1 u post) : KI l V yX12_seenAt cX12_seenAt 5 .int 0 [.ref (eA V 48), .int a0, .int a1] u post := by
  refine KI_of (by decide) (Nat.le_of_ble_eq_true rfl) (lv := [(0, .ref (eA V 48)), (1, .int a0), (2, .int a1)]) rfl ?_
  intro p e s m args below meth c C
  rw [wp_X12_seenAt] at h
  refine a_iload_n C 1 dX12_seenAt_0 rfl rfl ?_
  refine a_istore_n C [(3, .int a0), (0, .ref (eA V 48)), (1, .int a0), (2, .int a1)] dX12_seenAt_1 rfl (by decide) rfl ?_
  refine a_iconst C 0 dX12_seenAt_2 (by decide) ?_
  refine a_istore C [(4, .int 0), (3, .int a0), (0, .ref (eA V 48)), (1, .int a0), (2, .int a1)] dX12_seenAt_3 (by decide) rfl ?_
  refine a_sub [2, 4, 1, 0] rfl ?_
  obtain ⟨n5, h⟩ := h
  refine tl_X12_seenAt_5 C n5 _ _ _ _ h

/-! RainOnTheOneModel.isFrom(II)Z -/
def wj_X12_isFrom_66 (k15 : Int32 → Int32 → Int32 → Int32 → PoS → Prop) (post : Int32 → PoS → Prop) (v2 : Int32) (v3 : Int32) (v5 : Int32) (s0 : Int32) (u : PoS) : Prop := k15 v2 v3 s0 (v5 + 1) u
def wl_X12_isFrom_15 (k74 : Int32 → Int32 → Int32 → PoS → Prop) (post : Int32 → PoS → Prop) : Nat → Int32 → Int32 → Int32 → Int32 → PoS → Prop
  | 0, _, _, _, _, _ => False
  | n + 1, v2, v3, v4, v5, u => (((gI u 49 4) ≤ v5 → k74 v2 v3 v4 u) ∧ (¬ (gI u 49 4) ≤ v5 → vp_in ((165 + (2 * v5)) + 1) 3703 ∧ (((gI u 49 (Int32.toNatClampNeg ((165 + (2 * v5)) + 1))) ≤ v4 → wj_X12_isFrom_66 (wl_X12_isFrom_15 k74 post n) post v2 v3 v5 v4 u) ∧ (¬ (gI u 49 (Int32.toNatClampNeg ((165 + (2 * v5)) + 1))) ≤ v4 → vp_in ((165 + (2 * v5)) + 1) 3703 ∧ wj_X12_isFrom_66 (wl_X12_isFrom_15 k74 post n) post v2 v3 v5 (gI u 49 (Int32.toNatClampNeg ((165 + (2 * v5)) + 1))) u))))
def wl_X12_isFrom_77 (k103 : Int32 → PoS → Prop) (post : Int32 → PoS → Prop) : Nat → Int32 → Int32 → Int32 → Int32 → PoS → Prop
  | 0, _, _, _, _, _ => False
  | n + 1, v2, v3, v4, v5, u => ((v4 < v5 → k103 v3 u) ∧ (¬ v4 < v5 → wp_X12_aside v3 u (fun (r6 : Int32) (u7 : PoS) => wp_X12_seenAt (r6 &&& v2) v5 u7 (fun (r8 : Int32) (u9 : PoS) => wl_X12_isFrom_77 k103 post n v2 r8 v4 (v5 + 1) u9))))
def wp_X12_isFrom (a0 : Int32) (a1 : Int32) (u : PoS) (post : Int32 → PoS → Prop) : Prop := wp_X12_seenAt (1 <<< (a0 &&& 31)) 0 u (fun (r1 : Int32) (u2 : PoS) => (∃ n15, wl_X12_isFrom_15 (fun (v25 : Int32) (v35 : Int32) (v45 : Int32) (u5 : PoS) => (∃ n77, wl_X12_isFrom_77 (fun (v311 : Int32) (u11 : PoS) => ((v311 = 0 → post 0 u11) ∧ (¬ v311 = 0 → post 1 u11))) post n77 v25 v35 v45 1 u5)) post n15 a1 r1 0 0 u2))
set_option maxHeartbeats 4000000 in
set_option maxRecDepth 100000 in
theorem tj_X12_isFrom_66 {p : Program} {l : Launch} {e : Env} {s : State} {m : MethodId} {args : Array Value} {below : List Frame} {meth : Method} {c : Code} {V : VEn} {k15 : Int32 → Int32 → Int32 → Int32 → PoS → Prop} {post : Int32 → PoS → Prop} (C : CxS p s m args meth c V cX12_isFrom 6 RX12 (some .boolean)) (hk15 : ∀ (v2 : Int32) (v3 : Int32) (v4 : Int32) (v5 : Int32) (u : PoS), k15 v2 v3 v4 v5 u → AtS p l e (Rm 1) s m args below meth c V 6 0 0 (QI V below args s post) 15 [(0, .ref (eA V 48)), (2, .int v2), (3, .int v3), (4, .int v4), (5, .int v5)] [] u) (v2 : Int32) (v3 : Int32) (v5 : Int32) (s0 : Int32) (u : PoS) (h : wj_X12_isFrom_66 k15 post v2 v3 v5 s0 u) : AtS p l e (Rm 1) s m args below meth c V 6 0 0 (QI V below args s post) 66 [(0, .ref (eA V 48)), (2, .int v2), (3, .int v3), (5, .int v5)] [.int s0] u := by
  rw [wj_X12_isFrom_66] at h
  refine a_istore C [(4, .int s0), (0, .ref (eA V 48)), (2, .int v2), (3, .int v3), (5, .int v5)] dX12_isFrom_66 (by decide) rfl ?_
  refine a_iinc C (v5 + 1) 4 [(5, .int (v5 + 1)), (4, .int s0), (0, .ref (eA V 48)), (2, .int v2), (3, .int v3)] dX12_isFrom_68 rfl (congrArg (fun z => v5 + z) (show Int32.ofInt 1 = 1 by decide)) (by decide) rfl ?_
  refine a_goto C 15 dX12_isFrom_71 (by decide) ?_
  refine a_sub [2, 3, 4, 1, 0] rfl ?_
  exact hk15 _ _ _ _ _ h
set_option maxHeartbeats 4000000 in
set_option maxRecDepth 100000 in
theorem tl_X12_isFrom_15 {p : Program} {l : Launch} {e : Env} {s : State} {m : MethodId} {args : Array Value} {below : List Frame} {meth : Method} {c : Code} {V : VEn} {k74 : Int32 → Int32 → Int32 → PoS → Prop} {post : Int32 → PoS → Prop} (C : CxS p s m args meth c V cX12_isFrom 6 RX12 (some .boolean)) (hk74 : ∀ (v2 : Int32) (v3 : Int32) (v4 : Int32) (u : PoS), k74 v2 v3 v4 u → AtS p l e (Rm 1) s m args below meth c V 6 0 0 (QI V below args s post) 74 [(0, .ref (eA V 48)), (2, .int v2), (3, .int v3), (4, .int v4)] [] u) : ∀ (n : Nat) (v2 : Int32) (v3 : Int32) (v4 : Int32) (v5 : Int32) (u : PoS), wl_X12_isFrom_15 k74 post n v2 v3 v4 v5 u → AtS p l e (Rm 1) s m args below meth c V 6 0 0 (QI V below args s post) 15 [(0, .ref (eA V 48)), (2, .int v2), (3, .int v3), (4, .int v4), (5, .int v5)] [] u := by
  intro n
  induction n with
  | zero => intro v2 v3 v4 v5 u h; exact h.elim
  | succ n ih =>
    intro v2 v3 v4 v5 u h
    rw [wl_X12_isFrom_15] at h
    refine a_iload C 4 dX12_isFrom_15 rfl ?_
    refine a_aload_n C 0 dX12_isFrom_17 rfl rfl ?_
    refine a_getr C 0 (r := 49) dX12_isFrom_18 (by decide) rfl rfl rfl ib_12 (by decide) bw_1022 ?_
    refine a_iconst C 4 dX12_isFrom_21 (by decide) ?_
    refine b_iald C 4 dX12_isFrom_22 (by decide) rfl (vp_lit (by decide)) (by decide) ?_
    refine a_icmp_ge C 74 dX12_isFrom_23 (by decide) (fun c4 => ?_) (fun c4 => ?_)
    · have h := h.1 c4
      refine a_sub [0, 1, 2, 3] rfl ?_
      exact hk74 _ _ _ _ h
    · have h := h.2 c4
      refine a_aload_n C 0 dX12_isFrom_26 rfl rfl ?_
      refine a_getr C 0 (r := 49) dX12_isFrom_27 (by decide) rfl rfl rfl ib_12 (by decide) bw_1022 ?_
      refine a_sipush C 165 dX12_isFrom_30 (by decide) ?_
      refine a_iconst C 2 dX12_isFrom_33 (by decide) ?_
      refine a_iload C 4 dX12_isFrom_34 rfl ?_
      refine a_imul C dX12_isFrom_36 ?_
      refine a_iadd C dX12_isFrom_37 ?_
      refine a_iconst C 1 dX12_isFrom_38 (by decide) ?_
      refine a_iadd C dX12_isFrom_39 ?_
      refine b_iald C (Int32.toNatClampNeg ((165 + (2 * v5)) + 1)) dX12_isFrom_40 (by decide) rfl h.1 rfl ?_
      have h := h.2
      refine a_iload C 3 dX12_isFrom_41 rfl ?_
      refine a_icmp_le C 64 dX12_isFrom_43 (by decide) (fun c3 => ?_) (fun c3 => ?_)
      · have h := h.1 c3
        refine a_iload C 3 dX12_isFrom_64 rfl ?_
        refine a_sub [0, 1, 2, 4] rfl ?_
        refine tj_X12_isFrom_66 C ih _ _ _ _ _ h
      · have h := h.2 c3
        refine a_aload_n C 0 dX12_isFrom_46 rfl rfl ?_
        refine a_getr C 0 (r := 49) dX12_isFrom_47 (by decide) rfl rfl rfl ib_12 (by decide) bw_1022 ?_
        refine a_sipush C 165 dX12_isFrom_50 (by decide) ?_
        refine a_iconst C 2 dX12_isFrom_53 (by decide) ?_
        refine a_iload C 4 dX12_isFrom_54 rfl ?_
        refine a_imul C dX12_isFrom_56 ?_
        refine a_iadd C dX12_isFrom_57 ?_
        refine a_iconst C 1 dX12_isFrom_58 (by decide) ?_
        refine a_iadd C dX12_isFrom_59 ?_
        refine b_iald C (Int32.toNatClampNeg ((165 + (2 * v5)) + 1)) dX12_isFrom_60 (by decide) rfl h.1 rfl ?_
        have h := h.2
        refine a_goto C 66 dX12_isFrom_61 (by decide) ?_
        refine a_sub [0, 1, 2, 4] rfl ?_
        refine tj_X12_isFrom_66 C ih _ _ _ _ _ h
set_option maxHeartbeats 4000000 in
set_option maxRecDepth 100000 in
theorem tl_X12_isFrom_77 {p : Program} {l : Launch} {e : Env} {s : State} {m : MethodId} {args : Array Value} {below : List Frame} {meth : Method} {c : Code} {V : VEn} {k103 : Int32 → PoS → Prop} {post : Int32 → PoS → Prop} (C : CxS p s m args meth c V cX12_isFrom 6 RX12 (some .boolean)) (hk103 : ∀ (v3 : Int32) (u : PoS), k103 v3 u → AtS p l e (Rm 1) s m args below meth c V 6 0 0 (QI V below args s post) 103 [(3, .int v3)] [] u) : ∀ (n : Nat) (v2 : Int32) (v3 : Int32) (v4 : Int32) (v5 : Int32) (u : PoS), wl_X12_isFrom_77 k103 post n v2 v3 v4 v5 u → AtS p l e (Rm 1) s m args below meth c V 6 0 0 (QI V below args s post) 77 [(0, .ref (eA V 48)), (2, .int v2), (3, .int v3), (4, .int v4), (5, .int v5)] [] u := by
  intro n
  induction n with
  | zero => intro v2 v3 v4 v5 u h; exact h.elim
  | succ n ih =>
    intro v2 v3 v4 v5 u h
    rw [wl_X12_isFrom_77] at h
    refine a_iload C 4 dX12_isFrom_77 rfl ?_
    refine a_iload C 3 dX12_isFrom_79 rfl ?_
    refine a_icmp_gt C 103 dX12_isFrom_81 (by decide) (fun c10 => ?_) (fun c10 => ?_)
    · have h := h.1 c10
      refine a_sub [2] rfl ?_
      exact hk103 _ _ h
    · have h := h.2 c10
      refine a_aload_n C 0 dX12_isFrom_84 rfl rfl ?_
      refine a_iload_n C 2 dX12_isFrom_85 rfl rfl ?_
      refine a_callSi C dX12_isFrom_86 (m_X12_aside l V h) bw_1403 bw_1404 bw_123 bw_1405 np_X12_aside rfl rfl (by decide) (Nat.le_of_ble_eq_true rfl) ⟨Nat.zero_le _, Nat.zero_le _⟩ (fun r6 u7 h => ?_)
      refine a_iload_n C 1 dX12_isFrom_89 rfl rfl ?_
      refine a_iand C dX12_isFrom_90 ?_
      refine a_iload C 4 dX12_isFrom_91 rfl ?_
      refine a_callVi C dX12_isFrom_93 (m_X12_seenAt l V h) bw_1676 bw_1678 bw_110 bw_123 bw_1679 (by decide) rfl rfl np_X12_seenAt rfl rfl (by decide) (Nat.le_of_ble_eq_true rfl) ⟨Nat.zero_le _, Nat.zero_le _⟩ (fun r8 u9 h => ?_)
      refine a_istore_n C [(3, .int r8), (0, .ref (eA V 48)), (2, .int v2), (4, .int v4), (5, .int v5)] dX12_isFrom_96 rfl (by decide) rfl ?_
      refine a_iinc C (v5 + 1) 4 [(5, .int (v5 + 1)), (3, .int r8), (0, .ref (eA V 48)), (2, .int v2), (4, .int v4)] dX12_isFrom_97 rfl (congrArg (fun z => v5 + z) (show Int32.ofInt 1 = 1 by decide)) (by decide) rfl ?_
      refine a_goto C 77 dX12_isFrom_100 (by decide) ?_
      refine a_sub [2, 3, 1, 4, 0] rfl ?_
      exact ih _ _ _ _ _ h
theorem np_X12_isFrom : yX12_isFrom.cls ≠ "java/lang/invoke/MethodHandle" ∧ yX12_isFrom.cls ≠ "java/lang/invoke/VarHandle" ∧ (parseMethodDescriptor yX12_isFrom.desc).map (fun d => d.parameters.length) = some 2 := by decide +kernel
set_option maxHeartbeats 4000000 in
set_option maxRecDepth 100000 in
theorem m_X12_isFrom (l : Launch) (V : VEn) {a0 : Int32} {a1 : Int32} {u : PoS} {post : Int32 → PoS → Prop} (h : wp_X12_isFrom a0 a1 u post) : KI l V yX12_isFrom cX12_isFrom 6 .boolean 1 [.ref (eA V 48), .int a0, .int a1] u post := by
  refine KI_of (by decide) (Nat.le_of_ble_eq_true rfl) (lv := [(0, .ref (eA V 48)), (1, .int a0), (2, .int a1)]) rfl ?_
  intro p e s m args below meth c C
  rw [wp_X12_isFrom] at h
  refine a_aload_n C 0 dX12_isFrom_0 rfl rfl ?_
  refine a_iconst C 1 dX12_isFrom_1 (by decide) ?_
  refine a_iload_n C 1 dX12_isFrom_2 rfl rfl ?_
  refine a_ishl C dX12_isFrom_3 ?_
  refine a_iconst C 0 dX12_isFrom_4 (by decide) ?_
  refine a_callVi C dX12_isFrom_5 (m_X12_seenAt l V h) bw_1676 bw_1678 bw_110 bw_123 bw_1679 (by decide) rfl rfl np_X12_seenAt rfl rfl (by decide) (Nat.le_of_ble_eq_true rfl) ⟨Nat.zero_le _, Nat.zero_le _⟩ (fun r1 u2 h => ?_)
  refine a_istore_n C [(3, .int r1), (0, .ref (eA V 48)), (1, .int a0), (2, .int a1)] dX12_isFrom_8 rfl (by decide) rfl ?_
  refine a_iconst C 0 dX12_isFrom_9 (by decide) ?_
  refine a_istore C [(4, .int 0), (3, .int r1), (0, .ref (eA V 48)), (1, .int a0), (2, .int a1)] dX12_isFrom_10 (by decide) rfl ?_
  refine a_iconst C 0 dX12_isFrom_12 (by decide) ?_
  refine a_istore C [(5, .int 0), (4, .int 0), (3, .int r1), (0, .ref (eA V 48)), (1, .int a0), (2, .int a1)] dX12_isFrom_13 (by decide) rfl ?_
  refine a_sub [3, 5, 2, 1, 0] rfl ?_
  obtain ⟨n15, h⟩ := h
  refine tl_X12_isFrom_15 C (fun v25 v35 v45 u5 h => ?_) n15 _ _ _ _ _ h
  refine a_iconst C 1 dX12_isFrom_74 (by decide) ?_
  refine a_istore C [(5, .int 1), (0, .ref (eA V 48)), (2, .int v25), (3, .int v35), (4, .int v45)] dX12_isFrom_75 (by decide) rfl ?_
  refine a_sub [1, 2, 3, 4, 0] rfl ?_
  obtain ⟨n77, h⟩ := h
  refine tl_X12_isFrom_77 C (fun v311 u11 h => ?_) n77 _ _ _ _ _ h
  refine a_iload_n C 0 dX12_isFrom_103 rfl rfl ?_
  refine a_if_eq C 111 dX12_isFrom_104 (by decide) (fun c12 => ?_) (fun c12 => ?_)
  · have h := h.1 c12
    refine a_iconst C 0 dX12_isFrom_111 (by decide) ?_
    exact a_zret C rfl dX12_isFrom_112 h
  · have h := h.2 c12
    refine a_iconst C 1 dX12_isFrom_107 (by decide) ?_
    refine a_goto C 112 dX12_isFrom_108 (by decide) ?_
    exact a_zret C rfl dX12_isFrom_112 h

/-! RainOnTheOneModel.from(Z)I -/
def wj_X12_from_45 (k10 : Int32 → Int32 → Int32 → Int32 → PoS → Prop) (post : Int32 → PoS → Prop) (v1 : Int32) (v2 : Int32) (v4 : Int32) (s0 : Int32) (s1 : Int32) (u : PoS) : Prop := ∀ x5 : Int32, x5 = (s1 ||| s0) → k10 v1 v2 x5 (v4 + 1) u
def wj_X12_from_44 (k10 : Int32 → Int32 → Int32 → Int32 → PoS → Prop) (post : Int32 → PoS → Prop) (v1 : Int32) (v2 : Int32) (v4 : Int32) (s0 : Int32) (u : PoS) : Prop := wj_X12_from_45 k10 post v1 v2 v4 0 s0 u
def wl_X12_from_10 (k53 : Int32 → Int32 → PoS → Prop) (post : Int32 → PoS → Prop) : Nat → Int32 → Int32 → Int32 → Int32 → PoS → Prop
  | 0, _, _, _, _, _ => False
  | n + 1, v1, v2, v3, v4, u => ((30 ≤ v4 → k53 v1 v3 u) ∧ (¬ 30 ≤ v4 → wp_X12_has v2 v4 u (fun (r3 : Int32) (u4 : PoS) => ((r3 = 0 → wj_X12_from_44 (wl_X12_from_10 k53 post n) post v1 v2 v4 v3 u4) ∧ (¬ r3 = 0 → wp_X12_isFrom v4 v2 u4 (fun (r6 : Int32) (u7 : PoS) => ((r6 = 0 → wj_X12_from_44 (wl_X12_from_10 k53 post n) post v1 v2 v4 v3 u7) ∧ (¬ r6 = 0 → wj_X12_from_45 (wl_X12_from_10 k53 post n) post v1 v2 v4 (1 <<< (v4 &&& 31)) v3 u7))))))))
def wp_X12_from (a0 : Int32) (u : PoS) (post : Int32 → PoS → Prop) : Prop := wp_X12_free u (fun (r1 : Int32) (u2 : PoS) => (∃ n10, wl_X12_from_10 (fun (v111 : Int32) (v311 : Int32) (u11 : PoS) => ((v111 = 0 → post v311 u11) ∧ (¬ v111 = 0 → wp_X12_bits v311 u11 (fun (r12 : Int32) (u13 : PoS) => post r12 u13)))) post n10 a0 r1 0 0 u2))
set_option maxHeartbeats 4000000 in
set_option maxRecDepth 100000 in
theorem tj_X12_from_45 {p : Program} {l : Launch} {e : Env} {s : State} {m : MethodId} {args : Array Value} {below : List Frame} {meth : Method} {c : Code} {V : VEn} {k10 : Int32 → Int32 → Int32 → Int32 → PoS → Prop} {post : Int32 → PoS → Prop} (C : CxS p s m args meth c V cX12_from 5 RX12 (some .int)) (hk10 : ∀ (v1 : Int32) (v2 : Int32) (v3 : Int32) (v4 : Int32) (u : PoS), k10 v1 v2 v3 v4 u → AtS p l e (Rm 4) s m args below meth c V 5 0 0 (QI V below args s post) 10 [(0, .ref (eA V 48)), (1, .int v1), (2, .int v2), (3, .int v3), (4, .int v4)] [] u) (v1 : Int32) (v2 : Int32) (v4 : Int32) (s0 : Int32) (s1 : Int32) (u : PoS) (h : wj_X12_from_45 k10 post v1 v2 v4 s0 s1 u) : AtS p l e (Rm 4) s m args below meth c V 5 0 0 (QI V below args s post) 45 [(0, .ref (eA V 48)), (1, .int v1), (2, .int v2), (4, .int v4)] [.int s0, .int s1] u := by
  rw [wj_X12_from_45] at h
  refine a_ior C dX12_from_45 ?_
  refine a_topi (fun x5 ex5 => ?_)
  have h := h x5 ex5
  refine a_istore_n C [(3, .int x5), (0, .ref (eA V 48)), (1, .int v1), (2, .int v2), (4, .int v4)] dX12_from_46 rfl (by decide) rfl ?_
  refine a_iinc C (v4 + 1) 4 [(4, .int (v4 + 1)), (3, .int x5), (0, .ref (eA V 48)), (1, .int v1), (2, .int v2)] dX12_from_47 rfl (congrArg (fun z => v4 + z) (show Int32.ofInt 1 = 1 by decide)) (by decide) rfl ?_
  refine a_goto C 10 dX12_from_50 (by decide) ?_
  refine a_sub [2, 3, 4, 1, 0] rfl ?_
  exact hk10 _ _ _ _ _ h
set_option maxHeartbeats 4000000 in
set_option maxRecDepth 100000 in
theorem tj_X12_from_44 {p : Program} {l : Launch} {e : Env} {s : State} {m : MethodId} {args : Array Value} {below : List Frame} {meth : Method} {c : Code} {V : VEn} {k10 : Int32 → Int32 → Int32 → Int32 → PoS → Prop} {post : Int32 → PoS → Prop} (C : CxS p s m args meth c V cX12_from 5 RX12 (some .int)) (hk10 : ∀ (v1 : Int32) (v2 : Int32) (v3 : Int32) (v4 : Int32) (u : PoS), k10 v1 v2 v3 v4 u → AtS p l e (Rm 4) s m args below meth c V 5 0 0 (QI V below args s post) 10 [(0, .ref (eA V 48)), (1, .int v1), (2, .int v2), (3, .int v3), (4, .int v4)] [] u) (v1 : Int32) (v2 : Int32) (v4 : Int32) (s0 : Int32) (u : PoS) (h : wj_X12_from_44 k10 post v1 v2 v4 s0 u) : AtS p l e (Rm 4) s m args below meth c V 5 0 0 (QI V below args s post) 44 [(0, .ref (eA V 48)), (1, .int v1), (2, .int v2), (4, .int v4)] [.int s0] u := by
  rw [wj_X12_from_44] at h
  refine a_iconst C 0 dX12_from_44 (by decide) ?_
  refine tj_X12_from_45 C hk10 _ _ _ _ _ _ h
set_option maxHeartbeats 4000000 in
set_option maxRecDepth 100000 in
theorem tl_X12_from_10 {p : Program} {l : Launch} {e : Env} {s : State} {m : MethodId} {args : Array Value} {below : List Frame} {meth : Method} {c : Code} {V : VEn} {k53 : Int32 → Int32 → PoS → Prop} {post : Int32 → PoS → Prop} (C : CxS p s m args meth c V cX12_from 5 RX12 (some .int)) (hk53 : ∀ (v1 : Int32) (v3 : Int32) (u : PoS), k53 v1 v3 u → AtS p l e (Rm 4) s m args below meth c V 5 0 0 (QI V below args s post) 53 [(1, .int v1), (3, .int v3)] [] u) : ∀ (n : Nat) (v1 : Int32) (v2 : Int32) (v3 : Int32) (v4 : Int32) (u : PoS), wl_X12_from_10 k53 post n v1 v2 v3 v4 u → AtS p l e (Rm 4) s m args below meth c V 5 0 0 (QI V below args s post) 10 [(0, .ref (eA V 48)), (1, .int v1), (2, .int v2), (3, .int v3), (4, .int v4)] [] u := by
  intro n
  induction n with
  | zero => intro v1 v2 v3 v4 u h; exact h.elim
  | succ n ih =>
    intro v1 v2 v3 v4 u h
    rw [wl_X12_from_10] at h
    refine a_iload C 4 dX12_from_10 rfl ?_
    refine a_bipush C 30 dX12_from_12 (by decide) ?_
    refine a_icmp_ge C 53 dX12_from_14 (by decide) (fun c10 => ?_) (fun c10 => ?_)
    · have h := h.1 c10
      refine a_sub [1, 3] rfl ?_
      exact hk53 _ _ _ h
    · have h := h.2 c10
      refine a_iload_n C 3 dX12_from_17 rfl rfl ?_
      refine a_iload_n C 2 dX12_from_18 rfl rfl ?_
      refine a_iload C 4 dX12_from_19 rfl ?_
      refine a_callSi C dX12_from_21 (m_X12_has l V h) bw_1240 bw_1241 bw_123 bw_1242 np_X12_has rfl rfl (by decide) (Nat.le_of_ble_eq_true rfl) ⟨Nat.zero_le _, Nat.zero_le _⟩ (fun r3 u4 h => ?_)
      refine a_if_eq C 44 dX12_from_24 (by decide) (fun c9 => ?_) (fun c9 => ?_)
      · have h := h.1 c9
        refine a_sub [0, 1, 2, 4] rfl ?_
        refine tj_X12_from_44 C ih _ _ _ _ _ h
      · have h := h.2 c9
        refine a_aload_n C 0 dX12_from_27 rfl rfl ?_
        refine a_iload C 4 dX12_from_28 rfl ?_
        refine a_iload_n C 2 dX12_from_30 rfl rfl ?_
        refine a_callVi C dX12_from_31 (m_X12_isFrom l V h) bw_1672 bw_1674 bw_109 bw_123 bw_1675 (by decide) rfl rfl np_X12_isFrom rfl rfl (by decide) (Nat.le_of_ble_eq_true rfl) ⟨Nat.zero_le _, Nat.zero_le _⟩ (fun r6 u7 h => ?_)
        refine a_if_eq C 44 dX12_from_34 (by decide) (fun c8 => ?_) (fun c8 => ?_)
        · have h := h.1 c8
          refine a_sub [0, 1, 2, 4] rfl ?_
          refine tj_X12_from_44 C ih _ _ _ _ _ h
        · have h := h.2 c8
          refine a_iconst C 1 dX12_from_37 (by decide) ?_
          refine a_iload C 4 dX12_from_38 rfl ?_
          refine a_ishl C dX12_from_40 ?_
          refine a_goto C 45 dX12_from_41 (by decide) ?_
          refine a_sub [0, 1, 2, 4] rfl ?_
          refine tj_X12_from_45 C ih _ _ _ _ _ _ h
theorem np_X12_from : yX12_from.cls ≠ "java/lang/invoke/MethodHandle" ∧ yX12_from.cls ≠ "java/lang/invoke/VarHandle" ∧ (parseMethodDescriptor yX12_from.desc).map (fun d => d.parameters.length) = some 1 := by decide +kernel
set_option maxHeartbeats 4000000 in
set_option maxRecDepth 100000 in
theorem m_X12_from (l : Launch) (V : VEn) {a0 : Int32} {u : PoS} {post : Int32 → PoS → Prop} (h : wp_X12_from a0 u post) : KI l V yX12_from cX12_from 5 .int 4 [.ref (eA V 48), .int a0] u post := by
  refine KI_of (by decide) (Nat.le_of_ble_eq_true rfl) (lv := [(0, .ref (eA V 48)), (1, .int a0)]) rfl ?_
  intro p e s m args below meth c C
  rw [wp_X12_from] at h
  refine a_aload_n C 0 dX12_from_0 rfl rfl ?_
  refine a_callVi C dX12_from_1 (m_X12_free l V h) bw_1395 bw_1397 bw_79 bw_123 bw_1398 (by decide) rfl rfl np_X12_free rfl rfl (by decide) (Nat.le_of_ble_eq_true rfl) ⟨Nat.zero_le _, Nat.zero_le _⟩ (fun r1 u2 h => ?_)
  refine a_istore_n C [(2, .int r1), (0, .ref (eA V 48)), (1, .int a0)] dX12_from_4 rfl (by decide) rfl ?_
  refine a_iconst C 0 dX12_from_5 (by decide) ?_
  refine a_istore_n C [(3, .int 0), (2, .int r1), (0, .ref (eA V 48)), (1, .int a0)] dX12_from_6 rfl (by decide) rfl ?_
  refine a_iconst C 0 dX12_from_7 (by decide) ?_
  refine a_istore C [(4, .int 0), (3, .int 0), (2, .int r1), (0, .ref (eA V 48)), (1, .int a0)] dX12_from_8 (by decide) rfl ?_
  refine a_sub [3, 4, 2, 1, 0] rfl ?_
  obtain ⟨n10, h⟩ := h
  refine tl_X12_from_10 C (fun v111 v311 u11 h => ?_) n10 _ _ _ _ _ h
  refine a_iload_n C 0 dX12_from_53 rfl rfl ?_
  refine a_if_eq C 64 dX12_from_54 (by decide) (fun c14 => ?_) (fun c14 => ?_)
  · have h := h.1 c14
    refine a_iload_n C 1 dX12_from_64 rfl rfl ?_
    exact a_iret C dX12_from_65 h
  · have h := h.2 c14
    refine a_iload_n C 1 dX12_from_57 rfl rfl ?_
    refine a_callSi C dX12_from_58 (m_X12_bits l V h) bw_1599 bw_1600 bw_123 bw_1601 np_X12_bits rfl rfl (by decide) (Nat.le_of_ble_eq_true rfl) ⟨Nat.zero_le _, Nat.zero_le _⟩ (fun r12 u13 h => ?_)
    refine a_goto C 65 dX12_from_61 (by decide) ?_
    exact a_iret C dX12_from_65 h

/-! RainOnTheOneModel.divisor(JJ)J -/
def wl_X12_divisor_6 (post : Int64 → PoS → Prop) : Nat → Int64 → Int64 → PoS → Prop
  | 0, _, _, _ => False
  | n + 1, v4, v6, u => (((lg_cmp v6 0) = 0 → post v4 u) ∧ (¬ (lg_cmp v6 0) = 0 → ¬ v6 = 0 ∧ ∀ x1 : Int64, x1 = (lrem v4 v6) → wl_X12_divisor_6 post n v6 x1 u))
def wp_X12_divisor (a0 : Int64) (a1 : Int64) (u : PoS) (post : Int64 → PoS → Prop) : Prop := (∃ n6, wl_X12_divisor_6 post n6 a0 a1 u)
set_option maxHeartbeats 4000000 in
set_option maxRecDepth 100000 in
theorem tl_X12_divisor_6 {p : Program} {l : Launch} {e : Env} {s : State} {m : MethodId} {args : Array Value} {below : List Frame} {meth : Method} {c : Code} {V : VEn} {post : Int64 → PoS → Prop} (C : CxS p s m args meth c V cX12_divisor 10 RX12 (some .long)) : ∀ (n : Nat) (v4 : Int64) (v6 : Int64) (u : PoS), wl_X12_divisor_6 post n v4 v6 u → AtS p l e (Rm 0) s m args below meth c V 10 0 0 (QL V below args s post) 6 [(4, .long v4), (6, .long v6)] [] u := by
  intro n
  induction n with
  | zero => intro v4 v6 u h; exact h.elim
  | succ n ih =>
    intro v4 v6 u h
    rw [wl_X12_divisor_6] at h
    refine a_lload C 1 dX12_divisor_6 rfl ?_
    refine a_lconst C 0 dX12_divisor_8 (by decide) ?_
    refine a_lcmp C dX12_divisor_9 ?_
    refine a_if_eq C 31 dX12_divisor_10 (by decide) (fun c2 => ?_) (fun c2 => ?_)
    · have h := h.1 c2
      refine a_lload C 0 dX12_divisor_31 rfl ?_
      exact a_lret C dX12_divisor_33 h
    · have h := h.2 c2
      refine a_lload C 0 dX12_divisor_13 rfl ?_
      refine a_lload C 1 dX12_divisor_15 rfl ?_
      refine b_lrem C dX12_divisor_17 h.1 ?_
      have h := h.2
      refine a_topl (fun x1 ex1 => ?_)
      have h := h x1 ex1
      refine a_lstore C [(8, .long x1), (4, .long v4), (6, .long v6)] dX12_divisor_18 (by decide) rfl ?_
      refine a_lload C 2 dX12_divisor_20 rfl ?_
      refine a_lstore C [(4, .long v6), (8, .long x1), (6, .long v6)] dX12_divisor_22 (by decide) rfl ?_
      refine a_lload C 1 dX12_divisor_24 rfl ?_
      refine a_lstore C [(6, .long x1), (4, .long v6), (8, .long x1)] dX12_divisor_26 (by decide) rfl ?_
      refine a_goto C 6 dX12_divisor_28 (by decide) ?_
      refine a_sub [1, 0] rfl ?_
      exact ih _ _ _ h
theorem np_X12_divisor : yX12_divisor.cls ≠ "java/lang/invoke/MethodHandle" ∧ yX12_divisor.cls ≠ "java/lang/invoke/VarHandle" ∧ (parseMethodDescriptor yX12_divisor.desc).map (fun d => d.parameters.length) = some 2 := by decide +kernel
set_option maxHeartbeats 4000000 in
set_option maxRecDepth 100000 in
theorem m_X12_divisor (l : Launch) (V : VEn) {a0 : Int64} {a1 : Int64} {u : PoS} {post : Int64 → PoS → Prop} (h : wp_X12_divisor a0 a1 u post) : KL l V yX12_divisor cX12_divisor 10 .long 0 [.long a0, .long a1] u post := by
  refine KL_of (by decide) (Nat.le_of_ble_eq_true rfl) (lv := [(0, .long a0), (2, .long a1)]) rfl ?_
  intro p e s m args below meth c C
  rw [wp_X12_divisor] at h
  refine a_lload_n C 0 dX12_divisor_0 rfl rfl ?_
  refine a_lstore C [(4, .long a0), (0, .long a0), (2, .long a1)] dX12_divisor_1 (by decide) rfl ?_
  refine a_lload_n C 2 dX12_divisor_3 rfl rfl ?_
  refine a_lstore C [(6, .long a1), (4, .long a0), (0, .long a0), (2, .long a1)] dX12_divisor_4 (by decide) rfl ?_
  refine a_sub [1, 0] rfl ?_
  obtain ⟨n6, h⟩ := h
  refine tl_X12_divisor_6 C n6 _ _ _ h

/-! RainOnTheOneModel.likely(IIZ)J -/
def wj_X12_likely_62 (k39 : Int32 → Int32 → Int32 → Int64 → Int32 → PoS → Prop) (post : Int64 → PoS → Prop) (v1 : Int32) (v2 : Int32) (v3 : Int32) (v4 : Int64) (v6 : Int32) (s0 : Int64) (s1 : Int32) (u : PoS) : Prop := vp_in s1 11 ∧ k39 v1 v2 v3 v4 (v6 + 1) (pL u 68 (Int32.toNatClampNeg s1) s0)
def wl_X12_likely_39 (k69 : Int32 → Int32 → Int32 → Int64 → PoS → Prop) (post : Int64 → PoS → Prop) : Nat → Int32 → Int32 → Int32 → Int64 → Int32 → PoS → Prop
  | 0, _, _, _, _, _, _ => False
  | n + 1, v1, v2, v3, v4, v6, u => ((11 ≤ v6 → k69 v1 v2 v3 v4 u) ∧ (¬ 11 ≤ v6 → ((¬ v6 = 0 → wj_X12_likely_62 (wl_X12_likely_39 k69 post n) post v1 v2 v3 v4 v6 0 v6 u) ∧ (v6 = 0 → wj_X12_likely_62 (wl_X12_likely_39 k69 post n) post v1 v2 v3 v4 v6 1 v6 u))))
def wj_X12_likely_128 (k82 : Int32 → Int32 → Int32 → Int64 → Int32 → Int32 → PoS → Prop) (post : Int64 → PoS → Prop) (v1 : Int32) (v2 : Int32) (v3 : Int32) (v4 : Int64) (v6 : Int32) (v7 : Int32) (s0 : Int64) (s1 : Int64) (s2 : Int32) (u : PoS) : Prop := vp_in s2 11 ∧ k82 v1 v2 v3 v4 v6 (v7 + (-1)) (pL u 68 (Int32.toNatClampNeg s2) (s1 + s0))
def wl_X12_likely_82 (k136 : Int32 → Int32 → Int32 → Int64 → Int32 → PoS → Prop) (post : Int64 → PoS → Prop) : Nat → Int32 → Int32 → Int32 → Int64 → Int32 → Int32 → PoS → Prop
  | 0, _, _, _, _, _, _, _ => False
  | n + 1, v1, v2, v3, v4, v6, v7, u => ((v7 < 0 → k136 v1 v2 v3 v4 v6 u) ∧ (¬ v7 < 0 → vp_in v7 11 ∧ ((v7 ≤ 0 → wj_X12_likely_128 (wl_X12_likely_82 k136 post n) post v1 v2 v3 v4 v6 v7 0 ((gL u 68 (Int32.toNatClampNeg v7)) * (Int32.toInt64 ((gI u 49 0) - 1))) v7 u) ∧ (¬ v7 ≤ 0 → vp_in (v7 - 1) 11 ∧ wj_X12_likely_128 (wl_X12_likely_82 k136 post n) post v1 v2 v3 v4 v6 v7 (gL u 68 (Int32.toNatClampNeg (v7 - 1))) ((gL u 68 (Int32.toNatClampNeg v7)) * (Int32.toInt64 ((gI u 49 0) - 1))) v7 u))))
def wl_X12_likely_72 (k154 : Int32 → Int32 → Int64 → PoS → Prop) (post : Int64 → PoS → Prop) : Nat → Int32 → Int32 → Int32 → Int64 → Int32 → PoS → Prop
  | 0, _, _, _, _, _, _ => False
  | n + 1, v1, v2, v3, v4, v6, u => ((v1 ≤ v6 → k154 v2 v3 v4 u) ∧ (¬ v1 ≤ v6 → (∃ n82, wl_X12_likely_82 (fun (v110 : Int32) (v210 : Int32) (v310 : Int32) (v410 : Int64) (v610 : Int32) (u10 : PoS) => ∀ x11 : Int64, x11 = (v410 * (Int32.toInt64 (gI u10 49 0))) → wl_X12_likely_72 k154 post n v110 v210 v310 x11 (v610 + 1) u10) post n82 v1 v2 v3 v4 v6 10 u)))
def wj_X12_likely_169 (post : Int64 → PoS → Prop) (v2 : Int32) (v4 : Int64) (s0 : Int64) (u : PoS) : Prop := vp_in v2 11 ∧ wp_X12_divisor (gL u 68 (Int32.toNatClampNeg v2)) v4 u (fun (r14 : Int64) (u15 : PoS) => ¬ r14 = 0 ∧ post (s0 / r14) u15)
def wp_X12_likely (a0 : Int32) (a1 : Int32) (a2 : Int32) (u : PoS) (post : Int64 → PoS → Prop) : Prop := wp_X12_isIn a0 1 10 u (fun (r1 : Int32) (u2 : PoS) => ((r1 = 0 → post (-1) u2) ∧ (¬ r1 = 0 → wp_X12_isIn a1 0 10 u2 (fun (r3 : Int32) (u4 : PoS) => ((r3 = 0 → post (-1) u4) ∧ (¬ r3 = 0 → ((¬ (gI u4 49 0) = 0 → (∃ n39, wl_X12_likely_39 (fun (v17 : Int32) (v27 : Int32) (v37 : Int32) (v47 : Int64) (u7 : PoS) => (∃ n72, wl_X12_likely_72 (fun (v213 : Int32) (v313 : Int32) (v413 : Int64) (u13 : PoS) => ((v313 = 0 → vp_in v213 11 ∧ wj_X12_likely_169 post v213 v413 (gL u13 68 (Int32.toNatClampNeg v213)) u13) ∧ (¬ v313 = 0 → wj_X12_likely_169 post v213 v413 v413 u13))) post n72 v17 v27 v37 v47 0 u7)) post n39 a0 a1 a2 1 0 u4)) ∧ ((gI u4 49 0) = 0 → post (-1) u4))))))))
set_option maxHeartbeats 4000000 in
set_option maxRecDepth 100000 in
theorem tj_X12_likely_62 {p : Program} {l : Launch} {e : Env} {s : State} {m : MethodId} {args : Array Value} {below : List Frame} {meth : Method} {c : Code} {V : VEn} {k39 : Int32 → Int32 → Int32 → Int64 → Int32 → PoS → Prop} {post : Int64 → PoS → Prop} (C : CxS p s m args meth c V cX12_likely 8 RX12 (some .long)) (hk39 : ∀ (v1 : Int32) (v2 : Int32) (v3 : Int32) (v4 : Int64) (v6 : Int32) (u : PoS), k39 v1 v2 v3 v4 v6 u → AtS p l e (Rm 1) s m args below meth c V 8 0 0 (QL V below args s post) 39 [(0, .ref (eA V 48)), (1, .int v1), (2, .int v2), (3, .int v3), (4, .long v4), (6, .int v6)] [] u) (v1 : Int32) (v2 : Int32) (v3 : Int32) (v4 : Int64) (v6 : Int32) (s0 : Int64) (s1 : Int32) (u : PoS) (h : wj_X12_likely_62 k39 post v1 v2 v3 v4 v6 s0 s1 u) : AtS p l e (Rm 1) s m args below meth c V 8 0 0 (QL V below args s post) 62 [(0, .ref (eA V 48)), (1, .int v1), (2, .int v2), (3, .int v3), (4, .long v4), (6, .int v6)] [.long s0, .int s1, .ref (eA V 68)] u := by
  rw [wj_X12_likely_62] at h
  refine b_last C (Int32.toNatClampNeg s1) dX12_likely_62 (by decide) rfl h.1 rfl ?_
  have h := h.2
  refine a_iinc C (v6 + 1) 5 [(6, .int (v6 + 1)), (0, .ref (eA V 48)), (1, .int v1), (2, .int v2), (3, .int v3), (4, .long v4)] dX12_likely_63 rfl (congrArg (fun z => v6 + z) (show Int32.ofInt 1 = 1 by decide)) (by decide) rfl ?_
  refine a_goto C 39 dX12_likely_66 (by decide) ?_
  refine a_sub [1, 2, 3, 4, 5, 0] rfl ?_
  exact hk39 _ _ _ _ _ _ h
set_option maxHeartbeats 4000000 in
set_option maxRecDepth 100000 in
theorem tl_X12_likely_39 {p : Program} {l : Launch} {e : Env} {s : State} {m : MethodId} {args : Array Value} {below : List Frame} {meth : Method} {c : Code} {V : VEn} {k69 : Int32 → Int32 → Int32 → Int64 → PoS → Prop} {post : Int64 → PoS → Prop} (C : CxS p s m args meth c V cX12_likely 8 RX12 (some .long)) (hk69 : ∀ (v1 : Int32) (v2 : Int32) (v3 : Int32) (v4 : Int64) (u : PoS), k69 v1 v2 v3 v4 u → AtS p l e (Rm 1) s m args below meth c V 8 0 0 (QL V below args s post) 69 [(0, .ref (eA V 48)), (1, .int v1), (2, .int v2), (3, .int v3), (4, .long v4)] [] u) : ∀ (n : Nat) (v1 : Int32) (v2 : Int32) (v3 : Int32) (v4 : Int64) (v6 : Int32) (u : PoS), wl_X12_likely_39 k69 post n v1 v2 v3 v4 v6 u → AtS p l e (Rm 1) s m args below meth c V 8 0 0 (QL V below args s post) 39 [(0, .ref (eA V 48)), (1, .int v1), (2, .int v2), (3, .int v3), (4, .long v4), (6, .int v6)] [] u := by
  intro n
  induction n with
  | zero => intro v1 v2 v3 v4 v6 u h; exact h.elim
  | succ n ih =>
    intro v1 v2 v3 v4 v6 u h
    rw [wl_X12_likely_39] at h
    refine a_iload C 5 dX12_likely_39 rfl ?_
    refine a_bipush C 11 dX12_likely_41 (by decide) ?_
    refine a_icmp_ge C 69 dX12_likely_43 (by decide) (fun c6 => ?_) (fun c6 => ?_)
    · have h := h.1 c6
      refine a_sub [0, 1, 2, 3, 4] rfl ?_
      exact hk69 _ _ _ _ _ h
    · have h := h.2 c6
      refine a_aload_n C 0 dX12_likely_46 rfl rfl ?_
      refine a_getr C 36 (r := 68) dX12_likely_47 (by decide) rfl rfl rfl ib_12 (by decide) bw_1058 ?_
      refine a_iload C 5 dX12_likely_50 rfl ?_
      refine a_iload C 5 dX12_likely_52 rfl ?_
      refine a_if_ne C 61 dX12_likely_54 (by decide) (fun c5 => ?_) (fun c5 => ?_)
      · have h := h.1 c5
        refine a_lconst C 0 dX12_likely_61 (by decide) ?_
        refine tj_X12_likely_62 C ih _ _ _ _ _ _ _ _ h
      · have h := h.2 c5
        refine a_lconst C 1 dX12_likely_57 (by decide) ?_
        refine a_goto C 62 dX12_likely_58 (by decide) ?_
        refine tj_X12_likely_62 C ih _ _ _ _ _ _ _ _ h
set_option maxHeartbeats 4000000 in
set_option maxRecDepth 100000 in
theorem tj_X12_likely_128 {p : Program} {l : Launch} {e : Env} {s : State} {m : MethodId} {args : Array Value} {below : List Frame} {meth : Method} {c : Code} {V : VEn} {k82 : Int32 → Int32 → Int32 → Int64 → Int32 → Int32 → PoS → Prop} {post : Int64 → PoS → Prop} (C : CxS p s m args meth c V cX12_likely 8 RX12 (some .long)) (hk82 : ∀ (v1 : Int32) (v2 : Int32) (v3 : Int32) (v4 : Int64) (v6 : Int32) (v7 : Int32) (u : PoS), k82 v1 v2 v3 v4 v6 v7 u → AtS p l e (Rm 1) s m args below meth c V 8 0 0 (QL V below args s post) 82 [(0, .ref (eA V 48)), (1, .int v1), (2, .int v2), (3, .int v3), (4, .long v4), (6, .int v6), (7, .int v7)] [] u) (v1 : Int32) (v2 : Int32) (v3 : Int32) (v4 : Int64) (v6 : Int32) (v7 : Int32) (s0 : Int64) (s1 : Int64) (s2 : Int32) (u : PoS) (h : wj_X12_likely_128 k82 post v1 v2 v3 v4 v6 v7 s0 s1 s2 u) : AtS p l e (Rm 1) s m args below meth c V 8 0 0 (QL V below args s post) 128 [(0, .ref (eA V 48)), (1, .int v1), (2, .int v2), (3, .int v3), (4, .long v4), (6, .int v6), (7, .int v7)] [.long s0, .long s1, .int s2, .ref (eA V 68)] u := by
  rw [wj_X12_likely_128] at h
  refine a_ladd C dX12_likely_128 ?_
  refine b_last C (Int32.toNatClampNeg s2) dX12_likely_129 (by decide) rfl h.1 rfl ?_
  have h := h.2
  refine a_iinc C (v7 + (-1)) 6 [(7, .int (v7 + (-1))), (0, .ref (eA V 48)), (1, .int v1), (2, .int v2), (3, .int v3), (4, .long v4), (6, .int v6)] dX12_likely_130 rfl (congrArg (fun z => v7 + z) (show Int32.ofInt (-1) = (-1) by decide)) (by decide) rfl ?_
  refine a_goto C 82 dX12_likely_133 (by decide) ?_
  refine a_sub [1, 2, 3, 4, 5, 6, 0] rfl ?_
  exact hk82 _ _ _ _ _ _ _ h
set_option maxHeartbeats 4000000 in
set_option maxRecDepth 100000 in
theorem tl_X12_likely_82 {p : Program} {l : Launch} {e : Env} {s : State} {m : MethodId} {args : Array Value} {below : List Frame} {meth : Method} {c : Code} {V : VEn} {k136 : Int32 → Int32 → Int32 → Int64 → Int32 → PoS → Prop} {post : Int64 → PoS → Prop} (C : CxS p s m args meth c V cX12_likely 8 RX12 (some .long)) (hk136 : ∀ (v1 : Int32) (v2 : Int32) (v3 : Int32) (v4 : Int64) (v6 : Int32) (u : PoS), k136 v1 v2 v3 v4 v6 u → AtS p l e (Rm 1) s m args below meth c V 8 0 0 (QL V below args s post) 136 [(0, .ref (eA V 48)), (1, .int v1), (2, .int v2), (3, .int v3), (4, .long v4), (6, .int v6)] [] u) : ∀ (n : Nat) (v1 : Int32) (v2 : Int32) (v3 : Int32) (v4 : Int64) (v6 : Int32) (v7 : Int32) (u : PoS), wl_X12_likely_82 k136 post n v1 v2 v3 v4 v6 v7 u → AtS p l e (Rm 1) s m args below meth c V 8 0 0 (QL V below args s post) 82 [(0, .ref (eA V 48)), (1, .int v1), (2, .int v2), (3, .int v3), (4, .long v4), (6, .int v6), (7, .int v7)] [] u := by
  intro n
  induction n with
  | zero => intro v1 v2 v3 v4 v6 v7 u h; exact h.elim
  | succ n ih =>
    intro v1 v2 v3 v4 v6 v7 u h
    rw [wl_X12_likely_82] at h
    refine a_iload C 6 dX12_likely_82 rfl ?_
    refine a_if_lt C 136 dX12_likely_84 (by decide) (fun c9 => ?_) (fun c9 => ?_)
    · have h := h.1 c9
      refine a_sub [0, 1, 2, 3, 4, 5] rfl ?_
      exact hk136 _ _ _ _ _ _ h
    · have h := h.2 c9
      refine a_aload_n C 0 dX12_likely_87 rfl rfl ?_
      refine a_getr C 36 (r := 68) dX12_likely_88 (by decide) rfl rfl rfl ib_12 (by decide) bw_1058 ?_
      refine a_iload C 6 dX12_likely_91 rfl ?_
      refine a_aload_n C 0 dX12_likely_93 rfl rfl ?_
      refine a_getr C 36 (r := 68) dX12_likely_94 (by decide) rfl rfl rfl ib_12 (by decide) bw_1058 ?_
      refine a_iload C 6 dX12_likely_97 rfl ?_
      refine b_lald C (Int32.toNatClampNeg v7) dX12_likely_99 (by decide) rfl h.1 rfl ?_
      have h := h.2
      refine a_aload_n C 0 dX12_likely_100 rfl rfl ?_
      refine a_getr C 0 (r := 49) dX12_likely_101 (by decide) rfl rfl rfl ib_12 (by decide) bw_1022 ?_
      refine a_iconst C 0 dX12_likely_104 (by decide) ?_
      refine b_iald C 0 dX12_likely_105 (by decide) rfl (vp_lit (by decide)) (by decide) ?_
      refine a_iconst C 1 dX12_likely_106 (by decide) ?_
      refine a_isub C dX12_likely_107 ?_
      refine a_i2l C dX12_likely_108 ?_
      refine a_lmul C dX12_likely_109 ?_
      refine a_iload C 6 dX12_likely_110 rfl ?_
      refine a_if_le C 127 dX12_likely_112 (by decide) (fun c8 => ?_) (fun c8 => ?_)
      · have h := h.1 c8
        refine a_lconst C 0 dX12_likely_127 (by decide) ?_
        refine tj_X12_likely_128 C ih _ _ _ _ _ _ _ _ _ _ h
      · have h := h.2 c8
        refine a_aload_n C 0 dX12_likely_115 rfl rfl ?_
        refine a_getr C 36 (r := 68) dX12_likely_116 (by decide) rfl rfl rfl ib_12 (by decide) bw_1058 ?_
        refine a_iload C 6 dX12_likely_119 rfl ?_
        refine a_iconst C 1 dX12_likely_121 (by decide) ?_
        refine a_isub C dX12_likely_122 ?_
        refine b_lald C (Int32.toNatClampNeg (v7 - 1)) dX12_likely_123 (by decide) rfl h.1 rfl ?_
        have h := h.2
        refine a_goto C 128 dX12_likely_124 (by decide) ?_
        refine tj_X12_likely_128 C ih _ _ _ _ _ _ _ _ _ _ h
set_option maxHeartbeats 4000000 in
set_option maxRecDepth 100000 in
theorem tl_X12_likely_72 {p : Program} {l : Launch} {e : Env} {s : State} {m : MethodId} {args : Array Value} {below : List Frame} {meth : Method} {c : Code} {V : VEn} {k154 : Int32 → Int32 → Int64 → PoS → Prop} {post : Int64 → PoS → Prop} (C : CxS p s m args meth c V cX12_likely 8 RX12 (some .long)) (hk154 : ∀ (v2 : Int32) (v3 : Int32) (v4 : Int64) (u : PoS), k154 v2 v3 v4 u → AtS p l e (Rm 1) s m args below meth c V 8 0 0 (QL V below args s post) 154 [(0, .ref (eA V 48)), (2, .int v2), (3, .int v3), (4, .long v4)] [] u) : ∀ (n : Nat) (v1 : Int32) (v2 : Int32) (v3 : Int32) (v4 : Int64) (v6 : Int32) (u : PoS), wl_X12_likely_72 k154 post n v1 v2 v3 v4 v6 u → AtS p l e (Rm 1) s m args below meth c V 8 0 0 (QL V below args s post) 72 [(0, .ref (eA V 48)), (1, .int v1), (2, .int v2), (3, .int v3), (4, .long v4), (6, .int v6)] [] u := by
  intro n
  induction n with
  | zero => intro v1 v2 v3 v4 v6 u h; exact h.elim
  | succ n ih =>
    intro v1 v2 v3 v4 v6 u h
    rw [wl_X12_likely_72] at h
    refine a_iload C 5 dX12_likely_72 rfl ?_
    refine a_iload_n C 1 dX12_likely_74 rfl rfl ?_
    refine a_icmp_ge C 154 dX12_likely_75 (by decide) (fun c12 => ?_) (fun c12 => ?_)
    · have h := h.1 c12
      refine a_sub [0, 2, 3, 4] rfl ?_
      exact hk154 _ _ _ _ h
    · have h := h.2 c12
      refine a_bipush C 10 dX12_likely_78 (by decide) ?_
      refine a_istore C [(7, .int 10), (0, .ref (eA V 48)), (1, .int v1), (2, .int v2), (3, .int v3), (4, .long v4), (6, .int v6)] dX12_likely_80 (by decide) rfl ?_
      refine a_sub [1, 2, 3, 4, 5, 6, 0] rfl ?_
      obtain ⟨n82, h⟩ := h
      refine tl_X12_likely_82 C (fun v110 v210 v310 v410 v610 u10 h => ?_) n82 _ _ _ _ _ _ _ h
      refine a_lload C 4 dX12_likely_136 rfl ?_
      refine a_aload_n C 0 dX12_likely_138 rfl rfl ?_
      refine a_getr C 0 (r := 49) dX12_likely_139 (by decide) rfl rfl rfl ib_12 (by decide) bw_1022 ?_
      refine a_iconst C 0 dX12_likely_142 (by decide) ?_
      refine b_iald C 0 dX12_likely_143 (by decide) rfl (vp_lit (by decide)) (by decide) ?_
      refine a_i2l C dX12_likely_144 ?_
      refine a_lmul C dX12_likely_145 ?_
      refine a_topl (fun x11 ex11 => ?_)
      have h := h x11 ex11
      refine a_lstore C [(4, .long x11), (0, .ref (eA V 48)), (1, .int v110), (2, .int v210), (3, .int v310), (6, .int v610)] dX12_likely_146 (by decide) rfl ?_
      refine a_iinc C (v610 + 1) 5 [(6, .int (v610 + 1)), (4, .long x11), (0, .ref (eA V 48)), (1, .int v110), (2, .int v210), (3, .int v310)] dX12_likely_148 rfl (congrArg (fun z => v610 + z) (show Int32.ofInt 1 = 1 by decide)) (by decide) rfl ?_
      refine a_goto C 72 dX12_likely_151 (by decide) ?_
      refine a_sub [2, 3, 4, 5, 1, 0] rfl ?_
      exact ih _ _ _ _ _ _ h
set_option maxHeartbeats 4000000 in
set_option maxRecDepth 100000 in
theorem tj_X12_likely_169 {p : Program} {l : Launch} {e : Env} {s : State} {m : MethodId} {args : Array Value} {below : List Frame} {meth : Method} {c : Code} {V : VEn} {post : Int64 → PoS → Prop} (C : CxS p s m args meth c V cX12_likely 8 RX12 (some .long)) (v2 : Int32) (v4 : Int64) (s0 : Int64) (u : PoS) (h : wj_X12_likely_169 post v2 v4 s0 u) : AtS p l e (Rm 1) s m args below meth c V 8 0 0 (QL V below args s post) 169 [(0, .ref (eA V 48)), (2, .int v2), (4, .long v4)] [.long s0] u := by
  rw [wj_X12_likely_169] at h
  refine a_aload_n C 0 dX12_likely_169 rfl rfl ?_
  refine a_getr C 36 (r := 68) dX12_likely_170 (by decide) rfl rfl rfl ib_12 (by decide) bw_1058 ?_
  refine a_iload_n C 1 dX12_likely_173 rfl rfl ?_
  refine b_lald C (Int32.toNatClampNeg v2) dX12_likely_174 (by decide) rfl h.1 rfl ?_
  have h := h.2
  refine a_lload C 2 dX12_likely_175 rfl ?_
  refine a_callSl C dX12_likely_177 (m_X12_divisor l V h) bw_1685 bw_1686 bw_123 bw_1687 np_X12_divisor rfl rfl (by decide) (Nat.le_of_ble_eq_true rfl) ⟨Nat.zero_le _, Nat.zero_le _⟩ (fun r14 u15 h => ?_)
  refine a_ldiv C dX12_likely_180 h.1 ?_
  have h := h.2
  exact a_lret C dX12_likely_181 h
theorem np_X12_likely : yX12_likely.cls ≠ "java/lang/invoke/MethodHandle" ∧ yX12_likely.cls ≠ "java/lang/invoke/VarHandle" ∧ (parseMethodDescriptor yX12_likely.desc).map (fun d => d.parameters.length) = some 3 := by decide +kernel
set_option maxHeartbeats 4000000 in
set_option maxRecDepth 100000 in
theorem m_X12_likely (l : Launch) (V : VEn) {a0 : Int32} {a1 : Int32} {a2 : Int32} {u : PoS} {post : Int64 → PoS → Prop} (h : wp_X12_likely a0 a1 a2 u post) : KL l V yX12_likely cX12_likely 8 .long 1 [.ref (eA V 48), .int a0, .int a1, .int a2] u post := by
  refine KL_of (by decide) (Nat.le_of_ble_eq_true rfl) (lv := [(0, .ref (eA V 48)), (1, .int a0), (2, .int a1), (3, .int a2)]) rfl ?_
  intro p e s m args below meth c C
  rw [wp_X12_likely] at h
  refine a_iload_n C 1 dX12_likely_0 rfl rfl ?_
  refine a_iconst C 1 dX12_likely_1 (by decide) ?_
  refine a_bipush C 10 dX12_likely_2 (by decide) ?_
  refine a_callSi C dX12_likely_4 (m_X12_isIn l V h) bw_1147 bw_1148 bw_123 bw_1149 np_X12_isIn rfl rfl (by decide) (Nat.le_of_ble_eq_true rfl) ⟨Nat.zero_le _, Nat.zero_le _⟩ (fun r1 u2 h => ?_)
  refine a_if_eq C 29 dX12_likely_7 (by decide) (fun c19 => ?_) (fun c19 => ?_)
  · have h := h.1 c19
    refine a_ldc2 C dX12_likely_29 bw_1684 ?_
    exact a_lret C dX12_likely_32 h
  · have h := h.2 c19
    refine a_iload_n C 2 dX12_likely_10 rfl rfl ?_
    refine a_iconst C 0 dX12_likely_11 (by decide) ?_
    refine a_bipush C 10 dX12_likely_12 (by decide) ?_
    refine a_callSi C dX12_likely_14 (m_X12_isIn l V h) bw_1147 bw_1148 bw_123 bw_1149 np_X12_isIn rfl rfl (by decide) (Nat.le_of_ble_eq_true rfl) ⟨Nat.zero_le _, Nat.zero_le _⟩ (fun r3 u4 h => ?_)
    refine a_if_eq C 29 dX12_likely_17 (by decide) (fun c18 => ?_) (fun c18 => ?_)
    · have h := h.1 c18
      refine a_ldc2 C dX12_likely_29 bw_1684 ?_
      exact a_lret C dX12_likely_32 h
    · have h := h.2 c18
      refine a_aload_n C 0 dX12_likely_20 rfl rfl ?_
      refine a_getr C 0 (r := 49) dX12_likely_21 (by decide) rfl rfl rfl ib_12 (by decide) bw_1022 ?_
      refine a_iconst C 0 dX12_likely_24 (by decide) ?_
      refine b_iald C 0 dX12_likely_25 (by decide) rfl (vp_lit (by decide)) (by decide) ?_
      refine a_if_ne C 33 dX12_likely_26 (by decide) (fun c17 => ?_) (fun c17 => ?_)
      · have h := h.1 c17
        refine a_lconst C 1 dX12_likely_33 (by decide) ?_
        refine a_lstore C [(4, .long 1), (0, .ref (eA V 48)), (1, .int a0), (2, .int a1), (3, .int a2)] dX12_likely_34 (by decide) rfl ?_
        refine a_iconst C 0 dX12_likely_36 (by decide) ?_
        refine a_istore C [(6, .int 0), (4, .long 1), (0, .ref (eA V 48)), (1, .int a0), (2, .int a1), (3, .int a2)] dX12_likely_37 (by decide) rfl ?_
        refine a_sub [2, 3, 4, 5, 1, 0] rfl ?_
        obtain ⟨n39, h⟩ := h
        refine tl_X12_likely_39 C (fun v17 v27 v37 v47 u7 h => ?_) n39 _ _ _ _ _ _ h
        refine a_iconst C 0 dX12_likely_69 (by decide) ?_
        refine a_istore C [(6, .int 0), (0, .ref (eA V 48)), (1, .int v17), (2, .int v27), (3, .int v37), (4, .long v47)] dX12_likely_70 (by decide) rfl ?_
        refine a_sub [1, 2, 3, 4, 5, 0] rfl ?_
        obtain ⟨n72, h⟩ := h
        refine tl_X12_likely_72 C (fun v213 v313 v413 u13 h => ?_) n72 _ _ _ _ _ _ h
        refine a_iload_n C 2 dX12_likely_154 rfl rfl ?_
        refine a_if_eq C 163 dX12_likely_155 (by decide) (fun c16 => ?_) (fun c16 => ?_)
        · have h := h.1 c16
          refine a_aload_n C 0 dX12_likely_163 rfl rfl ?_
          refine a_getr C 36 (r := 68) dX12_likely_164 (by decide) rfl rfl rfl ib_12 (by decide) bw_1058 ?_
          refine a_iload_n C 1 dX12_likely_167 rfl rfl ?_
          refine b_lald C (Int32.toNatClampNeg v213) dX12_likely_168 (by decide) rfl h.1 rfl ?_
          have h := h.2
          refine a_sub [0, 1, 3] rfl ?_
          refine tj_X12_likely_169 C _ _ _ _ h
        · have h := h.2 c16
          refine a_lload C 3 dX12_likely_158 rfl ?_
          refine a_goto C 169 dX12_likely_160 (by decide) ?_
          refine a_sub [0, 1, 3] rfl ?_
          refine tj_X12_likely_169 C _ _ _ _ h
      · have h := h.2 c17
        refine a_ldc2 C dX12_likely_29 bw_1684 ?_
        exact a_lret C dX12_likely_32 h

/-! RainOnTheOneModel.days(Z)I -/
def wl_X12_days_15 (k45 : Int32 → Int32 → PoS → Prop) (post : Int32 → PoS → Prop) : Nat → Int32 → Int32 → Int32 → PoS → Prop
  | 0, _, _, _, _ => False
  | n + 1, v1, v2, v3, u => (((gI u 49 0) < v3 → k45 v1 v2 u) ∧ (¬ (gI u 49 0) < v3 → ¬ v3 = 0 ∧ ∀ x1 : Int32, x1 = (v2 + ((60 / v3) * (gI u 49 0))) → wl_X12_days_15 k45 post n v1 x1 (v3 + 1) u))
def wj_X12_days_55 (post : Int32 → PoS → Prop) (v2 : Int32) (s0 : Int32) (u : PoS) : Prop := wp_X12_divisor (Int32.toInt64 v2) 60 u (fun (r4 : Int64) (u5 : PoS) => ¬ (Int64.toInt32 r4) = 0 ∧ post (s0 / (Int64.toInt32 r4)) u5)
def wp_X12_days (a0 : Int32) (u : PoS) (post : Int32 → PoS → Prop) : Prop := ((¬ (gI u 49 0) = 0 → (∃ n15, wl_X12_days_15 (fun (v13 : Int32) (v23 : Int32) (u3 : PoS) => ((v13 = 0 → wj_X12_days_55 post v23 v23 u3) ∧ (¬ v13 = 0 → wj_X12_days_55 post v23 60 u3))) post n15 a0 0 1 u)) ∧ ((gI u 49 0) = 0 → post (-1) u))
set_option maxHeartbeats 4000000 in
set_option maxRecDepth 100000 in
theorem tl_X12_days_15 {p : Program} {l : Launch} {e : Env} {s : State} {m : MethodId} {args : Array Value} {below : List Frame} {meth : Method} {c : Code} {V : VEn} {k45 : Int32 → Int32 → PoS → Prop} {post : Int32 → PoS → Prop} (C : CxS p s m args meth c V cX12_days 4 RX12 (some .int)) (hk45 : ∀ (v1 : Int32) (v2 : Int32) (u : PoS), k45 v1 v2 u → AtS p l e (Rm 1) s m args below meth c V 4 0 0 (QI V below args s post) 45 [(1, .int v1), (2, .int v2)] [] u) : ∀ (n : Nat) (v1 : Int32) (v2 : Int32) (v3 : Int32) (u : PoS), wl_X12_days_15 k45 post n v1 v2 v3 u → AtS p l e (Rm 1) s m args below meth c V 4 0 0 (QI V below args s post) 15 [(0, .ref (eA V 48)), (1, .int v1), (2, .int v2), (3, .int v3)] [] u := by
  intro n
  induction n with
  | zero => intro v1 v2 v3 u h; exact h.elim
  | succ n ih =>
    intro v1 v2 v3 u h
    rw [wl_X12_days_15] at h
    refine a_iload_n C 3 dX12_days_15 rfl rfl ?_
    refine a_aload_n C 0 dX12_days_16 rfl rfl ?_
    refine a_getr C 0 (r := 49) dX12_days_17 (by decide) rfl rfl rfl ib_12 (by decide) bw_1022 ?_
    refine a_iconst C 0 dX12_days_20 (by decide) ?_
    refine b_iald C 0 dX12_days_21 (by decide) rfl (vp_lit (by decide)) (by decide) ?_
    refine a_icmp_gt C 45 dX12_days_22 (by decide) (fun c2 => ?_) (fun c2 => ?_)
    · have h := h.1 c2
      refine a_sub [1, 2] rfl ?_
      exact hk45 _ _ _ h
    · have h := h.2 c2
      refine a_iload_n C 2 dX12_days_25 rfl rfl ?_
      refine a_bipush C 60 dX12_days_26 (by decide) ?_
      refine a_iload_n C 3 dX12_days_28 rfl rfl ?_
      refine a_idiv C dX12_days_29 h.1 ?_
      have h := h.2
      refine a_aload_n C 0 dX12_days_30 rfl rfl ?_
      refine a_getr C 0 (r := 49) dX12_days_31 (by decide) rfl rfl rfl ib_12 (by decide) bw_1022 ?_
      refine a_iconst C 0 dX12_days_34 (by decide) ?_
      refine b_iald C 0 dX12_days_35 (by decide) rfl (vp_lit (by decide)) (by decide) ?_
      refine a_imul C dX12_days_36 ?_
      refine a_iadd C dX12_days_37 ?_
      refine a_topi (fun x1 ex1 => ?_)
      have h := h x1 ex1
      refine a_istore_n C [(2, .int x1), (0, .ref (eA V 48)), (1, .int v1), (3, .int v3)] dX12_days_38 rfl (by decide) rfl ?_
      refine a_iinc C (v3 + 1) 3 [(3, .int (v3 + 1)), (2, .int x1), (0, .ref (eA V 48)), (1, .int v1)] dX12_days_39 rfl (congrArg (fun z => v3 + z) (show Int32.ofInt 1 = 1 by decide)) (by decide) rfl ?_
      refine a_goto C 15 dX12_days_42 (by decide) ?_
      refine a_sub [2, 3, 1, 0] rfl ?_
      exact ih _ _ _ _ h
set_option maxHeartbeats 4000000 in
set_option maxRecDepth 100000 in
theorem tj_X12_days_55 {p : Program} {l : Launch} {e : Env} {s : State} {m : MethodId} {args : Array Value} {below : List Frame} {meth : Method} {c : Code} {V : VEn} {post : Int32 → PoS → Prop} (C : CxS p s m args meth c V cX12_days 4 RX12 (some .int)) (v2 : Int32) (s0 : Int32) (u : PoS) (h : wj_X12_days_55 post v2 s0 u) : AtS p l e (Rm 1) s m args below meth c V 4 0 0 (QI V below args s post) 55 [(2, .int v2)] [.int s0] u := by
  rw [wj_X12_days_55] at h
  refine a_iload_n C 0 dX12_days_55 rfl rfl ?_
  refine a_i2l C dX12_days_56 ?_
  refine a_ldc2 C dX12_days_57 bw_1692 ?_
  refine a_callSl C dX12_days_60 (m_X12_divisor l V h) bw_1685 bw_1686 bw_123 bw_1687 np_X12_divisor rfl rfl (by decide) (Nat.le_of_ble_eq_true rfl) ⟨Nat.zero_le _, Nat.zero_le _⟩ (fun r4 u5 h => ?_)
  refine a_l2i C dX12_days_63 ?_
  refine a_idiv C dX12_days_64 h.1 ?_
  have h := h.2
  exact a_iret C dX12_days_65 h
theorem np_X12_days : yX12_days.cls ≠ "java/lang/invoke/MethodHandle" ∧ yX12_days.cls ≠ "java/lang/invoke/VarHandle" ∧ (parseMethodDescriptor yX12_days.desc).map (fun d => d.parameters.length) = some 1 := by decide +kernel
set_option maxHeartbeats 4000000 in
set_option maxRecDepth 100000 in
theorem m_X12_days (l : Launch) (V : VEn) {a0 : Int32} {u : PoS} {post : Int32 → PoS → Prop} (h : wp_X12_days a0 u post) : KI l V yX12_days cX12_days 4 .int 1 [.ref (eA V 48), .int a0] u post := by
  refine KI_of (by decide) (Nat.le_of_ble_eq_true rfl) (lv := [(0, .ref (eA V 48)), (1, .int a0)]) rfl ?_
  intro p e s m args below meth c C
  rw [wp_X12_days] at h
  refine a_aload_n C 0 dX12_days_0 rfl rfl ?_
  refine a_getr C 0 (r := 49) dX12_days_1 (by decide) rfl rfl rfl ib_12 (by decide) bw_1022 ?_
  refine a_iconst C 0 dX12_days_4 (by decide) ?_
  refine b_iald C 0 dX12_days_5 (by decide) rfl (vp_lit (by decide)) (by decide) ?_
  refine a_if_ne C 11 dX12_days_6 (by decide) (fun c7 => ?_) (fun c7 => ?_)
  · have h := h.1 c7
    refine a_iconst C 0 dX12_days_11 (by decide) ?_
    refine a_istore_n C [(2, .int 0), (0, .ref (eA V 48)), (1, .int a0)] dX12_days_12 rfl (by decide) rfl ?_
    refine a_iconst C 1 dX12_days_13 (by decide) ?_
    refine a_istore_n C [(3, .int 1), (2, .int 0), (0, .ref (eA V 48)), (1, .int a0)] dX12_days_14 rfl (by decide) rfl ?_
    refine a_sub [2, 3, 1, 0] rfl ?_
    obtain ⟨n15, h⟩ := h
    refine tl_X12_days_15 C (fun v13 v23 u3 h => ?_) n15 _ _ _ _ h
    refine a_iload_n C 0 dX12_days_45 rfl rfl ?_
    refine a_if_eq C 54 dX12_days_46 (by decide) (fun c6 => ?_) (fun c6 => ?_)
    · have h := h.1 c6
      refine a_iload_n C 1 dX12_days_54 rfl rfl ?_
      refine a_sub [1] rfl ?_
      refine tj_X12_days_55 C _ _ _ h
    · have h := h.2 c6
      refine a_bipush C 60 dX12_days_49 (by decide) ?_
      refine a_goto C 55 dX12_days_51 (by decide) ?_
      refine a_sub [1] rfl ?_
      refine tj_X12_days_55 C _ _ _ h
  · have h := h.2 c7
    refine a_iconst C (-1) dX12_days_9 (by decide) ?_
    exact a_iret C dX12_days_10 h

/-! RainOnTheOneModel.said(II)I -/
def wp_X12_said (a0 : Int32) (a1 : Int32) (u : PoS) (post : Int32 → PoS → Prop) : Prop := ((¬ a0 = (-1) → wp_X12_isPerson a0 u (fun (r1 : Int32) (u2 : PoS) => ((r1 = 0 → post (-2) u2) ∧ (¬ r1 = 0 → wp_X12_isIn a1 (-999) 999 u2 (fun (r3 : Int32) (u4 : PoS) => ((r3 = 0 → post (-2) u4) ∧ (¬ r3 = 0 → ((¬ (gI u4 49 5) = 8 → vp_in (177 + (2 * (gI u4 49 5))) 3703 ∧ vp_in ((177 + (2 * (gI (pI u4 49 (Int32.toNatClampNeg (177 + (2 * (gI u4 49 5)))) a0) 49 5))) + 1) 3703 ∧ post (gI (pI (pI (pI u4 49 (Int32.toNatClampNeg (177 + (2 * (gI u4 49 5)))) a0) 49 (Int32.toNatClampNeg ((177 + (2 * (gI (pI u4 49 (Int32.toNatClampNeg (177 + (2 * (gI u4 49 5)))) a0) 49 5))) + 1)) a1) 49 5 ((gI (pI (pI u4 49 (Int32.toNatClampNeg (177 + (2 * (gI u4 49 5)))) a0) 49 (Int32.toNatClampNeg ((177 + (2 * (gI (pI u4 49 (Int32.toNatClampNeg (177 + (2 * (gI u4 49 5)))) a0) 49 5))) + 1)) a1) 49 5) + 1)) 49 5) (pI (pI (pI u4 49 (Int32.toNatClampNeg (177 + (2 * (gI u4 49 5)))) a0) 49 (Int32.toNatClampNeg ((177 + (2 * (gI (pI u4 49 (Int32.toNatClampNeg (177 + (2 * (gI u4 49 5)))) a0) 49 5))) + 1)) a1) 49 5 ((gI (pI (pI u4 49 (Int32.toNatClampNeg (177 + (2 * (gI u4 49 5)))) a0) 49 (Int32.toNatClampNeg ((177 + (2 * (gI (pI u4 49 (Int32.toNatClampNeg (177 + (2 * (gI u4 49 5)))) a0) 49 5))) + 1)) a1) 49 5) + 1))) ∧ ((gI u4 49 5) = 8 → post (-2) u4))))))))) ∧ (a0 = (-1) → post 0 (pI u 49 5 0)))
theorem np_X12_said : yX12_said.cls ≠ "java/lang/invoke/MethodHandle" ∧ yX12_said.cls ≠ "java/lang/invoke/VarHandle" ∧ (parseMethodDescriptor yX12_said.desc).map (fun d => d.parameters.length) = some 2 := by decide +kernel
set_option maxHeartbeats 4000000 in
set_option maxRecDepth 100000 in
theorem m_X12_said (l : Launch) (V : VEn) {a0 : Int32} {a1 : Int32} {u : PoS} {post : Int32 → PoS → Prop} (h : wp_X12_said a0 a1 u post) : KI l V yX12_said cX12_said 3 .int 2 [.ref (eA V 48), .int a0, .int a1] u post := by
  refine KI_of (by decide) (Nat.le_of_ble_eq_true rfl) (lv := [(0, .ref (eA V 48)), (1, .int a0), (2, .int a1)]) rfl ?_
  intro p e s m args below meth c C
  rw [wp_X12_said] at h
  refine a_iload_n C 1 dX12_said_0 rfl rfl ?_
  refine a_iconst C (-1) dX12_said_1 (by decide) ?_
  refine a_icmp_ne C 14 dX12_said_2 (by decide) (fun c8 => ?_) (fun c8 => ?_)
  · have h := h.1 c8
    refine a_aload_n C 0 dX12_said_14 rfl rfl ?_
    refine a_iload_n C 1 dX12_said_15 rfl rfl ?_
    refine a_callVi C dX12_said_16 (m_X12_isPerson l V h) bw_1342 bw_1344 bw_71 bw_123 bw_1345 (by decide) rfl rfl np_X12_isPerson rfl rfl (by decide) (Nat.le_of_ble_eq_true rfl) ⟨Nat.zero_le _, Nat.zero_le _⟩ (fun r1 u2 h => ?_)
    refine a_if_eq C 46 dX12_said_19 (by decide) (fun c7 => ?_) (fun c7 => ?_)
    · have h := h.1 c7
      refine a_bipush C (-2) dX12_said_46 (by decide) ?_
      exact a_iret C dX12_said_48 h
    · have h := h.2 c7
      refine a_iload_n C 2 dX12_said_22 rfl rfl ?_
      refine a_sipush C (-999) dX12_said_23 (by decide) ?_
      refine a_sipush C 999 dX12_said_26 (by decide) ?_
      refine a_callSi C dX12_said_29 (m_X12_isIn l V h) bw_1147 bw_1148 bw_123 bw_1149 np_X12_isIn rfl rfl (by decide) (Nat.le_of_ble_eq_true rfl) ⟨Nat.zero_le _, Nat.zero_le _⟩ (fun r3 u4 h => ?_)
      refine a_if_eq C 46 dX12_said_32 (by decide) (fun c6 => ?_) (fun c6 => ?_)
      · have h := h.1 c6
        refine a_bipush C (-2) dX12_said_46 (by decide) ?_
        exact a_iret C dX12_said_48 h
      · have h := h.2 c6
        refine a_aload_n C 0 dX12_said_35 rfl rfl ?_
        refine a_getr C 0 (r := 49) dX12_said_36 (by decide) rfl rfl rfl ib_12 (by decide) bw_1022 ?_
        refine a_iconst C 5 dX12_said_39 (by decide) ?_
        refine b_iald C 5 dX12_said_40 (by decide) rfl (vp_lit (by decide)) (by decide) ?_
        refine a_bipush C 8 dX12_said_41 (by decide) ?_
        refine a_icmp_ne C 49 dX12_said_43 (by decide) (fun c5 => ?_) (fun c5 => ?_)
        · have h := h.1 c5
          refine a_aload_n C 0 dX12_said_49 rfl rfl ?_
          refine a_getr C 0 (r := 49) dX12_said_50 (by decide) rfl rfl rfl ib_12 (by decide) bw_1022 ?_
          refine a_sipush C 177 dX12_said_53 (by decide) ?_
          refine a_iconst C 2 dX12_said_56 (by decide) ?_
          refine a_aload_n C 0 dX12_said_57 rfl rfl ?_
          refine a_getr C 0 (r := 49) dX12_said_58 (by decide) rfl rfl rfl ib_12 (by decide) bw_1022 ?_
          refine a_iconst C 5 dX12_said_61 (by decide) ?_
          refine b_iald C 5 dX12_said_62 (by decide) rfl (vp_lit (by decide)) (by decide) ?_
          refine a_imul C dX12_said_63 ?_
          refine a_iadd C dX12_said_64 ?_
          refine a_iload_n C 1 dX12_said_65 rfl rfl ?_
          refine b_iast C (Int32.toNatClampNeg (177 + (2 * (gI u4 49 5)))) dX12_said_66 (by decide) rfl h.1 rfl ?_
          have h := h.2
          refine a_aload_n C 0 dX12_said_67 rfl rfl ?_
          refine a_getr C 0 (r := 49) dX12_said_68 (by decide) rfl rfl rfl ib_12 (by decide) bw_1022 ?_
          refine a_sipush C 177 dX12_said_71 (by decide) ?_
          refine a_iconst C 2 dX12_said_74 (by decide) ?_
          refine a_aload_n C 0 dX12_said_75 rfl rfl ?_
          refine a_getr C 0 (r := 49) dX12_said_76 (by decide) rfl rfl rfl ib_12 (by decide) bw_1022 ?_
          refine a_iconst C 5 dX12_said_79 (by decide) ?_
          refine b_iald C 5 dX12_said_80 (by decide) rfl (vp_lit (by decide)) (by decide) ?_
          refine a_imul C dX12_said_81 ?_
          refine a_iadd C dX12_said_82 ?_
          refine a_iconst C 1 dX12_said_83 (by decide) ?_
          refine a_iadd C dX12_said_84 ?_
          refine a_iload_n C 2 dX12_said_85 rfl rfl ?_
          refine b_iast C (Int32.toNatClampNeg ((177 + (2 * (gI (pI u4 49 (Int32.toNatClampNeg (177 + (2 * (gI u4 49 5)))) a0) 49 5))) + 1)) dX12_said_86 (by decide) rfl h.1 rfl ?_
          have h := h.2
          refine a_aload_n C 0 dX12_said_87 rfl rfl ?_
          refine a_getr C 0 (r := 49) dX12_said_88 (by decide) rfl rfl rfl ib_12 (by decide) bw_1022 ?_
          refine a_iconst C 5 dX12_said_91 (by decide) ?_
          refine a_dup2 C dX12_said_92 rfl rfl ?_
          refine b_iald C 5 dX12_said_93 (by decide) rfl (vp_lit (by decide)) (by decide) ?_
          refine a_iconst C 1 dX12_said_94 (by decide) ?_
          refine a_iadd C dX12_said_95 ?_
          refine b_iast C 5 dX12_said_96 (by decide) rfl (vp_lit (by decide)) (by decide) ?_
          refine a_aload_n C 0 dX12_said_97 rfl rfl ?_
          refine a_getr C 0 (r := 49) dX12_said_98 (by decide) rfl rfl rfl ib_12 (by decide) bw_1022 ?_
          refine a_iconst C 5 dX12_said_101 (by decide) ?_
          refine b_iald C 5 dX12_said_102 (by decide) rfl (vp_lit (by decide)) (by decide) ?_
          exact a_iret C dX12_said_103 h
        · have h := h.2 c5
          refine a_bipush C (-2) dX12_said_46 (by decide) ?_
          exact a_iret C dX12_said_48 h
  · have h := h.2 c8
    refine a_aload_n C 0 dX12_said_5 rfl rfl ?_
    refine a_getr C 0 (r := 49) dX12_said_6 (by decide) rfl rfl rfl ib_12 (by decide) bw_1022 ?_
    refine a_iconst C 5 dX12_said_9 (by decide) ?_
    refine a_iconst C 0 dX12_said_10 (by decide) ?_
    refine b_iast C 5 dX12_said_11 (by decide) rfl (vp_lit (by decide)) (by decide) ?_
    refine a_iconst C 0 dX12_said_12 (by decide) ?_
    exact a_iret C dX12_said_13 h

/-! RainOnTheOneModel.whose()I -/
def wj_X12_whose_75 (k19 : Int32 → Int32 → Int32 → Int32 → PoS → Prop) (post : Int32 → PoS → Prop) (v1 : Int32) (v2 : Int32) (v4 : Int32) (s0 : Int32) (u : PoS) : Prop := k19 v1 v2 s0 (v4 + 1) u
def wj_X12_whose_74 (k19 : Int32 → Int32 → Int32 → Int32 → PoS → Prop) (post : Int32 → PoS → Prop) (v1 : Int32) (v2 : Int32) (v4 : Int32) (u : PoS) : Prop := wj_X12_whose_75 k19 post v1 v2 v4 0 u
def wl_X12_whose_19 (k82 : Int32 → Int32 → Int32 → PoS → Prop) (post : Int32 → PoS → Prop) : Nat → Int32 → Int32 → Int32 → Int32 → PoS → Prop
  | 0, _, _, _, _, _ => False
  | n + 1, v1, v2, v3, v4, u => (((gI u 49 5) ≤ v4 → k82 v1 v2 v3 u) ∧ (¬ (gI u 49 5) ≤ v4 → ((v3 = 0 → wj_X12_whose_74 (wl_X12_whose_19 k82 post n) post v1 v2 v4 u) ∧ (¬ v3 = 0 → vp_in (177 + (2 * v4)) 3703 ∧ wp_X12_wantsOf v2 (gI u 49 (Int32.toNatClampNeg (177 + (2 * v4)))) u (fun (r1 : Int32) (u2 : PoS) => vp_in ((177 + (2 * v4)) + 1) 3703 ∧ ((¬ r1 = (gI u2 49 (Int32.toNatClampNeg ((177 + (2 * v4)) + 1))) → wj_X12_whose_74 (wl_X12_whose_19 k82 post n) post v1 v2 v4 u2) ∧ (r1 = (gI u2 49 (Int32.toNatClampNeg ((177 + (2 * v4)) + 1))) → wj_X12_whose_75 (wl_X12_whose_19 k82 post n) post v1 v2 v4 1 u2)))))))
def wj_X12_whose_94 (k4 : Int32 → Int32 → PoS → Prop) (post : Int32 → PoS → Prop) (v2 : Int32) (s0 : Int32) (s1 : Int32) (u : PoS) : Prop := ∀ x7 : Int32, x7 = (s1 ||| s0) → k4 x7 (v2 + 1) u
def wl_X12_whose_4 (post : Int32 → PoS → Prop) : Nat → Int32 → Int32 → PoS → Prop
  | 0, _, _, _ => False
  | n + 1, v1, v2, u => (((gI u 49 1) ≤ v2 → post v1 u) ∧ (¬ (gI u 49 1) ≤ v2 → (∃ n19, wl_X12_whose_19 (fun (v16 : Int32) (v26 : Int32) (v36 : Int32) (u6 : PoS) => ((v36 = 0 → wj_X12_whose_94 (wl_X12_whose_4 post n) post v26 0 v16 u6) ∧ (¬ v36 = 0 → wj_X12_whose_94 (wl_X12_whose_4 post n) post v26 (1 <<< (v26 &&& 31)) v16 u6))) post n19 v1 v2 1 0 u)))
def wp_X12_whose (u : PoS) (post : Int32 → PoS → Prop) : Prop := (∃ n4, wl_X12_whose_4 post n4 0 0 u)
set_option maxHeartbeats 4000000 in
set_option maxRecDepth 100000 in
theorem tj_X12_whose_75 {p : Program} {l : Launch} {e : Env} {s : State} {m : MethodId} {args : Array Value} {below : List Frame} {meth : Method} {c : Code} {V : VEn} {k19 : Int32 → Int32 → Int32 → Int32 → PoS → Prop} {post : Int32 → PoS → Prop} (C : CxS p s m args meth c V cX12_whose 5 RX12 (some .int)) (hk19 : ∀ (v1 : Int32) (v2 : Int32) (v3 : Int32) (v4 : Int32) (u : PoS), k19 v1 v2 v3 v4 u → AtS p l e (Rm 6) s m args below meth c V 5 0 0 (QI V below args s post) 19 [(0, .ref (eA V 48)), (1, .int v1), (2, .int v2), (3, .int v3), (4, .int v4)] [] u) (v1 : Int32) (v2 : Int32) (v4 : Int32) (s0 : Int32) (u : PoS) (h : wj_X12_whose_75 k19 post v1 v2 v4 s0 u) : AtS p l e (Rm 6) s m args below meth c V 5 0 0 (QI V below args s post) 75 [(0, .ref (eA V 48)), (1, .int v1), (2, .int v2), (4, .int v4)] [.int s0] u := by
  rw [wj_X12_whose_75] at h
  refine a_istore_n C [(3, .int s0), (0, .ref (eA V 48)), (1, .int v1), (2, .int v2), (4, .int v4)] dX12_whose_75 rfl (by decide) rfl ?_
  refine a_iinc C (v4 + 1) 4 [(4, .int (v4 + 1)), (3, .int s0), (0, .ref (eA V 48)), (1, .int v1), (2, .int v2)] dX12_whose_76 rfl (congrArg (fun z => v4 + z) (show Int32.ofInt 1 = 1 by decide)) (by decide) rfl ?_
  refine a_goto C 19 dX12_whose_79 (by decide) ?_
  refine a_sub [2, 3, 4, 1, 0] rfl ?_
  exact hk19 _ _ _ _ _ h
set_option maxHeartbeats 4000000 in
set_option maxRecDepth 100000 in
theorem tj_X12_whose_74 {p : Program} {l : Launch} {e : Env} {s : State} {m : MethodId} {args : Array Value} {below : List Frame} {meth : Method} {c : Code} {V : VEn} {k19 : Int32 → Int32 → Int32 → Int32 → PoS → Prop} {post : Int32 → PoS → Prop} (C : CxS p s m args meth c V cX12_whose 5 RX12 (some .int)) (hk19 : ∀ (v1 : Int32) (v2 : Int32) (v3 : Int32) (v4 : Int32) (u : PoS), k19 v1 v2 v3 v4 u → AtS p l e (Rm 6) s m args below meth c V 5 0 0 (QI V below args s post) 19 [(0, .ref (eA V 48)), (1, .int v1), (2, .int v2), (3, .int v3), (4, .int v4)] [] u) (v1 : Int32) (v2 : Int32) (v4 : Int32) (u : PoS) (h : wj_X12_whose_74 k19 post v1 v2 v4 u) : AtS p l e (Rm 6) s m args below meth c V 5 0 0 (QI V below args s post) 74 [(0, .ref (eA V 48)), (1, .int v1), (2, .int v2), (4, .int v4)] [] u := by
  rw [wj_X12_whose_74] at h
  refine a_iconst C 0 dX12_whose_74 (by decide) ?_
  refine tj_X12_whose_75 C hk19 _ _ _ _ _ h
set_option maxHeartbeats 4000000 in
set_option maxRecDepth 100000 in
theorem tl_X12_whose_19 {p : Program} {l : Launch} {e : Env} {s : State} {m : MethodId} {args : Array Value} {below : List Frame} {meth : Method} {c : Code} {V : VEn} {k82 : Int32 → Int32 → Int32 → PoS → Prop} {post : Int32 → PoS → Prop} (C : CxS p s m args meth c V cX12_whose 5 RX12 (some .int)) (hk82 : ∀ (v1 : Int32) (v2 : Int32) (v3 : Int32) (u : PoS), k82 v1 v2 v3 u → AtS p l e (Rm 6) s m args below meth c V 5 0 0 (QI V below args s post) 82 [(0, .ref (eA V 48)), (1, .int v1), (2, .int v2), (3, .int v3)] [] u) : ∀ (n : Nat) (v1 : Int32) (v2 : Int32) (v3 : Int32) (v4 : Int32) (u : PoS), wl_X12_whose_19 k82 post n v1 v2 v3 v4 u → AtS p l e (Rm 6) s m args below meth c V 5 0 0 (QI V below args s post) 19 [(0, .ref (eA V 48)), (1, .int v1), (2, .int v2), (3, .int v3), (4, .int v4)] [] u := by
  intro n
  induction n with
  | zero => intro v1 v2 v3 v4 u h; exact h.elim
  | succ n ih =>
    intro v1 v2 v3 v4 u h
    rw [wl_X12_whose_19] at h
    refine a_iload C 4 dX12_whose_19 rfl ?_
    refine a_aload_n C 0 dX12_whose_21 rfl rfl ?_
    refine a_getr C 0 (r := 49) dX12_whose_22 (by decide) rfl rfl rfl ib_12 (by decide) bw_1022 ?_
    refine a_iconst C 5 dX12_whose_25 (by decide) ?_
    refine b_iald C 5 dX12_whose_26 (by decide) rfl (vp_lit (by decide)) (by decide) ?_
    refine a_icmp_ge C 82 dX12_whose_27 (by decide) (fun c5 => ?_) (fun c5 => ?_)
    · have h := h.1 c5
      refine a_sub [0, 1, 2, 3] rfl ?_
      exact hk82 _ _ _ _ h
    · have h := h.2 c5
      refine a_iload_n C 3 dX12_whose_30 rfl rfl ?_
      refine a_if_eq C 74 dX12_whose_31 (by decide) (fun c4 => ?_) (fun c4 => ?_)
      · have h := h.1 c4
        refine a_sub [0, 1, 2, 4] rfl ?_
        refine tj_X12_whose_74 C ih _ _ _ _ h
      · have h := h.2 c4
        refine a_aload_n C 0 dX12_whose_34 rfl rfl ?_
        refine a_iload_n C 2 dX12_whose_35 rfl rfl ?_
        refine a_aload_n C 0 dX12_whose_36 rfl rfl ?_
        refine a_getr C 0 (r := 49) dX12_whose_37 (by decide) rfl rfl rfl ib_12 (by decide) bw_1022 ?_
        refine a_sipush C 177 dX12_whose_40 (by decide) ?_
        refine a_iconst C 2 dX12_whose_43 (by decide) ?_
        refine a_iload C 4 dX12_whose_44 rfl ?_
        refine a_imul C dX12_whose_46 ?_
        refine a_iadd C dX12_whose_47 ?_
        refine b_iald C (Int32.toNatClampNeg (177 + (2 * v4))) dX12_whose_48 (by decide) rfl h.1 rfl ?_
        have h := h.2
        refine a_callVi C dX12_whose_49 (m_X12_wantsOf l V h) bw_1409 bw_1411 bw_81 bw_123 bw_1412 (by decide) rfl rfl np_X12_wantsOf rfl rfl (by decide) (Nat.le_of_ble_eq_true rfl) ⟨Nat.zero_le _, Nat.zero_le _⟩ (fun r1 u2 h => ?_)
        refine a_aload_n C 0 dX12_whose_52 rfl rfl ?_
        refine a_getr C 0 (r := 49) dX12_whose_53 (by decide) rfl rfl rfl ib_12 (by decide) bw_1022 ?_
        refine a_sipush C 177 dX12_whose_56 (by decide) ?_
        refine a_iconst C 2 dX12_whose_59 (by decide) ?_
        refine a_iload C 4 dX12_whose_60 rfl ?_
        refine a_imul C dX12_whose_62 ?_
        refine a_iadd C dX12_whose_63 ?_
        refine a_iconst C 1 dX12_whose_64 (by decide) ?_
        refine a_iadd C dX12_whose_65 ?_
        refine b_iald C (Int32.toNatClampNeg ((177 + (2 * v4)) + 1)) dX12_whose_66 (by decide) rfl h.1 rfl ?_
        have h := h.2
        refine a_icmp_ne C 74 dX12_whose_67 (by decide) (fun c3 => ?_) (fun c3 => ?_)
        · have h := h.1 c3
          refine a_sub [0, 1, 2, 4] rfl ?_
          refine tj_X12_whose_74 C ih _ _ _ _ h
        · have h := h.2 c3
          refine a_iconst C 1 dX12_whose_70 (by decide) ?_
          refine a_goto C 75 dX12_whose_71 (by decide) ?_
          refine a_sub [0, 1, 2, 4] rfl ?_
          refine tj_X12_whose_75 C ih _ _ _ _ _ h
set_option maxHeartbeats 4000000 in
set_option maxRecDepth 100000 in
theorem tj_X12_whose_94 {p : Program} {l : Launch} {e : Env} {s : State} {m : MethodId} {args : Array Value} {below : List Frame} {meth : Method} {c : Code} {V : VEn} {k4 : Int32 → Int32 → PoS → Prop} {post : Int32 → PoS → Prop} (C : CxS p s m args meth c V cX12_whose 5 RX12 (some .int)) (hk4 : ∀ (v1 : Int32) (v2 : Int32) (u : PoS), k4 v1 v2 u → AtS p l e (Rm 6) s m args below meth c V 5 0 0 (QI V below args s post) 4 [(0, .ref (eA V 48)), (1, .int v1), (2, .int v2)] [] u) (v2 : Int32) (s0 : Int32) (s1 : Int32) (u : PoS) (h : wj_X12_whose_94 k4 post v2 s0 s1 u) : AtS p l e (Rm 6) s m args below meth c V 5 0 0 (QI V below args s post) 94 [(0, .ref (eA V 48)), (2, .int v2)] [.int s0, .int s1] u := by
  rw [wj_X12_whose_94] at h
  refine a_ior C dX12_whose_94 ?_
  refine a_topi (fun x7 ex7 => ?_)
  have h := h x7 ex7
  refine a_istore_n C [(1, .int x7), (0, .ref (eA V 48)), (2, .int v2)] dX12_whose_95 rfl (by decide) rfl ?_
  refine a_iinc C (v2 + 1) 2 [(2, .int (v2 + 1)), (1, .int x7), (0, .ref (eA V 48))] dX12_whose_96 rfl (congrArg (fun z => v2 + z) (show Int32.ofInt 1 = 1 by decide)) (by decide) rfl ?_
  refine a_goto C 4 dX12_whose_99 (by decide) ?_
  refine a_sub [2, 1, 0] rfl ?_
  exact hk4 _ _ _ h
set_option maxHeartbeats 4000000 in
set_option maxRecDepth 100000 in
theorem tl_X12_whose_4 {p : Program} {l : Launch} {e : Env} {s : State} {m : MethodId} {args : Array Value} {below : List Frame} {meth : Method} {c : Code} {V : VEn} {post : Int32 → PoS → Prop} (C : CxS p s m args meth c V cX12_whose 5 RX12 (some .int)) : ∀ (n : Nat) (v1 : Int32) (v2 : Int32) (u : PoS), wl_X12_whose_4 post n v1 v2 u → AtS p l e (Rm 6) s m args below meth c V 5 0 0 (QI V below args s post) 4 [(0, .ref (eA V 48)), (1, .int v1), (2, .int v2)] [] u := by
  intro n
  induction n with
  | zero => intro v1 v2 u h; exact h.elim
  | succ n ih =>
    intro v1 v2 u h
    rw [wl_X12_whose_4] at h
    refine a_iload_n C 2 dX12_whose_4 rfl rfl ?_
    refine a_aload_n C 0 dX12_whose_5 rfl rfl ?_
    refine a_getr C 0 (r := 49) dX12_whose_6 (by decide) rfl rfl rfl ib_12 (by decide) bw_1022 ?_
    refine a_iconst C 1 dX12_whose_9 (by decide) ?_
    refine b_iald C 1 dX12_whose_10 (by decide) rfl (vp_lit (by decide)) (by decide) ?_
    refine a_icmp_ge C 102 dX12_whose_11 (by decide) (fun c9 => ?_) (fun c9 => ?_)
    · have h := h.1 c9
      refine a_iload_n C 1 dX12_whose_102 rfl rfl ?_
      exact a_iret C dX12_whose_103 h
    · have h := h.2 c9
      refine a_iconst C 1 dX12_whose_14 (by decide) ?_
      refine a_istore_n C [(3, .int 1), (0, .ref (eA V 48)), (1, .int v1), (2, .int v2)] dX12_whose_15 rfl (by decide) rfl ?_
      refine a_iconst C 0 dX12_whose_16 (by decide) ?_
      refine a_istore C [(4, .int 0), (3, .int 1), (0, .ref (eA V 48)), (1, .int v1), (2, .int v2)] dX12_whose_17 (by decide) rfl ?_
      refine a_sub [2, 3, 4, 1, 0] rfl ?_
      obtain ⟨n19, h⟩ := h
      refine tl_X12_whose_19 C (fun v16 v26 v36 u6 h => ?_) n19 _ _ _ _ _ h
      refine a_iload_n C 1 dX12_whose_82 rfl rfl ?_
      refine a_iload_n C 3 dX12_whose_83 rfl rfl ?_
      refine a_if_eq C 93 dX12_whose_84 (by decide) (fun c8 => ?_) (fun c8 => ?_)
      · have h := h.1 c8
        refine a_iconst C 0 dX12_whose_93 (by decide) ?_
        refine a_sub [0, 2] rfl ?_
        refine tj_X12_whose_94 C ih _ _ _ _ h
      · have h := h.2 c8
        refine a_iconst C 1 dX12_whose_87 (by decide) ?_
        refine a_iload_n C 2 dX12_whose_88 rfl rfl ?_
        refine a_ishl C dX12_whose_89 ?_
        refine a_goto C 94 dX12_whose_90 (by decide) ?_
        refine a_sub [0, 2] rfl ?_
        refine tj_X12_whose_94 C ih _ _ _ _ h
theorem np_X12_whose : yX12_whose.cls ≠ "java/lang/invoke/MethodHandle" ∧ yX12_whose.cls ≠ "java/lang/invoke/VarHandle" ∧ (parseMethodDescriptor yX12_whose.desc).map (fun d => d.parameters.length) = some 0 := by decide +kernel
set_option maxHeartbeats 4000000 in
set_option maxRecDepth 100000 in
theorem m_X12_whose (l : Launch) (V : VEn) {u : PoS} {post : Int32 → PoS → Prop} (h : wp_X12_whose  u post) : KI l V yX12_whose cX12_whose 5 .int 6 [.ref (eA V 48)] u post := by
  refine KI_of (by decide) (Nat.le_of_ble_eq_true rfl) (lv := [(0, .ref (eA V 48))]) rfl ?_
  intro p e s m args below meth c C
  rw [wp_X12_whose] at h
  refine a_iconst C 0 dX12_whose_0 (by decide) ?_
  refine a_istore_n C [(1, .int 0), (0, .ref (eA V 48))] dX12_whose_1 rfl (by decide) rfl ?_
  refine a_iconst C 0 dX12_whose_2 (by decide) ?_
  refine a_istore_n C [(2, .int 0), (1, .int 0), (0, .ref (eA V 48))] dX12_whose_3 rfl (by decide) rfl ?_
  refine a_sub [2, 1, 0] rfl ?_
  obtain ⟨n4, h⟩ := h
  refine tl_X12_whose_4 C n4 _ _ _ h

/-! RainOnTheOneModel.image()I -/
def wp_X12_image (u : PoS) (post : Int32 → PoS → Prop) : Prop := wp_X12_copyA u (fun (u2 : PoS) => post (gI u2 49 6) u2)
theorem np_X12_image : yX12_image.cls ≠ "java/lang/invoke/MethodHandle" ∧ yX12_image.cls ≠ "java/lang/invoke/VarHandle" ∧ (parseMethodDescriptor yX12_image.desc).map (fun d => d.parameters.length) = some 0 := by decide +kernel
set_option maxHeartbeats 4000000 in
set_option maxRecDepth 100000 in
theorem m_X12_image (l : Launch) (V : VEn) {u : PoS} {post : Int32 → PoS → Prop} (h : wp_X12_image  u post) : KI l V yX12_image cX12_image 1 .int 1 [.ref (eA V 48)] u post := by
  refine KI_of (by decide) (Nat.le_of_ble_eq_true rfl) (lv := [(0, .ref (eA V 48))]) rfl ?_
  intro p e s m args below meth c C
  rw [wp_X12_image] at h
  refine a_aload_n C 0 dX12_image_0 rfl rfl ?_
  refine a_getr C 0 (r := 49) dX12_image_1 (by decide) rfl rfl rfl ib_12 (by decide) bw_1022 ?_
  refine a_aload_n C 0 dX12_image_4 rfl rfl ?_
  refine a_getr C 1 (r := 50) dX12_image_5 (by decide) rfl rfl rfl ib_12 (by decide) bw_1023 ?_
  refine a_callSv C dX12_image_8 (m_X12_copyA l V h) bw_1019 bw_1020 bw_123 bw_1021 np_X12_copyA rfl rfl (by decide) (Nat.le_of_ble_eq_true rfl) ⟨Nat.zero_le _, Nat.zero_le _⟩ (fun u2 h => ?_)
  refine a_aload_n C 0 dX12_image_11 rfl rfl ?_
  refine a_getr C 0 (r := 49) dX12_image_12 (by decide) rfl rfl rfl ib_12 (by decide) bw_1022 ?_
  refine a_bipush C 6 dX12_image_15 (by decide) ?_
  refine b_iald C 6 dX12_image_17 (by decide) rfl (vp_lit (by decide)) (by decide) ?_
  exact a_iret C dX12_image_18 h

/-! RainOnTheOneModel.back()I -/
def wp_X12_back (u : PoS) (post : Int32 → PoS → Prop) : Prop := wp_X12_copyB u (fun (u2 : PoS) => post (gI u2 49 6) u2)
theorem np_X12_back : yX12_back.cls ≠ "java/lang/invoke/MethodHandle" ∧ yX12_back.cls ≠ "java/lang/invoke/VarHandle" ∧ (parseMethodDescriptor yX12_back.desc).map (fun d => d.parameters.length) = some 0 := by decide +kernel
set_option maxHeartbeats 4000000 in
set_option maxRecDepth 100000 in
theorem m_X12_back (l : Launch) (V : VEn) {u : PoS} {post : Int32 → PoS → Prop} (h : wp_X12_back  u post) : KI l V yX12_back cX12_back 1 .int 1 [.ref (eA V 48)] u post := by
  refine KI_of (by decide) (Nat.le_of_ble_eq_true rfl) (lv := [(0, .ref (eA V 48))]) rfl ?_
  intro p e s m args below meth c C
  rw [wp_X12_back] at h
  refine a_aload_n C 0 dX12_back_0 rfl rfl ?_
  refine a_getr C 1 (r := 50) dX12_back_1 (by decide) rfl rfl rfl ib_12 (by decide) bw_1023 ?_
  refine a_aload_n C 0 dX12_back_4 rfl rfl ?_
  refine a_getr C 0 (r := 49) dX12_back_5 (by decide) rfl rfl rfl ib_12 (by decide) bw_1022 ?_
  refine a_callSv C dX12_back_8 (m_X12_copyB l V h) bw_1019 bw_1020 bw_123 bw_1021 np_X12_copyB rfl rfl (by decide) (Nat.le_of_ble_eq_true rfl) ⟨Nat.zero_le _, Nat.zero_le _⟩ (fun u2 h => ?_)
  refine a_aload_n C 0 dX12_back_11 rfl rfl ?_
  refine a_getr C 0 (r := 49) dX12_back_12 (by decide) rfl rfl rfl ib_12 (by decide) bw_1022 ?_
  refine a_bipush C 6 dX12_back_15 (by decide) ?_
  refine b_iald C 6 dX12_back_17 (by decide) rfl (vp_lit (by decide)) (by decide) ?_
  exact a_iret C dX12_back_18 h

/-! RainOnTheOneModel.about(I)I -/
def wp_X12_about (a0 : Int32) (u : PoS) (post : Int32 → PoS → Prop) : Prop := wp_X12_isIn a0 0 5 u (fun (r1 : Int32) (u2 : PoS) => ((r1 = 0 → ((¬ a0 = 6 → post (-2) u2) ∧ (a0 = 6 → post (gI u2 48 4) u2))) ∧ (¬ r1 = 0 → vp_in a0 3703 ∧ post (gI u2 49 (Int32.toNatClampNeg a0)) u2)))
theorem np_X12_about : yX12_about.cls ≠ "java/lang/invoke/MethodHandle" ∧ yX12_about.cls ≠ "java/lang/invoke/VarHandle" ∧ (parseMethodDescriptor yX12_about.desc).map (fun d => d.parameters.length) = some 1 := by decide +kernel
set_option maxHeartbeats 4000000 in
set_option maxRecDepth 100000 in
theorem m_X12_about (l : Launch) (V : VEn) {a0 : Int32} {u : PoS} {post : Int32 → PoS → Prop} (h : wp_X12_about a0 u post) : KI l V yX12_about cX12_about 2 .int 1 [.ref (eA V 48), .int a0] u post := by
  refine KI_of (by decide) (Nat.le_of_ble_eq_true rfl) (lv := [(0, .ref (eA V 48)), (1, .int a0)]) rfl ?_
  intro p e s m args below meth c C
  rw [wp_X12_about] at h
  refine a_iload_n C 1 dX12_about_0 rfl rfl ?_
  refine a_iconst C 0 dX12_about_1 (by decide) ?_
  refine a_iconst C 5 dX12_about_2 (by decide) ?_
  refine a_callSi C dX12_about_3 (m_X12_isIn l V h) bw_1147 bw_1148 bw_123 bw_1149 np_X12_isIn rfl rfl (by decide) (Nat.le_of_ble_eq_true rfl) ⟨Nat.zero_le _, Nat.zero_le _⟩ (fun r1 u2 h => ?_)
  refine a_if_eq C 18 dX12_about_6 (by decide) (fun c4 => ?_) (fun c4 => ?_)
  · have h := h.1 c4
    refine a_iload_n C 1 dX12_about_18 rfl rfl ?_
    refine a_bipush C 6 dX12_about_19 (by decide) ?_
    refine a_icmp_ne C 31 dX12_about_21 (by decide) (fun c3 => ?_) (fun c3 => ?_)
    · have h := h.1 c3
      refine a_bipush C (-2) dX12_about_31 (by decide) ?_
      exact a_iret C dX12_about_33 h
    · have h := h.2 c3
      refine a_aload_n C 0 dX12_about_24 rfl rfl ?_
      refine a_geti C 4 dX12_about_25 (by decide) rfl rfl rfl ib_12 (by decide) bw_1026 ?_
      refine a_goto C 33 dX12_about_28 (by decide) ?_
      exact a_iret C dX12_about_33 h
  · have h := h.2 c4
    refine a_aload_n C 0 dX12_about_9 rfl rfl ?_
    refine a_getr C 0 (r := 49) dX12_about_10 (by decide) rfl rfl rfl ib_12 (by decide) bw_1022 ?_
    refine a_iload_n C 1 dX12_about_13 rfl rfl ?_
    refine b_iald C (Int32.toNatClampNeg a0) dX12_about_14 (by decide) rfl h.1 rfl ?_
    have h := h.2
    refine a_goto C 33 dX12_about_15 (by decide) ?_
    exact a_iret C dX12_about_33 h








theorem np_X6_readProduct : yX6_readProduct.cls ≠ "java/lang/invoke/MethodHandle" ∧ yX6_readProduct.cls ≠ "java/lang/invoke/VarHandle" ∧ (parseMethodDescriptor yX6_readProduct.desc).map (fun d => d.parameters.length) = some 0 := by decide +kernel
theorem np_X6_readSum : yX6_readSum.cls ≠ "java/lang/invoke/MethodHandle" ∧ yX6_readSum.cls ≠ "java/lang/invoke/VarHandle" ∧ (parseMethodDescriptor yX6_readSum.desc).map (fun d => d.parameters.length) = some 0 := by decide +kernel
theorem np_X6_readBoth : yX6_readBoth.cls ≠ "java/lang/invoke/MethodHandle" ∧ yX6_readBoth.cls ≠ "java/lang/invoke/VarHandle" ∧ (parseMethodDescriptor yX6_readBoth.desc).map (fun d => d.parameters.length) = some 0 := by decide +kernel
theorem np_X6_readEither : yX6_readEither.cls ≠ "java/lang/invoke/MethodHandle" ∧ yX6_readEither.cls ≠ "java/lang/invoke/VarHandle" ∧ (parseMethodDescriptor yX6_readEither.desc).map (fun d => d.parameters.length) = some 0 := by decide +kernel
theorem np_X6_readChoice : yX6_readChoice.cls ≠ "java/lang/invoke/MethodHandle" ∧ yX6_readChoice.cls ≠ "java/lang/invoke/VarHandle" ∧ (parseMethodDescriptor yX6_readChoice.desc).map (fun d => d.parameters.length) = some 0 := by decide +kernel
theorem np_X6_readInner : yX6_readInner.cls ≠ "java/lang/invoke/MethodHandle" ∧ yX6_readInner.cls ≠ "java/lang/invoke/VarHandle" ∧ (parseMethodDescriptor yX6_readInner.desc).map (fun d => d.parameters.length) = some 0 := by decide +kernel
theorem np_X6_readOne : yX6_readOne.cls ≠ "java/lang/invoke/MethodHandle" ∧ yX6_readOne.cls ≠ "java/lang/invoke/VarHandle" ∧ (parseMethodDescriptor yX6_readOne.desc).map (fun d => d.parameters.length) = some 0 := by decide +kernel
theorem np_X6_readAsk : yX6_readAsk.cls ≠ "java/lang/invoke/MethodHandle" ∧ yX6_readAsk.cls ≠ "java/lang/invoke/VarHandle" ∧ (parseMethodDescriptor yX6_readAsk.desc).map (fun d => d.parameters.length) = some 0 := by decide +kernel
/-! RainOnTheOne$Reader.readProduct()V -/
def wj_X6_readProduct_31 (rc_X6_readSum : PoS → (PoS → Prop) → Prop) (rc_X6_readOne : PoS → (PoS → Prop) → Prop) (rc_X6_readAsk : PoS → (PoS → Prop) → Prop) (k6 : Int32 → PoS → Prop) (post : PoS → Prop) (v1 : Int32) (u : PoS) : Prop := ∀ x3 : Int32, x3 = (gI u 27 7) → wp_X6_advance u (fun (u5 : PoS) => rc_X6_readOne u5 (fun (u7 : PoS) => ∃ i8, i8 < 4 ∧ gR u7 27 8 = 7 + i8 ∧ wp_X3_addCode i8 x3 0 u7 (fun (u10 : PoS) => k6 (v1 + 1) u10)))
def wl_X6_readProduct_6 (rc_X6_readSum : PoS → (PoS → Prop) → Prop) (rc_X6_readOne : PoS → (PoS → Prop) → Prop) (rc_X6_readAsk : PoS → (PoS → Prop) → Prop) (post : PoS → Prop) : Nat → Int32 → PoS → Prop
  | 0, _, _ => False
  | n + 1, v1, u => ((300 ≤ v1 → post u) ∧ (¬ 300 ≤ v1 → (((gI u 27 7) = 34 → wj_X6_readProduct_31 rc_X6_readSum rc_X6_readOne rc_X6_readAsk (wl_X6_readProduct_6 rc_X6_readSum rc_X6_readOne rc_X6_readAsk post n) post v1 u) ∧ (¬ (gI u 27 7) = 34 → ((¬ (gI u 27 7) = 35 → post u) ∧ ((gI u 27 7) = 35 → wj_X6_readProduct_31 rc_X6_readSum rc_X6_readOne rc_X6_readAsk (wl_X6_readProduct_6 rc_X6_readSum rc_X6_readOne rc_X6_readAsk post n) post v1 u))))))
def wp_X6_readProduct (rc_X6_readSum : PoS → (PoS → Prop) → Prop) (rc_X6_readOne : PoS → (PoS → Prop) → Prop) (rc_X6_readAsk : PoS → (PoS → Prop) → Prop) (u : PoS) (post : PoS → Prop) : Prop := rc_X6_readOne u (fun (u2 : PoS) => (∃ n6, wl_X6_readProduct_6 rc_X6_readSum rc_X6_readOne rc_X6_readAsk post n6 0 u2))
set_option maxHeartbeats 4000000 in
set_option maxRecDepth 100000 in
theorem tj_X6_readProduct_31 {p : Program} {l : Launch} {e : Env} {s : State} {m : MethodId} {args : Array Value} {below : List Frame} {meth : Method} {c : Code} {V : VEn} {D : Nat} {rc_X6_readSum : PoS → (PoS → Prop) → Prop} {rc_X6_readOne : PoS → (PoS → Prop) → Prop} {rc_X6_readAsk : PoS → (PoS → Prop) → Prop} {k6 : Int32 → PoS → Prop} {post : PoS → Prop} (C : CxS p s m args meth c V cX6_readProduct 3 RX6 none) (hD : 1 ≤ D) (hrc_X6_readSum : ∀ (u : PoS) (post : PoS → Prop), rc_X6_readSum  u post → KV l V yX6_readSum cX6_readSum 3 D [.ref (eA V 27)] u post) (hrc_X6_readOne : ∀ (u : PoS) (post : PoS → Prop), rc_X6_readOne  u post → KV l V yX6_readOne cX6_readOne 1 D [.ref (eA V 27)] u post) (hrc_X6_readAsk : ∀ (u : PoS) (post : PoS → Prop), rc_X6_readAsk  u post → KV l V yX6_readAsk cX6_readAsk 2 D [.ref (eA V 27)] u post) (hk6 : ∀ (v1 : Int32) (u : PoS), k6 v1 u → AtS p l e (Rm (D + 1)) s m args below meth c V 3 0 0 (QV V below args s post) 6 [(0, .ref (eA V 27)), (1, .int v1)] [] u) (v1 : Int32) (u : PoS) (h : wj_X6_readProduct_31 rc_X6_readSum rc_X6_readOne rc_X6_readAsk k6 post v1 u) : AtS p l e (Rm (D + 1)) s m args below meth c V 3 0 0 (QV V below args s post) 31 [(0, .ref (eA V 27)), (1, .int v1)] [] u := by
  rw [wj_X6_readProduct_31] at h
  refine a_aload_n C 0 dX6_readProduct_31 rfl rfl ?_
  refine a_geti C 7 dX6_readProduct_32 (by decide) rfl rfl rfl ib_6 (by decide) bw_299 ?_
  refine a_topi (fun x3 ex3 => ?_)
  have h := h x3 ex3
  refine a_istore_n C [(2, .int x3), (0, .ref (eA V 27)), (1, .int v1)] dX6_readProduct_35 rfl (by decide) rfl ?_
  refine a_aload_n C 1 dX6_readProduct_36 rfl rfl ?_
  refine a_callVv C dX6_readProduct_37 (m_X6_advance l V h) bw_538 bw_540 bw_6 bw_119 bw_541 (by decide) rfl rfl np_X6_advance rfl rfl (rm_ok (by omega) (by decide)) (Nat.le_of_ble_eq_true rfl) ⟨Nat.zero_le _, Nat.zero_le _⟩ (fun u5 h => ?_)
  refine a_aload_n C 1 dX6_readProduct_40 rfl rfl ?_
  refine a_callVv C dX6_readProduct_41 (hrc_X6_readOne _ _ h) bw_550 bw_552 bw_9 bw_119 bw_553 (by decide) rfl rfl np_X6_readOne rfl rfl (rm_ok (by omega) (by decide)) (Nat.le_of_ble_eq_true rfl) ⟨Nat.zero_le _, Nat.zero_le _⟩ (fun u7 h => ?_)
  refine a_aload_n C 1 dX6_readProduct_44 rfl rfl ?_
  refine a_getd C 8 dX6_readProduct_45 (by decide) rfl rfl rfl ib_6 (by decide) bw_300 ?_
  obtain ⟨i8, hi8, hri8, h⟩ := h
  rw [hri8]
  refine a_iload_n C 0 dX6_readProduct_48 rfl rfl ?_
  refine a_iconst C 0 dX6_readProduct_49 (by decide) ?_
  refine a_callVv C dX6_readProduct_50 (m_X3_addCode l V hi8 h) bw_559 bw_560 bw_561 bw_117 bw_562 (by have := hi8; omega) (lw_obj hi8) rfl np_X3_addCode rfl rfl (rm_ok (by omega) (by decide)) (Nat.le_of_ble_eq_true rfl) ⟨Nat.zero_le _, Nat.zero_le _⟩ (fun u10 h => ?_)
  refine a_iinc C (v1 + 1) 2 [(1, .int (v1 + 1)), (2, .int x3), (0, .ref (eA V 27))] dX6_readProduct_53 rfl (congrArg (fun z => v1 + z) (show Int32.ofInt 1 = 1 by decide)) (by decide) rfl ?_
  refine a_goto C 6 dX6_readProduct_56 (by decide) ?_
  refine a_sub [2, 0] rfl ?_
  exact hk6 _ _ h
set_option maxHeartbeats 4000000 in
set_option maxRecDepth 100000 in
theorem tl_X6_readProduct_6 {p : Program} {l : Launch} {e : Env} {s : State} {m : MethodId} {args : Array Value} {below : List Frame} {meth : Method} {c : Code} {V : VEn} {D : Nat} {rc_X6_readSum : PoS → (PoS → Prop) → Prop} {rc_X6_readOne : PoS → (PoS → Prop) → Prop} {rc_X6_readAsk : PoS → (PoS → Prop) → Prop} {post : PoS → Prop} (C : CxS p s m args meth c V cX6_readProduct 3 RX6 none) (hD : 1 ≤ D) (hrc_X6_readSum : ∀ (u : PoS) (post : PoS → Prop), rc_X6_readSum  u post → KV l V yX6_readSum cX6_readSum 3 D [.ref (eA V 27)] u post) (hrc_X6_readOne : ∀ (u : PoS) (post : PoS → Prop), rc_X6_readOne  u post → KV l V yX6_readOne cX6_readOne 1 D [.ref (eA V 27)] u post) (hrc_X6_readAsk : ∀ (u : PoS) (post : PoS → Prop), rc_X6_readAsk  u post → KV l V yX6_readAsk cX6_readAsk 2 D [.ref (eA V 27)] u post) : ∀ (n : Nat) (v1 : Int32) (u : PoS), wl_X6_readProduct_6 rc_X6_readSum rc_X6_readOne rc_X6_readAsk post n v1 u → AtS p l e (Rm (D + 1)) s m args below meth c V 3 0 0 (QV V below args s post) 6 [(0, .ref (eA V 27)), (1, .int v1)] [] u := by
  intro n
  induction n with
  | zero => intro v1 u h; exact h.elim
  | succ n ih =>
    intro v1 u h
    rw [wl_X6_readProduct_6] at h
    refine a_iload_n C 1 dX6_readProduct_6 rfl rfl ?_
    refine a_sipush C 300 dX6_readProduct_7 (by decide) ?_
    refine a_icmp_ge C 59 dX6_readProduct_10 (by decide) (fun c13 => ?_) (fun c13 => ?_)
    · have h := h.1 c13
      exact a_vret C dX6_readProduct_59 h
    · have h := h.2 c13
      refine a_aload_n C 0 dX6_readProduct_13 rfl rfl ?_
      refine a_geti C 7 dX6_readProduct_14 (by decide) rfl rfl rfl ib_6 (by decide) bw_299 ?_
      refine a_bipush C 34 dX6_readProduct_17 (by decide) ?_
      refine a_icmp_eq C 31 dX6_readProduct_19 (by decide) (fun c12 => ?_) (fun c12 => ?_)
      · have h := h.1 c12
        refine tj_X6_readProduct_31 C hD hrc_X6_readSum hrc_X6_readOne hrc_X6_readAsk ih _ _ h
      · have h := h.2 c12
        refine a_aload_n C 0 dX6_readProduct_22 rfl rfl ?_
        refine a_geti C 7 dX6_readProduct_23 (by decide) rfl rfl rfl ib_6 (by decide) bw_299 ?_
        refine a_bipush C 35 dX6_readProduct_26 (by decide) ?_
        refine a_icmp_ne C 59 dX6_readProduct_28 (by decide) (fun c11 => ?_) (fun c11 => ?_)
        · have h := h.1 c11
          exact a_vret C dX6_readProduct_59 h
        · have h := h.2 c11
          refine tj_X6_readProduct_31 C hD hrc_X6_readSum hrc_X6_readOne hrc_X6_readAsk ih _ _ h
set_option maxHeartbeats 4000000 in
set_option maxRecDepth 100000 in
theorem m_X6_readProduct (l : Launch) (V : VEn) {D : Nat} {rc_X6_readSum : PoS → (PoS → Prop) → Prop} {rc_X6_readOne : PoS → (PoS → Prop) → Prop} {rc_X6_readAsk : PoS → (PoS → Prop) → Prop} (hD : 1 ≤ D) (hrc_X6_readSum : ∀ (u : PoS) (post : PoS → Prop), rc_X6_readSum  u post → KV l V yX6_readSum cX6_readSum 3 D [.ref (eA V 27)] u post) (hrc_X6_readOne : ∀ (u : PoS) (post : PoS → Prop), rc_X6_readOne  u post → KV l V yX6_readOne cX6_readOne 1 D [.ref (eA V 27)] u post) (hrc_X6_readAsk : ∀ (u : PoS) (post : PoS → Prop), rc_X6_readAsk  u post → KV l V yX6_readAsk cX6_readAsk 2 D [.ref (eA V 27)] u post) {u : PoS} {post : PoS → Prop} (h : wp_X6_readProduct rc_X6_readSum rc_X6_readOne rc_X6_readAsk u post) : KV l V yX6_readProduct cX6_readProduct 3 (D + 1) [.ref (eA V 27)] u post := by
  refine KV_of (by decide) (Nat.le_of_ble_eq_true rfl) (lv := [(0, .ref (eA V 27))]) rfl ?_
  intro p e s m args below meth c C
  rw [wp_X6_readProduct] at h
  refine a_aload_n C 0 dX6_readProduct_0 rfl rfl ?_
  refine a_callVv C dX6_readProduct_1 (hrc_X6_readOne _ _ h) bw_550 bw_552 bw_9 bw_119 bw_553 (by decide) rfl rfl np_X6_readOne rfl rfl (rm_ok (by omega) (by decide)) (Nat.le_of_ble_eq_true rfl) ⟨Nat.zero_le _, Nat.zero_le _⟩ (fun u2 h => ?_)
  refine a_iconst C 0 dX6_readProduct_4 (by decide) ?_
  refine a_istore_n C [(1, .int 0), (0, .ref (eA V 27))] dX6_readProduct_5 rfl (by decide) rfl ?_
  refine a_sub [1, 0] rfl ?_
  obtain ⟨n6, h⟩ := h
  refine tl_X6_readProduct_6 C hD hrc_X6_readSum hrc_X6_readOne hrc_X6_readAsk n6 _ _ h

/-! RainOnTheOne$Reader.readSum()V -/
def wj_X6_readSum_31 (rc_X6_readSum : PoS → (PoS → Prop) → Prop) (rc_X6_readOne : PoS → (PoS → Prop) → Prop) (rc_X6_readAsk : PoS → (PoS → Prop) → Prop) (k6 : Int32 → PoS → Prop) (post : PoS → Prop) (v1 : Int32) (u : PoS) : Prop := ∀ x3 : Int32, x3 = (gI u 27 7) → wp_X6_advance u (fun (u5 : PoS) => wp_X6_readProduct rc_X6_readSum rc_X6_readOne rc_X6_readAsk u5 (fun (u7 : PoS) => ∃ i8, i8 < 4 ∧ gR u7 27 8 = 7 + i8 ∧ wp_X3_addCode i8 x3 0 u7 (fun (u10 : PoS) => k6 (v1 + 1) u10)))
def wl_X6_readSum_6 (rc_X6_readSum : PoS → (PoS → Prop) → Prop) (rc_X6_readOne : PoS → (PoS → Prop) → Prop) (rc_X6_readAsk : PoS → (PoS → Prop) → Prop) (post : PoS → Prop) : Nat → Int32 → PoS → Prop
  | 0, _, _ => False
  | n + 1, v1, u => ((300 ≤ v1 → post u) ∧ (¬ 300 ≤ v1 → (((gI u 27 7) = 32 → wj_X6_readSum_31 rc_X6_readSum rc_X6_readOne rc_X6_readAsk (wl_X6_readSum_6 rc_X6_readSum rc_X6_readOne rc_X6_readAsk post n) post v1 u) ∧ (¬ (gI u 27 7) = 32 → ((¬ (gI u 27 7) = 33 → post u) ∧ ((gI u 27 7) = 33 → wj_X6_readSum_31 rc_X6_readSum rc_X6_readOne rc_X6_readAsk (wl_X6_readSum_6 rc_X6_readSum rc_X6_readOne rc_X6_readAsk post n) post v1 u))))))
def wb_X6_readSum (rc_X6_readSum : PoS → (PoS → Prop) → Prop) (rc_X6_readOne : PoS → (PoS → Prop) → Prop) (rc_X6_readAsk : PoS → (PoS → Prop) → Prop) (u : PoS) (post : PoS → Prop) : Prop := wp_X6_readProduct rc_X6_readSum rc_X6_readOne rc_X6_readAsk u (fun (u2 : PoS) => (∃ n6, wl_X6_readSum_6 rc_X6_readSum rc_X6_readOne rc_X6_readAsk post n6 0 u2))
set_option maxHeartbeats 4000000 in
set_option maxRecDepth 100000 in
theorem tj_X6_readSum_31 {p : Program} {l : Launch} {e : Env} {s : State} {m : MethodId} {args : Array Value} {below : List Frame} {meth : Method} {c : Code} {V : VEn} {D : Nat} {rc_X6_readSum : PoS → (PoS → Prop) → Prop} {rc_X6_readOne : PoS → (PoS → Prop) → Prop} {rc_X6_readAsk : PoS → (PoS → Prop) → Prop} {k6 : Int32 → PoS → Prop} {post : PoS → Prop} (C : CxS p s m args meth c V cX6_readSum 3 RX6 none) (hD : 1 ≤ D) (hrc_X6_readSum : ∀ (u : PoS) (post : PoS → Prop), rc_X6_readSum  u post → KV l V yX6_readSum cX6_readSum 3 D [.ref (eA V 27)] u post) (hrc_X6_readOne : ∀ (u : PoS) (post : PoS → Prop), rc_X6_readOne  u post → KV l V yX6_readOne cX6_readOne 1 D [.ref (eA V 27)] u post) (hrc_X6_readAsk : ∀ (u : PoS) (post : PoS → Prop), rc_X6_readAsk  u post → KV l V yX6_readAsk cX6_readAsk 2 D [.ref (eA V 27)] u post) (hk6 : ∀ (v1 : Int32) (u : PoS), k6 v1 u → AtS p l e (Rm (D + 6)) s m args below meth c V 3 0 0 (QV V below args s post) 6 [(0, .ref (eA V 27)), (1, .int v1)] [] u) (v1 : Int32) (u : PoS) (h : wj_X6_readSum_31 rc_X6_readSum rc_X6_readOne rc_X6_readAsk k6 post v1 u) : AtS p l e (Rm (D + 6)) s m args below meth c V 3 0 0 (QV V below args s post) 31 [(0, .ref (eA V 27)), (1, .int v1)] [] u := by
  rw [wj_X6_readSum_31] at h
  refine a_aload_n C 0 dX6_readSum_31 rfl rfl ?_
  refine a_geti C 7 dX6_readSum_32 (by decide) rfl rfl rfl ib_6 (by decide) bw_299 ?_
  refine a_topi (fun x3 ex3 => ?_)
  have h := h x3 ex3
  refine a_istore_n C [(2, .int x3), (0, .ref (eA V 27)), (1, .int v1)] dX6_readSum_35 rfl (by decide) rfl ?_
  refine a_aload_n C 1 dX6_readSum_36 rfl rfl ?_
  refine a_callVv C dX6_readSum_37 (m_X6_advance l V h) bw_538 bw_540 bw_6 bw_119 bw_541 (by decide) rfl rfl np_X6_advance rfl rfl (rm_ok (by omega) (by decide)) (Nat.le_of_ble_eq_true rfl) ⟨Nat.zero_le _, Nat.zero_le _⟩ (fun u5 h => ?_)
  refine a_aload_n C 1 dX6_readSum_40 rfl rfl ?_
  refine a_callVv C dX6_readSum_41 (m_X6_readProduct l V hD hrc_X6_readSum hrc_X6_readOne hrc_X6_readAsk h) bw_546 bw_548 bw_8 bw_119 bw_549 (by decide) rfl rfl np_X6_readProduct rfl rfl (rm_ok (by omega) (by decide)) (Nat.le_of_ble_eq_true rfl) ⟨Nat.zero_le _, Nat.zero_le _⟩ (fun u7 h => ?_)
  refine a_aload_n C 1 dX6_readSum_44 rfl rfl ?_
  refine a_getd C 8 dX6_readSum_45 (by decide) rfl rfl rfl ib_6 (by decide) bw_300 ?_
  obtain ⟨i8, hi8, hri8, h⟩ := h
  rw [hri8]
  refine a_iload_n C 0 dX6_readSum_48 rfl rfl ?_
  refine a_iconst C 0 dX6_readSum_49 (by decide) ?_
  refine a_callVv C dX6_readSum_50 (m_X3_addCode l V hi8 h) bw_559 bw_560 bw_561 bw_117 bw_562 (by have := hi8; omega) (lw_obj hi8) rfl np_X3_addCode rfl rfl (rm_ok (by omega) (by decide)) (Nat.le_of_ble_eq_true rfl) ⟨Nat.zero_le _, Nat.zero_le _⟩ (fun u10 h => ?_)
  refine a_iinc C (v1 + 1) 2 [(1, .int (v1 + 1)), (2, .int x3), (0, .ref (eA V 27))] dX6_readSum_53 rfl (congrArg (fun z => v1 + z) (show Int32.ofInt 1 = 1 by decide)) (by decide) rfl ?_
  refine a_goto C 6 dX6_readSum_56 (by decide) ?_
  refine a_sub [2, 0] rfl ?_
  exact hk6 _ _ h
set_option maxHeartbeats 4000000 in
set_option maxRecDepth 100000 in
theorem tl_X6_readSum_6 {p : Program} {l : Launch} {e : Env} {s : State} {m : MethodId} {args : Array Value} {below : List Frame} {meth : Method} {c : Code} {V : VEn} {D : Nat} {rc_X6_readSum : PoS → (PoS → Prop) → Prop} {rc_X6_readOne : PoS → (PoS → Prop) → Prop} {rc_X6_readAsk : PoS → (PoS → Prop) → Prop} {post : PoS → Prop} (C : CxS p s m args meth c V cX6_readSum 3 RX6 none) (hD : 1 ≤ D) (hrc_X6_readSum : ∀ (u : PoS) (post : PoS → Prop), rc_X6_readSum  u post → KV l V yX6_readSum cX6_readSum 3 D [.ref (eA V 27)] u post) (hrc_X6_readOne : ∀ (u : PoS) (post : PoS → Prop), rc_X6_readOne  u post → KV l V yX6_readOne cX6_readOne 1 D [.ref (eA V 27)] u post) (hrc_X6_readAsk : ∀ (u : PoS) (post : PoS → Prop), rc_X6_readAsk  u post → KV l V yX6_readAsk cX6_readAsk 2 D [.ref (eA V 27)] u post) : ∀ (n : Nat) (v1 : Int32) (u : PoS), wl_X6_readSum_6 rc_X6_readSum rc_X6_readOne rc_X6_readAsk post n v1 u → AtS p l e (Rm (D + 6)) s m args below meth c V 3 0 0 (QV V below args s post) 6 [(0, .ref (eA V 27)), (1, .int v1)] [] u := by
  intro n
  induction n with
  | zero => intro v1 u h; exact h.elim
  | succ n ih =>
    intro v1 u h
    rw [wl_X6_readSum_6] at h
    refine a_iload_n C 1 dX6_readSum_6 rfl rfl ?_
    refine a_sipush C 300 dX6_readSum_7 (by decide) ?_
    refine a_icmp_ge C 59 dX6_readSum_10 (by decide) (fun c13 => ?_) (fun c13 => ?_)
    · have h := h.1 c13
      exact a_vret C dX6_readSum_59 h
    · have h := h.2 c13
      refine a_aload_n C 0 dX6_readSum_13 rfl rfl ?_
      refine a_geti C 7 dX6_readSum_14 (by decide) rfl rfl rfl ib_6 (by decide) bw_299 ?_
      refine a_bipush C 32 dX6_readSum_17 (by decide) ?_
      refine a_icmp_eq C 31 dX6_readSum_19 (by decide) (fun c12 => ?_) (fun c12 => ?_)
      · have h := h.1 c12
        refine tj_X6_readSum_31 C hD hrc_X6_readSum hrc_X6_readOne hrc_X6_readAsk ih _ _ h
      · have h := h.2 c12
        refine a_aload_n C 0 dX6_readSum_22 rfl rfl ?_
        refine a_geti C 7 dX6_readSum_23 (by decide) rfl rfl rfl ib_6 (by decide) bw_299 ?_
        refine a_bipush C 33 dX6_readSum_26 (by decide) ?_
        refine a_icmp_ne C 59 dX6_readSum_28 (by decide) (fun c11 => ?_) (fun c11 => ?_)
        · have h := h.1 c11
          exact a_vret C dX6_readSum_59 h
        · have h := h.2 c11
          refine tj_X6_readSum_31 C hD hrc_X6_readSum hrc_X6_readOne hrc_X6_readAsk ih _ _ h
set_option maxHeartbeats 4000000 in
set_option maxRecDepth 100000 in
theorem mb_X6_readSum (l : Launch) (V : VEn) {D : Nat} {rc_X6_readSum : PoS → (PoS → Prop) → Prop} {rc_X6_readOne : PoS → (PoS → Prop) → Prop} {rc_X6_readAsk : PoS → (PoS → Prop) → Prop} (hD : 1 ≤ D) (hrc_X6_readSum : ∀ (u : PoS) (post : PoS → Prop), rc_X6_readSum  u post → KV l V yX6_readSum cX6_readSum 3 D [.ref (eA V 27)] u post) (hrc_X6_readOne : ∀ (u : PoS) (post : PoS → Prop), rc_X6_readOne  u post → KV l V yX6_readOne cX6_readOne 1 D [.ref (eA V 27)] u post) (hrc_X6_readAsk : ∀ (u : PoS) (post : PoS → Prop), rc_X6_readAsk  u post → KV l V yX6_readAsk cX6_readAsk 2 D [.ref (eA V 27)] u post) {u : PoS} {post : PoS → Prop} (h : wb_X6_readSum rc_X6_readSum rc_X6_readOne rc_X6_readAsk u post) : KV l V yX6_readSum cX6_readSum 3 (D + 6) [.ref (eA V 27)] u post := by
  refine KV_of (by decide) (Nat.le_of_ble_eq_true rfl) (lv := [(0, .ref (eA V 27))]) rfl ?_
  intro p e s m args below meth c C
  rw [wb_X6_readSum] at h
  refine a_aload_n C 0 dX6_readSum_0 rfl rfl ?_
  refine a_callVv C dX6_readSum_1 (m_X6_readProduct l V hD hrc_X6_readSum hrc_X6_readOne hrc_X6_readAsk h) bw_546 bw_548 bw_8 bw_119 bw_549 (by decide) rfl rfl np_X6_readProduct rfl rfl (rm_ok (by omega) (by decide)) (Nat.le_of_ble_eq_true rfl) ⟨Nat.zero_le _, Nat.zero_le _⟩ (fun u2 h => ?_)
  refine a_iconst C 0 dX6_readSum_4 (by decide) ?_
  refine a_istore_n C [(1, .int 0), (0, .ref (eA V 27))] dX6_readSum_5 rfl (by decide) rfl ?_
  refine a_sub [1, 0] rfl ?_
  obtain ⟨n6, h⟩ := h
  refine tl_X6_readSum_6 C hD hrc_X6_readSum hrc_X6_readOne hrc_X6_readAsk n6 _ _ h

/-! RainOnTheOne$Reader.readBoth()V -/
def wl_X6_readBoth_6 (rc_X6_readSum : PoS → (PoS → Prop) → Prop) (rc_X6_readOne : PoS → (PoS → Prop) → Prop) (rc_X6_readAsk : PoS → (PoS → Prop) → Prop) (post : PoS → Prop) : Nat → Int32 → PoS → Prop
  | 0, _, _ => False
  | n + 1, v1, u => ((300 ≤ v1 → post u) ∧ (¬ 300 ≤ v1 → ((¬ (gI u 27 7) = 27 → post u) ∧ ((gI u 27 7) = 27 → wp_X6_advance u (fun (u4 : PoS) => rc_X6_readAsk u4 (fun (u6 : PoS) => ∃ i7, i7 < 4 ∧ gR u6 27 8 = 7 + i7 ∧ wp_X3_addCode i7 27 0 u6 (fun (u9 : PoS) => wl_X6_readBoth_6 rc_X6_readSum rc_X6_readOne rc_X6_readAsk post n (v1 + 1) u9)))))))
def wp_X6_readBoth (rc_X6_readSum : PoS → (PoS → Prop) → Prop) (rc_X6_readOne : PoS → (PoS → Prop) → Prop) (rc_X6_readAsk : PoS → (PoS → Prop) → Prop) (u : PoS) (post : PoS → Prop) : Prop := rc_X6_readAsk u (fun (u2 : PoS) => (∃ n6, wl_X6_readBoth_6 rc_X6_readSum rc_X6_readOne rc_X6_readAsk post n6 0 u2))
set_option maxHeartbeats 4000000 in
set_option maxRecDepth 100000 in
theorem tl_X6_readBoth_6 {p : Program} {l : Launch} {e : Env} {s : State} {m : MethodId} {args : Array Value} {below : List Frame} {meth : Method} {c : Code} {V : VEn} {D : Nat} {rc_X6_readSum : PoS → (PoS → Prop) → Prop} {rc_X6_readOne : PoS → (PoS → Prop) → Prop} {rc_X6_readAsk : PoS → (PoS → Prop) → Prop} {post : PoS → Prop} (C : CxS p s m args meth c V cX6_readBoth 2 RX6 none) (hD : 1 ≤ D) (hrc_X6_readSum : ∀ (u : PoS) (post : PoS → Prop), rc_X6_readSum  u post → KV l V yX6_readSum cX6_readSum 3 D [.ref (eA V 27)] u post) (hrc_X6_readOne : ∀ (u : PoS) (post : PoS → Prop), rc_X6_readOne  u post → KV l V yX6_readOne cX6_readOne 1 D [.ref (eA V 27)] u post) (hrc_X6_readAsk : ∀ (u : PoS) (post : PoS → Prop), rc_X6_readAsk  u post → KV l V yX6_readAsk cX6_readAsk 2 D [.ref (eA V 27)] u post) : ∀ (n : Nat) (v1 : Int32) (u : PoS), wl_X6_readBoth_6 rc_X6_readSum rc_X6_readOne rc_X6_readAsk post n v1 u → AtS p l e (Rm (D + 1)) s m args below meth c V 2 0 0 (QV V below args s post) 6 [(0, .ref (eA V 27)), (1, .int v1)] [] u := by
  intro n
  induction n with
  | zero => intro v1 u h; exact h.elim
  | succ n ih =>
    intro v1 u h
    rw [wl_X6_readBoth_6] at h
    refine a_iload_n C 1 dX6_readBoth_6 rfl rfl ?_
    refine a_sipush C 300 dX6_readBoth_7 (by decide) ?_
    refine a_icmp_ge C 46 dX6_readBoth_10 (by decide) (fun c11 => ?_) (fun c11 => ?_)
    · have h := h.1 c11
      exact a_vret C dX6_readBoth_46 h
    · have h := h.2 c11
      refine a_aload_n C 0 dX6_readBoth_13 rfl rfl ?_
      refine a_geti C 7 dX6_readBoth_14 (by decide) rfl rfl rfl ib_6 (by decide) bw_299 ?_
      refine a_bipush C 27 dX6_readBoth_17 (by decide) ?_
      refine a_icmp_ne C 46 dX6_readBoth_19 (by decide) (fun c10 => ?_) (fun c10 => ?_)
      · have h := h.1 c10
        exact a_vret C dX6_readBoth_46 h
      · have h := h.2 c10
        refine a_aload_n C 0 dX6_readBoth_22 rfl rfl ?_
        refine a_callVv C dX6_readBoth_23 (m_X6_advance l V h) bw_538 bw_540 bw_6 bw_119 bw_541 (by decide) rfl rfl np_X6_advance rfl rfl (rm_ok (by omega) (by decide)) (Nat.le_of_ble_eq_true rfl) ⟨Nat.zero_le _, Nat.zero_le _⟩ (fun u4 h => ?_)
        refine a_aload_n C 0 dX6_readBoth_26 rfl rfl ?_
        refine a_callVv C dX6_readBoth_27 (hrc_X6_readAsk _ _ h) bw_594 bw_596 bw_18 bw_119 bw_597 (by decide) rfl rfl np_X6_readAsk rfl rfl (rm_ok (by omega) (by decide)) (Nat.le_of_ble_eq_true rfl) ⟨Nat.zero_le _, Nat.zero_le _⟩ (fun u6 h => ?_)
        refine a_aload_n C 0 dX6_readBoth_30 rfl rfl ?_
        refine a_getd C 8 dX6_readBoth_31 (by decide) rfl rfl rfl ib_6 (by decide) bw_300 ?_
        obtain ⟨i7, hi7, hri7, h⟩ := h
        rw [hri7]
        refine a_bipush C 27 dX6_readBoth_34 (by decide) ?_
        refine a_iconst C 0 dX6_readBoth_36 (by decide) ?_
        refine a_callVv C dX6_readBoth_37 (m_X3_addCode l V hi7 h) bw_559 bw_560 bw_561 bw_117 bw_562 (by have := hi7; omega) (lw_obj hi7) rfl np_X3_addCode rfl rfl (rm_ok (by omega) (by decide)) (Nat.le_of_ble_eq_true rfl) ⟨Nat.zero_le _, Nat.zero_le _⟩ (fun u9 h => ?_)
        refine a_iinc C (v1 + 1) 1 [(1, .int (v1 + 1)), (0, .ref (eA V 27))] dX6_readBoth_40 rfl (congrArg (fun z => v1 + z) (show Int32.ofInt 1 = 1 by decide)) (by decide) rfl ?_
        refine a_goto C 6 dX6_readBoth_43 (by decide) ?_
        refine a_sub [1, 0] rfl ?_
        exact ih _ _ h
set_option maxHeartbeats 4000000 in
set_option maxRecDepth 100000 in
theorem m_X6_readBoth (l : Launch) (V : VEn) {D : Nat} {rc_X6_readSum : PoS → (PoS → Prop) → Prop} {rc_X6_readOne : PoS → (PoS → Prop) → Prop} {rc_X6_readAsk : PoS → (PoS → Prop) → Prop} (hD : 1 ≤ D) (hrc_X6_readSum : ∀ (u : PoS) (post : PoS → Prop), rc_X6_readSum  u post → KV l V yX6_readSum cX6_readSum 3 D [.ref (eA V 27)] u post) (hrc_X6_readOne : ∀ (u : PoS) (post : PoS → Prop), rc_X6_readOne  u post → KV l V yX6_readOne cX6_readOne 1 D [.ref (eA V 27)] u post) (hrc_X6_readAsk : ∀ (u : PoS) (post : PoS → Prop), rc_X6_readAsk  u post → KV l V yX6_readAsk cX6_readAsk 2 D [.ref (eA V 27)] u post) {u : PoS} {post : PoS → Prop} (h : wp_X6_readBoth rc_X6_readSum rc_X6_readOne rc_X6_readAsk u post) : KV l V yX6_readBoth cX6_readBoth 2 (D + 1) [.ref (eA V 27)] u post := by
  refine KV_of (by decide) (Nat.le_of_ble_eq_true rfl) (lv := [(0, .ref (eA V 27))]) rfl ?_
  intro p e s m args below meth c C
  rw [wp_X6_readBoth] at h
  refine a_aload_n C 0 dX6_readBoth_0 rfl rfl ?_
  refine a_callVv C dX6_readBoth_1 (hrc_X6_readAsk _ _ h) bw_594 bw_596 bw_18 bw_119 bw_597 (by decide) rfl rfl np_X6_readAsk rfl rfl (rm_ok (by omega) (by decide)) (Nat.le_of_ble_eq_true rfl) ⟨Nat.zero_le _, Nat.zero_le _⟩ (fun u2 h => ?_)
  refine a_iconst C 0 dX6_readBoth_4 (by decide) ?_
  refine a_istore_n C [(1, .int 0), (0, .ref (eA V 27))] dX6_readBoth_5 rfl (by decide) rfl ?_
  refine a_sub [1, 0] rfl ?_
  obtain ⟨n6, h⟩ := h
  refine tl_X6_readBoth_6 C hD hrc_X6_readSum hrc_X6_readOne hrc_X6_readAsk n6 _ _ h

/-! RainOnTheOne$Reader.readEither()V -/
def wl_X6_readEither_6 (rc_X6_readSum : PoS → (PoS → Prop) → Prop) (rc_X6_readOne : PoS → (PoS → Prop) → Prop) (rc_X6_readAsk : PoS → (PoS → Prop) → Prop) (post : PoS → Prop) : Nat → Int32 → PoS → Prop
  | 0, _, _ => False
  | n + 1, v1, u => ((300 ≤ v1 → post u) ∧ (¬ 300 ≤ v1 → ((¬ (gI u 27 7) = 26 → post u) ∧ ((gI u 27 7) = 26 → wp_X6_advance u (fun (u4 : PoS) => wp_X6_readBoth rc_X6_readSum rc_X6_readOne rc_X6_readAsk u4 (fun (u6 : PoS) => ∃ i7, i7 < 4 ∧ gR u6 27 8 = 7 + i7 ∧ wp_X3_addCode i7 26 0 u6 (fun (u9 : PoS) => wl_X6_readEither_6 rc_X6_readSum rc_X6_readOne rc_X6_readAsk post n (v1 + 1) u9)))))))
def wp_X6_readEither (rc_X6_readSum : PoS → (PoS → Prop) → Prop) (rc_X6_readOne : PoS → (PoS → Prop) → Prop) (rc_X6_readAsk : PoS → (PoS → Prop) → Prop) (u : PoS) (post : PoS → Prop) : Prop := wp_X6_readBoth rc_X6_readSum rc_X6_readOne rc_X6_readAsk u (fun (u2 : PoS) => (∃ n6, wl_X6_readEither_6 rc_X6_readSum rc_X6_readOne rc_X6_readAsk post n6 0 u2))
set_option maxHeartbeats 4000000 in
set_option maxRecDepth 100000 in
theorem tl_X6_readEither_6 {p : Program} {l : Launch} {e : Env} {s : State} {m : MethodId} {args : Array Value} {below : List Frame} {meth : Method} {c : Code} {V : VEn} {D : Nat} {rc_X6_readSum : PoS → (PoS → Prop) → Prop} {rc_X6_readOne : PoS → (PoS → Prop) → Prop} {rc_X6_readAsk : PoS → (PoS → Prop) → Prop} {post : PoS → Prop} (C : CxS p s m args meth c V cX6_readEither 2 RX6 none) (hD : 1 ≤ D) (hrc_X6_readSum : ∀ (u : PoS) (post : PoS → Prop), rc_X6_readSum  u post → KV l V yX6_readSum cX6_readSum 3 D [.ref (eA V 27)] u post) (hrc_X6_readOne : ∀ (u : PoS) (post : PoS → Prop), rc_X6_readOne  u post → KV l V yX6_readOne cX6_readOne 1 D [.ref (eA V 27)] u post) (hrc_X6_readAsk : ∀ (u : PoS) (post : PoS → Prop), rc_X6_readAsk  u post → KV l V yX6_readAsk cX6_readAsk 2 D [.ref (eA V 27)] u post) : ∀ (n : Nat) (v1 : Int32) (u : PoS), wl_X6_readEither_6 rc_X6_readSum rc_X6_readOne rc_X6_readAsk post n v1 u → AtS p l e (Rm (D + 2)) s m args below meth c V 2 0 0 (QV V below args s post) 6 [(0, .ref (eA V 27)), (1, .int v1)] [] u := by
  intro n
  induction n with
  | zero => intro v1 u h; exact h.elim
  | succ n ih =>
    intro v1 u h
    rw [wl_X6_readEither_6] at h
    refine a_iload_n C 1 dX6_readEither_6 rfl rfl ?_
    refine a_sipush C 300 dX6_readEither_7 (by decide) ?_
    refine a_icmp_ge C 46 dX6_readEither_10 (by decide) (fun c11 => ?_) (fun c11 => ?_)
    · have h := h.1 c11
      exact a_vret C dX6_readEither_46 h
    · have h := h.2 c11
      refine a_aload_n C 0 dX6_readEither_13 rfl rfl ?_
      refine a_geti C 7 dX6_readEither_14 (by decide) rfl rfl rfl ib_6 (by decide) bw_299 ?_
      refine a_bipush C 26 dX6_readEither_17 (by decide) ?_
      refine a_icmp_ne C 46 dX6_readEither_19 (by decide) (fun c10 => ?_) (fun c10 => ?_)
      · have h := h.1 c10
        exact a_vret C dX6_readEither_46 h
      · have h := h.2 c10
        refine a_aload_n C 0 dX6_readEither_22 rfl rfl ?_
        refine a_callVv C dX6_readEither_23 (m_X6_advance l V h) bw_538 bw_540 bw_6 bw_119 bw_541 (by decide) rfl rfl np_X6_advance rfl rfl (rm_ok (by omega) (by decide)) (Nat.le_of_ble_eq_true rfl) ⟨Nat.zero_le _, Nat.zero_le _⟩ (fun u4 h => ?_)
        refine a_aload_n C 0 dX6_readEither_26 rfl rfl ?_
        refine a_callVv C dX6_readEither_27 (m_X6_readBoth l V hD hrc_X6_readSum hrc_X6_readOne hrc_X6_readAsk h) bw_590 bw_592 bw_17 bw_119 bw_593 (by decide) rfl rfl np_X6_readBoth rfl rfl (rm_ok (by omega) (by decide)) (Nat.le_of_ble_eq_true rfl) ⟨Nat.zero_le _, Nat.zero_le _⟩ (fun u6 h => ?_)
        refine a_aload_n C 0 dX6_readEither_30 rfl rfl ?_
        refine a_getd C 8 dX6_readEither_31 (by decide) rfl rfl rfl ib_6 (by decide) bw_300 ?_
        obtain ⟨i7, hi7, hri7, h⟩ := h
        rw [hri7]
        refine a_bipush C 26 dX6_readEither_34 (by decide) ?_
        refine a_iconst C 0 dX6_readEither_36 (by decide) ?_
        refine a_callVv C dX6_readEither_37 (m_X3_addCode l V hi7 h) bw_559 bw_560 bw_561 bw_117 bw_562 (by have := hi7; omega) (lw_obj hi7) rfl np_X3_addCode rfl rfl (rm_ok (by omega) (by decide)) (Nat.le_of_ble_eq_true rfl) ⟨Nat.zero_le _, Nat.zero_le _⟩ (fun u9 h => ?_)
        refine a_iinc C (v1 + 1) 1 [(1, .int (v1 + 1)), (0, .ref (eA V 27))] dX6_readEither_40 rfl (congrArg (fun z => v1 + z) (show Int32.ofInt 1 = 1 by decide)) (by decide) rfl ?_
        refine a_goto C 6 dX6_readEither_43 (by decide) ?_
        refine a_sub [1, 0] rfl ?_
        exact ih _ _ h
set_option maxHeartbeats 4000000 in
set_option maxRecDepth 100000 in
theorem m_X6_readEither (l : Launch) (V : VEn) {D : Nat} {rc_X6_readSum : PoS → (PoS → Prop) → Prop} {rc_X6_readOne : PoS → (PoS → Prop) → Prop} {rc_X6_readAsk : PoS → (PoS → Prop) → Prop} (hD : 1 ≤ D) (hrc_X6_readSum : ∀ (u : PoS) (post : PoS → Prop), rc_X6_readSum  u post → KV l V yX6_readSum cX6_readSum 3 D [.ref (eA V 27)] u post) (hrc_X6_readOne : ∀ (u : PoS) (post : PoS → Prop), rc_X6_readOne  u post → KV l V yX6_readOne cX6_readOne 1 D [.ref (eA V 27)] u post) (hrc_X6_readAsk : ∀ (u : PoS) (post : PoS → Prop), rc_X6_readAsk  u post → KV l V yX6_readAsk cX6_readAsk 2 D [.ref (eA V 27)] u post) {u : PoS} {post : PoS → Prop} (h : wp_X6_readEither rc_X6_readSum rc_X6_readOne rc_X6_readAsk u post) : KV l V yX6_readEither cX6_readEither 2 (D + 2) [.ref (eA V 27)] u post := by
  refine KV_of (by decide) (Nat.le_of_ble_eq_true rfl) (lv := [(0, .ref (eA V 27))]) rfl ?_
  intro p e s m args below meth c C
  rw [wp_X6_readEither] at h
  refine a_aload_n C 0 dX6_readEither_0 rfl rfl ?_
  refine a_callVv C dX6_readEither_1 (m_X6_readBoth l V hD hrc_X6_readSum hrc_X6_readOne hrc_X6_readAsk h) bw_590 bw_592 bw_17 bw_119 bw_593 (by decide) rfl rfl np_X6_readBoth rfl rfl (rm_ok (by omega) (by decide)) (Nat.le_of_ble_eq_true rfl) ⟨Nat.zero_le _, Nat.zero_le _⟩ (fun u2 h => ?_)
  refine a_iconst C 0 dX6_readEither_4 (by decide) ?_
  refine a_istore_n C [(1, .int 0), (0, .ref (eA V 27))] dX6_readEither_5 rfl (by decide) rfl ?_
  refine a_sub [1, 0] rfl ?_
  obtain ⟨n6, h⟩ := h
  refine tl_X6_readEither_6 C hD hrc_X6_readSum hrc_X6_readOne hrc_X6_readAsk n6 _ _ h

/-! RainOnTheOne$Reader.readChoice()V -/
def wp_X6_readChoice (rc_X6_readSum : PoS → (PoS → Prop) → Prop) (rc_X6_readOne : PoS → (PoS → Prop) → Prop) (rc_X6_readAsk : PoS → (PoS → Prop) → Prop) (u : PoS) (post : PoS → Prop) : Prop := wp_X6_readEither rc_X6_readSum rc_X6_readOne rc_X6_readAsk u (fun (u2 : PoS) => wp_X6_expect 23 u2 (fun (u4 : PoS) => ∃ i5, i5 < 4 ∧ gR u4 27 8 = 7 + i5 ∧ ∀ x6 : Int32, x6 = (gI u4 (7 + i5) 5) → ∃ i7, i7 < 4 ∧ gR u4 27 8 = 7 + i7 ∧ wp_X3_addCode i7 47 0 u4 (fun (u9 : PoS) => rc_X6_readSum u9 (fun (u11 : PoS) => wp_X6_expect 24 u11 (fun (u13 : PoS) => ∃ i14, i14 < 4 ∧ gR u13 27 8 = 7 + i14 ∧ ∀ x15 : Int32, x15 = (gI u13 (7 + i14) 5) → ∃ i16, i16 < 4 ∧ gR u13 27 8 = 7 + i16 ∧ wp_X3_addCode i16 46 0 u13 (fun (u18 : PoS) => ∃ i19, i19 < 4 ∧ gR u18 27 8 = 7 + i19 ∧ wp_X3_skipToHere i19 x6 u18 (fun (u21 : PoS) => rc_X6_readSum u21 (fun (u23 : PoS) => wp_X6_expect 25 u23 (fun (u25 : PoS) => ∃ i26, i26 < 4 ∧ gR u25 27 8 = 7 + i26 ∧ wp_X3_skipToHere i26 x15 u25 (fun (u28 : PoS) => post u28))))))))))
set_option maxHeartbeats 4000000 in
set_option maxRecDepth 100000 in
theorem m_X6_readChoice (l : Launch) (V : VEn) {D : Nat} {rc_X6_readSum : PoS → (PoS → Prop) → Prop} {rc_X6_readOne : PoS → (PoS → Prop) → Prop} {rc_X6_readAsk : PoS → (PoS → Prop) → Prop} (hD : 1 ≤ D) (hrc_X6_readSum : ∀ (u : PoS) (post : PoS → Prop), rc_X6_readSum  u post → KV l V yX6_readSum cX6_readSum 3 D [.ref (eA V 27)] u post) (hrc_X6_readOne : ∀ (u : PoS) (post : PoS → Prop), rc_X6_readOne  u post → KV l V yX6_readOne cX6_readOne 1 D [.ref (eA V 27)] u post) (hrc_X6_readAsk : ∀ (u : PoS) (post : PoS → Prop), rc_X6_readAsk  u post → KV l V yX6_readAsk cX6_readAsk 2 D [.ref (eA V 27)] u post) {u : PoS} {post : PoS → Prop} (h : wp_X6_readChoice rc_X6_readSum rc_X6_readOne rc_X6_readAsk u post) : KV l V yX6_readChoice cX6_readChoice 3 (D + 3) [.ref (eA V 27)] u post := by
  refine KV_of (by decide) (Nat.le_of_ble_eq_true rfl) (lv := [(0, .ref (eA V 27))]) rfl ?_
  intro p e s m args below meth c C
  rw [wp_X6_readChoice] at h
  refine a_aload_n C 0 dX6_readChoice_0 rfl rfl ?_
  refine a_callVv C dX6_readChoice_1 (m_X6_readEither l V hD hrc_X6_readSum hrc_X6_readOne hrc_X6_readAsk h) bw_586 bw_588 bw_16 bw_119 bw_589 (by decide) rfl rfl np_X6_readEither rfl rfl (rm_ok (by omega) (by decide)) (Nat.le_of_ble_eq_true rfl) ⟨Nat.zero_le _, Nat.zero_le _⟩ (fun u2 h => ?_)
  refine a_aload_n C 0 dX6_readChoice_4 rfl rfl ?_
  refine a_bipush C 23 dX6_readChoice_5 (by decide) ?_
  refine a_callVv C dX6_readChoice_7 (m_X6_expect l V h) bw_578 bw_580 bw_14 bw_119 bw_581 (by decide) rfl rfl np_X6_expect rfl rfl (rm_ok (by omega) (by decide)) (Nat.le_of_ble_eq_true rfl) ⟨Nat.zero_le _, Nat.zero_le _⟩ (fun u4 h => ?_)
  refine a_aload_n C 0 dX6_readChoice_10 rfl rfl ?_
  refine a_getd C 8 dX6_readChoice_11 (by decide) rfl rfl rfl ib_6 (by decide) bw_300 ?_
  obtain ⟨i5, hi5, hri5, h⟩ := h
  rw [hri5]
  refine a_geti C 5 dX6_readChoice_14 (by have := hi5; omega) (lw_obj hi5) rfl rfl ib_3 (by decide) bw_250 ?_
  refine a_topi (fun x6 ex6 => ?_)
  have h := h x6 ex6
  refine a_istore_n C [(1, .int x6), (0, .ref (eA V 27))] dX6_readChoice_17 rfl (by decide) rfl ?_
  refine a_aload_n C 1 dX6_readChoice_18 rfl rfl ?_
  refine a_getd C 8 dX6_readChoice_19 (by decide) rfl rfl rfl ib_6 (by decide) bw_300 ?_
  obtain ⟨i7, hi7, hri7, h⟩ := h
  rw [hri7]
  refine a_bipush C 47 dX6_readChoice_22 (by decide) ?_
  refine a_iconst C 0 dX6_readChoice_24 (by decide) ?_
  refine a_callVv C dX6_readChoice_25 (m_X3_addCode l V hi7 h) bw_559 bw_560 bw_561 bw_117 bw_562 (by have := hi7; omega) (lw_obj hi7) rfl np_X3_addCode rfl rfl (rm_ok (by omega) (by decide)) (Nat.le_of_ble_eq_true rfl) ⟨Nat.zero_le _, Nat.zero_le _⟩ (fun u9 h => ?_)
  refine a_aload_n C 1 dX6_readChoice_28 rfl rfl ?_
  refine a_callVv C dX6_readChoice_29 (hrc_X6_readSum _ _ h) bw_542 bw_544 bw_7 bw_119 bw_545 (by decide) rfl rfl np_X6_readSum rfl rfl (rm_ok (by omega) (by decide)) (Nat.le_of_ble_eq_true rfl) ⟨Nat.zero_le _, Nat.zero_le _⟩ (fun u11 h => ?_)
  refine a_aload_n C 1 dX6_readChoice_32 rfl rfl ?_
  refine a_bipush C 24 dX6_readChoice_33 (by decide) ?_
  refine a_callVv C dX6_readChoice_35 (m_X6_expect l V h) bw_578 bw_580 bw_14 bw_119 bw_581 (by decide) rfl rfl np_X6_expect rfl rfl (rm_ok (by omega) (by decide)) (Nat.le_of_ble_eq_true rfl) ⟨Nat.zero_le _, Nat.zero_le _⟩ (fun u13 h => ?_)
  refine a_aload_n C 1 dX6_readChoice_38 rfl rfl ?_
  refine a_getd C 8 dX6_readChoice_39 (by decide) rfl rfl rfl ib_6 (by decide) bw_300 ?_
  obtain ⟨i14, hi14, hri14, h⟩ := h
  rw [hri14]
  refine a_geti C 5 dX6_readChoice_42 (by have := hi14; omega) (lw_obj hi14) rfl rfl ib_3 (by decide) bw_250 ?_
  refine a_topi (fun x15 ex15 => ?_)
  have h := h x15 ex15
  refine a_istore_n C [(2, .int x15), (1, .int x6), (0, .ref (eA V 27))] dX6_readChoice_45 rfl (by decide) rfl ?_
  refine a_aload_n C 2 dX6_readChoice_46 rfl rfl ?_
  refine a_getd C 8 dX6_readChoice_47 (by decide) rfl rfl rfl ib_6 (by decide) bw_300 ?_
  obtain ⟨i16, hi16, hri16, h⟩ := h
  rw [hri16]
  refine a_bipush C 46 dX6_readChoice_50 (by decide) ?_
  refine a_iconst C 0 dX6_readChoice_52 (by decide) ?_
  refine a_callVv C dX6_readChoice_53 (m_X3_addCode l V hi16 h) bw_559 bw_560 bw_561 bw_117 bw_562 (by have := hi16; omega) (lw_obj hi16) rfl np_X3_addCode rfl rfl (rm_ok (by omega) (by decide)) (Nat.le_of_ble_eq_true rfl) ⟨Nat.zero_le _, Nat.zero_le _⟩ (fun u18 h => ?_)
  refine a_aload_n C 2 dX6_readChoice_56 rfl rfl ?_
  refine a_getd C 8 dX6_readChoice_57 (by decide) rfl rfl rfl ib_6 (by decide) bw_300 ?_
  obtain ⟨i19, hi19, hri19, h⟩ := h
  rw [hri19]
  refine a_iload_n C 1 dX6_readChoice_60 rfl rfl ?_
  refine a_callVv C dX6_readChoice_61 (m_X3_skipToHere l V hi19 h) bw_601 bw_602 bw_603 bw_117 bw_604 (by have := hi19; omega) (lw_obj hi19) rfl np_X3_skipToHere rfl rfl (rm_ok (by omega) (by decide)) (Nat.le_of_ble_eq_true rfl) ⟨Nat.zero_le _, Nat.zero_le _⟩ (fun u21 h => ?_)
  refine a_aload_n C 2 dX6_readChoice_64 rfl rfl ?_
  refine a_callVv C dX6_readChoice_65 (hrc_X6_readSum _ _ h) bw_542 bw_544 bw_7 bw_119 bw_545 (by decide) rfl rfl np_X6_readSum rfl rfl (rm_ok (by omega) (by decide)) (Nat.le_of_ble_eq_true rfl) ⟨Nat.zero_le _, Nat.zero_le _⟩ (fun u23 h => ?_)
  refine a_aload_n C 2 dX6_readChoice_68 rfl rfl ?_
  refine a_bipush C 25 dX6_readChoice_69 (by decide) ?_
  refine a_callVv C dX6_readChoice_71 (m_X6_expect l V h) bw_578 bw_580 bw_14 bw_119 bw_581 (by decide) rfl rfl np_X6_expect rfl rfl (rm_ok (by omega) (by decide)) (Nat.le_of_ble_eq_true rfl) ⟨Nat.zero_le _, Nat.zero_le _⟩ (fun u25 h => ?_)
  refine a_aload_n C 2 dX6_readChoice_74 rfl rfl ?_
  refine a_getd C 8 dX6_readChoice_75 (by decide) rfl rfl rfl ib_6 (by decide) bw_300 ?_
  obtain ⟨i26, hi26, hri26, h⟩ := h
  rw [hri26]
  refine a_iload_n C 0 dX6_readChoice_78 rfl rfl ?_
  refine a_callVv C dX6_readChoice_79 (m_X3_skipToHere l V hi26 h) bw_601 bw_602 bw_603 bw_117 bw_604 (by have := hi26; omega) (lw_obj hi26) rfl np_X3_skipToHere rfl rfl (rm_ok (by omega) (by decide)) (Nat.le_of_ble_eq_true rfl) ⟨Nat.zero_le _, Nat.zero_le _⟩ (fun u28 h => ?_)
  exact a_vret C dX6_readChoice_82 h

/-! RainOnTheOne$Reader.readInner()V -/
def wj_X6_readInner_136 (rc_X6_readSum : PoS → (PoS → Prop) → Prop) (rc_X6_readOne : PoS → (PoS → Prop) → Prop) (rc_X6_readAsk : PoS → (PoS → Prop) → Prop) (post : PoS → Prop) (u : PoS) : Prop := post (pI u 27 9 ((gI u 27 9) - 1))
def wp_X6_readInner (rc_X6_readSum : PoS → (PoS → Prop) → Prop) (rc_X6_readOne : PoS → (PoS → Prop) → Prop) (rc_X6_readAsk : PoS → (PoS → Prop) → Prop) (u : PoS) (post : PoS → Prop) : Prop := ∀ x1 : Int32, x1 = (gI u 27 7) → (((gI u 27 9) < 8 → wp_X6_advance (pI u 27 9 ((gI u 27 9) + 1)) (fun (u3 : PoS) => ((¬ x1 = 36 → ((¬ x1 = 33 → ((¬ x1 = 18 → ((¬ x1 = 17 → wp_X6_readChoice rc_X6_readSum rc_X6_readOne rc_X6_readAsk u3 (fun (u5 : PoS) => wj_X6_readInner_136 rc_X6_readSum rc_X6_readOne rc_X6_readAsk post  u5)) ∧ (x1 = 17 → rc_X6_readOne u3 (fun (u7 : PoS) => wp_X6_expect 21 u7 (fun (u9 : PoS) => rc_X6_readOne u9 (fun (u11 : PoS) => ∃ i12, i12 < 4 ∧ gR u11 27 8 = 7 + i12 ∧ wp_X3_addCode i12 17 0 u11 (fun (u14 : PoS) => wj_X6_readInner_136 rc_X6_readSum rc_X6_readOne rc_X6_readAsk post  u14))))))) ∧ (x1 = 18 → rc_X6_readOne u3 (fun (u17 : PoS) => ∃ i18, i18 < 4 ∧ gR u17 27 8 = 7 + i18 ∧ wp_X3_addCode i18 18 0 u17 (fun (u20 : PoS) => wj_X6_readInner_136 rc_X6_readSum rc_X6_readOne rc_X6_readAsk post  u20))))) ∧ (x1 = 33 → rc_X6_readOne u3 (fun (u23 : PoS) => ∃ i24, i24 < 4 ∧ gR u23 27 8 = 7 + i24 ∧ wp_X3_addCode i24 45 0 u23 (fun (u26 : PoS) => wj_X6_readInner_136 rc_X6_readSum rc_X6_readOne rc_X6_readAsk post  u26))))) ∧ (x1 = 36 → rc_X6_readSum u3 (fun (u29 : PoS) => wp_X6_expect 37 u29 (fun (u31 : PoS) => wj_X6_readInner_136 rc_X6_readSum rc_X6_readOne rc_X6_readAsk post  u31)))))) ∧ (¬ (gI u 27 9) < 8 → wp_X6_blame 3 u (fun (u34 : PoS) => post u34)))
set_option maxHeartbeats 4000000 in
set_option maxRecDepth 100000 in
theorem tj_X6_readInner_136 {p : Program} {l : Launch} {e : Env} {s : State} {m : MethodId} {args : Array Value} {below : List Frame} {meth : Method} {c : Code} {V : VEn} {D : Nat} {rc_X6_readSum : PoS → (PoS → Prop) → Prop} {rc_X6_readOne : PoS → (PoS → Prop) → Prop} {rc_X6_readAsk : PoS → (PoS → Prop) → Prop} {post : PoS → Prop} (C : CxS p s m args meth c V cX6_readInner 2 RX6 none) (hD : 1 ≤ D) (hrc_X6_readSum : ∀ (u : PoS) (post : PoS → Prop), rc_X6_readSum  u post → KV l V yX6_readSum cX6_readSum 3 D [.ref (eA V 27)] u post) (hrc_X6_readOne : ∀ (u : PoS) (post : PoS → Prop), rc_X6_readOne  u post → KV l V yX6_readOne cX6_readOne 1 D [.ref (eA V 27)] u post) (hrc_X6_readAsk : ∀ (u : PoS) (post : PoS → Prop), rc_X6_readAsk  u post → KV l V yX6_readAsk cX6_readAsk 2 D [.ref (eA V 27)] u post) (u : PoS) (h : wj_X6_readInner_136 rc_X6_readSum rc_X6_readOne rc_X6_readAsk post  u) : AtS p l e (Rm (D + 4)) s m args below meth c V 2 0 0 (QV V below args s post) 136 [(0, .ref (eA V 27))] [] u := by
  rw [wj_X6_readInner_136] at h
  refine a_aload_n C 0 dX6_readInner_136 rfl rfl ?_
  refine a_dup C dX6_readInner_137 rfl ?_
  refine a_geti C 9 dX6_readInner_138 (by decide) rfl rfl rfl ib_6 (by decide) bw_301 ?_
  refine a_iconst C 1 dX6_readInner_141 (by decide) ?_
  refine a_isub C dX6_readInner_142 ?_
  refine a_puti C (ty := .int) 9 dX6_readInner_143 (by decide) rfl rfl rfl ib_6 (by decide) bw_301 tyX6 tyX6_ok nmX6 rfl (by decide +kernel) rfl rfl ?_
  exact a_vret C dX6_readInner_146 h
set_option maxHeartbeats 4000000 in
set_option maxRecDepth 100000 in
theorem m_X6_readInner (l : Launch) (V : VEn) {D : Nat} {rc_X6_readSum : PoS → (PoS → Prop) → Prop} {rc_X6_readOne : PoS → (PoS → Prop) → Prop} {rc_X6_readAsk : PoS → (PoS → Prop) → Prop} (hD : 1 ≤ D) (hrc_X6_readSum : ∀ (u : PoS) (post : PoS → Prop), rc_X6_readSum  u post → KV l V yX6_readSum cX6_readSum 3 D [.ref (eA V 27)] u post) (hrc_X6_readOne : ∀ (u : PoS) (post : PoS → Prop), rc_X6_readOne  u post → KV l V yX6_readOne cX6_readOne 1 D [.ref (eA V 27)] u post) (hrc_X6_readAsk : ∀ (u : PoS) (post : PoS → Prop), rc_X6_readAsk  u post → KV l V yX6_readAsk cX6_readAsk 2 D [.ref (eA V 27)] u post) {u : PoS} {post : PoS → Prop} (h : wp_X6_readInner rc_X6_readSum rc_X6_readOne rc_X6_readAsk u post) : KV l V yX6_readInner cX6_readInner 2 (D + 4) [.ref (eA V 27)] u post := by
  refine KV_of (by decide) (Nat.le_of_ble_eq_true rfl) (lv := [(0, .ref (eA V 27))]) rfl ?_
  intro p e s m args below meth c C
  rw [wp_X6_readInner] at h
  refine a_aload_n C 0 dX6_readInner_0 rfl rfl ?_
  refine a_geti C 7 dX6_readInner_1 (by decide) rfl rfl rfl ib_6 (by decide) bw_299 ?_
  refine a_topi (fun x1 ex1 => ?_)
  have h := h x1 ex1
  refine a_istore_n C [(1, .int x1), (0, .ref (eA V 27))] dX6_readInner_4 rfl (by decide) rfl ?_
  refine a_aload_n C 1 dX6_readInner_5 rfl rfl ?_
  refine a_geti C 9 dX6_readInner_6 (by decide) rfl rfl rfl ib_6 (by decide) bw_301 ?_
  refine a_bipush C 8 dX6_readInner_9 (by decide) ?_
  refine a_icmp_lt C 20 dX6_readInner_11 (by decide) (fun c35 => ?_) (fun c35 => ?_)
  · have h := h.1 c35
    refine a_aload_n C 1 dX6_readInner_20 rfl rfl ?_
    refine a_dup C dX6_readInner_21 rfl ?_
    refine a_geti C 9 dX6_readInner_22 (by decide) rfl rfl rfl ib_6 (by decide) bw_301 ?_
    refine a_iconst C 1 dX6_readInner_25 (by decide) ?_
    refine a_iadd C dX6_readInner_26 ?_
    refine a_puti C (ty := .int) 9 dX6_readInner_27 (by decide) rfl rfl rfl ib_6 (by decide) bw_301 tyX6 tyX6_ok nmX6 rfl (by decide +kernel) rfl rfl ?_
    refine a_aload_n C 1 dX6_readInner_30 rfl rfl ?_
    refine a_callVv C dX6_readInner_31 (m_X6_advance l V h) bw_538 bw_540 bw_6 bw_119 bw_541 (by decide) rfl rfl np_X6_advance rfl rfl (rm_ok (by omega) (by decide)) (Nat.le_of_ble_eq_true rfl) ⟨Nat.zero_le _, Nat.zero_le _⟩ (fun u3 h => ?_)
    refine a_iload_n C 0 dX6_readInner_34 rfl rfl ?_
    refine a_bipush C 36 dX6_readInner_35 (by decide) ?_
    refine a_icmp_ne C 53 dX6_readInner_37 (by decide) (fun c32 => ?_) (fun c32 => ?_)
    · have h := h.1 c32
      refine a_iload_n C 0 dX6_readInner_53 rfl rfl ?_
      refine a_bipush C 33 dX6_readInner_54 (by decide) ?_
      refine a_icmp_ne C 76 dX6_readInner_56 (by decide) (fun c27 => ?_) (fun c27 => ?_)
      · have h := h.1 c27
        refine a_iload_n C 0 dX6_readInner_76 rfl rfl ?_
        refine a_bipush C 18 dX6_readInner_77 (by decide) ?_
        refine a_icmp_ne C 99 dX6_readInner_79 (by decide) (fun c21 => ?_) (fun c21 => ?_)
        · have h := h.1 c21
          refine a_iload_n C 0 dX6_readInner_99 rfl rfl ?_
          refine a_bipush C 17 dX6_readInner_100 (by decide) ?_
          refine a_icmp_ne C 132 dX6_readInner_102 (by decide) (fun c15 => ?_) (fun c15 => ?_)
          · have h := h.1 c15
            refine a_aload_n C 1 dX6_readInner_132 rfl rfl ?_
            refine a_callVv C dX6_readInner_133 (m_X6_readChoice l V hD hrc_X6_readSum hrc_X6_readOne hrc_X6_readAsk h) bw_582 bw_584 bw_15 bw_119 bw_585 (by decide) rfl rfl np_X6_readChoice rfl rfl (rm_ok (by omega) (by decide)) (Nat.le_of_ble_eq_true rfl) ⟨Nat.zero_le _, Nat.zero_le _⟩ (fun u5 h => ?_)
            refine a_sub [1] rfl ?_
            refine tj_X6_readInner_136 C hD hrc_X6_readSum hrc_X6_readOne hrc_X6_readAsk _ h
          · have h := h.2 c15
            refine a_aload_n C 1 dX6_readInner_105 rfl rfl ?_
            refine a_callVv C dX6_readInner_106 (hrc_X6_readOne _ _ h) bw_550 bw_552 bw_9 bw_119 bw_553 (by decide) rfl rfl np_X6_readOne rfl rfl (rm_ok (by omega) (by decide)) (Nat.le_of_ble_eq_true rfl) ⟨Nat.zero_le _, Nat.zero_le _⟩ (fun u7 h => ?_)
            refine a_aload_n C 1 dX6_readInner_109 rfl rfl ?_
            refine a_bipush C 21 dX6_readInner_110 (by decide) ?_
            refine a_callVv C dX6_readInner_112 (m_X6_expect l V h) bw_578 bw_580 bw_14 bw_119 bw_581 (by decide) rfl rfl np_X6_expect rfl rfl (rm_ok (by omega) (by decide)) (Nat.le_of_ble_eq_true rfl) ⟨Nat.zero_le _, Nat.zero_le _⟩ (fun u9 h => ?_)
            refine a_aload_n C 1 dX6_readInner_115 rfl rfl ?_
            refine a_callVv C dX6_readInner_116 (hrc_X6_readOne _ _ h) bw_550 bw_552 bw_9 bw_119 bw_553 (by decide) rfl rfl np_X6_readOne rfl rfl (rm_ok (by omega) (by decide)) (Nat.le_of_ble_eq_true rfl) ⟨Nat.zero_le _, Nat.zero_le _⟩ (fun u11 h => ?_)
            refine a_aload_n C 1 dX6_readInner_119 rfl rfl ?_
            refine a_getd C 8 dX6_readInner_120 (by decide) rfl rfl rfl ib_6 (by decide) bw_300 ?_
            obtain ⟨i12, hi12, hri12, h⟩ := h
            rw [hri12]
            refine a_bipush C 17 dX6_readInner_123 (by decide) ?_
            refine a_iconst C 0 dX6_readInner_125 (by decide) ?_
            refine a_callVv C dX6_readInner_126 (m_X3_addCode l V hi12 h) bw_559 bw_560 bw_561 bw_117 bw_562 (by have := hi12; omega) (lw_obj hi12) rfl np_X3_addCode rfl rfl (rm_ok (by omega) (by decide)) (Nat.le_of_ble_eq_true rfl) ⟨Nat.zero_le _, Nat.zero_le _⟩ (fun u14 h => ?_)
            refine a_goto C 136 dX6_readInner_129 (by decide) ?_
            refine a_sub [1] rfl ?_
            refine tj_X6_readInner_136 C hD hrc_X6_readSum hrc_X6_readOne hrc_X6_readAsk _ h
        · have h := h.2 c21
          refine a_aload_n C 1 dX6_readInner_82 rfl rfl ?_
          refine a_callVv C dX6_readInner_83 (hrc_X6_readOne _ _ h) bw_550 bw_552 bw_9 bw_119 bw_553 (by decide) rfl rfl np_X6_readOne rfl rfl (rm_ok (by omega) (by decide)) (Nat.le_of_ble_eq_true rfl) ⟨Nat.zero_le _, Nat.zero_le _⟩ (fun u17 h => ?_)
          refine a_aload_n C 1 dX6_readInner_86 rfl rfl ?_
          refine a_getd C 8 dX6_readInner_87 (by decide) rfl rfl rfl ib_6 (by decide) bw_300 ?_
          obtain ⟨i18, hi18, hri18, h⟩ := h
          rw [hri18]
          refine a_bipush C 18 dX6_readInner_90 (by decide) ?_
          refine a_iconst C 0 dX6_readInner_92 (by decide) ?_
          refine a_callVv C dX6_readInner_93 (m_X3_addCode l V hi18 h) bw_559 bw_560 bw_561 bw_117 bw_562 (by have := hi18; omega) (lw_obj hi18) rfl np_X3_addCode rfl rfl (rm_ok (by omega) (by decide)) (Nat.le_of_ble_eq_true rfl) ⟨Nat.zero_le _, Nat.zero_le _⟩ (fun u20 h => ?_)
          refine a_goto C 136 dX6_readInner_96 (by decide) ?_
          refine a_sub [1] rfl ?_
          refine tj_X6_readInner_136 C hD hrc_X6_readSum hrc_X6_readOne hrc_X6_readAsk _ h
      · have h := h.2 c27
        refine a_aload_n C 1 dX6_readInner_59 rfl rfl ?_
        refine a_callVv C dX6_readInner_60 (hrc_X6_readOne _ _ h) bw_550 bw_552 bw_9 bw_119 bw_553 (by decide) rfl rfl np_X6_readOne rfl rfl (rm_ok (by omega) (by decide)) (Nat.le_of_ble_eq_true rfl) ⟨Nat.zero_le _, Nat.zero_le _⟩ (fun u23 h => ?_)
        refine a_aload_n C 1 dX6_readInner_63 rfl rfl ?_
        refine a_getd C 8 dX6_readInner_64 (by decide) rfl rfl rfl ib_6 (by decide) bw_300 ?_
        obtain ⟨i24, hi24, hri24, h⟩ := h
        rw [hri24]
        refine a_bipush C 45 dX6_readInner_67 (by decide) ?_
        refine a_iconst C 0 dX6_readInner_69 (by decide) ?_
        refine a_callVv C dX6_readInner_70 (m_X3_addCode l V hi24 h) bw_559 bw_560 bw_561 bw_117 bw_562 (by have := hi24; omega) (lw_obj hi24) rfl np_X3_addCode rfl rfl (rm_ok (by omega) (by decide)) (Nat.le_of_ble_eq_true rfl) ⟨Nat.zero_le _, Nat.zero_le _⟩ (fun u26 h => ?_)
        refine a_goto C 136 dX6_readInner_73 (by decide) ?_
        refine a_sub [1] rfl ?_
        refine tj_X6_readInner_136 C hD hrc_X6_readSum hrc_X6_readOne hrc_X6_readAsk _ h
    · have h := h.2 c32
      refine a_aload_n C 1 dX6_readInner_40 rfl rfl ?_
      refine a_callVv C dX6_readInner_41 (hrc_X6_readSum _ _ h) bw_542 bw_544 bw_7 bw_119 bw_545 (by decide) rfl rfl np_X6_readSum rfl rfl (rm_ok (by omega) (by decide)) (Nat.le_of_ble_eq_true rfl) ⟨Nat.zero_le _, Nat.zero_le _⟩ (fun u29 h => ?_)
      refine a_aload_n C 1 dX6_readInner_44 rfl rfl ?_
      refine a_bipush C 37 dX6_readInner_45 (by decide) ?_
      refine a_callVv C dX6_readInner_47 (m_X6_expect l V h) bw_578 bw_580 bw_14 bw_119 bw_581 (by decide) rfl rfl np_X6_expect rfl rfl (rm_ok (by omega) (by decide)) (Nat.le_of_ble_eq_true rfl) ⟨Nat.zero_le _, Nat.zero_le _⟩ (fun u31 h => ?_)
      refine a_goto C 136 dX6_readInner_50 (by decide) ?_
      refine a_sub [1] rfl ?_
      refine tj_X6_readInner_136 C hD hrc_X6_readSum hrc_X6_readOne hrc_X6_readAsk _ h
  · have h := h.2 c35
    refine a_aload_n C 1 dX6_readInner_14 rfl rfl ?_
    refine a_iconst C 3 dX6_readInner_15 (by decide) ?_
    refine a_callVv C dX6_readInner_16 (m_X6_blame l V h) bw_526 bw_528 bw_4 bw_119 bw_529 (by decide) rfl rfl np_X6_blame rfl rfl (rm_ok (by omega) (by decide)) (Nat.le_of_ble_eq_true rfl) ⟨Nat.zero_le _, Nat.zero_le _⟩ (fun u34 h => ?_)
    exact a_vret C dX6_readInner_19 h

/-! RainOnTheOne$Reader.readOne()V -/
def wb_X6_readOne (rc_X6_readSum : PoS → (PoS → Prop) → Prop) (rc_X6_readOne : PoS → (PoS → Prop) → Prop) (rc_X6_readAsk : PoS → (PoS → Prop) → Prop) (u : PoS) (post : PoS → Prop) : Prop := ((¬ (gI u 27 7) = 41 → wp_X9_isName (gI u 27 7) u (fun (r1 : Int32) (u2 : PoS) => ((r1 = 0 → wp_X6_opensOne u2 (fun (r3 : Int32) (u4 : PoS) => ((r3 = 0 → wp_X6_blame 1 u4 (fun (u6 : PoS) => post u6)) ∧ (¬ r3 = 0 → wp_X6_readInner rc_X6_readSum rc_X6_readOne rc_X6_readAsk u4 (fun (u8 : PoS) => post u8))))) ∧ (¬ r1 = 0 → wp_X6_readName u2 (fun (u11 : PoS) => post u11))))) ∧ ((gI u 27 7) = 41 → ∃ i13, i13 < 4 ∧ gR u 27 8 = 7 + i13 ∧ wp_X6_numberWithin 0 9999 u (fun (r14 : Int32) (u15 : PoS) => wp_X3_addCode i13 41 r14 u15 (fun (u17 : PoS) => post u17))))
set_option maxHeartbeats 4000000 in
set_option maxRecDepth 100000 in
theorem mb_X6_readOne (l : Launch) (V : VEn) {D : Nat} {rc_X6_readSum : PoS → (PoS → Prop) → Prop} {rc_X6_readOne : PoS → (PoS → Prop) → Prop} {rc_X6_readAsk : PoS → (PoS → Prop) → Prop} (hD : 1 ≤ D) (hrc_X6_readSum : ∀ (u : PoS) (post : PoS → Prop), rc_X6_readSum  u post → KV l V yX6_readSum cX6_readSum 3 D [.ref (eA V 27)] u post) (hrc_X6_readOne : ∀ (u : PoS) (post : PoS → Prop), rc_X6_readOne  u post → KV l V yX6_readOne cX6_readOne 1 D [.ref (eA V 27)] u post) (hrc_X6_readAsk : ∀ (u : PoS) (post : PoS → Prop), rc_X6_readAsk  u post → KV l V yX6_readAsk cX6_readAsk 2 D [.ref (eA V 27)] u post) {u : PoS} {post : PoS → Prop} (h : wb_X6_readOne rc_X6_readSum rc_X6_readOne rc_X6_readAsk u post) : KV l V yX6_readOne cX6_readOne 1 (D + 6) [.ref (eA V 27)] u post := by
  refine KV_of (by decide) (Nat.le_of_ble_eq_true rfl) (lv := [(0, .ref (eA V 27))]) rfl ?_
  intro p e s m args below meth c C
  rw [wb_X6_readOne] at h
  refine a_aload_n C 0 dX6_readOne_0 rfl rfl ?_
  refine a_geti C 7 dX6_readOne_1 (by decide) rfl rfl rfl ib_6 (by decide) bw_299 ?_
  refine a_bipush C 41 dX6_readOne_4 (by decide) ?_
  refine a_icmp_ne C 29 dX6_readOne_6 (by decide) (fun c18 => ?_) (fun c18 => ?_)
  · have h := h.1 c18
    refine a_aload_n C 0 dX6_readOne_29 rfl rfl ?_
    refine a_geti C 7 dX6_readOne_30 (by decide) rfl rfl rfl ib_6 (by decide) bw_299 ?_
    refine a_callSi C dX6_readOne_33 (m_X9_isName l V h) bw_563 bw_564 bw_128 bw_565 np_X9_isName rfl rfl (rm_ok (by omega) (by decide)) (Nat.le_of_ble_eq_true rfl) ⟨Nat.zero_le _, Nat.zero_le _⟩ (fun r1 u2 h => ?_)
    refine a_if_eq C 46 dX6_readOne_36 (by decide) (fun c12 => ?_) (fun c12 => ?_)
    · have h := h.1 c12
      refine a_aload_n C 0 dX6_readOne_46 rfl rfl ?_
      refine a_callVi C dX6_readOne_47 (m_X6_opensOne l V h) bw_570 bw_572 bw_12 bw_119 bw_573 (by decide) rfl rfl np_X6_opensOne rfl rfl (rm_ok (by omega) (by decide)) (Nat.le_of_ble_eq_true rfl) ⟨Nat.zero_le _, Nat.zero_le _⟩ (fun r3 u4 h => ?_)
      refine a_if_eq C 60 dX6_readOne_50 (by decide) (fun c9 => ?_) (fun c9 => ?_)
      · have h := h.1 c9
        refine a_aload_n C 0 dX6_readOne_60 rfl rfl ?_
        refine a_iconst C 1 dX6_readOne_61 (by decide) ?_
        refine a_callVv C dX6_readOne_62 (m_X6_blame l V h) bw_526 bw_528 bw_4 bw_119 bw_529 (by decide) rfl rfl np_X6_blame rfl rfl (rm_ok (by omega) (by decide)) (Nat.le_of_ble_eq_true rfl) ⟨Nat.zero_le _, Nat.zero_le _⟩ (fun u6 h => ?_)
        exact a_vret C dX6_readOne_65 h
      · have h := h.2 c9
        refine a_aload_n C 0 dX6_readOne_53 rfl rfl ?_
        refine a_callVv C dX6_readOne_54 (m_X6_readInner l V hD hrc_X6_readSum hrc_X6_readOne hrc_X6_readAsk h) bw_574 bw_576 bw_13 bw_119 bw_577 (by decide) rfl rfl np_X6_readInner rfl rfl (rm_ok (by omega) (by decide)) (Nat.le_of_ble_eq_true rfl) ⟨Nat.zero_le _, Nat.zero_le _⟩ (fun u8 h => ?_)
        refine a_goto C 65 dX6_readOne_57 (by decide) ?_
        exact a_vret C dX6_readOne_65 h
    · have h := h.2 c12
      refine a_aload_n C 0 dX6_readOne_39 rfl rfl ?_
      refine a_callVv C dX6_readOne_40 (m_X6_readName l V h) bw_566 bw_568 bw_11 bw_119 bw_569 (by decide) rfl rfl np_X6_readName rfl rfl (rm_ok (by omega) (by decide)) (Nat.le_of_ble_eq_true rfl) ⟨Nat.zero_le _, Nat.zero_le _⟩ (fun u11 h => ?_)
      refine a_goto C 65 dX6_readOne_43 (by decide) ?_
      exact a_vret C dX6_readOne_65 h
  · have h := h.2 c18
    refine a_aload_n C 0 dX6_readOne_9 rfl rfl ?_
    refine a_getd C 8 dX6_readOne_10 (by decide) rfl rfl rfl ib_6 (by decide) bw_300 ?_
    obtain ⟨i13, hi13, hri13, h⟩ := h
    rw [hri13]
    refine a_bipush C 41 dX6_readOne_13 (by decide) ?_
    refine a_aload_n C 0 dX6_readOne_15 rfl rfl ?_
    refine a_iconst C 0 dX6_readOne_16 (by decide) ?_
    refine a_sipush C 9999 dX6_readOne_17 (by decide) ?_
    refine a_callVi C dX6_readOne_20 (m_X6_numberWithin l V h) bw_554 bw_556 bw_10 bw_119 bw_557 (by decide) rfl rfl np_X6_numberWithin rfl rfl (rm_ok (by omega) (by decide)) (Nat.le_of_ble_eq_true rfl) ⟨Nat.zero_le _, Nat.zero_le _⟩ (fun r14 u15 h => ?_)
    refine a_callVv C dX6_readOne_23 (m_X3_addCode l V hi13 h) bw_559 bw_560 bw_561 bw_117 bw_562 (by have := hi13; omega) (lw_obj hi13) rfl np_X3_addCode rfl rfl (rm_ok (by omega) (by decide)) (Nat.le_of_ble_eq_true rfl) ⟨Nat.zero_le _, Nat.zero_le _⟩ (fun u17 h => ?_)
    refine a_goto C 65 dX6_readOne_26 (by decide) ?_
    exact a_vret C dX6_readOne_65 h

/-! RainOnTheOne$Reader.readAsk()V -/
def wj_X6_readAsk_84 (rc_X6_readSum : PoS → (PoS → Prop) → Prop) (rc_X6_readOne : PoS → (PoS → Prop) → Prop) (rc_X6_readAsk : PoS → (PoS → Prop) → Prop) (post : PoS → Prop) (v1 : Int32) (u : PoS) : Prop := wp_X6_advance u (fun (u7 : PoS) => rc_X6_readSum u7 (fun (u9 : PoS) => ∃ i10, i10 < 4 ∧ gR u9 27 8 = 7 + i10 ∧ wp_X3_addCode i10 v1 0 u9 (fun (u12 : PoS) => post u12)))
def wb_X6_readAsk (rc_X6_readSum : PoS → (PoS → Prop) → Prop) (rc_X6_readOne : PoS → (PoS → Prop) → Prop) (rc_X6_readAsk : PoS → (PoS → Prop) → Prop) (u : PoS) (post : PoS → Prop) : Prop := ((¬ (gI u 27 7) = 20 → rc_X6_readSum u (fun (u2 : PoS) => ∀ x3 : Int32, x3 = (gI u2 27 7) → wp_X9_isCompare x3 u2 (fun (r4 : Int32) (u5 : PoS) => ((¬ r4 = 0 → wj_X6_readAsk_84 rc_X6_readSum rc_X6_readOne rc_X6_readAsk post x3 u5) ∧ (r4 = 0 → wp_X6_blame 1 u5 (fun (u14 : PoS) => wj_X6_readAsk_84 rc_X6_readSum rc_X6_readOne rc_X6_readAsk post x3 u14)))))) ∧ ((gI u 27 7) = 20 → (((gI u 27 9) < 8 → wp_X6_advance (pI u 27 9 ((gI u 27 9) + 1)) (fun (u17 : PoS) => rc_X6_readAsk u17 (fun (u19 : PoS) => ∃ i20, i20 < 4 ∧ gR u19 27 8 = 7 + i20 ∧ wp_X3_addCode i20 20 0 u19 (fun (u22 : PoS) => post (pI u22 27 9 ((gI u22 27 9) - 1)))))) ∧ (¬ (gI u 27 9) < 8 → wp_X6_blame 3 u (fun (u24 : PoS) => post u24)))))
set_option maxHeartbeats 4000000 in
set_option maxRecDepth 100000 in
theorem tj_X6_readAsk_84 {p : Program} {l : Launch} {e : Env} {s : State} {m : MethodId} {args : Array Value} {below : List Frame} {meth : Method} {c : Code} {V : VEn} {D : Nat} {rc_X6_readSum : PoS → (PoS → Prop) → Prop} {rc_X6_readOne : PoS → (PoS → Prop) → Prop} {rc_X6_readAsk : PoS → (PoS → Prop) → Prop} {post : PoS → Prop} (C : CxS p s m args meth c V cX6_readAsk 2 RX6 none) (hD : 1 ≤ D) (hrc_X6_readSum : ∀ (u : PoS) (post : PoS → Prop), rc_X6_readSum  u post → KV l V yX6_readSum cX6_readSum 3 D [.ref (eA V 27)] u post) (hrc_X6_readOne : ∀ (u : PoS) (post : PoS → Prop), rc_X6_readOne  u post → KV l V yX6_readOne cX6_readOne 1 D [.ref (eA V 27)] u post) (hrc_X6_readAsk : ∀ (u : PoS) (post : PoS → Prop), rc_X6_readAsk  u post → KV l V yX6_readAsk cX6_readAsk 2 D [.ref (eA V 27)] u post) (v1 : Int32) (u : PoS) (h : wj_X6_readAsk_84 rc_X6_readSum rc_X6_readOne rc_X6_readAsk post v1 u) : AtS p l e (Rm (D + 6)) s m args below meth c V 2 0 0 (QV V below args s post) 84 [(0, .ref (eA V 27)), (1, .int v1)] [] u := by
  rw [wj_X6_readAsk_84] at h
  refine a_aload_n C 0 dX6_readAsk_84 rfl rfl ?_
  refine a_callVv C dX6_readAsk_85 (m_X6_advance l V h) bw_538 bw_540 bw_6 bw_119 bw_541 (by decide) rfl rfl np_X6_advance rfl rfl (rm_ok (by omega) (by decide)) (Nat.le_of_ble_eq_true rfl) ⟨Nat.zero_le _, Nat.zero_le _⟩ (fun u7 h => ?_)
  refine a_aload_n C 0 dX6_readAsk_88 rfl rfl ?_
  refine a_callVv C dX6_readAsk_89 (hrc_X6_readSum _ _ h) bw_542 bw_544 bw_7 bw_119 bw_545 (by decide) rfl rfl np_X6_readSum rfl rfl (rm_ok (by omega) (by decide)) (Nat.le_of_ble_eq_true rfl) ⟨Nat.zero_le _, Nat.zero_le _⟩ (fun u9 h => ?_)
  refine a_aload_n C 0 dX6_readAsk_92 rfl rfl ?_
  refine a_getd C 8 dX6_readAsk_93 (by decide) rfl rfl rfl ib_6 (by decide) bw_300 ?_
  obtain ⟨i10, hi10, hri10, h⟩ := h
  rw [hri10]
  refine a_iload_n C 1 dX6_readAsk_96 rfl rfl ?_
  refine a_iconst C 0 dX6_readAsk_97 (by decide) ?_
  refine a_callVv C dX6_readAsk_98 (m_X3_addCode l V hi10 h) bw_559 bw_560 bw_561 bw_117 bw_562 (by have := hi10; omega) (lw_obj hi10) rfl np_X3_addCode rfl rfl (rm_ok (by omega) (by decide)) (Nat.le_of_ble_eq_true rfl) ⟨Nat.zero_le _, Nat.zero_le _⟩ (fun u12 h => ?_)
  exact a_vret C dX6_readAsk_101 h
set_option maxHeartbeats 4000000 in
set_option maxRecDepth 100000 in
theorem mb_X6_readAsk (l : Launch) (V : VEn) {D : Nat} {rc_X6_readSum : PoS → (PoS → Prop) → Prop} {rc_X6_readOne : PoS → (PoS → Prop) → Prop} {rc_X6_readAsk : PoS → (PoS → Prop) → Prop} (hD : 1 ≤ D) (hrc_X6_readSum : ∀ (u : PoS) (post : PoS → Prop), rc_X6_readSum  u post → KV l V yX6_readSum cX6_readSum 3 D [.ref (eA V 27)] u post) (hrc_X6_readOne : ∀ (u : PoS) (post : PoS → Prop), rc_X6_readOne  u post → KV l V yX6_readOne cX6_readOne 1 D [.ref (eA V 27)] u post) (hrc_X6_readAsk : ∀ (u : PoS) (post : PoS → Prop), rc_X6_readAsk  u post → KV l V yX6_readAsk cX6_readAsk 2 D [.ref (eA V 27)] u post) {u : PoS} {post : PoS → Prop} (h : wb_X6_readAsk rc_X6_readSum rc_X6_readOne rc_X6_readAsk u post) : KV l V yX6_readAsk cX6_readAsk 2 (D + 6) [.ref (eA V 27)] u post := by
  refine KV_of (by decide) (Nat.le_of_ble_eq_true rfl) (lv := [(0, .ref (eA V 27))]) rfl ?_
  intro p e s m args below meth c C
  rw [wb_X6_readAsk] at h
  refine a_aload_n C 0 dX6_readAsk_0 rfl rfl ?_
  refine a_geti C 7 dX6_readAsk_1 (by decide) rfl rfl rfl ib_6 (by decide) bw_299 ?_
  refine a_bipush C 20 dX6_readAsk_4 (by decide) ?_
  refine a_icmp_ne C 63 dX6_readAsk_6 (by decide) (fun c26 => ?_) (fun c26 => ?_)
  · have h := h.1 c26
    refine a_aload_n C 0 dX6_readAsk_63 rfl rfl ?_
    refine a_callVv C dX6_readAsk_64 (hrc_X6_readSum _ _ h) bw_542 bw_544 bw_7 bw_119 bw_545 (by decide) rfl rfl np_X6_readSum rfl rfl (rm_ok (by omega) (by decide)) (Nat.le_of_ble_eq_true rfl) ⟨Nat.zero_le _, Nat.zero_le _⟩ (fun u2 h => ?_)
    refine a_aload_n C 0 dX6_readAsk_67 rfl rfl ?_
    refine a_geti C 7 dX6_readAsk_68 (by decide) rfl rfl rfl ib_6 (by decide) bw_299 ?_
    refine a_topi (fun x3 ex3 => ?_)
    have h := h x3 ex3
    refine a_istore_n C [(1, .int x3), (0, .ref (eA V 27))] dX6_readAsk_71 rfl (by decide) rfl ?_
    refine a_iload_n C 0 dX6_readAsk_72 rfl rfl ?_
    refine a_callSi C dX6_readAsk_73 (m_X9_isCompare l V h) bw_598 bw_599 bw_128 bw_600 np_X9_isCompare rfl rfl (rm_ok (by omega) (by decide)) (Nat.le_of_ble_eq_true rfl) ⟨Nat.zero_le _, Nat.zero_le _⟩ (fun r4 u5 h => ?_)
    refine a_if_ne C 84 dX6_readAsk_76 (by decide) (fun c15 => ?_) (fun c15 => ?_)
    · have h := h.1 c15
      refine a_sub [1, 0] rfl ?_
      refine tj_X6_readAsk_84 C hD hrc_X6_readSum hrc_X6_readOne hrc_X6_readAsk _ _ h
    · have h := h.2 c15
      refine a_aload_n C 1 dX6_readAsk_79 rfl rfl ?_
      refine a_iconst C 1 dX6_readAsk_80 (by decide) ?_
      refine a_callVv C dX6_readAsk_81 (m_X6_blame l V h) bw_526 bw_528 bw_4 bw_119 bw_529 (by decide) rfl rfl np_X6_blame rfl rfl (rm_ok (by omega) (by decide)) (Nat.le_of_ble_eq_true rfl) ⟨Nat.zero_le _, Nat.zero_le _⟩ (fun u14 h => ?_)
      refine a_sub [1, 0] rfl ?_
      refine tj_X6_readAsk_84 C hD hrc_X6_readSum hrc_X6_readOne hrc_X6_readAsk _ _ h
  · have h := h.2 c26
    refine a_aload_n C 0 dX6_readAsk_9 rfl rfl ?_
    refine a_geti C 9 dX6_readAsk_10 (by decide) rfl rfl rfl ib_6 (by decide) bw_301 ?_
    refine a_bipush C 8 dX6_readAsk_13 (by decide) ?_
    refine a_icmp_lt C 24 dX6_readAsk_15 (by decide) (fun c25 => ?_) (fun c25 => ?_)
    · have h := h.1 c25
      refine a_aload_n C 0 dX6_readAsk_24 rfl rfl ?_
      refine a_dup C dX6_readAsk_25 rfl ?_
      refine a_geti C 9 dX6_readAsk_26 (by decide) rfl rfl rfl ib_6 (by decide) bw_301 ?_
      refine a_iconst C 1 dX6_readAsk_29 (by decide) ?_
      refine a_iadd C dX6_readAsk_30 ?_
      refine a_puti C (ty := .int) 9 dX6_readAsk_31 (by decide) rfl rfl rfl ib_6 (by decide) bw_301 tyX6 tyX6_ok nmX6 rfl (by decide +kernel) rfl rfl ?_
      refine a_aload_n C 0 dX6_readAsk_34 rfl rfl ?_
      refine a_callVv C dX6_readAsk_35 (m_X6_advance l V h) bw_538 bw_540 bw_6 bw_119 bw_541 (by decide) rfl rfl np_X6_advance rfl rfl (rm_ok (by omega) (by decide)) (Nat.le_of_ble_eq_true rfl) ⟨Nat.zero_le _, Nat.zero_le _⟩ (fun u17 h => ?_)
      refine a_aload_n C 0 dX6_readAsk_38 rfl rfl ?_
      refine a_callVv C dX6_readAsk_39 (hrc_X6_readAsk _ _ h) bw_594 bw_596 bw_18 bw_119 bw_597 (by decide) rfl rfl np_X6_readAsk rfl rfl (rm_ok (by omega) (by decide)) (Nat.le_of_ble_eq_true rfl) ⟨Nat.zero_le _, Nat.zero_le _⟩ (fun u19 h => ?_)
      refine a_aload_n C 0 dX6_readAsk_42 rfl rfl ?_
      refine a_getd C 8 dX6_readAsk_43 (by decide) rfl rfl rfl ib_6 (by decide) bw_300 ?_
      obtain ⟨i20, hi20, hri20, h⟩ := h
      rw [hri20]
      refine a_bipush C 20 dX6_readAsk_46 (by decide) ?_
      refine a_iconst C 0 dX6_readAsk_48 (by decide) ?_
      refine a_callVv C dX6_readAsk_49 (m_X3_addCode l V hi20 h) bw_559 bw_560 bw_561 bw_117 bw_562 (by have := hi20; omega) (lw_obj hi20) rfl np_X3_addCode rfl rfl (rm_ok (by omega) (by decide)) (Nat.le_of_ble_eq_true rfl) ⟨Nat.zero_le _, Nat.zero_le _⟩ (fun u22 h => ?_)
      refine a_aload_n C 0 dX6_readAsk_52 rfl rfl ?_
      refine a_dup C dX6_readAsk_53 rfl ?_
      refine a_geti C 9 dX6_readAsk_54 (by decide) rfl rfl rfl ib_6 (by decide) bw_301 ?_
      refine a_iconst C 1 dX6_readAsk_57 (by decide) ?_
      refine a_isub C dX6_readAsk_58 ?_
      refine a_puti C (ty := .int) 9 dX6_readAsk_59 (by decide) rfl rfl rfl ib_6 (by decide) bw_301 tyX6 tyX6_ok nmX6 rfl (by decide +kernel) rfl rfl ?_
      exact a_vret C dX6_readAsk_62 h
    · have h := h.2 c25
      refine a_aload_n C 0 dX6_readAsk_18 rfl rfl ?_
      refine a_iconst C 3 dX6_readAsk_19 (by decide) ?_
      refine a_callVv C dX6_readAsk_20 (m_X6_blame l V h) bw_526 bw_528 bw_4 bw_119 bw_529 (by decide) rfl rfl np_X6_blame rfl rfl (rm_ok (by omega) (by decide)) (Nat.le_of_ble_eq_true rfl) ⟨Nat.zero_le _, Nat.zero_le _⟩ (fun u24 h => ?_)
      exact a_vret C dX6_readAsk_23 h

def wR_reader : Nat → (PoS → (PoS → Prop) → Prop) × (PoS → (PoS → Prop) → Prop) × (PoS → (PoS → Prop) → Prop)
  | 0 => (fun _ _ => False, fun _ _ => False, fun _ _ => False)
  | q + 1 => (wb_X6_readSum (wR_reader q).1 (wR_reader q).2.1 (wR_reader q).2.2, wb_X6_readOne (wR_reader q).1 (wR_reader q).2.1 (wR_reader q).2.2, wb_X6_readAsk (wR_reader q).1 (wR_reader q).2.1 (wR_reader q).2.2)
def wp_X6_readSum (q : Nat) (u : PoS) (post : PoS → Prop) : Prop := (wR_reader q).1  u post
def wp_X6_readOne (q : Nat) (u : PoS) (post : PoS → Prop) : Prop := (wR_reader q).2.1  u post
def wp_X6_readAsk (q : Nat) (u : PoS) (post : PoS → Prop) : Prop := (wR_reader q).2.2  u post
theorem mR_reader (l : Launch) (V : VEn) : ∀ q : Nat, (∀ (u : PoS) (post : PoS → Prop), (wR_reader q).1  u post → KV l V yX6_readSum cX6_readSum 3 (1 + 6 * q) [.ref (eA V 27)] u post) ∧ (∀ (u : PoS) (post : PoS → Prop), (wR_reader q).2.1  u post → KV l V yX6_readOne cX6_readOne 1 (1 + 6 * q) [.ref (eA V 27)] u post) ∧ (∀ (u : PoS) (post : PoS → Prop), (wR_reader q).2.2  u post → KV l V yX6_readAsk cX6_readAsk 2 (1 + 6 * q) [.ref (eA V 27)] u post) := by
  intro q
  induction q with
  | zero => exact ⟨fun _ _ h => h.elim, fun _ _ h => h.elim, fun _ _ h => h.elim⟩
  | succ q ih =>
    rw [show 1 + 6 * (q + 1) = 1 + 6 * q + 6 by omega]
    exact ⟨fun _ _ h => mb_X6_readSum l V (D := 1 + 6 * q) (by omega) ih.1 ih.2.1 ih.2.2 h, fun _ _ h => mb_X6_readOne l V (D := 1 + 6 * q) (by omega) ih.1 ih.2.1 ih.2.2 h, fun _ _ h => mb_X6_readAsk l V (D := 1 + 6 * q) (by omega) ih.1 ih.2.1 ih.2.2 h⟩
theorem m_X6_readSum (l : Launch) (V : VEn) (q : Nat) (u : PoS) (post : PoS → Prop) (h : wp_X6_readSum q  u post) : KV l V yX6_readSum cX6_readSum 3 (1 + 6 * q) [.ref (eA V 27)] u post := (mR_reader l V q).1  u post h
theorem m_X6_readOne (l : Launch) (V : VEn) (q : Nat) (u : PoS) (post : PoS → Prop) (h : wp_X6_readOne q  u post) : KV l V yX6_readOne cX6_readOne 1 (1 + 6 * q) [.ref (eA V 27)] u post := (mR_reader l V q).2.1  u post h
theorem m_X6_readAsk (l : Launch) (V : VEn) (q : Nat) (u : PoS) (post : PoS → Prop) (h : wp_X6_readAsk q  u post) : KV l V yX6_readAsk cX6_readAsk 2 (1 + 6 * q) [.ref (eA V 27)] u post := (mR_reader l V q).2.2  u post h
