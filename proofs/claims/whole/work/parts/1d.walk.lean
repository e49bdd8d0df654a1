/-! RainOnTheOne.seenBehind(I)I -/
def wj_X11_seenBehind_47 (k6 : Int32 → Int32 → Int32 → PoS → Prop) (post : Int32 → PoS → Prop) (v1 : Int32) (v2 : Int32) (v3 : Int32) (u : PoS) : Prop := k6 v1 v2 (v3 + 1) u
def wl_X11_seenBehind_6 (post : Int32 → PoS → Prop) : Nat → Int32 → Int32 → Int32 → PoS → Prop
  | 0, _, _, _, _ => False
  | n + 1, v1, v2, v3, u => (((gI u 3 153) ≤ v3 → post v2 u) ∧ (¬ (gI u 3 153) ≤ v3 → vp_in (160 + v3) 2735 ∧ ((¬ (gI u 3 (Int32.toNatClampNeg (160 + v3))) = v1 → wj_X11_seenBehind_47 (wl_X11_seenBehind_6 post n) post v1 v2 v3 u) ∧ ((gI u 3 (Int32.toNatClampNeg (160 + v3))) = v1 → vp_in (154 + v3) 2735 ∧ ∀ x1 : Int32, x1 = (v2 &&& (1 <<< ((gI u 3 (Int32.toNatClampNeg (154 + v3))) &&& 31))) → wj_X11_seenBehind_47 (wl_X11_seenBehind_6 post n) post v1 x1 v3 u))))
def wp_X11_seenBehind (a0 : Int32) (u : PoS) (post : Int32 → PoS → Prop) : Prop := (∃ n6, wl_X11_seenBehind_6 post n6 a0 1073741823 0 u)
set_option maxHeartbeats 4000000 in
set_option maxRecDepth 100000 in
theorem tj_X11_seenBehind_47 {p : Program} {l : Launch} {e : Env} {s : State} {m : MethodId} {args : Array Value} {below : List Frame} {meth : Method} {c : Code} {V : VEn} {k6 : Int32 → Int32 → Int32 → PoS → Prop} {post : Int32 → PoS → Prop} (C : CxS p s m args meth c V cX11_seenBehind 4 RX11 (some .int)) (hk6 : ∀ (v1 : Int32) (v2 : Int32) (v3 : Int32) (u : PoS), k6 v1 v2 v3 u → AtS p l e (Rm 0) s m args below meth c V 4 0 0 (QI V below args s post) 6 [(0, .ref (eA V 0)), (1, .int v1), (2, .int v2), (3, .int v3)] [] u) (v1 : Int32) (v2 : Int32) (v3 : Int32) (u : PoS) (h : wj_X11_seenBehind_47 k6 post v1 v2 v3 u) : AtS p l e (Rm 0) s m args below meth c V 4 0 0 (QI V below args s post) 47 [(0, .ref (eA V 0)), (1, .int v1), (2, .int v2), (3, .int v3)] [] u := by
  rw [wj_X11_seenBehind_47] at h
  refine a_iinc C (v3 + 1) 3 [(3, .int (v3 + 1)), (0, .ref (eA V 0)), (1, .int v1), (2, .int v2)] dX11_seenBehind_47 rfl (congrArg (fun z => v3 + z) (show Int32.ofInt 1 = 1 by decide)) (by decide) rfl ?_
  refine a_goto C 6 dX11_seenBehind_50 (by decide) ?_
  refine a_sub [1, 2, 3, 0] rfl ?_
  exact hk6 _ _ _ _ h
set_option maxHeartbeats 4000000 in
set_option maxRecDepth 100000 in
theorem tl_X11_seenBehind_6 {p : Program} {l : Launch} {e : Env} {s : State} {m : MethodId} {args : Array Value} {below : List Frame} {meth : Method} {c : Code} {V : VEn} {post : Int32 → PoS → Prop} (C : CxS p s m args meth c V cX11_seenBehind 4 RX11 (some .int)) : ∀ (n : Nat) (v1 : Int32) (v2 : Int32) (v3 : Int32) (u : PoS), wl_X11_seenBehind_6 post n v1 v2 v3 u → AtS p l e (Rm 0) s m args below meth c V 4 0 0 (QI V below args s post) 6 [(0, .ref (eA V 0)), (1, .int v1), (2, .int v2), (3, .int v3)] [] u := by
  intro n
  induction n with
  | zero => intro v1 v2 v3 u h; exact h.elim
  | succ n ih =>
    intro v1 v2 v3 u h
    rw [wl_X11_seenBehind_6] at h
    refine a_iload_n C 3 dX11_seenBehind_6 rfl rfl ?_
    refine a_aload_n C 0 dX11_seenBehind_7 rfl rfl ?_
    refine a_getr C 2 (r := 3) dX11_seenBehind_8 (by decide) rfl rfl rfl ib_11 (by decide) bw_351 ?_
    refine a_sipush C 153 dX11_seenBehind_11 (by decide) ?_
    refine b_iald C 153 dX11_seenBehind_14 (by decide) rfl (vp_lit (by decide)) (by decide) ?_
    refine a_icmp_ge C 53 dX11_seenBehind_15 (by decide) (fun c3 => ?_) (fun c3 => ?_)
    · have h := h.1 c3
      refine a_iload_n C 2 dX11_seenBehind_53 rfl rfl ?_
      exact a_iret C dX11_seenBehind_54 h
    · have h := h.2 c3
      refine a_aload_n C 0 dX11_seenBehind_18 rfl rfl ?_
      refine a_getr C 2 (r := 3) dX11_seenBehind_19 (by decide) rfl rfl rfl ib_11 (by decide) bw_351 ?_
      refine a_sipush C 160 dX11_seenBehind_22 (by decide) ?_
      refine a_iload_n C 3 dX11_seenBehind_25 rfl rfl ?_
      refine a_iadd C dX11_seenBehind_26 ?_
      refine b_iald C (Int32.toNatClampNeg (160 + v3)) dX11_seenBehind_27 (by decide) rfl h.1 rfl ?_
      have h := h.2
      refine a_iload_n C 1 dX11_seenBehind_28 rfl rfl ?_
      refine a_icmp_ne C 47 dX11_seenBehind_29 (by decide) (fun c2 => ?_) (fun c2 => ?_)
      · have h := h.1 c2
        refine tj_X11_seenBehind_47 C ih _ _ _ _ h
      · have h := h.2 c2
        refine a_iload_n C 2 dX11_seenBehind_32 rfl rfl ?_
        refine a_iconst C 1 dX11_seenBehind_33 (by decide) ?_
        refine a_aload_n C 0 dX11_seenBehind_34 rfl rfl ?_
        refine a_getr C 2 (r := 3) dX11_seenBehind_35 (by decide) rfl rfl rfl ib_11 (by decide) bw_351 ?_
        refine a_sipush C 154 dX11_seenBehind_38 (by decide) ?_
        refine a_iload_n C 3 dX11_seenBehind_41 rfl rfl ?_
        refine a_iadd C dX11_seenBehind_42 ?_
        refine b_iald C (Int32.toNatClampNeg (154 + v3)) dX11_seenBehind_43 (by decide) rfl h.1 rfl ?_
        have h := h.2
        refine a_ishl C dX11_seenBehind_44 ?_
        refine a_iand C dX11_seenBehind_45 ?_
        refine a_topi (fun x1 ex1 => ?_)
        have h := h x1 ex1
        refine a_istore_n C [(2, .int x1), (0, .ref (eA V 0)), (1, .int v1), (3, .int v3)] dX11_seenBehind_46 rfl (by decide) rfl ?_
        refine a_sub [1, 2, 0, 3] rfl ?_
        refine tj_X11_seenBehind_47 C ih _ _ _ _ h
theorem np_X11_seenBehind : yX11_seenBehind.cls ≠ "java/lang/invoke/MethodHandle" ∧ yX11_seenBehind.cls ≠ "java/lang/invoke/VarHandle" ∧ (parseMethodDescriptor yX11_seenBehind.desc).map (fun d => d.parameters.length) = some 1 := by decide +kernel
set_option maxHeartbeats 4000000 in
set_option maxRecDepth 100000 in
theorem m_X11_seenBehind (l : Launch) (V : VEn) {a0 : Int32} {u : PoS} {post : Int32 → PoS → Prop} (h : wp_X11_seenBehind a0 u post) : KI l V yX11_seenBehind cX11_seenBehind 4 .int 0 [.ref (eA V 0), .int a0] u post := by
  refine KI_of (by decide) (Nat.le_of_ble_eq_true rfl) (lv := [(0, .ref (eA V 0)), (1, .int a0)]) rfl ?_
  intro p e s m args below meth c C
  rw [wp_X11_seenBehind] at h
  refine a_ldcw C dX11_seenBehind_0 bw_951 ?_
  refine a_istore_n C [(2, .int 1073741823), (0, .ref (eA V 0)), (1, .int a0)] dX11_seenBehind_3 rfl (by decide) rfl ?_
  refine a_iconst C 0 dX11_seenBehind_4 (by decide) ?_
  refine a_istore_n C [(3, .int 0), (2, .int 1073741823), (0, .ref (eA V 0)), (1, .int a0)] dX11_seenBehind_5 rfl (by decide) rfl ?_
  refine a_sub [2, 3, 1, 0] rfl ?_
  obtain ⟨n6, h⟩ := h
  refine tl_X11_seenBehind_6 C n6 _ _ _ _ h

/-! RainOnTheOne.from(Z)I -/
def wl_X11_from_13 (k48 : Int32 → Int32 → Int32 → PoS → Prop) (post : Int32 → PoS → Prop) : Nat → Int32 → Int32 → Int32 → Int32 → PoS → Prop
  | 0, _, _, _, _, _ => False
  | n + 1, v1, v2, v3, v4, u => (((gI u 3 153) ≤ v4 → k48 v1 v2 v3 u) ∧ (¬ (gI u 3 153) ≤ v4 → vp_in (160 + v4) 2735 ∧ ∀ x3 : Int32, x3 = (imax v3 (gI u 3 (Int32.toNatClampNeg (160 + v4)))) → wl_X11_from_13 k48 post n v1 v2 x3 (v4 + 1) u))
def wl_X11_from_62 (k89 : Int32 → Int32 → PoS → Prop) (post : Int32 → PoS → Prop) : Nat → Int32 → Int32 → Int32 → Int32 → PoS → Prop
  | 0, _, _, _, _, _ => False
  | n + 1, v1, v2, v4, v5, u => ((v5 < 0 → k89 v1 v4 u) ∧ (¬ v5 < 0 → wp_X1_beside v4 u (fun (r10 : Int32) (u11 : PoS) => wp_X11_seenBehind v5 u11 (fun (r12 : Int32) (u13 : PoS) => ∀ x14 : Int32, x14 = ((r10 &&& v2) &&& r12) → wl_X11_from_62 k89 post n v1 v2 x14 (v5 + (-1)) u13))))
def wp_X11_from (a0 : Int32) (u : PoS) (post : Int32 → PoS → Prop) : Prop := wp_X8_open 0 u (fun (r1 : Int32) (u2 : PoS) => (∃ n13, wl_X11_from_13 (fun (v15 : Int32) (v25 : Int32) (v35 : Int32) (u5 : PoS) => wp_X11_seenBehind v35 u5 (fun (r6 : Int32) (u7 : PoS) => ∀ x8 : Int32, x8 = (v25 &&& r6) → ∀ x9 : Int32, x9 = (v35 - 1) → (∃ n62, wl_X11_from_62 (fun (v116 : Int32) (v416 : Int32) (u16 : PoS) => ((v116 = 0 → post v416 u16) ∧ (¬ v116 = 0 → wp_J6_bitCount_0f7a4 v416 u16 (fun (r17 : Int32) (u18 : PoS) => post r17 u18)))) post n62 v15 v25 x8 x9 u7))) post n13 a0 r1 0 0 u2))
set_option maxHeartbeats 4000000 in
set_option maxRecDepth 100000 in
theorem tl_X11_from_13 {p : Program} {l : Launch} {e : Env} {s : State} {m : MethodId} {args : Array Value} {below : List Frame} {meth : Method} {c : Code} {V : VEn} {k48 : Int32 → Int32 → Int32 → PoS → Prop} {post : Int32 → PoS → Prop} (C : CxS p s m args meth c V cX11_from 6 RX11 (some .int)) (hk48 : ∀ (v1 : Int32) (v2 : Int32) (v3 : Int32) (u : PoS), k48 v1 v2 v3 u → AtS p l e (Rm 1) s m args below meth c V 6 0 0 (QI V below args s post) 48 [(0, .ref (eA V 0)), (1, .int v1), (2, .int v2), (3, .int v3)] [] u) : ∀ (n : Nat) (v1 : Int32) (v2 : Int32) (v3 : Int32) (v4 : Int32) (u : PoS), wl_X11_from_13 k48 post n v1 v2 v3 v4 u → AtS p l e (Rm 1) s m args below meth c V 6 0 0 (QI V below args s post) 13 [(0, .ref (eA V 0)), (1, .int v1), (2, .int v2), (3, .int v3), (4, .int v4)] [] u := by
  intro n
  induction n with
  | zero => intro v1 v2 v3 v4 u h; exact h.elim
  | succ n ih =>
    intro v1 v2 v3 v4 u h
    rw [wl_X11_from_13] at h
    refine a_iload C 4 dX11_from_13 rfl ?_
    refine a_aload_n C 0 dX11_from_15 rfl rfl ?_
    refine a_getr C 2 (r := 3) dX11_from_16 (by decide) rfl rfl rfl ib_11 (by decide) bw_351 ?_
    refine a_sipush C 153 dX11_from_19 (by decide) ?_
    refine b_iald C 153 dX11_from_22 (by decide) rfl (vp_lit (by decide)) (by decide) ?_
    refine a_icmp_ge C 48 dX11_from_23 (by decide) (fun c4 => ?_) (fun c4 => ?_)
    · have h := h.1 c4
      refine a_sub [0, 1, 2, 3] rfl ?_
      exact hk48 _ _ _ _ h
    · have h := h.2 c4
      refine a_iload_n C 3 dX11_from_26 rfl rfl ?_
      refine a_aload_n C 0 dX11_from_27 rfl rfl ?_
      refine a_getr C 2 (r := 3) dX11_from_28 (by decide) rfl rfl rfl ib_11 (by decide) bw_351 ?_
      refine a_sipush C 160 dX11_from_31 (by decide) ?_
      refine a_iload C 4 dX11_from_34 rfl ?_
      refine a_iadd C dX11_from_36 ?_
      refine b_iald C (Int32.toNatClampNeg (160 + v4)) dX11_from_37 (by decide) rfl h.1 rfl ?_
      have h := h.2
      refine b_mmax C dX11_from_38 bw_946 bw_333 bw_121 bw_334 (by decide) (Nat.le_of_ble_eq_true rfl) ⟨Nat.zero_le _, Nat.zero_le _⟩ ?_
      refine a_topi (fun x3 ex3 => ?_)
      have h := h x3 ex3
      refine a_istore_n C [(3, .int x3), (0, .ref (eA V 0)), (1, .int v1), (2, .int v2), (4, .int v4)] dX11_from_41 rfl (by decide) rfl ?_
      refine a_iinc C (v4 + 1) 4 [(4, .int (v4 + 1)), (3, .int x3), (0, .ref (eA V 0)), (1, .int v1), (2, .int v2)] dX11_from_42 rfl (congrArg (fun z => v4 + z) (show Int32.ofInt 1 = 1 by decide)) (by decide) rfl ?_
      refine a_goto C 13 dX11_from_45 (by decide) ?_
      refine a_sub [2, 3, 4, 1, 0] rfl ?_
      exact ih _ _ _ _ _ h
set_option maxHeartbeats 4000000 in
set_option maxRecDepth 100000 in
theorem tl_X11_from_62 {p : Program} {l : Launch} {e : Env} {s : State} {m : MethodId} {args : Array Value} {below : List Frame} {meth : Method} {c : Code} {V : VEn} {k89 : Int32 → Int32 → PoS → Prop} {post : Int32 → PoS → Prop} (C : CxS p s m args meth c V cX11_from 6 RX11 (some .int)) (hk89 : ∀ (v1 : Int32) (v4 : Int32) (u : PoS), k89 v1 v4 u → AtS p l e (Rm 1) s m args below meth c V 6 0 0 (QI V below args s post) 89 [(1, .int v1), (4, .int v4)] [] u) : ∀ (n : Nat) (v1 : Int32) (v2 : Int32) (v4 : Int32) (v5 : Int32) (u : PoS), wl_X11_from_62 k89 post n v1 v2 v4 v5 u → AtS p l e (Rm 1) s m args below meth c V 6 0 0 (QI V below args s post) 62 [(0, .ref (eA V 0)), (1, .int v1), (2, .int v2), (4, .int v4), (5, .int v5)] [] u := by
  intro n
  induction n with
  | zero => intro v1 v2 v4 v5 u h; exact h.elim
  | succ n ih =>
    intro v1 v2 v4 v5 u h
    rw [wl_X11_from_62] at h
    refine a_iload C 4 dX11_from_62 rfl ?_
    refine a_if_lt C 89 dX11_from_64 (by decide) (fun c15 => ?_) (fun c15 => ?_)
    · have h := h.1 c15
      refine a_sub [1, 3] rfl ?_
      exact hk89 _ _ _ h
    · have h := h.2 c15
      refine a_iload C 3 dX11_from_67 rfl ?_
      refine a_callSi C dX11_from_69 (m_X1_beside l V h) bw_901 bw_636 bw_129 bw_637 np_X1_beside rfl rfl (by decide) (Nat.le_of_ble_eq_true rfl) ⟨Nat.zero_le _, Nat.zero_le _⟩ (fun r10 u11 h => ?_)
      refine a_iload_n C 2 dX11_from_72 rfl rfl ?_
      refine a_iand C dX11_from_73 ?_
      refine a_aload_n C 0 dX11_from_74 rfl rfl ?_
      refine a_iload C 4 dX11_from_75 rfl ?_
      refine a_callVi C dX11_from_77 (m_X11_seenBehind l V h) bw_947 bw_949 bw_36 bw_112 bw_950 (by decide) rfl rfl np_X11_seenBehind rfl rfl (by decide) (Nat.le_of_ble_eq_true rfl) ⟨Nat.zero_le _, Nat.zero_le _⟩ (fun r12 u13 h => ?_)
      refine a_iand C dX11_from_80 ?_
      refine a_topi (fun x14 ex14 => ?_)
      have h := h x14 ex14
      refine a_istore C [(4, .int x14), (0, .ref (eA V 0)), (1, .int v1), (2, .int v2), (5, .int v5)] dX11_from_81 (by decide) rfl ?_
      refine a_iinc C (v5 + (-1)) 4 [(5, .int (v5 + (-1))), (4, .int x14), (0, .ref (eA V 0)), (1, .int v1), (2, .int v2)] dX11_from_83 rfl (congrArg (fun z => v5 + z) (show Int32.ofInt (-1) = (-1) by decide)) (by decide) rfl ?_
      refine a_goto C 62 dX11_from_86 (by decide) ?_
      refine a_sub [2, 3, 4, 1, 0] rfl ?_
      exact ih _ _ _ _ _ h
theorem np_X11_from : yX11_from.cls ≠ "java/lang/invoke/MethodHandle" ∧ yX11_from.cls ≠ "java/lang/invoke/VarHandle" ∧ (parseMethodDescriptor yX11_from.desc).map (fun d => d.parameters.length) = some 1 := by decide +kernel
set_option maxHeartbeats 4000000 in
set_option maxRecDepth 100000 in
theorem m_X11_from (l : Launch) (V : VEn) {a0 : Int32} {u : PoS} {post : Int32 → PoS → Prop} (h : wp_X11_from a0 u post) : KI l V yX11_from cX11_from 6 .int 1 [.ref (eA V 0), .int a0] u post := by
  refine KI_of (by decide) (Nat.le_of_ble_eq_true rfl) (lv := [(0, .ref (eA V 0)), (1, .int a0)]) rfl ?_
  intro p e s m args below meth c C
  rw [wp_X11_from] at h
  refine a_aload_n C 0 dX11_from_0 rfl rfl ?_
  refine a_getr C 0 (r := 1) dX11_from_1 (by decide) rfl rfl rfl ib_11 (by decide) bw_349 ?_
  refine a_callVi C dX11_from_4 (m_X8_open l V (by decide) h) bw_819 bw_681 bw_682 bw_120 bw_683 (by decide) rfl rfl np_X8_open rfl rfl (by decide) (Nat.le_of_ble_eq_true rfl) ⟨Nat.zero_le _, Nat.zero_le _⟩ (fun r1 u2 h => ?_)
  refine a_istore_n C [(2, .int r1), (0, .ref (eA V 0)), (1, .int a0)] dX11_from_7 rfl (by decide) rfl ?_
  refine a_iconst C 0 dX11_from_8 (by decide) ?_
  refine a_istore_n C [(3, .int 0), (2, .int r1), (0, .ref (eA V 0)), (1, .int a0)] dX11_from_9 rfl (by decide) rfl ?_
  refine a_iconst C 0 dX11_from_10 (by decide) ?_
  refine a_istore C [(4, .int 0), (3, .int 0), (2, .int r1), (0, .ref (eA V 0)), (1, .int a0)] dX11_from_11 (by decide) rfl ?_
  refine a_sub [3, 4, 2, 1, 0] rfl ?_
  obtain ⟨n13, h⟩ := h
  refine tl_X11_from_13 C (fun v15 v25 v35 u5 h => ?_) n13 _ _ _ _ _ h
  refine a_iload_n C 2 dX11_from_48 rfl rfl ?_
  refine a_aload_n C 0 dX11_from_49 rfl rfl ?_
  refine a_iload_n C 3 dX11_from_50 rfl rfl ?_
  refine a_callVi C dX11_from_51 (m_X11_seenBehind l V h) bw_947 bw_949 bw_36 bw_112 bw_950 (by decide) rfl rfl np_X11_seenBehind rfl rfl (by decide) (Nat.le_of_ble_eq_true rfl) ⟨Nat.zero_le _, Nat.zero_le _⟩ (fun r6 u7 h => ?_)
  refine a_iand C dX11_from_54 ?_
  refine a_topi (fun x8 ex8 => ?_)
  have h := h x8 ex8
  refine a_istore C [(4, .int x8), (0, .ref (eA V 0)), (1, .int v15), (2, .int v25), (3, .int v35)] dX11_from_55 (by decide) rfl ?_
  refine a_iload_n C 4 dX11_from_57 rfl rfl ?_
  refine a_iconst C 1 dX11_from_58 (by decide) ?_
  refine a_isub C dX11_from_59 ?_
  refine a_topi (fun x9 ex9 => ?_)
  have h := h x9 ex9
  refine a_istore C [(5, .int x9), (4, .int x8), (0, .ref (eA V 0)), (1, .int v15), (2, .int v25), (3, .int v35)] dX11_from_60 (by decide) rfl ?_
  refine a_sub [2, 3, 4, 1, 0] rfl ?_
  obtain ⟨n62, h⟩ := h
  refine tl_X11_from_62 C (fun v116 v416 u16 h => ?_) n62 _ _ _ _ _ h
  refine a_iload_n C 0 dX11_from_89 rfl rfl ?_
  refine a_if_eq C 101 dX11_from_90 (by decide) (fun c19 => ?_) (fun c19 => ?_)
  · have h := h.1 c19
    refine a_iload C 1 dX11_from_101 rfl ?_
    exact a_iret C dX11_from_103 h
  · have h := h.2 c19
    refine a_iload C 1 dX11_from_93 rfl ?_
    refine a_callSi C dX11_from_95 (m_J6_bitCount_0f7a4 l V h) bw_862 bw_739 bw_131 bw_740 np_J6_bitCount_0f7a4 rfl rfl (by decide) (Nat.le_of_ble_eq_true rfl) ⟨Nat.zero_le _, Nat.zero_le _⟩ (fun r17 u18 h => ?_)
    refine a_goto C 103 dX11_from_98 (by decide) ?_
    exact a_iret C dX11_from_103 h

/-! RainOnTheOne.commonPart(JJ)J -/
def wl_X11_commonPart_9 (k45 : Int64 → PoS → Prop) (post : Int64 → PoS → Prop) : Nat → Int64 → Int64 → Int32 → PoS → Prop
  | 0, _, _, _, _ => False
  | n + 1, v4, v6, v8, u => ((200 ≤ v8 → k45 v4 u) ∧ (¬ 200 ≤ v8 → (((lg_cmp v6 0) = 0 → k45 v4 u) ∧ (¬ (lg_cmp v6 0) = 0 → ¬ v6 = 0 ∧ ∀ x1 : Int64, x1 = (lrem v4 v6) → wl_X11_commonPart_9 k45 post n v6 x1 (v8 + 1) u))))
def wj_X11_commonPart_45 (post : Int64 → PoS → Prop) (v4 : Int64) (u : PoS) : Prop := post (lmax v4 1) u
def wp_X11_commonPart (a0 : Int64) (a1 : Int64) (u : PoS) (post : Int64 → PoS → Prop) : Prop := (∃ n9, wl_X11_commonPart_9 (fun (v44 : Int64) (u4 : PoS) => wj_X11_commonPart_45 post v44 u4) post n9 a0 a1 0 u)
set_option maxHeartbeats 4000000 in
set_option maxRecDepth 100000 in
theorem tl_X11_commonPart_9 {p : Program} {l : Launch} {e : Env} {s : State} {m : MethodId} {args : Array Value} {below : List Frame} {meth : Method} {c : Code} {V : VEn} {k45 : Int64 → PoS → Prop} {post : Int64 → PoS → Prop} (C : CxS p s m args meth c V cX11_commonPart 11 RX11 (some .long)) (hk45 : ∀ (v4 : Int64) (u : PoS), k45 v4 u → AtS p l e (Rm 1) s m args below meth c V 11 0 0 (QL V below args s post) 45 [(4, .long v4)] [] u) : ∀ (n : Nat) (v4 : Int64) (v6 : Int64) (v8 : Int32) (u : PoS), wl_X11_commonPart_9 k45 post n v4 v6 v8 u → AtS p l e (Rm 1) s m args below meth c V 11 0 0 (QL V below args s post) 9 [(4, .long v4), (6, .long v6), (8, .int v8)] [] u := by
  intro n
  induction n with
  | zero => intro v4 v6 v8 u h; exact h.elim
  | succ n ih =>
    intro v4 v6 v8 u h
    rw [wl_X11_commonPart_9] at h
    refine a_iload C 2 dX11_commonPart_9 rfl ?_
    refine a_sipush C 200 dX11_commonPart_11 (by decide) ?_
    refine a_icmp_ge C 45 dX11_commonPart_14 (by decide) (fun c3 => ?_) (fun c3 => ?_)
    · have h := h.1 c3
      refine a_sub [0] rfl ?_
      exact hk45 _ _ h
    · have h := h.2 c3
      refine a_lload C 1 dX11_commonPart_17 rfl ?_
      refine a_lconst C 0 dX11_commonPart_19 (by decide) ?_
      refine a_lcmp C dX11_commonPart_20 ?_
      refine a_if_eq C 45 dX11_commonPart_21 (by decide) (fun c2 => ?_) (fun c2 => ?_)
      · have h := h.1 c2
        refine a_sub [0] rfl ?_
        exact hk45 _ _ h
      · have h := h.2 c2
        refine a_lload C 0 dX11_commonPart_24 rfl ?_
        refine a_lload C 1 dX11_commonPart_26 rfl ?_
        refine b_lrem C dX11_commonPart_28 h.1 ?_
        have h := h.2
        refine a_topl (fun x1 ex1 => ?_)
        have h := h x1 ex1
        refine a_lstore C [(9, .long x1), (4, .long v4), (6, .long v6), (8, .int v8)] dX11_commonPart_29 (by decide) rfl ?_
        refine a_lload C 2 dX11_commonPart_31 rfl ?_
        refine a_lstore C [(4, .long v6), (9, .long x1), (6, .long v6), (8, .int v8)] dX11_commonPart_33 (by decide) rfl ?_
        refine a_lload C 1 dX11_commonPart_35 rfl ?_
        refine a_lstore C [(6, .long x1), (4, .long v6), (9, .long x1), (8, .int v8)] dX11_commonPart_37 (by decide) rfl ?_
        refine a_iinc C (v8 + 1) 3 [(8, .int (v8 + 1)), (6, .long x1), (4, .long v6), (9, .long x1)] dX11_commonPart_39 rfl (congrArg (fun z => v8 + z) (show Int32.ofInt 1 = 1 by decide)) (by decide) rfl ?_
        refine a_goto C 9 dX11_commonPart_42 (by decide) ?_
        refine a_sub [2, 1, 0] rfl ?_
        exact ih _ _ _ _ h
set_option maxHeartbeats 4000000 in
set_option maxRecDepth 100000 in
theorem tj_X11_commonPart_45 {p : Program} {l : Launch} {e : Env} {s : State} {m : MethodId} {args : Array Value} {below : List Frame} {meth : Method} {c : Code} {V : VEn} {post : Int64 → PoS → Prop} (C : CxS p s m args meth c V cX11_commonPart 11 RX11 (some .long)) (v4 : Int64) (u : PoS) (h : wj_X11_commonPart_45 post v4 u) : AtS p l e (Rm 1) s m args below meth c V 11 0 0 (QL V below args s post) 45 [(4, .long v4)] [] u := by
  rw [wj_X11_commonPart_45] at h
  refine a_lload C 0 dX11_commonPart_45 rfl ?_
  refine a_lconst C 1 dX11_commonPart_47 (by decide) ?_
  refine b_mmaxL C dX11_commonPart_48 bw_960 bw_713 bw_121 bw_714 (by decide) (Nat.le_of_ble_eq_true rfl) ⟨Nat.zero_le _, Nat.zero_le _⟩ ?_
  exact a_lret C dX11_commonPart_51 h
theorem np_X11_commonPart : yX11_commonPart.cls ≠ "java/lang/invoke/MethodHandle" ∧ yX11_commonPart.cls ≠ "java/lang/invoke/VarHandle" ∧ (parseMethodDescriptor yX11_commonPart.desc).map (fun d => d.parameters.length) = some 2 := by decide +kernel
set_option maxHeartbeats 4000000 in
set_option maxRecDepth 100000 in
theorem m_X11_commonPart (l : Launch) (V : VEn) {a0 : Int64} {a1 : Int64} {u : PoS} {post : Int64 → PoS → Prop} (h : wp_X11_commonPart a0 a1 u post) : KL l V yX11_commonPart cX11_commonPart 11 .long 1 [.long a0, .long a1] u post := by
  refine KL_of (by decide) (Nat.le_of_ble_eq_true rfl) (lv := [(0, .long a0), (2, .long a1)]) rfl ?_
  intro p e s m args below meth c C
  rw [wp_X11_commonPart] at h
  refine a_lload_n C 0 dX11_commonPart_0 rfl rfl ?_
  refine a_lstore C [(4, .long a0), (0, .long a0), (2, .long a1)] dX11_commonPart_1 (by decide) rfl ?_
  refine a_lload_n C 2 dX11_commonPart_3 rfl rfl ?_
  refine a_lstore C [(6, .long a1), (4, .long a0), (0, .long a0), (2, .long a1)] dX11_commonPart_4 (by decide) rfl ?_
  refine a_iconst C 0 dX11_commonPart_6 (by decide) ?_
  refine a_istore C [(8, .int 0), (6, .long a1), (4, .long a0), (0, .long a0), (2, .long a1)] dX11_commonPart_7 (by decide) rfl ?_
  refine a_sub [2, 1, 0] rfl ?_
  obtain ⟨n9, h⟩ := h
  refine tl_X11_commonPart_9 C (fun v44 u4 h => ?_) n9 _ _ _ _ h
  refine tj_X11_commonPart_45 C _ _ h

/-! RainOnTheOne.likely(IIZ)J -/
def wl_X11_likely_44 (k72 : Int32 → Int32 → Int32 → Int32 → Int64 → PoS → Prop) (post : Int64 → PoS → Prop) : Nat → Int32 → Int32 → Int32 → Int32 → Int64 → Int32 → PoS → Prop
  | 0, _, _, _, _, _, _, _ => False
  | n + 1, v1, v2, v3, v4, v5, v7, u => ((v2 ≤ v7 → k72 v1 v2 v3 v4 v5 u) ∧ (¬ v2 ≤ v7 → ¬ (Int32.toInt64 (v7 + 1)) = 0 ∧ ∀ x6 : Int64, x6 = ((v5 * (Int32.toInt64 (v1 - v7))) / (Int32.toInt64 (v7 + 1))) → wl_X11_likely_44 k72 post n v1 v2 v3 v4 x6 (v7 + 1) u))
def wl_X11_likely_75 (k99 : Int32 → Int32 → Int32 → Int64 → PoS → Prop) (post : Int64 → PoS → Prop) : Nat → Int32 → Int32 → Int32 → Int32 → Int64 → Int32 → PoS → Prop
  | 0, _, _, _, _, _, _, _ => False
  | n + 1, v1, v2, v3, v4, v5, v7, u => (((v1 - v2) ≤ v7 → k99 v1 v3 v4 v5 u) ∧ (¬ (v1 - v2) ≤ v7 → ∀ x9 : Int64, x9 = (v5 * (Int32.toInt64 (v4 - 1))) → wl_X11_likely_75 k99 post n v1 v2 v3 v4 x9 (v7 + 1) u))
def wl_X11_likely_105 (k125 : Int32 → Int64 → Int64 → PoS → Prop) (post : Int64 → PoS → Prop) : Nat → Int32 → Int32 → Int32 → Int64 → Int64 → Int32 → PoS → Prop
  | 0, _, _, _, _, _, _, _ => False
  | n + 1, v1, v3, v4, v5, v7, v9, u => ((v1 ≤ v9 → k125 v3 v5 v7 u) ∧ (¬ v1 ≤ v9 → ∀ x12 : Int64, x12 = (v7 * (Int32.toInt64 v4)) → wl_X11_likely_105 k125 post n v1 v3 v4 v5 x12 (v9 + 1) u))
def wj_X11_likely_136 (post : Int64 → PoS → Prop) (v5 : Int64) (v7 : Int64) (s0 : Int64) (u : PoS) : Prop := wp_X11_commonPart v5 v7 u (fun (r15 : Int64) (u16 : PoS) => ¬ r15 = 0 ∧ post (s0 / r15) u16)
def wp_X11_likely (a0 : Int32) (a1 : Int32) (a2 : Int32) (u : PoS) (post : Int64 → PoS → Prop) : Prop := ∀ x1 : Int32, x1 = (gI u 3 84) → ((x1 ≤ 0 → post (-1) u) ∧ (¬ x1 ≤ 0 → wp_X11_isWithin a0 1 10 u (fun (r2 : Int32) (u3 : PoS) => ((r2 = 0 → post (-1) u3) ∧ (¬ r2 = 0 → wp_X11_isWithin a1 0 10 u3 (fun (r4 : Int32) (u5 : PoS) => ((¬ r4 = 0 → (∃ n44, wl_X11_likely_44 (fun (v18 : Int32) (v28 : Int32) (v38 : Int32) (v48 : Int32) (v58 : Int64) (u8 : PoS) => (∃ n75, wl_X11_likely_75 (fun (v111 : Int32) (v311 : Int32) (v411 : Int32) (v511 : Int64) (u11 : PoS) => (∃ n105, wl_X11_likely_105 (fun (v314 : Int32) (v514 : Int64) (v714 : Int64) (u14 : PoS) => ((v314 = 0 → wj_X11_likely_136 post v514 v714 v514 u14) ∧ (¬ v314 = 0 → wj_X11_likely_136 post v514 v714 v714 u14))) post n105 v111 v311 v411 v511 1 0 u11)) post n75 v18 v28 v38 v48 v58 0 u8)) post n44 a0 a1 a2 x1 1 0 u5)) ∧ (r4 = 0 → post (-1) u5))))))))
set_option maxHeartbeats 4000000 in
set_option maxRecDepth 100000 in
theorem tl_X11_likely_44 {p : Program} {l : Launch} {e : Env} {s : State} {m : MethodId} {args : Array Value} {below : List Frame} {meth : Method} {c : Code} {V : VEn} {k72 : Int32 → Int32 → Int32 → Int32 → Int64 → PoS → Prop} {post : Int64 → PoS → Prop} (C : CxS p s m args meth c V cX11_likely 10 RX11 (some .long)) (hk72 : ∀ (v1 : Int32) (v2 : Int32) (v3 : Int32) (v4 : Int32) (v5 : Int64) (u : PoS), k72 v1 v2 v3 v4 v5 u → AtS p l e (Rm 2) s m args below meth c V 10 0 0 (QL V below args s post) 72 [(1, .int v1), (2, .int v2), (3, .int v3), (4, .int v4), (5, .long v5)] [] u) : ∀ (n : Nat) (v1 : Int32) (v2 : Int32) (v3 : Int32) (v4 : Int32) (v5 : Int64) (v7 : Int32) (u : PoS), wl_X11_likely_44 k72 post n v1 v2 v3 v4 v5 v7 u → AtS p l e (Rm 2) s m args below meth c V 10 0 0 (QL V below args s post) 44 [(1, .int v1), (2, .int v2), (3, .int v3), (4, .int v4), (5, .long v5), (7, .int v7)] [] u := by
  intro n
  induction n with
  | zero => intro v1 v2 v3 v4 v5 v7 u h; exact h.elim
  | succ n ih =>
    intro v1 v2 v3 v4 v5 v7 u h
    rw [wl_X11_likely_44] at h
    refine a_iload C 5 dX11_likely_44 rfl ?_
    refine a_iload_n C 1 dX11_likely_46 rfl rfl ?_
    refine a_icmp_ge C 72 dX11_likely_47 (by decide) (fun c7 => ?_) (fun c7 => ?_)
    · have h := h.1 c7
      refine a_sub [0, 1, 2, 3, 4] rfl ?_
      exact hk72 _ _ _ _ _ _ h
    · have h := h.2 c7
      refine a_lload C 4 dX11_likely_50 rfl ?_
      refine a_iload_n C 0 dX11_likely_52 rfl rfl ?_
      refine a_iload C 5 dX11_likely_53 rfl ?_
      refine a_isub C dX11_likely_55 ?_
      refine a_i2l C dX11_likely_56 ?_
      refine a_lmul C dX11_likely_57 ?_
      refine a_iload C 5 dX11_likely_58 rfl ?_
      refine a_iconst C 1 dX11_likely_60 (by decide) ?_
      refine a_iadd C dX11_likely_61 ?_
      refine a_i2l C dX11_likely_62 ?_
      refine a_ldiv C dX11_likely_63 h.1 ?_
      have h := h.2
      refine a_topl (fun x6 ex6 => ?_)
      have h := h x6 ex6
      refine a_lstore C [(5, .long x6), (1, .int v1), (2, .int v2), (3, .int v3), (4, .int v4), (7, .int v7)] dX11_likely_64 (by decide) rfl ?_
      refine a_iinc C (v7 + 1) 5 [(7, .int (v7 + 1)), (5, .long x6), (1, .int v1), (2, .int v2), (3, .int v3), (4, .int v4)] dX11_likely_66 rfl (congrArg (fun z => v7 + z) (show Int32.ofInt 1 = 1 by decide)) (by decide) rfl ?_
      refine a_goto C 44 dX11_likely_69 (by decide) ?_
      refine a_sub [2, 3, 4, 5, 1, 0] rfl ?_
      exact ih _ _ _ _ _ _ _ h
set_option maxHeartbeats 4000000 in
set_option maxRecDepth 100000 in
theorem tl_X11_likely_75 {p : Program} {l : Launch} {e : Env} {s : State} {m : MethodId} {args : Array Value} {below : List Frame} {meth : Method} {c : Code} {V : VEn} {k99 : Int32 → Int32 → Int32 → Int64 → PoS → Prop} {post : Int64 → PoS → Prop} (C : CxS p s m args meth c V cX11_likely 10 RX11 (some .long)) (hk99 : ∀ (v1 : Int32) (v3 : Int32) (v4 : Int32) (v5 : Int64) (u : PoS), k99 v1 v3 v4 v5 u → AtS p l e (Rm 2) s m args below meth c V 10 0 0 (QL V below args s post) 99 [(1, .int v1), (3, .int v3), (4, .int v4), (5, .long v5)] [] u) : ∀ (n : Nat) (v1 : Int32) (v2 : Int32) (v3 : Int32) (v4 : Int32) (v5 : Int64) (v7 : Int32) (u : PoS), wl_X11_likely_75 k99 post n v1 v2 v3 v4 v5 v7 u → AtS p l e (Rm 2) s m args below meth c V 10 0 0 (QL V below args s post) 75 [(1, .int v1), (2, .int v2), (3, .int v3), (4, .int v4), (5, .long v5), (7, .int v7)] [] u := by
  intro n
  induction n with
  | zero => intro v1 v2 v3 v4 v5 v7 u h; exact h.elim
  | succ n ih =>
    intro v1 v2 v3 v4 v5 v7 u h
    rw [wl_X11_likely_75] at h
    refine a_iload C 5 dX11_likely_75 rfl ?_
    refine a_iload_n C 0 dX11_likely_77 rfl rfl ?_
    refine a_iload_n C 1 dX11_likely_78 rfl rfl ?_
    refine a_isub C dX11_likely_79 ?_
    refine a_icmp_ge C 99 dX11_likely_80 (by decide) (fun c10 => ?_) (fun c10 => ?_)
    · have h := h.1 c10
      refine a_sub [0, 2, 3, 4] rfl ?_
      exact hk99 _ _ _ _ _ h
    · have h := h.2 c10
      refine a_lload C 4 dX11_likely_83 rfl ?_
      refine a_iload C 3 dX11_likely_85 rfl ?_
      refine a_iconst C 1 dX11_likely_87 (by decide) ?_
      refine a_isub C dX11_likely_88 ?_
      refine a_i2l C dX11_likely_89 ?_
      refine a_lmul C dX11_likely_90 ?_
      refine a_topl (fun x9 ex9 => ?_)
      have h := h x9 ex9
      refine a_lstore C [(5, .long x9), (1, .int v1), (2, .int v2), (3, .int v3), (4, .int v4), (7, .int v7)] dX11_likely_91 (by decide) rfl ?_
      refine a_iinc C (v7 + 1) 5 [(7, .int (v7 + 1)), (5, .long x9), (1, .int v1), (2, .int v2), (3, .int v3), (4, .int v4)] dX11_likely_93 rfl (congrArg (fun z => v7 + z) (show Int32.ofInt 1 = 1 by decide)) (by decide) rfl ?_
      refine a_goto C 75 dX11_likely_96 (by decide) ?_
      refine a_sub [2, 3, 4, 5, 1, 0] rfl ?_
      exact ih _ _ _ _ _ _ _ h
set_option maxHeartbeats 4000000 in
set_option maxRecDepth 100000 in
theorem tl_X11_likely_105 {p : Program} {l : Launch} {e : Env} {s : State} {m : MethodId} {args : Array Value} {below : List Frame} {meth : Method} {c : Code} {V : VEn} {k125 : Int32 → Int64 → Int64 → PoS → Prop} {post : Int64 → PoS → Prop} (C : CxS p s m args meth c V cX11_likely 10 RX11 (some .long)) (hk125 : ∀ (v3 : Int32) (v5 : Int64) (v7 : Int64) (u : PoS), k125 v3 v5 v7 u → AtS p l e (Rm 2) s m args below meth c V 10 0 0 (QL V below args s post) 125 [(3, .int v3), (5, .long v5), (7, .long v7)] [] u) : ∀ (n : Nat) (v1 : Int32) (v3 : Int32) (v4 : Int32) (v5 : Int64) (v7 : Int64) (v9 : Int32) (u : PoS), wl_X11_likely_105 k125 post n v1 v3 v4 v5 v7 v9 u → AtS p l e (Rm 2) s m args below meth c V 10 0 0 (QL V below args s post) 105 [(1, .int v1), (3, .int v3), (4, .int v4), (5, .long v5), (7, .long v7), (9, .int v9)] [] u := by
  intro n
  induction n with
  | zero => intro v1 v3 v4 v5 v7 v9 u h; exact h.elim
  | succ n ih =>
    intro v1 v3 v4 v5 v7 v9 u h
    rw [wl_X11_likely_105] at h
    refine a_iload C 5 dX11_likely_105 rfl ?_
    refine a_iload_n C 0 dX11_likely_107 rfl rfl ?_
    refine a_icmp_ge C 125 dX11_likely_108 (by decide) (fun c13 => ?_) (fun c13 => ?_)
    · have h := h.1 c13
      refine a_sub [1, 3, 4] rfl ?_
      exact hk125 _ _ _ _ h
    · have h := h.2 c13
      refine a_lload C 4 dX11_likely_111 rfl ?_
      refine a_iload C 2 dX11_likely_113 rfl ?_
      refine a_i2l C dX11_likely_115 ?_
      refine a_lmul C dX11_likely_116 ?_
      refine a_topl (fun x12 ex12 => ?_)
      have h := h x12 ex12
      refine a_lstore C [(7, .long x12), (1, .int v1), (3, .int v3), (4, .int v4), (5, .long v5), (9, .int v9)] dX11_likely_117 (by decide) rfl ?_
      refine a_iinc C (v9 + 1) 5 [(9, .int (v9 + 1)), (7, .long x12), (1, .int v1), (3, .int v3), (4, .int v4), (5, .long v5)] dX11_likely_119 rfl (congrArg (fun z => v9 + z) (show Int32.ofInt 1 = 1 by decide)) (by decide) rfl ?_
      refine a_goto C 105 dX11_likely_122 (by decide) ?_
      refine a_sub [2, 3, 4, 5, 1, 0] rfl ?_
      exact ih _ _ _ _ _ _ _ h
set_option maxHeartbeats 4000000 in
set_option maxRecDepth 100000 in
theorem tj_X11_likely_136 {p : Program} {l : Launch} {e : Env} {s : State} {m : MethodId} {args : Array Value} {below : List Frame} {meth : Method} {c : Code} {V : VEn} {post : Int64 → PoS → Prop} (C : CxS p s m args meth c V cX11_likely 10 RX11 (some .long)) (v5 : Int64) (v7 : Int64) (s0 : Int64) (u : PoS) (h : wj_X11_likely_136 post v5 v7 s0 u) : AtS p l e (Rm 2) s m args below meth c V 10 0 0 (QL V below args s post) 136 [(5, .long v5), (7, .long v7)] [.long s0] u := by
  rw [wj_X11_likely_136] at h
  refine a_lload C 0 dX11_likely_136 rfl ?_
  refine a_lload C 1 dX11_likely_138 rfl ?_
  refine a_callSl C dX11_likely_140 (m_X11_commonPart l V h) bw_957 bw_958 bw_112 bw_959 np_X11_commonPart rfl rfl (by decide) (Nat.le_of_ble_eq_true rfl) ⟨Nat.zero_le _, Nat.zero_le _⟩ (fun r15 u16 h => ?_)
  refine a_ldiv C dX11_likely_143 h.1 ?_
  have h := h.2
  exact a_lret C dX11_likely_144 h
theorem np_X11_likely : yX11_likely.cls ≠ "java/lang/invoke/MethodHandle" ∧ yX11_likely.cls ≠ "java/lang/invoke/VarHandle" ∧ (parseMethodDescriptor yX11_likely.desc).map (fun d => d.parameters.length) = some 3 := by decide +kernel
set_option maxHeartbeats 4000000 in
set_option maxRecDepth 100000 in
theorem m_X11_likely (l : Launch) (V : VEn) {a0 : Int32} {a1 : Int32} {a2 : Int32} {u : PoS} {post : Int64 → PoS → Prop} (h : wp_X11_likely a0 a1 a2 u post) : KL l V yX11_likely cX11_likely 10 .long 2 [.ref (eA V 0), .int a0, .int a1, .int a2] u post := by
  refine KL_of (by decide) (Nat.le_of_ble_eq_true rfl) (lv := [(0, .ref (eA V 0)), (1, .int a0), (2, .int a1), (3, .int a2)]) rfl ?_
  intro p e s m args below meth c C
  rw [wp_X11_likely] at h
  refine a_aload_n C 0 dX11_likely_0 rfl rfl ?_
  refine a_getr C 2 (r := 3) dX11_likely_1 (by decide) rfl rfl rfl ib_11 (by decide) bw_351 ?_
  refine a_bipush C 84 dX11_likely_4 (by decide) ?_
  refine b_iald C 84 dX11_likely_6 (by decide) rfl (vp_lit (by decide)) (by decide) ?_
  refine a_topi (fun x1 ex1 => ?_)
  have h := h x1 ex1
  refine a_istore C [(4, .int x1), (0, .ref (eA V 0)), (1, .int a0), (2, .int a1), (3, .int a2)] dX11_likely_7 (by decide) rfl ?_
  refine a_iload C 0 dX11_likely_9 rfl ?_
  refine a_if_le C 34 dX11_likely_11 (by decide) (fun c20 => ?_) (fun c20 => ?_)
  · have h := h.1 c20
    refine a_ldc2 C dX11_likely_34 bw_956 ?_
    exact a_lret C dX11_likely_37 h
  · have h := h.2 c20
    refine a_iload_n C 2 dX11_likely_14 rfl rfl ?_
    refine a_iconst C 1 dX11_likely_15 (by decide) ?_
    refine a_bipush C 10 dX11_likely_16 (by decide) ?_
    refine a_callSi C dX11_likely_18 (m_X11_isWithin l V h) bw_405 bw_406 bw_112 bw_407 np_X11_isWithin rfl rfl (by decide) (Nat.le_of_ble_eq_true rfl) ⟨Nat.zero_le _, Nat.zero_le _⟩ (fun r2 u3 h => ?_)
    refine a_if_eq C 34 dX11_likely_21 (by decide) (fun c19 => ?_) (fun c19 => ?_)
    · have h := h.1 c19
      refine a_ldc2 C dX11_likely_34 bw_956 ?_
      exact a_lret C dX11_likely_37 h
    · have h := h.2 c19
      refine a_iload_n C 3 dX11_likely_24 rfl rfl ?_
      refine a_iconst C 0 dX11_likely_25 (by decide) ?_
      refine a_bipush C 10 dX11_likely_26 (by decide) ?_
      refine a_callSi C dX11_likely_28 (m_X11_isWithin l V h) bw_405 bw_406 bw_112 bw_407 np_X11_isWithin rfl rfl (by decide) (Nat.le_of_ble_eq_true rfl) ⟨Nat.zero_le _, Nat.zero_le _⟩ (fun r4 u5 h => ?_)
      refine a_if_ne C 38 dX11_likely_31 (by decide) (fun c18 => ?_) (fun c18 => ?_)
      · have h := h.1 c18
        refine a_lconst C 1 dX11_likely_38 (by decide) ?_
        refine a_lstore C [(5, .long 1), (4, .int x1), (0, .ref (eA V 0)), (1, .int a0), (2, .int a1), (3, .int a2)] dX11_likely_39 (by decide) rfl ?_
        refine a_iconst C 0 dX11_likely_41 (by decide) ?_
        refine a_istore C [(7, .int 0), (5, .long 1), (4, .int x1), (0, .ref (eA V 0)), (1, .int a0), (2, .int a1), (3, .int a2)] dX11_likely_42 (by decide) rfl ?_
        refine a_sub [4, 5, 6, 2, 1, 0] rfl ?_
        obtain ⟨n44, h⟩ := h
        refine tl_X11_likely_44 C (fun v18 v28 v38 v48 v58 u8 h => ?_) n44 _ _ _ _ _ _ _ h
        refine a_iconst C 0 dX11_likely_72 (by decide) ?_
        refine a_istore C [(7, .int 0), (1, .int v18), (2, .int v28), (3, .int v38), (4, .int v48), (5, .long v58)] dX11_likely_73 (by decide) rfl ?_
        refine a_sub [1, 2, 3, 4, 5, 0] rfl ?_
        obtain ⟨n75, h⟩ := h
        refine tl_X11_likely_75 C (fun v111 v311 v411 v511 u11 h => ?_) n75 _ _ _ _ _ _ _ h
        refine a_lconst C 1 dX11_likely_99 (by decide) ?_
        refine a_lstore C [(7, .long 1), (1, .int v111), (3, .int v311), (4, .int v411), (5, .long v511)] dX11_likely_100 (by decide) rfl ?_
        refine a_iconst C 0 dX11_likely_102 (by decide) ?_
        refine a_istore C [(9, .int 0), (7, .long 1), (1, .int v111), (3, .int v311), (4, .int v411), (5, .long v511)] dX11_likely_103 (by decide) rfl ?_
        refine a_sub [2, 3, 4, 5, 1, 0] rfl ?_
        obtain ⟨n105, h⟩ := h
        refine tl_X11_likely_105 C (fun v314 v514 v714 u14 h => ?_) n105 _ _ _ _ _ _ _ h
        refine a_iload_n C 0 dX11_likely_125 rfl rfl ?_
        refine a_if_eq C 134 dX11_likely_126 (by decide) (fun c17 => ?_) (fun c17 => ?_)
        · have h := h.1 c17
          refine a_lload C 1 dX11_likely_134 rfl ?_
          refine a_sub [1, 2] rfl ?_
          refine tj_X11_likely_136 C _ _ _ _ h
        · have h := h.2 c17
          refine a_lload C 2 dX11_likely_129 rfl ?_
          refine a_goto C 136 dX11_likely_131 (by decide) ?_
          refine a_sub [1, 2] rfl ?_
          refine tj_X11_likely_136 C _ _ _ _ h
      · have h := h.2 c18
        refine a_ldc2 C dX11_likely_34 bw_956 ?_
        exact a_lret C dX11_likely_37 h

/-! RainOnTheOne.days(Z)I -/
def wl_X11_days_22 (k51 : Int32 → Int32 → Int32 → PoS → Prop) (post : Int32 → PoS → Prop) : Nat → Int32 → Int32 → Int32 → Int32 → Int32 → PoS → Prop
  | 0, _, _, _, _, _, _ => False
  | n + 1, v1, v2, v3, v4, v5, u => ((v2 < v5 → k51 v1 v3 v4 u) ∧ (¬ v2 < v5 → ∀ x2 : Int32, x2 = ((v3 * v5) + (v2 * v4)) → ∀ x3 : Int32, x3 = (v4 * v5) → wl_X11_days_22 k51 post n v1 v2 x2 x3 (v5 + 1) u))
def wj_X11_days_61 (post : Int32 → PoS → Prop) (v3 : Int32) (v4 : Int32) (s0 : Int32) (u : PoS) : Prop := wp_X11_commonPart (Int32.toInt64 v3) (Int32.toInt64 v4) u (fun (r6 : Int64) (u7 : PoS) => ¬ (Int64.toInt32 r6) = 0 ∧ post (s0 / (Int64.toInt32 r6)) u7)
def wp_X11_days (a0 : Int32) (u : PoS) (post : Int32 → PoS → Prop) : Prop := ∀ x1 : Int32, x1 = (gI u 3 84) → ((0 < x1 → (∃ n22, wl_X11_days_22 (fun (v15 : Int32) (v35 : Int32) (v45 : Int32) (u5 : PoS) => ((v15 = 0 → wj_X11_days_61 post v35 v45 v35 u5) ∧ (¬ v15 = 0 → wj_X11_days_61 post v35 v45 v45 u5))) post n22 a0 x1 0 1 1 u)) ∧ (¬ 0 < x1 → post (-1) u))
set_option maxHeartbeats 4000000 in
set_option maxRecDepth 100000 in
theorem tl_X11_days_22 {p : Program} {l : Launch} {e : Env} {s : State} {m : MethodId} {args : Array Value} {below : List Frame} {meth : Method} {c : Code} {V : VEn} {k51 : Int32 → Int32 → Int32 → PoS → Prop} {post : Int32 → PoS → Prop} (C : CxS p s m args meth c V cX11_days 6 RX11 (some .int)) (hk51 : ∀ (v1 : Int32) (v3 : Int32) (v4 : Int32) (u : PoS), k51 v1 v3 v4 u → AtS p l e (Rm 2) s m args below meth c V 6 0 0 (QI V below args s post) 51 [(1, .int v1), (3, .int v3), (4, .int v4)] [] u) : ∀ (n : Nat) (v1 : Int32) (v2 : Int32) (v3 : Int32) (v4 : Int32) (v5 : Int32) (u : PoS), wl_X11_days_22 k51 post n v1 v2 v3 v4 v5 u → AtS p l e (Rm 2) s m args below meth c V 6 0 0 (QI V below args s post) 22 [(1, .int v1), (2, .int v2), (3, .int v3), (4, .int v4), (5, .int v5)] [] u := by
  intro n
  induction n with
  | zero => intro v1 v2 v3 v4 v5 u h; exact h.elim
  | succ n ih =>
    intro v1 v2 v3 v4 v5 u h
    rw [wl_X11_days_22] at h
    refine a_iload C 4 dX11_days_22 rfl ?_
    refine a_iload_n C 1 dX11_days_24 rfl rfl ?_
    refine a_icmp_gt C 51 dX11_days_25 (by decide) (fun c4 => ?_) (fun c4 => ?_)
    · have h := h.1 c4
      refine a_sub [0, 2, 3] rfl ?_
      exact hk51 _ _ _ _ h
    · have h := h.2 c4
      refine a_iload_n C 2 dX11_days_28 rfl rfl ?_
      refine a_iload C 4 dX11_days_29 rfl ?_
      refine a_imul C dX11_days_31 ?_
      refine a_iload_n C 1 dX11_days_32 rfl rfl ?_
      refine a_iload C 3 dX11_days_33 rfl ?_
      refine a_imul C dX11_days_35 ?_
      refine a_iadd C dX11_days_36 ?_
      refine a_topi (fun x2 ex2 => ?_)
      have h := h x2 ex2
      refine a_istore_n C [(3, .int x2), (1, .int v1), (2, .int v2), (4, .int v4), (5, .int v5)] dX11_days_37 rfl (by decide) rfl ?_
      refine a_iload C 3 dX11_days_38 rfl ?_
      refine a_iload C 4 dX11_days_40 rfl ?_
      refine a_imul C dX11_days_42 ?_
      refine a_topi (fun x3 ex3 => ?_)
      have h := h x3 ex3
      refine a_istore C [(4, .int x3), (3, .int x2), (1, .int v1), (2, .int v2), (5, .int v5)] dX11_days_43 (by decide) rfl ?_
      refine a_iinc C (v5 + 1) 4 [(5, .int (v5 + 1)), (4, .int x3), (3, .int x2), (1, .int v1), (2, .int v2)] dX11_days_45 rfl (congrArg (fun z => v5 + z) (show Int32.ofInt 1 = 1 by decide)) (by decide) rfl ?_
      refine a_goto C 22 dX11_days_48 (by decide) ?_
      refine a_sub [3, 4, 2, 1, 0] rfl ?_
      exact ih _ _ _ _ _ _ h
set_option maxHeartbeats 4000000 in
set_option maxRecDepth 100000 in
theorem tj_X11_days_61 {p : Program} {l : Launch} {e : Env} {s : State} {m : MethodId} {args : Array Value} {below : List Frame} {meth : Method} {c : Code} {V : VEn} {post : Int32 → PoS → Prop} (C : CxS p s m args meth c V cX11_days 6 RX11 (some .int)) (v3 : Int32) (v4 : Int32) (s0 : Int32) (u : PoS) (h : wj_X11_days_61 post v3 v4 s0 u) : AtS p l e (Rm 2) s m args below meth c V 6 0 0 (QI V below args s post) 61 [(3, .int v3), (4, .int v4)] [.int s0] u := by
  rw [wj_X11_days_61] at h
  refine a_iload_n C 0 dX11_days_61 rfl rfl ?_
  refine a_i2l C dX11_days_62 ?_
  refine a_iload C 1 dX11_days_63 rfl ?_
  refine a_i2l C dX11_days_65 ?_
  refine a_callSl C dX11_days_66 (m_X11_commonPart l V h) bw_957 bw_958 bw_112 bw_959 np_X11_commonPart rfl rfl (by decide) (Nat.le_of_ble_eq_true rfl) ⟨Nat.zero_le _, Nat.zero_le _⟩ (fun r6 u7 h => ?_)
  refine a_l2i C dX11_days_69 ?_
  refine a_idiv C dX11_days_70 h.1 ?_
  have h := h.2
  exact a_iret C dX11_days_71 h
theorem np_X11_days : yX11_days.cls ≠ "java/lang/invoke/MethodHandle" ∧ yX11_days.cls ≠ "java/lang/invoke/VarHandle" ∧ (parseMethodDescriptor yX11_days.desc).map (fun d => d.parameters.length) = some 1 := by decide +kernel
set_option maxHeartbeats 4000000 in
set_option maxRecDepth 100000 in
theorem m_X11_days (l : Launch) (V : VEn) {a0 : Int32} {u : PoS} {post : Int32 → PoS → Prop} (h : wp_X11_days a0 u post) : KI l V yX11_days cX11_days 6 .int 2 [.ref (eA V 0), .int a0] u post := by
  refine KI_of (by decide) (Nat.le_of_ble_eq_true rfl) (lv := [(0, .ref (eA V 0)), (1, .int a0)]) rfl ?_
  intro p e s m args below meth c C
  rw [wp_X11_days] at h
  refine a_aload_n C 0 dX11_days_0 rfl rfl ?_
  refine a_getr C 2 (r := 3) dX11_days_1 (by decide) rfl rfl rfl ib_11 (by decide) bw_351 ?_
  refine a_bipush C 84 dX11_days_4 (by decide) ?_
  refine b_iald C 84 dX11_days_6 (by decide) rfl (vp_lit (by decide)) (by decide) ?_
  refine a_topi (fun x1 ex1 => ?_)
  have h := h x1 ex1
  refine a_istore_n C [(2, .int x1), (0, .ref (eA V 0)), (1, .int a0)] dX11_days_7 rfl (by decide) rfl ?_
  refine a_iload_n C 0 dX11_days_8 rfl rfl ?_
  refine a_if_gt C 14 dX11_days_9 (by decide) (fun c9 => ?_) (fun c9 => ?_)
  · have h := h.1 c9
    refine a_iconst C 0 dX11_days_14 (by decide) ?_
    refine a_istore_n C [(3, .int 0), (2, .int x1), (0, .ref (eA V 0)), (1, .int a0)] dX11_days_15 rfl (by decide) rfl ?_
    refine a_iconst C 1 dX11_days_16 (by decide) ?_
    refine a_istore C [(4, .int 1), (3, .int 0), (2, .int x1), (0, .ref (eA V 0)), (1, .int a0)] dX11_days_17 (by decide) rfl ?_
    refine a_iconst C 1 dX11_days_19 (by decide) ?_
    refine a_istore C [(5, .int 1), (4, .int 1), (3, .int 0), (2, .int x1), (0, .ref (eA V 0)), (1, .int a0)] dX11_days_20 (by decide) rfl ?_
    refine a_sub [5, 3, 2, 1, 0] rfl ?_
    obtain ⟨n22, h⟩ := h
    refine tl_X11_days_22 C (fun v15 v35 v45 u5 h => ?_) n22 _ _ _ _ _ _ h
    refine a_iload_n C 0 dX11_days_51 rfl rfl ?_
    refine a_if_eq C 60 dX11_days_52 (by decide) (fun c8 => ?_) (fun c8 => ?_)
    · have h := h.1 c8
      refine a_iload_n C 1 dX11_days_60 rfl rfl ?_
      refine a_sub [1, 2] rfl ?_
      refine tj_X11_days_61 C _ _ _ _ h
    · have h := h.2 c8
      refine a_iload C 2 dX11_days_55 rfl ?_
      refine a_goto C 61 dX11_days_57 (by decide) ?_
      refine a_sub [1, 2] rfl ?_
      refine tj_X11_days_61 C _ _ _ _ h
  · have h := h.2 c9
    refine a_iconst C (-1) dX11_days_12 (by decide) ?_
    exact a_iret C dX11_days_13 h

/-! RainOnTheOne.said(II)I -/
def wp_X11_said (a0 : Int32) (a1 : Int32) (u : PoS) (post : Int32 → PoS → Prop) : Prop := ∀ x1 : Int32, x1 = (gI u 3 166) → ((¬ a0 = (-1) → wp_X11_isPerson a0 u (fun (r2 : Int32) (u3 : PoS) => ((r2 = 0 → post (-2) u3) ∧ (¬ r2 = 0 → wp_X11_isWithin a1 (-999) 999 u3 (fun (r4 : Int32) (u5 : PoS) => ((r4 = 0 → post (-2) u5) ∧ (¬ r4 = 0 → ((x1 < 8 → vp_in (167 + x1) 2735 ∧ ∀ z6 : PoS, z6 = pI u5 3 (Int32.toNatClampNeg (167 + x1)) a0 → vp_in (175 + x1) 2735 ∧ ∀ z7 : PoS, z7 = pI z6 3 (Int32.toNatClampNeg (175 + x1)) a1 → ∀ z8 : PoS, z8 = pI z7 3 166 (x1 + 1) → post (x1 + 1) z8) ∧ (¬ x1 < 8 → post (-2) u5))))))))) ∧ (a0 = (-1) → ∀ z12 : PoS, z12 = pI u 3 166 0 → post 0 z12))
theorem np_X11_said : yX11_said.cls ≠ "java/lang/invoke/MethodHandle" ∧ yX11_said.cls ≠ "java/lang/invoke/VarHandle" ∧ (parseMethodDescriptor yX11_said.desc).map (fun d => d.parameters.length) = some 2 := by decide +kernel
set_option maxHeartbeats 4000000 in
set_option maxRecDepth 100000 in
theorem m_X11_said (l : Launch) (V : VEn) {a0 : Int32} {a1 : Int32} {u : PoS} {post : Int32 → PoS → Prop} (h : wp_X11_said a0 a1 u post) : KI l V yX11_said cX11_said 4 .int 1 [.ref (eA V 0), .int a0, .int a1] u post := by
  refine KI_of (by decide) (Nat.le_of_ble_eq_true rfl) (lv := [(0, .ref (eA V 0)), (1, .int a0), (2, .int a1)]) rfl ?_
  intro p e s m args below meth c C
  rw [wp_X11_said] at h
  refine a_aload_n C 0 dX11_said_0 rfl rfl ?_
  refine a_getr C 2 (r := 3) dX11_said_1 (by decide) rfl rfl rfl ib_11 (by decide) bw_351 ?_
  refine a_sipush C 166 dX11_said_4 (by decide) ?_
  refine b_iald C 166 dX11_said_7 (by decide) rfl (vp_lit (by decide)) (by decide) ?_
  refine a_topi (fun x1 ex1 => ?_)
  have h := h x1 ex1
  refine a_istore_n C [(3, .int x1), (0, .ref (eA V 0)), (1, .int a0), (2, .int a1)] dX11_said_8 rfl (by decide) rfl ?_
  refine a_iload_n C 2 dX11_said_9 rfl rfl ?_
  refine a_iconst C (-1) dX11_said_10 (by decide) ?_
  refine a_icmp_ne C 25 dX11_said_11 (by decide) (fun c13 => ?_) (fun c13 => ?_)
  · have h := h.1 c13
    refine a_aload_n C 1 dX11_said_25 rfl rfl ?_
    refine a_iload_n C 2 dX11_said_26 rfl rfl ?_
    refine a_callVi C dX11_said_27 (m_X11_isPerson l V h) bw_626 bw_628 bw_21 bw_112 bw_629 (by decide) rfl rfl np_X11_isPerson rfl rfl (by decide) (Nat.le_of_ble_eq_true rfl) ⟨Nat.zero_le _, Nat.zero_le _⟩ (fun r2 u3 h => ?_)
    refine a_if_eq C 52 dX11_said_30 (by decide) (fun c11 => ?_) (fun c11 => ?_)
    · have h := h.1 c11
      refine a_bipush C (-2) dX11_said_52 (by decide) ?_
      exact a_iret C dX11_said_54 h
    · have h := h.2 c11
      refine a_iload_n C 3 dX11_said_33 rfl rfl ?_
      refine a_sipush C (-999) dX11_said_34 (by decide) ?_
      refine a_sipush C 999 dX11_said_37 (by decide) ?_
      refine a_callSi C dX11_said_40 (m_X11_isWithin l V h) bw_405 bw_406 bw_112 bw_407 np_X11_isWithin rfl rfl (by decide) (Nat.le_of_ble_eq_true rfl) ⟨Nat.zero_le _, Nat.zero_le _⟩ (fun r4 u5 h => ?_)
      refine a_if_eq C 52 dX11_said_43 (by decide) (fun c10 => ?_) (fun c10 => ?_)
      · have h := h.1 c10
        refine a_bipush C (-2) dX11_said_52 (by decide) ?_
        exact a_iret C dX11_said_54 h
      · have h := h.2 c10
        refine a_iload_n C 0 dX11_said_46 rfl rfl ?_
        refine a_bipush C 8 dX11_said_47 (by decide) ?_
        refine a_icmp_lt C 55 dX11_said_49 (by decide) (fun c9 => ?_) (fun c9 => ?_)
        · have h := h.1 c9
          refine a_aload_n C 1 dX11_said_55 rfl rfl ?_
          refine a_getr C 2 (r := 3) dX11_said_56 (by decide) rfl rfl rfl ib_11 (by decide) bw_351 ?_
          refine a_sipush C 167 dX11_said_59 (by decide) ?_
          refine a_iload_n C 0 dX11_said_62 rfl rfl ?_
          refine a_iadd C dX11_said_63 ?_
          refine a_iload_n C 2 dX11_said_64 rfl rfl ?_
          refine b_iast C (Int32.toNatClampNeg (167 + x1)) dX11_said_65 (by decide) rfl h.1 rfl ?_
          have h := h.2
          refine a_topu (fun z6 ez6 => ?_)
          have h := h z6 ez6
          refine a_aload_n C 1 dX11_said_66 rfl rfl ?_
          refine a_getr C 2 (r := 3) dX11_said_67 (by decide) rfl rfl rfl ib_11 (by decide) bw_351 ?_
          refine a_sipush C 175 dX11_said_70 (by decide) ?_
          refine a_iload_n C 0 dX11_said_73 rfl rfl ?_
          refine a_iadd C dX11_said_74 ?_
          refine a_iload_n C 3 dX11_said_75 rfl rfl ?_
          refine b_iast C (Int32.toNatClampNeg (175 + x1)) dX11_said_76 (by decide) rfl h.1 rfl ?_
          have h := h.2
          refine a_topu (fun z7 ez7 => ?_)
          have h := h z7 ez7
          refine a_aload_n C 1 dX11_said_77 rfl rfl ?_
          refine a_getr C 2 (r := 3) dX11_said_78 (by decide) rfl rfl rfl ib_11 (by decide) bw_351 ?_
          refine a_sipush C 166 dX11_said_81 (by decide) ?_
          refine a_iload_n C 0 dX11_said_84 rfl rfl ?_
          refine a_iconst C 1 dX11_said_85 (by decide) ?_
          refine a_iadd C dX11_said_86 ?_
          refine b_iast C 166 dX11_said_87 (by decide) rfl (vp_lit (by decide)) (by decide) ?_
          refine a_topu (fun z8 ez8 => ?_)
          have h := h z8 ez8
          refine a_iload_n C 0 dX11_said_88 rfl rfl ?_
          refine a_iconst C 1 dX11_said_89 (by decide) ?_
          refine a_iadd C dX11_said_90 ?_
          exact a_iret C dX11_said_91 h
        · have h := h.2 c9
          refine a_bipush C (-2) dX11_said_52 (by decide) ?_
          exact a_iret C dX11_said_54 h
  · have h := h.2 c13
    refine a_aload_n C 1 dX11_said_14 rfl rfl ?_
    refine a_getr C 2 (r := 3) dX11_said_15 (by decide) rfl rfl rfl ib_11 (by decide) bw_351 ?_
    refine a_sipush C 166 dX11_said_18 (by decide) ?_
    refine a_iconst C 0 dX11_said_21 (by decide) ?_
    refine b_iast C 166 dX11_said_22 (by decide) rfl (vp_lit (by decide)) (by decide) ?_
    refine a_topu (fun z12 ez12 => ?_)
    have h := h z12 ez12
    refine a_iconst C 0 dX11_said_23 (by decide) ?_
    exact a_iret C dX11_said_24 h

/-! RainOnTheOne.saysAll(I)Z -/
def wl_X11_saysAll_2 (post : Int32 → PoS → Prop) : Nat → Int32 → Int32 → PoS → Prop
  | 0, _, _, _ => False
  | n + 1, v1, v2, u => (((gI u 3 166) ≤ v2 → post 1 u) ∧ (¬ (gI u 3 166) ≤ v2 → vp_in (167 + v2) 2735 ∧ ∀ x1 : Int32, x1 = (gI u 3 (Int32.toNatClampNeg (167 + v2))) → wp_X8_stepsTo 0 x1 u (fun (r2 : Int32) (u3 : PoS) => wp_X8_wantsBy 0 v1 x1 r2 u3 (fun (r4 : Int32) (u5 : PoS) => vp_in (175 + v2) 2735 ∧ ((r4 = (gI u5 3 (Int32.toNatClampNeg (175 + v2))) → wl_X11_saysAll_2 post n v1 (v2 + 1) u5) ∧ (¬ r4 = (gI u5 3 (Int32.toNatClampNeg (175 + v2))) → post 0 u5))))))
def wp_X11_saysAll (a0 : Int32) (u : PoS) (post : Int32 → PoS → Prop) : Prop := (∃ n2, wl_X11_saysAll_2 post n2 a0 0 u)
set_option maxHeartbeats 4000000 in
set_option maxRecDepth 100000 in
theorem tl_X11_saysAll_2 {p : Program} {l : Launch} {e : Env} {s : State} {m : MethodId} {args : Array Value} {below : List Frame} {meth : Method} {c : Code} {V : VEn} {post : Int32 → PoS → Prop} (C : CxS p s m args meth c V cX11_saysAll 4 RX11 (some .boolean)) : ∀ (n : Nat) (v1 : Int32) (v2 : Int32) (u : PoS), wl_X11_saysAll_2 post n v1 v2 u → AtS p l e (Rm 3) s m args below meth c V 4 0 0 (QI V below args s post) 2 [(0, .ref (eA V 0)), (1, .int v1), (2, .int v2)] [] u := by
  intro n
  induction n with
  | zero => intro v1 v2 u h; exact h.elim
  | succ n ih =>
    intro v1 v2 u h
    rw [wl_X11_saysAll_2] at h
    refine a_iload_n C 2 dX11_saysAll_2 rfl rfl ?_
    refine a_aload_n C 0 dX11_saysAll_3 rfl rfl ?_
    refine a_getr C 2 (r := 3) dX11_saysAll_4 (by decide) rfl rfl rfl ib_11 (by decide) bw_351 ?_
    refine a_sipush C 166 dX11_saysAll_7 (by decide) ?_
    refine b_iald C 166 dX11_saysAll_10 (by decide) rfl (vp_lit (by decide)) (by decide) ?_
    refine a_icmp_ge C 63 dX11_saysAll_11 (by decide) (fun c7 => ?_) (fun c7 => ?_)
    · have h := h.1 c7
      refine a_iconst C 1 dX11_saysAll_63 (by decide) ?_
      exact a_zret C rfl dX11_saysAll_64 h
    · have h := h.2 c7
      refine a_aload_n C 0 dX11_saysAll_14 rfl rfl ?_
      refine a_getr C 2 (r := 3) dX11_saysAll_15 (by decide) rfl rfl rfl ib_11 (by decide) bw_351 ?_
      refine a_sipush C 167 dX11_saysAll_18 (by decide) ?_
      refine a_iload_n C 2 dX11_saysAll_21 rfl rfl ?_
      refine a_iadd C dX11_saysAll_22 ?_
      refine b_iald C (Int32.toNatClampNeg (167 + v2)) dX11_saysAll_23 (by decide) rfl h.1 rfl ?_
      have h := h.2
      refine a_topi (fun x1 ex1 => ?_)
      have h := h x1 ex1
      refine a_istore_n C [(3, .int x1), (0, .ref (eA V 0)), (1, .int v1), (2, .int v2)] dX11_saysAll_24 rfl (by decide) rfl ?_
      refine a_aload_n C 1 dX11_saysAll_25 rfl rfl ?_
      refine a_getr C 0 (r := 1) dX11_saysAll_26 (by decide) rfl rfl rfl ib_11 (by decide) bw_349 ?_
      refine a_iload_n C 2 dX11_saysAll_29 rfl rfl ?_
      refine a_iload_n C 0 dX11_saysAll_30 rfl rfl ?_
      refine a_aload_n C 1 dX11_saysAll_31 rfl rfl ?_
      refine a_getr C 0 (r := 1) dX11_saysAll_32 (by decide) rfl rfl rfl ib_11 (by decide) bw_349 ?_
      refine a_iload_n C 0 dX11_saysAll_35 rfl rfl ?_
      refine a_callVi C dX11_saysAll_36 (m_X8_stepsTo l V (by decide) h) bw_776 bw_777 bw_778 bw_120 bw_779 (by decide) rfl rfl np_X8_stepsTo rfl rfl (by decide) (Nat.le_of_ble_eq_true rfl) ⟨Nat.zero_le _, Nat.zero_le _⟩ (fun r2 u3 h => ?_)
      refine a_callVi C dX11_saysAll_39 (m_X8_wantsBy l V (by decide) h) bw_780 bw_691 bw_692 bw_120 bw_693 (by decide) rfl rfl np_X8_wantsBy rfl rfl (by decide) (Nat.le_of_ble_eq_true rfl) ⟨Nat.zero_le _, Nat.zero_le _⟩ (fun r4 u5 h => ?_)
      refine a_aload_n C 1 dX11_saysAll_42 rfl rfl ?_
      refine a_getr C 2 (r := 3) dX11_saysAll_43 (by decide) rfl rfl rfl ib_11 (by decide) bw_351 ?_
      refine a_sipush C 175 dX11_saysAll_46 (by decide) ?_
      refine a_iload_n C 3 dX11_saysAll_49 rfl rfl ?_
      refine a_iadd C dX11_saysAll_50 ?_
      refine b_iald C (Int32.toNatClampNeg (175 + v2)) dX11_saysAll_51 (by decide) rfl h.1 rfl ?_
      have h := h.2
      refine a_icmp_eq C 57 dX11_saysAll_52 (by decide) (fun c6 => ?_) (fun c6 => ?_)
      · have h := h.1 c6
        refine a_iinc C (v2 + 1) 3 [(2, .int (v2 + 1)), (3, .int x1), (0, .ref (eA V 0)), (1, .int v1)] dX11_saysAll_57 rfl (congrArg (fun z => v2 + z) (show Int32.ofInt 1 = 1 by decide)) (by decide) rfl ?_
        refine a_goto C 2 dX11_saysAll_60 (by decide) ?_
        refine a_sub [2, 3, 0] rfl ?_
        exact ih _ _ _ h
      · have h := h.2 c6
        refine a_iconst C 0 dX11_saysAll_55 (by decide) ?_
        exact a_zret C rfl dX11_saysAll_56 h
theorem np_X11_saysAll : yX11_saysAll.cls ≠ "java/lang/invoke/MethodHandle" ∧ yX11_saysAll.cls ≠ "java/lang/invoke/VarHandle" ∧ (parseMethodDescriptor yX11_saysAll.desc).map (fun d => d.parameters.length) = some 1 := by decide +kernel
set_option maxHeartbeats 4000000 in
set_option maxRecDepth 100000 in
theorem m_X11_saysAll (l : Launch) (V : VEn) {a0 : Int32} {u : PoS} {post : Int32 → PoS → Prop} (h : wp_X11_saysAll a0 u post) : KI l V yX11_saysAll cX11_saysAll 4 .boolean 3 [.ref (eA V 0), .int a0] u post := by
  refine KI_of (by decide) (Nat.le_of_ble_eq_true rfl) (lv := [(0, .ref (eA V 0)), (1, .int a0)]) rfl ?_
  intro p e s m args below meth c C
  rw [wp_X11_saysAll] at h
  refine a_iconst C 0 dX11_saysAll_0 (by decide) ?_
  refine a_istore_n C [(2, .int 0), (0, .ref (eA V 0)), (1, .int a0)] dX11_saysAll_1 rfl (by decide) rfl ?_
  refine a_sub [1, 2, 0] rfl ?_
  obtain ⟨n2, h⟩ := h
  refine tl_X11_saysAll_2 C n2 _ _ _ h

/-! RainOnTheOne.whose()I -/
def wj_X11_whose_29 (k4 : Int32 → Int32 → PoS → Prop) (post : Int32 → PoS → Prop) (v1 : Int32) (v2 : Int32) (u : PoS) : Prop := k4 v1 (v2 + 1) u
def wl_X11_whose_4 (post : Int32 → PoS → Prop) : Nat → Int32 → Int32 → PoS → Prop
  | 0, _, _, _ => False
  | n + 1, v1, v2, u => (((gI u 3 117) ≤ v2 → post v1 u) ∧ (¬ (gI u 3 117) ≤ v2 → wp_X11_saysAll v2 u (fun (r1 : Int32) (u2 : PoS) => ((r1 = 0 → wj_X11_whose_29 (wl_X11_whose_4 post n) post v1 v2 u2) ∧ (¬ r1 = 0 → ∀ x3 : Int32, x3 = (v1 ||| (1 <<< (v2 &&& 31))) → wj_X11_whose_29 (wl_X11_whose_4 post n) post x3 v2 u2)))))
def wp_X11_whose (u : PoS) (post : Int32 → PoS → Prop) : Prop := (∃ n4, wl_X11_whose_4 post n4 0 0 u)
set_option maxHeartbeats 4000000 in
set_option maxRecDepth 100000 in
theorem tj_X11_whose_29 {p : Program} {l : Launch} {e : Env} {s : State} {m : MethodId} {args : Array Value} {below : List Frame} {meth : Method} {c : Code} {V : VEn} {k4 : Int32 → Int32 → PoS → Prop} {post : Int32 → PoS → Prop} (C : CxS p s m args meth c V cX11_whose 3 RX11 (some .int)) (hk4 : ∀ (v1 : Int32) (v2 : Int32) (u : PoS), k4 v1 v2 u → AtS p l e (Rm 4) s m args below meth c V 3 0 0 (QI V below args s post) 4 [(0, .ref (eA V 0)), (1, .int v1), (2, .int v2)] [] u) (v1 : Int32) (v2 : Int32) (u : PoS) (h : wj_X11_whose_29 k4 post v1 v2 u) : AtS p l e (Rm 4) s m args below meth c V 3 0 0 (QI V below args s post) 29 [(0, .ref (eA V 0)), (1, .int v1), (2, .int v2)] [] u := by
  rw [wj_X11_whose_29] at h
  refine a_iinc C (v2 + 1) 2 [(2, .int (v2 + 1)), (0, .ref (eA V 0)), (1, .int v1)] dX11_whose_29 rfl (congrArg (fun z => v2 + z) (show Int32.ofInt 1 = 1 by decide)) (by decide) rfl ?_
  refine a_goto C 4 dX11_whose_32 (by decide) ?_
  refine a_sub [1, 2, 0] rfl ?_
  exact hk4 _ _ _ h
set_option maxHeartbeats 4000000 in
set_option maxRecDepth 100000 in
theorem tl_X11_whose_4 {p : Program} {l : Launch} {e : Env} {s : State} {m : MethodId} {args : Array Value} {below : List Frame} {meth : Method} {c : Code} {V : VEn} {post : Int32 → PoS → Prop} (C : CxS p s m args meth c V cX11_whose 3 RX11 (some .int)) : ∀ (n : Nat) (v1 : Int32) (v2 : Int32) (u : PoS), wl_X11_whose_4 post n v1 v2 u → AtS p l e (Rm 4) s m args below meth c V 3 0 0 (QI V below args s post) 4 [(0, .ref (eA V 0)), (1, .int v1), (2, .int v2)] [] u := by
  intro n
  induction n with
  | zero => intro v1 v2 u h; exact h.elim
  | succ n ih =>
    intro v1 v2 u h
    rw [wl_X11_whose_4] at h
    refine a_iload_n C 2 dX11_whose_4 rfl rfl ?_
    refine a_aload_n C 0 dX11_whose_5 rfl rfl ?_
    refine a_getr C 2 (r := 3) dX11_whose_6 (by decide) rfl rfl rfl ib_11 (by decide) bw_351 ?_
    refine a_bipush C 117 dX11_whose_9 (by decide) ?_
    refine b_iald C 117 dX11_whose_11 (by decide) rfl (vp_lit (by decide)) (by decide) ?_
    refine a_icmp_ge C 35 dX11_whose_12 (by decide) (fun c5 => ?_) (fun c5 => ?_)
    · have h := h.1 c5
      refine a_iload_n C 1 dX11_whose_35 rfl rfl ?_
      exact a_iret C dX11_whose_36 h
    · have h := h.2 c5
      refine a_aload_n C 0 dX11_whose_15 rfl rfl ?_
      refine a_iload_n C 2 dX11_whose_16 rfl rfl ?_
      refine a_callVi C dX11_whose_17 (m_X11_saysAll l V h) bw_973 bw_975 bw_37 bw_112 bw_976 (by decide) rfl rfl np_X11_saysAll rfl rfl (by decide) (Nat.le_of_ble_eq_true rfl) ⟨Nat.zero_le _, Nat.zero_le _⟩ (fun r1 u2 h => ?_)
      refine a_if_eq C 29 dX11_whose_20 (by decide) (fun c4 => ?_) (fun c4 => ?_)
      · have h := h.1 c4
        refine tj_X11_whose_29 C ih _ _ _ h
      · have h := h.2 c4
        refine a_iload_n C 1 dX11_whose_23 rfl rfl ?_
        refine a_iconst C 1 dX11_whose_24 (by decide) ?_
        refine a_iload_n C 2 dX11_whose_25 rfl rfl ?_
        refine a_ishl C dX11_whose_26 ?_
        refine a_ior C dX11_whose_27 ?_
        refine a_topi (fun x3 ex3 => ?_)
        have h := h x3 ex3
        refine a_istore_n C [(1, .int x3), (0, .ref (eA V 0)), (2, .int v2)] dX11_whose_28 rfl (by decide) rfl ?_
        refine a_sub [1, 0, 2] rfl ?_
        refine tj_X11_whose_29 C ih _ _ _ h
theorem np_X11_whose : yX11_whose.cls ≠ "java/lang/invoke/MethodHandle" ∧ yX11_whose.cls ≠ "java/lang/invoke/VarHandle" ∧ (parseMethodDescriptor yX11_whose.desc).map (fun d => d.parameters.length) = some 0 := by decide +kernel
set_option maxHeartbeats 4000000 in
set_option maxRecDepth 100000 in
theorem m_X11_whose (l : Launch) (V : VEn) {u : PoS} {post : Int32 → PoS → Prop} (h : wp_X11_whose  u post) : KI l V yX11_whose cX11_whose 3 .int 4 [.ref (eA V 0)] u post := by
  refine KI_of (by decide) (Nat.le_of_ble_eq_true rfl) (lv := [(0, .ref (eA V 0))]) rfl ?_
  intro p e s m args below meth c C
  rw [wp_X11_whose] at h
  refine a_iconst C 0 dX11_whose_0 (by decide) ?_
  refine a_istore_n C [(1, .int 0), (0, .ref (eA V 0))] dX11_whose_1 rfl (by decide) rfl ?_
  refine a_iconst C 0 dX11_whose_2 (by decide) ?_
  refine a_istore_n C [(2, .int 0), (1, .int 0), (0, .ref (eA V 0))] dX11_whose_3 rfl (by decide) rfl ?_
  refine a_sub [2, 1, 0] rfl ?_
  obtain ⟨n4, h⟩ := h
  refine tl_X11_whose_4 C n4 _ _ _ h

/-! RainOnTheOne.lacks(I)I -/
def wp_X11_lacks (a0 : Int32) (u : PoS) (post : Int32 → PoS → Prop) : Prop := vp_in (86 + a0) 2735 ∧ vp_in (20 + a0) 2735 ∧ post ((gI u 3 (Int32.toNatClampNeg (86 + a0))) - (gI u 3 (Int32.toNatClampNeg (20 + a0)))) u
theorem np_X11_lacks : yX11_lacks.cls ≠ "java/lang/invoke/MethodHandle" ∧ yX11_lacks.cls ≠ "java/lang/invoke/VarHandle" ∧ (parseMethodDescriptor yX11_lacks.desc).map (fun d => d.parameters.length) = some 1 := by decide +kernel
set_option maxHeartbeats 4000000 in
set_option maxRecDepth 100000 in
theorem m_X11_lacks (l : Launch) (V : VEn) {a0 : Int32} {u : PoS} {post : Int32 → PoS → Prop} (h : wp_X11_lacks a0 u post) : KI l V yX11_lacks cX11_lacks 2 .int 0 [.ref (eA V 0), .int a0] u post := by
  refine KI_of (by decide) (Nat.le_of_ble_eq_true rfl) (lv := [(0, .ref (eA V 0)), (1, .int a0)]) rfl ?_
  intro p e s m args below meth c C
  rw [wp_X11_lacks] at h
  refine a_aload_n C 0 dX11_lacks_0 rfl rfl ?_
  refine a_getr C 2 (r := 3) dX11_lacks_1 (by decide) rfl rfl rfl ib_11 (by decide) bw_351 ?_
  refine a_bipush C 86 dX11_lacks_4 (by decide) ?_
  refine a_iload_n C 1 dX11_lacks_6 rfl rfl ?_
  refine a_iadd C dX11_lacks_7 ?_
  refine b_iald C (Int32.toNatClampNeg (86 + a0)) dX11_lacks_8 (by decide) rfl h.1 rfl ?_
  have h := h.2
  refine a_aload_n C 0 dX11_lacks_9 rfl rfl ?_
  refine a_getr C 2 (r := 3) dX11_lacks_10 (by decide) rfl rfl rfl ib_11 (by decide) bw_351 ?_
  refine a_bipush C 20 dX11_lacks_13 (by decide) ?_
  refine a_iload_n C 1 dX11_lacks_15 rfl rfl ?_
  refine a_iadd C dX11_lacks_16 ?_
  refine b_iald C (Int32.toNatClampNeg (20 + a0)) dX11_lacks_17 (by decide) rfl h.1 rfl ?_
  have h := h.2
  refine a_isub C dX11_lacks_18 ?_
  exact a_iret C dX11_lacks_19 h

/-! RainOnTheOne.thirsty(Z)I -/
def wj_X11_thirsty_39 (k7 : Int32 → Int32 → Int32 → Int32 → PoS → Prop) (post : Int32 → PoS → Prop) (v1 : Int32) (v2 : Int32) (v3 : Int32) (v4 : Int32) (u : PoS) : Prop := k7 v1 v2 v3 (v4 + 1) u
def wl_X11_thirsty_7 (k45 : Int32 → Int32 → Int32 → PoS → Prop) (post : Int32 → PoS → Prop) : Nat → Int32 → Int32 → Int32 → Int32 → PoS → Prop
  | 0, _, _, _, _, _ => False
  | n + 1, v1, v2, v3, v4, u => ((30 ≤ v4 → k45 v1 v2 v3 u) ∧ (¬ 30 ≤ v4 → wp_X11_lacks v4 u (fun (r1 : Int32) (u2 : PoS) => ((r1 ≤ 0 → wj_X11_thirsty_39 (wl_X11_thirsty_7 k45 post n) post v1 v2 v3 v4 u2) ∧ (¬ r1 ≤ 0 → ∀ x3 : Int32, x3 = (v2 ||| (1 <<< (v4 &&& 31))) → wp_X11_lacks v4 u2 (fun (r4 : Int32) (u5 : PoS) => ∀ x6 : Int32, x6 = (v3 + r4) → wj_X11_thirsty_39 (wl_X11_thirsty_7 k45 post n) post v1 x3 x6 v4 u5))))))
def wp_X11_thirsty (a0 : Int32) (u : PoS) (post : Int32 → PoS → Prop) : Prop := (∃ n7, wl_X11_thirsty_7 (fun (v19 : Int32) (v29 : Int32) (v39 : Int32) (u9 : PoS) => ((v19 = 0 → post v29 u9) ∧ (¬ v19 = 0 → post v39 u9))) post n7 a0 0 0 0 u)
set_option maxHeartbeats 4000000 in
set_option maxRecDepth 100000 in
theorem tj_X11_thirsty_39 {p : Program} {l : Launch} {e : Env} {s : State} {m : MethodId} {args : Array Value} {below : List Frame} {meth : Method} {c : Code} {V : VEn} {k7 : Int32 → Int32 → Int32 → Int32 → PoS → Prop} {post : Int32 → PoS → Prop} (C : CxS p s m args meth c V cX11_thirsty 5 RX11 (some .int)) (hk7 : ∀ (v1 : Int32) (v2 : Int32) (v3 : Int32) (v4 : Int32) (u : PoS), k7 v1 v2 v3 v4 u → AtS p l e (Rm 1) s m args below meth c V 5 0 0 (QI V below args s post) 7 [(0, .ref (eA V 0)), (1, .int v1), (2, .int v2), (3, .int v3), (4, .int v4)] [] u) (v1 : Int32) (v2 : Int32) (v3 : Int32) (v4 : Int32) (u : PoS) (h : wj_X11_thirsty_39 k7 post v1 v2 v3 v4 u) : AtS p l e (Rm 1) s m args below meth c V 5 0 0 (QI V below args s post) 39 [(0, .ref (eA V 0)), (1, .int v1), (2, .int v2), (3, .int v3), (4, .int v4)] [] u := by
  rw [wj_X11_thirsty_39] at h
  refine a_iinc C (v4 + 1) 4 [(4, .int (v4 + 1)), (0, .ref (eA V 0)), (1, .int v1), (2, .int v2), (3, .int v3)] dX11_thirsty_39 rfl (congrArg (fun z => v4 + z) (show Int32.ofInt 1 = 1 by decide)) (by decide) rfl ?_
  refine a_goto C 7 dX11_thirsty_42 (by decide) ?_
  refine a_sub [1, 2, 3, 4, 0] rfl ?_
  exact hk7 _ _ _ _ _ h
set_option maxHeartbeats 4000000 in
set_option maxRecDepth 100000 in
theorem tl_X11_thirsty_7 {p : Program} {l : Launch} {e : Env} {s : State} {m : MethodId} {args : Array Value} {below : List Frame} {meth : Method} {c : Code} {V : VEn} {k45 : Int32 → Int32 → Int32 → PoS → Prop} {post : Int32 → PoS → Prop} (C : CxS p s m args meth c V cX11_thirsty 5 RX11 (some .int)) (hk45 : ∀ (v1 : Int32) (v2 : Int32) (v3 : Int32) (u : PoS), k45 v1 v2 v3 u → AtS p l e (Rm 1) s m args below meth c V 5 0 0 (QI V below args s post) 45 [(1, .int v1), (2, .int v2), (3, .int v3)] [] u) : ∀ (n : Nat) (v1 : Int32) (v2 : Int32) (v3 : Int32) (v4 : Int32) (u : PoS), wl_X11_thirsty_7 k45 post n v1 v2 v3 v4 u → AtS p l e (Rm 1) s m args below meth c V 5 0 0 (QI V below args s post) 7 [(0, .ref (eA V 0)), (1, .int v1), (2, .int v2), (3, .int v3), (4, .int v4)] [] u := by
  intro n
  induction n with
  | zero => intro v1 v2 v3 v4 u h; exact h.elim
  | succ n ih =>
    intro v1 v2 v3 v4 u h
    rw [wl_X11_thirsty_7] at h
    refine a_iload C 4 dX11_thirsty_7 rfl ?_
    refine a_bipush C 30 dX11_thirsty_9 (by decide) ?_
    refine a_icmp_ge C 45 dX11_thirsty_11 (by decide) (fun c8 => ?_) (fun c8 => ?_)
    · have h := h.1 c8
      refine a_sub [1, 2, 3] rfl ?_
      exact hk45 _ _ _ _ h
    · have h := h.2 c8
      refine a_aload_n C 0 dX11_thirsty_14 rfl rfl ?_
      refine a_iload C 4 dX11_thirsty_15 rfl ?_
      refine a_callVi C dX11_thirsty_17 (m_X11_lacks l V h) bw_981 bw_983 bw_38 bw_112 bw_984 (by decide) rfl rfl np_X11_lacks rfl rfl (by decide) (Nat.le_of_ble_eq_true rfl) ⟨Nat.zero_le _, Nat.zero_le _⟩ (fun r1 u2 h => ?_)
      refine a_if_le C 39 dX11_thirsty_20 (by decide) (fun c7 => ?_) (fun c7 => ?_)
      · have h := h.1 c7
        refine tj_X11_thirsty_39 C ih _ _ _ _ _ h
      · have h := h.2 c7
        refine a_iload_n C 2 dX11_thirsty_23 rfl rfl ?_
        refine a_iconst C 1 dX11_thirsty_24 (by decide) ?_
        refine a_iload C 4 dX11_thirsty_25 rfl ?_
        refine a_ishl C dX11_thirsty_27 ?_
        refine a_ior C dX11_thirsty_28 ?_
        refine a_topi (fun x3 ex3 => ?_)
        have h := h x3 ex3
        refine a_istore_n C [(2, .int x3), (0, .ref (eA V 0)), (1, .int v1), (3, .int v3), (4, .int v4)] dX11_thirsty_29 rfl (by decide) rfl ?_
        refine a_iload_n C 3 dX11_thirsty_30 rfl rfl ?_
        refine a_aload_n C 1 dX11_thirsty_31 rfl rfl ?_
        refine a_iload C 4 dX11_thirsty_32 rfl ?_
        refine a_callVi C dX11_thirsty_34 (m_X11_lacks l V h) bw_981 bw_983 bw_38 bw_112 bw_984 (by decide) rfl rfl np_X11_lacks rfl rfl (by decide) (Nat.le_of_ble_eq_true rfl) ⟨Nat.zero_le _, Nat.zero_le _⟩ (fun r4 u5 h => ?_)
        refine a_iadd C dX11_thirsty_37 ?_
        refine a_topi (fun x6 ex6 => ?_)
        have h := h x6 ex6
        refine a_istore_n C [(3, .int x6), (2, .int x3), (0, .ref (eA V 0)), (1, .int v1), (4, .int v4)] dX11_thirsty_38 rfl (by decide) rfl ?_
        refine a_sub [2, 3, 1, 0, 4] rfl ?_
        refine tj_X11_thirsty_39 C ih _ _ _ _ _ h
theorem np_X11_thirsty : yX11_thirsty.cls ≠ "java/lang/invoke/MethodHandle" ∧ yX11_thirsty.cls ≠ "java/lang/invoke/VarHandle" ∧ (parseMethodDescriptor yX11_thirsty.desc).map (fun d => d.parameters.length) = some 1 := by decide +kernel
set_option maxHeartbeats 4000000 in
set_option maxRecDepth 100000 in
theorem m_X11_thirsty (l : Launch) (V : VEn) {a0 : Int32} {u : PoS} {post : Int32 → PoS → Prop} (h : wp_X11_thirsty a0 u post) : KI l V yX11_thirsty cX11_thirsty 5 .int 1 [.ref (eA V 0), .int a0] u post := by
  refine KI_of (by decide) (Nat.le_of_ble_eq_true rfl) (lv := [(0, .ref (eA V 0)), (1, .int a0)]) rfl ?_
  intro p e s m args below meth c C
  rw [wp_X11_thirsty] at h
  refine a_iconst C 0 dX11_thirsty_0 (by decide) ?_
  refine a_istore_n C [(2, .int 0), (0, .ref (eA V 0)), (1, .int a0)] dX11_thirsty_1 rfl (by decide) rfl ?_
  refine a_iconst C 0 dX11_thirsty_2 (by decide) ?_
  refine a_istore_n C [(3, .int 0), (2, .int 0), (0, .ref (eA V 0)), (1, .int a0)] dX11_thirsty_3 rfl (by decide) rfl ?_
  refine a_iconst C 0 dX11_thirsty_4 (by decide) ?_
  refine a_istore C [(4, .int 0), (3, .int 0), (2, .int 0), (0, .ref (eA V 0)), (1, .int a0)] dX11_thirsty_5 (by decide) rfl ?_
  refine a_sub [3, 4, 2, 1, 0] rfl ?_
  obtain ⟨n7, h⟩ := h
  refine tl_X11_thirsty_7 C (fun v19 v29 v39 u9 h => ?_) n7 _ _ _ _ _ h
  refine a_iload_n C 0 dX11_thirsty_45 rfl rfl ?_
  refine a_if_eq C 53 dX11_thirsty_46 (by decide) (fun c10 => ?_) (fun c10 => ?_)
  · have h := h.1 c10
    refine a_iload_n C 1 dX11_thirsty_53 rfl rfl ?_
    exact a_iret C dX11_thirsty_54 h
  · have h := h.2 c10
    refine a_iload_n C 2 dX11_thirsty_49 rfl rfl ?_
    refine a_goto C 54 dX11_thirsty_50 (by decide) ?_
    exact a_iret C dX11_thirsty_54 h

/-! RainOnTheOne.driest()I -/
def wj_X11_driest_29 (k6 : Int32 → Int32 → Int32 → PoS → Prop) (post : Int32 → PoS → Prop) (v1 : Int32) (v2 : Int32) (v3 : Int32) (u : PoS) : Prop := k6 v1 v2 (v3 + 1) u
def wl_X11_driest_6 (post : Int32 → PoS → Prop) : Nat → Int32 → Int32 → Int32 → PoS → Prop
  | 0, _, _, _, _ => False
  | n + 1, v1, v2, v3, u => ((30 ≤ v3 → post v1 u) ∧ (¬ 30 ≤ v3 → wp_X11_lacks v3 u (fun (r1 : Int32) (u2 : PoS) => ((r1 ≤ v2 → wj_X11_driest_29 (wl_X11_driest_6 post n) post v1 v2 v3 u2) ∧ (¬ r1 ≤ v2 → wp_X11_lacks v3 u2 (fun (r3 : Int32) (u4 : PoS) => wj_X11_driest_29 (wl_X11_driest_6 post n) post v3 r3 v3 u4))))))
def wp_X11_driest (u : PoS) (post : Int32 → PoS → Prop) : Prop := (∃ n6, wl_X11_driest_6 post n6 (-1) 0 0 u)
set_option maxHeartbeats 4000000 in
set_option maxRecDepth 100000 in
theorem tj_X11_driest_29 {p : Program} {l : Launch} {e : Env} {s : State} {m : MethodId} {args : Array Value} {below : List Frame} {meth : Method} {c : Code} {V : VEn} {k6 : Int32 → Int32 → Int32 → PoS → Prop} {post : Int32 → PoS → Prop} (C : CxS p s m args meth c V cX11_driest 4 RX11 (some .int)) (hk6 : ∀ (v1 : Int32) (v2 : Int32) (v3 : Int32) (u : PoS), k6 v1 v2 v3 u → AtS p l e (Rm 1) s m args below meth c V 4 0 0 (QI V below args s post) 6 [(0, .ref (eA V 0)), (1, .int v1), (2, .int v2), (3, .int v3)] [] u) (v1 : Int32) (v2 : Int32) (v3 : Int32) (u : PoS) (h : wj_X11_driest_29 k6 post v1 v2 v3 u) : AtS p l e (Rm 1) s m args below meth c V 4 0 0 (QI V below args s post) 29 [(0, .ref (eA V 0)), (1, .int v1), (2, .int v2), (3, .int v3)] [] u := by
  rw [wj_X11_driest_29] at h
  refine a_iinc C (v3 + 1) 3 [(3, .int (v3 + 1)), (0, .ref (eA V 0)), (1, .int v1), (2, .int v2)] dX11_driest_29 rfl (congrArg (fun z => v3 + z) (show Int32.ofInt 1 = 1 by decide)) (by decide) rfl ?_
  refine a_goto C 6 dX11_driest_32 (by decide) ?_
  refine a_sub [1, 2, 3, 0] rfl ?_
  exact hk6 _ _ _ _ h
set_option maxHeartbeats 4000000 in
set_option maxRecDepth 100000 in
theorem tl_X11_driest_6 {p : Program} {l : Launch} {e : Env} {s : State} {m : MethodId} {args : Array Value} {below : List Frame} {meth : Method} {c : Code} {V : VEn} {post : Int32 → PoS → Prop} (C : CxS p s m args meth c V cX11_driest 4 RX11 (some .int)) : ∀ (n : Nat) (v1 : Int32) (v2 : Int32) (v3 : Int32) (u : PoS), wl_X11_driest_6 post n v1 v2 v3 u → AtS p l e (Rm 1) s m args below meth c V 4 0 0 (QI V below args s post) 6 [(0, .ref (eA V 0)), (1, .int v1), (2, .int v2), (3, .int v3)] [] u := by
  intro n
  induction n with
  | zero => intro v1 v2 v3 u h; exact h.elim
  | succ n ih =>
    intro v1 v2 v3 u h
    rw [wl_X11_driest_6] at h
    refine a_iload_n C 3 dX11_driest_6 rfl rfl ?_
    refine a_bipush C 30 dX11_driest_7 (by decide) ?_
    refine a_icmp_ge C 35 dX11_driest_9 (by decide) (fun c6 => ?_) (fun c6 => ?_)
    · have h := h.1 c6
      refine a_iload_n C 1 dX11_driest_35 rfl rfl ?_
      exact a_iret C dX11_driest_36 h
    · have h := h.2 c6
      refine a_aload_n C 0 dX11_driest_12 rfl rfl ?_
      refine a_iload_n C 3 dX11_driest_13 rfl rfl ?_
      refine a_callVi C dX11_driest_14 (m_X11_lacks l V h) bw_981 bw_983 bw_38 bw_112 bw_984 (by decide) rfl rfl np_X11_lacks rfl rfl (by decide) (Nat.le_of_ble_eq_true rfl) ⟨Nat.zero_le _, Nat.zero_le _⟩ (fun r1 u2 h => ?_)
      refine a_iload_n C 2 dX11_driest_17 rfl rfl ?_
      refine a_icmp_le C 29 dX11_driest_18 (by decide) (fun c5 => ?_) (fun c5 => ?_)
      · have h := h.1 c5
        refine tj_X11_driest_29 C ih _ _ _ _ h
      · have h := h.2 c5
        refine a_aload_n C 0 dX11_driest_21 rfl rfl ?_
        refine a_iload_n C 3 dX11_driest_22 rfl rfl ?_
        refine a_callVi C dX11_driest_23 (m_X11_lacks l V h) bw_981 bw_983 bw_38 bw_112 bw_984 (by decide) rfl rfl np_X11_lacks rfl rfl (by decide) (Nat.le_of_ble_eq_true rfl) ⟨Nat.zero_le _, Nat.zero_le _⟩ (fun r3 u4 h => ?_)
        refine a_istore_n C [(2, .int r3), (0, .ref (eA V 0)), (1, .int v1), (3, .int v3)] dX11_driest_26 rfl (by decide) rfl ?_
        refine a_iload_n C 3 dX11_driest_27 rfl rfl ?_
        refine a_istore_n C [(1, .int v3), (2, .int r3), (0, .ref (eA V 0)), (3, .int v3)] dX11_driest_28 rfl (by decide) rfl ?_
        refine a_sub [2, 0, 1, 3] rfl ?_
        refine tj_X11_driest_29 C ih _ _ _ _ h
theorem np_X11_driest : yX11_driest.cls ≠ "java/lang/invoke/MethodHandle" ∧ yX11_driest.cls ≠ "java/lang/invoke/VarHandle" ∧ (parseMethodDescriptor yX11_driest.desc).map (fun d => d.parameters.length) = some 0 := by decide +kernel
set_option maxHeartbeats 4000000 in
set_option maxRecDepth 100000 in
theorem m_X11_driest (l : Launch) (V : VEn) {u : PoS} {post : Int32 → PoS → Prop} (h : wp_X11_driest  u post) : KI l V yX11_driest cX11_driest 4 .int 1 [.ref (eA V 0)] u post := by
  refine KI_of (by decide) (Nat.le_of_ble_eq_true rfl) (lv := [(0, .ref (eA V 0))]) rfl ?_
  intro p e s m args below meth c C
  rw [wp_X11_driest] at h
  refine a_iconst C (-1) dX11_driest_0 (by decide) ?_
  refine a_istore_n C [(1, .int (-1)), (0, .ref (eA V 0))] dX11_driest_1 rfl (by decide) rfl ?_
  refine a_iconst C 0 dX11_driest_2 (by decide) ?_
  refine a_istore_n C [(2, .int 0), (1, .int (-1)), (0, .ref (eA V 0))] dX11_driest_3 rfl (by decide) rfl ?_
  refine a_iconst C 0 dX11_driest_4 (by decide) ?_
  refine a_istore_n C [(3, .int 0), (2, .int 0), (1, .int (-1)), (0, .ref (eA V 0))] dX11_driest_5 rfl (by decide) rfl ?_
  refine a_sub [3, 2, 1, 0] rfl ?_
  obtain ⟨n6, h⟩ := h
  refine tl_X11_driest_6 C n6 _ _ _ _ h

/-! RainOnTheOne.wettest()I -/
def wj_X11_wettest_42 (k6 : Int32 → Int32 → Int32 → PoS → Prop) (post : Int32 → PoS → Prop) (v1 : Int32) (v2 : Int32) (v3 : Int32) (u : PoS) : Prop := k6 v1 v2 (v3 + 1) u
def wl_X11_wettest_6 (post : Int32 → PoS → Prop) : Nat → Int32 → Int32 → Int32 → PoS → Prop
  | 0, _, _, _, _ => False
  | n + 1, v1, v2, v3, u => (((gI u 3 84) ≤ v3 → post v1 u) ∧ (¬ (gI u 3 84) ≤ v3 → vp_in (10 + v3) 2735 ∧ (((gI u 3 (Int32.toNatClampNeg (10 + v3))) ≤ v2 → wj_X11_wettest_42 (wl_X11_wettest_6 post n) post v1 v2 v3 u) ∧ (¬ (gI u 3 (Int32.toNatClampNeg (10 + v3))) ≤ v2 → vp_in (10 + v3) 2735 ∧ ∀ x1 : Int32, x1 = (gI u 3 (Int32.toNatClampNeg (10 + v3))) → wj_X11_wettest_42 (wl_X11_wettest_6 post n) post v3 x1 v3 u))))
def wp_X11_wettest (u : PoS) (post : Int32 → PoS → Prop) : Prop := (∃ n6, wl_X11_wettest_6 post n6 (-1) 0 0 u)
set_option maxHeartbeats 4000000 in
set_option maxRecDepth 100000 in
theorem tj_X11_wettest_42 {p : Program} {l : Launch} {e : Env} {s : State} {m : MethodId} {args : Array Value} {below : List Frame} {meth : Method} {c : Code} {V : VEn} {k6 : Int32 → Int32 → Int32 → PoS → Prop} {post : Int32 → PoS → Prop} (C : CxS p s m args meth c V cX11_wettest 4 RX11 (some .int)) (hk6 : ∀ (v1 : Int32) (v2 : Int32) (v3 : Int32) (u : PoS), k6 v1 v2 v3 u → AtS p l e (Rm 0) s m args below meth c V 4 0 0 (QI V below args s post) 6 [(0, .ref (eA V 0)), (1, .int v1), (2, .int v2), (3, .int v3)] [] u) (v1 : Int32) (v2 : Int32) (v3 : Int32) (u : PoS) (h : wj_X11_wettest_42 k6 post v1 v2 v3 u) : AtS p l e (Rm 0) s m args below meth c V 4 0 0 (QI V below args s post) 42 [(0, .ref (eA V 0)), (1, .int v1), (2, .int v2), (3, .int v3)] [] u := by
  rw [wj_X11_wettest_42] at h
  refine a_iinc C (v3 + 1) 3 [(3, .int (v3 + 1)), (0, .ref (eA V 0)), (1, .int v1), (2, .int v2)] dX11_wettest_42 rfl (congrArg (fun z => v3 + z) (show Int32.ofInt 1 = 1 by decide)) (by decide) rfl ?_
  refine a_goto C 6 dX11_wettest_45 (by decide) ?_
  refine a_sub [1, 2, 3, 0] rfl ?_
  exact hk6 _ _ _ _ h
set_option maxHeartbeats 4000000 in
set_option maxRecDepth 100000 in
theorem tl_X11_wettest_6 {p : Program} {l : Launch} {e : Env} {s : State} {m : MethodId} {args : Array Value} {below : List Frame} {meth : Method} {c : Code} {V : VEn} {post : Int32 → PoS → Prop} (C : CxS p s m args meth c V cX11_wettest 4 RX11 (some .int)) : ∀ (n : Nat) (v1 : Int32) (v2 : Int32) (v3 : Int32) (u : PoS), wl_X11_wettest_6 post n v1 v2 v3 u → AtS p l e (Rm 0) s m args below meth c V 4 0 0 (QI V below args s post) 6 [(0, .ref (eA V 0)), (1, .int v1), (2, .int v2), (3, .int v3)] [] u := by
  intro n
  induction n with
  | zero => intro v1 v2 v3 u h; exact h.elim
  | succ n ih =>
    intro v1 v2 v3 u h
    rw [wl_X11_wettest_6] at h
    refine a_iload_n C 3 dX11_wettest_6 rfl rfl ?_
    refine a_aload_n C 0 dX11_wettest_7 rfl rfl ?_
    refine a_getr C 2 (r := 3) dX11_wettest_8 (by decide) rfl rfl rfl ib_11 (by decide) bw_351 ?_
    refine a_bipush C 84 dX11_wettest_11 (by decide) ?_
    refine b_iald C 84 dX11_wettest_13 (by decide) rfl (vp_lit (by decide)) (by decide) ?_
    refine a_icmp_ge C 48 dX11_wettest_14 (by decide) (fun c3 => ?_) (fun c3 => ?_)
    · have h := h.1 c3
      refine a_iload_n C 1 dX11_wettest_48 rfl rfl ?_
      exact a_iret C dX11_wettest_49 h
    · have h := h.2 c3
      refine a_aload_n C 0 dX11_wettest_17 rfl rfl ?_
      refine a_getr C 2 (r := 3) dX11_wettest_18 (by decide) rfl rfl rfl ib_11 (by decide) bw_351 ?_
      refine a_bipush C 10 dX11_wettest_21 (by decide) ?_
      refine a_iload_n C 3 dX11_wettest_23 rfl rfl ?_
      refine a_iadd C dX11_wettest_24 ?_
      refine b_iald C (Int32.toNatClampNeg (10 + v3)) dX11_wettest_25 (by decide) rfl h.1 rfl ?_
      have h := h.2
      refine a_iload_n C 2 dX11_wettest_26 rfl rfl ?_
      refine a_icmp_le C 42 dX11_wettest_27 (by decide) (fun c2 => ?_) (fun c2 => ?_)
      · have h := h.1 c2
        refine tj_X11_wettest_42 C ih _ _ _ _ h
      · have h := h.2 c2
        refine a_aload_n C 0 dX11_wettest_30 rfl rfl ?_
        refine a_getr C 2 (r := 3) dX11_wettest_31 (by decide) rfl rfl rfl ib_11 (by decide) bw_351 ?_
        refine a_bipush C 10 dX11_wettest_34 (by decide) ?_
        refine a_iload_n C 3 dX11_wettest_36 rfl rfl ?_
        refine a_iadd C dX11_wettest_37 ?_
        refine b_iald C (Int32.toNatClampNeg (10 + v3)) dX11_wettest_38 (by decide) rfl h.1 rfl ?_
        have h := h.2
        refine a_topi (fun x1 ex1 => ?_)
        have h := h x1 ex1
        refine a_istore_n C [(2, .int x1), (0, .ref (eA V 0)), (1, .int v1), (3, .int v3)] dX11_wettest_39 rfl (by decide) rfl ?_
        refine a_iload_n C 3 dX11_wettest_40 rfl rfl ?_
        refine a_istore_n C [(1, .int v3), (2, .int x1), (0, .ref (eA V 0)), (3, .int v3)] dX11_wettest_41 rfl (by decide) rfl ?_
        refine a_sub [2, 0, 1, 3] rfl ?_
        refine tj_X11_wettest_42 C ih _ _ _ _ h
theorem np_X11_wettest : yX11_wettest.cls ≠ "java/lang/invoke/MethodHandle" ∧ yX11_wettest.cls ≠ "java/lang/invoke/VarHandle" ∧ (parseMethodDescriptor yX11_wettest.desc).map (fun d => d.parameters.length) = some 0 := by decide +kernel
set_option maxHeartbeats 4000000 in
set_option maxRecDepth 100000 in
theorem m_X11_wettest (l : Launch) (V : VEn) {u : PoS} {post : Int32 → PoS → Prop} (h : wp_X11_wettest  u post) : KI l V yX11_wettest cX11_wettest 4 .int 0 [.ref (eA V 0)] u post := by
  refine KI_of (by decide) (Nat.le_of_ble_eq_true rfl) (lv := [(0, .ref (eA V 0))]) rfl ?_
  intro p e s m args below meth c C
  rw [wp_X11_wettest] at h
  refine a_iconst C (-1) dX11_wettest_0 (by decide) ?_
  refine a_istore_n C [(1, .int (-1)), (0, .ref (eA V 0))] dX11_wettest_1 rfl (by decide) rfl ?_
  refine a_iconst C 0 dX11_wettest_2 (by decide) ?_
  refine a_istore_n C [(2, .int 0), (1, .int (-1)), (0, .ref (eA V 0))] dX11_wettest_3 rfl (by decide) rfl ?_
  refine a_iconst C 0 dX11_wettest_4 (by decide) ?_
  refine a_istore_n C [(3, .int 0), (2, .int 0), (1, .int (-1)), (0, .ref (eA V 0))] dX11_wettest_5 rfl (by decide) rfl ?_
  refine a_sub [3, 2, 1, 0] rfl ?_
  obtain ⟨n6, h⟩ := h
  refine tl_X11_wettest_6 C n6 _ _ _ _ h

/-! RainOnTheOne.near(I)I -/
def wj_X11_near_65 (k17 : Int32 → Int32 → Int32 → Int32 → Int32 → PoS → Prop) (post : Int32 → PoS → Prop) (v1 : Int32) (v2 : Int32) (v3 : Int32) (v4 : Int32) (v5 : Int32) (u : PoS) : Prop := k17 v1 v2 v3 v4 (v5 + 1) u
def wl_X11_near_17 (post : Int32 → PoS → Prop) : Nat → Int32 → Int32 → Int32 → Int32 → Int32 → PoS → Prop
  | 0, _, _, _, _, _, _ => False
  | n + 1, v1, v2, v3, v4, v5, u => (((gI u 3 84) ≤ v5 → post v3 u) ∧ (¬ (gI u 3 84) ≤ v5 → vp_in (0 + v5) 2735 ∧ wp_X1_stepsBetween (gI u 3 (Int32.toNatClampNeg (0 + v5))) v1 v2 u (fun (r3 : Int32) (u4 : PoS) => ((r3 = (-1) → wj_X11_near_65 (wl_X11_near_17 post n) post v1 v2 v3 v4 v5 u4) ∧ (¬ r3 = (-1) → ((v4 ≤ r3 → wj_X11_near_65 (wl_X11_near_17 post n) post v1 v2 v3 v4 v5 u4) ∧ (¬ v4 ≤ r3 → wj_X11_near_65 (wl_X11_near_17 post n) post v1 v2 v5 r3 v5 u4)))))))
def wp_X11_near (a0 : Int32) (u : PoS) (post : Int32 → PoS → Prop) : Prop := wp_X8_open 0 u (fun (r1 : Int32) (u2 : PoS) => (∃ n17, wl_X11_near_17 post n17 a0 r1 (-1) 30 0 u2))
set_option maxHeartbeats 4000000 in
set_option maxRecDepth 100000 in
theorem tj_X11_near_65 {p : Program} {l : Launch} {e : Env} {s : State} {m : MethodId} {args : Array Value} {below : List Frame} {meth : Method} {c : Code} {V : VEn} {k17 : Int32 → Int32 → Int32 → Int32 → Int32 → PoS → Prop} {post : Int32 → PoS → Prop} (C : CxS p s m args meth c V cX11_near 7 RX11 (some .int)) (hk17 : ∀ (v1 : Int32) (v2 : Int32) (v3 : Int32) (v4 : Int32) (v5 : Int32) (u : PoS), k17 v1 v2 v3 v4 v5 u → AtS p l e (Rm 2) s m args below meth c V 7 0 0 (QI V below args s post) 17 [(0, .ref (eA V 0)), (1, .int v1), (2, .int v2), (3, .int v3), (4, .int v4), (5, .int v5)] [] u) (v1 : Int32) (v2 : Int32) (v3 : Int32) (v4 : Int32) (v5 : Int32) (u : PoS) (h : wj_X11_near_65 k17 post v1 v2 v3 v4 v5 u) : AtS p l e (Rm 2) s m args below meth c V 7 0 0 (QI V below args s post) 65 [(0, .ref (eA V 0)), (1, .int v1), (2, .int v2), (3, .int v3), (4, .int v4), (5, .int v5)] [] u := by
  rw [wj_X11_near_65] at h
  refine a_iinc C (v5 + 1) 5 [(5, .int (v5 + 1)), (0, .ref (eA V 0)), (1, .int v1), (2, .int v2), (3, .int v3), (4, .int v4)] dX11_near_65 rfl (congrArg (fun z => v5 + z) (show Int32.ofInt 1 = 1 by decide)) (by decide) rfl ?_
  refine a_goto C 17 dX11_near_68 (by decide) ?_
  refine a_sub [1, 2, 3, 4, 5, 0] rfl ?_
  exact hk17 _ _ _ _ _ _ h
set_option maxHeartbeats 4000000 in
set_option maxRecDepth 100000 in
theorem tl_X11_near_17 {p : Program} {l : Launch} {e : Env} {s : State} {m : MethodId} {args : Array Value} {below : List Frame} {meth : Method} {c : Code} {V : VEn} {post : Int32 → PoS → Prop} (C : CxS p s m args meth c V cX11_near 7 RX11 (some .int)) : ∀ (n : Nat) (v1 : Int32) (v2 : Int32) (v3 : Int32) (v4 : Int32) (v5 : Int32) (u : PoS), wl_X11_near_17 post n v1 v2 v3 v4 v5 u → AtS p l e (Rm 2) s m args below meth c V 7 0 0 (QI V below args s post) 17 [(0, .ref (eA V 0)), (1, .int v1), (2, .int v2), (3, .int v3), (4, .int v4), (5, .int v5)] [] u := by
  intro n
  induction n with
  | zero => intro v1 v2 v3 v4 v5 u h; exact h.elim
  | succ n ih =>
    intro v1 v2 v3 v4 v5 u h
    rw [wl_X11_near_17] at h
    refine a_iload C 5 dX11_near_17 rfl ?_
    refine a_aload_n C 0 dX11_near_19 rfl rfl ?_
    refine a_getr C 2 (r := 3) dX11_near_20 (by decide) rfl rfl rfl ib_11 (by decide) bw_351 ?_
    refine a_bipush C 84 dX11_near_23 (by decide) ?_
    refine b_iald C 84 dX11_near_25 (by decide) rfl (vp_lit (by decide)) (by decide) ?_
    refine a_icmp_ge C 71 dX11_near_26 (by decide) (fun c7 => ?_) (fun c7 => ?_)
    · have h := h.1 c7
      refine a_iload_n C 3 dX11_near_71 rfl rfl ?_
      exact a_iret C dX11_near_72 h
    · have h := h.2 c7
      refine a_aload_n C 0 dX11_near_29 rfl rfl ?_
      refine a_getr C 2 (r := 3) dX11_near_30 (by decide) rfl rfl rfl ib_11 (by decide) bw_351 ?_
      refine a_iconst C 0 dX11_near_33 (by decide) ?_
      refine a_iload C 5 dX11_near_34 rfl ?_
      refine a_iadd C dX11_near_36 ?_
      refine b_iald C (Int32.toNatClampNeg (0 + v5)) dX11_near_37 (by decide) rfl h.1 rfl ?_
      have h := h.2
      refine a_iload_n C 1 dX11_near_38 rfl rfl ?_
      refine a_iload_n C 2 dX11_near_39 rfl rfl ?_
      refine a_callSi C dX11_near_40 (m_X1_stepsBetween l V h) bw_820 bw_686 bw_129 bw_687 np_X1_stepsBetween rfl rfl (by decide) (Nat.le_of_ble_eq_true rfl) ⟨Nat.zero_le _, Nat.zero_le _⟩ (fun r3 u4 h => ?_)
      refine a_istore C [(6, .int r3), (0, .ref (eA V 0)), (1, .int v1), (2, .int v2), (3, .int v3), (4, .int v4), (5, .int v5)] dX11_near_43 (by decide) rfl ?_
      refine a_iload C 0 dX11_near_45 rfl ?_
      refine a_iconst C (-1) dX11_near_47 (by decide) ?_
      refine a_icmp_eq C 65 dX11_near_48 (by decide) (fun c6 => ?_) (fun c6 => ?_)
      · have h := h.1 c6
        refine a_sub [1, 2, 3, 4, 5, 6] rfl ?_
        refine tj_X11_near_65 C ih _ _ _ _ _ _ h
      · have h := h.2 c6
        refine a_iload C 0 dX11_near_51 rfl ?_
        refine a_iload C 5 dX11_near_53 rfl ?_
        refine a_icmp_ge C 65 dX11_near_55 (by decide) (fun c5 => ?_) (fun c5 => ?_)
        · have h := h.1 c5
          refine a_sub [1, 2, 3, 4, 5, 6] rfl ?_
          refine tj_X11_near_65 C ih _ _ _ _ _ _ h
        · have h := h.2 c5
          refine a_iload C 0 dX11_near_58 rfl ?_
          refine a_istore C [(4, .int r3), (6, .int r3), (0, .ref (eA V 0)), (1, .int v1), (2, .int v2), (3, .int v3), (5, .int v5)] dX11_near_60 (by decide) rfl ?_
          refine a_iload C 6 dX11_near_62 rfl ?_
          refine a_istore_n C [(3, .int v5), (4, .int r3), (6, .int r3), (0, .ref (eA V 0)), (1, .int v1), (2, .int v2), (5, .int v5)] dX11_near_64 rfl (by decide) rfl ?_
          refine a_sub [3, 4, 5, 0, 1, 6] rfl ?_
          refine tj_X11_near_65 C ih _ _ _ _ _ _ h
theorem np_X11_near : yX11_near.cls ≠ "java/lang/invoke/MethodHandle" ∧ yX11_near.cls ≠ "java/lang/invoke/VarHandle" ∧ (parseMethodDescriptor yX11_near.desc).map (fun d => d.parameters.length) = some 1 := by decide +kernel
set_option maxHeartbeats 4000000 in
set_option maxRecDepth 100000 in
theorem m_X11_near (l : Launch) (V : VEn) {a0 : Int32} {u : PoS} {post : Int32 → PoS → Prop} (h : wp_X11_near a0 u post) : KI l V yX11_near cX11_near 7 .int 2 [.ref (eA V 0), .int a0] u post := by
  refine KI_of (by decide) (Nat.le_of_ble_eq_true rfl) (lv := [(0, .ref (eA V 0)), (1, .int a0)]) rfl ?_
  intro p e s m args below meth c C
  rw [wp_X11_near] at h
  refine a_aload_n C 0 dX11_near_0 rfl rfl ?_
  refine a_getr C 0 (r := 1) dX11_near_1 (by decide) rfl rfl rfl ib_11 (by decide) bw_349 ?_
  refine a_callVi C dX11_near_4 (m_X8_open l V (by decide) h) bw_819 bw_681 bw_682 bw_120 bw_683 (by decide) rfl rfl np_X8_open rfl rfl (by decide) (Nat.le_of_ble_eq_true rfl) ⟨Nat.zero_le _, Nat.zero_le _⟩ (fun r1 u2 h => ?_)
  refine a_istore_n C [(2, .int r1), (0, .ref (eA V 0)), (1, .int a0)] dX11_near_7 rfl (by decide) rfl ?_
  refine a_iconst C (-1) dX11_near_8 (by decide) ?_
  refine a_istore_n C [(3, .int (-1)), (2, .int r1), (0, .ref (eA V 0)), (1, .int a0)] dX11_near_9 rfl (by decide) rfl ?_
  refine a_bipush C 30 dX11_near_10 (by decide) ?_
  refine a_istore C [(4, .int 30), (3, .int (-1)), (2, .int r1), (0, .ref (eA V 0)), (1, .int a0)] dX11_near_12 (by decide) rfl ?_
  refine a_iconst C 0 dX11_near_14 (by decide) ?_
  refine a_istore C [(5, .int 0), (4, .int 30), (3, .int (-1)), (2, .int r1), (0, .ref (eA V 0)), (1, .int a0)] dX11_near_15 (by decide) rfl ?_
  refine a_sub [4, 5, 3, 2, 1, 0] rfl ?_
  obtain ⟨n17, h⟩ := h
  refine tl_X11_near_17 C n17 _ _ _ _ _ _ h

/-! RainOnTheOne.ledger(I)I -/
def wj_X11_ledger_64 (k20 : Int32 → Int32 → Int32 → PoS → Prop) (post : Int32 → PoS → Prop) (v1 : Int32) (v2 : Int32) (v3 : Int32) (u : PoS) : Prop := k20 v1 v2 (v3 + 1) u
def wj_X11_ledger_56 (k20 : Int32 → Int32 → Int32 → PoS → Prop) (post : Int32 → PoS → Prop) (v1 : Int32) (v2 : Int32) (v3 : Int32) (v4 : Int32) (u : PoS) : Prop := wp_X5_waterIn v4 u (fun (r2 : Int32) (u3 : PoS) => ∀ x4 : Int32, x4 = (v2 + r2) → wj_X11_ledger_64 k20 post v1 x4 v3 u3)
def wl_X11_ledger_20 (post : Int32 → PoS → Prop) : Nat → Int32 → Int32 → Int32 → PoS → Prop
  | 0, _, _, _, _ => False
  | n + 1, v1, v2, v3, u => (((gI u 3 53) ≤ v3 → post v2 u) ∧ (¬ (gI u 3 53) ≤ v3 → vp_in (54 + v3) 2735 ∧ ∀ x1 : Int32, x1 = (gI u 3 (Int32.toNatClampNeg (54 + v3))) → ((v1 = (-1) → wj_X11_ledger_56 (wl_X11_ledger_20 post n) post v1 v2 v3 x1 u) ∧ (¬ v1 = (-1) → wp_X5_personIn x1 u (fun (r5 : Int32) (u6 : PoS) => ((¬ r5 = v1 → wj_X11_ledger_64 (wl_X11_ledger_20 post n) post v1 v2 v3 u6) ∧ (r5 = v1 → wj_X11_ledger_56 (wl_X11_ledger_20 post n) post v1 v2 v3 x1 u6)))))))
def wj_X11_ledger_16 (post : Int32 → PoS → Prop) (v1 : Int32) (u : PoS) : Prop := (∃ n20, wl_X11_ledger_20 post n20 v1 0 0 u)
def wp_X11_ledger (a0 : Int32) (u : PoS) (post : Int32 → PoS → Prop) : Prop := ((a0 = (-1) → wj_X11_ledger_16 post a0 u) ∧ (¬ a0 = (-1) → wp_X11_isPerson a0 u (fun (r10 : Int32) (u11 : PoS) => ((¬ r10 = 0 → wj_X11_ledger_16 post a0 u11) ∧ (r10 = 0 → post (-2) u11)))))
set_option maxHeartbeats 4000000 in
set_option maxRecDepth 100000 in
theorem tj_X11_ledger_64 {p : Program} {l : Launch} {e : Env} {s : State} {m : MethodId} {args : Array Value} {below : List Frame} {meth : Method} {c : Code} {V : VEn} {k20 : Int32 → Int32 → Int32 → PoS → Prop} {post : Int32 → PoS → Prop} (C : CxS p s m args meth c V cX11_ledger 5 RX11 (some .int)) (hk20 : ∀ (v1 : Int32) (v2 : Int32) (v3 : Int32) (u : PoS), k20 v1 v2 v3 u → AtS p l e (Rm 1) s m args below meth c V 5 0 0 (QI V below args s post) 20 [(0, .ref (eA V 0)), (1, .int v1), (2, .int v2), (3, .int v3)] [] u) (v1 : Int32) (v2 : Int32) (v3 : Int32) (u : PoS) (h : wj_X11_ledger_64 k20 post v1 v2 v3 u) : AtS p l e (Rm 1) s m args below meth c V 5 0 0 (QI V below args s post) 64 [(0, .ref (eA V 0)), (1, .int v1), (2, .int v2), (3, .int v3)] [] u := by
  rw [wj_X11_ledger_64] at h
  refine a_iinc C (v3 + 1) 3 [(3, .int (v3 + 1)), (0, .ref (eA V 0)), (1, .int v1), (2, .int v2)] dX11_ledger_64 rfl (congrArg (fun z => v3 + z) (show Int32.ofInt 1 = 1 by decide)) (by decide) rfl ?_
  refine a_goto C 20 dX11_ledger_67 (by decide) ?_
  refine a_sub [1, 2, 3, 0] rfl ?_
  exact hk20 _ _ _ _ h
set_option maxHeartbeats 4000000 in
set_option maxRecDepth 100000 in
theorem tj_X11_ledger_56 {p : Program} {l : Launch} {e : Env} {s : State} {m : MethodId} {args : Array Value} {below : List Frame} {meth : Method} {c : Code} {V : VEn} {k20 : Int32 → Int32 → Int32 → PoS → Prop} {post : Int32 → PoS → Prop} (C : CxS p s m args meth c V cX11_ledger 5 RX11 (some .int)) (hk20 : ∀ (v1 : Int32) (v2 : Int32) (v3 : Int32) (u : PoS), k20 v1 v2 v3 u → AtS p l e (Rm 1) s m args below meth c V 5 0 0 (QI V below args s post) 20 [(0, .ref (eA V 0)), (1, .int v1), (2, .int v2), (3, .int v3)] [] u) (v1 : Int32) (v2 : Int32) (v3 : Int32) (v4 : Int32) (u : PoS) (h : wj_X11_ledger_56 k20 post v1 v2 v3 v4 u) : AtS p l e (Rm 1) s m args below meth c V 5 0 0 (QI V below args s post) 56 [(0, .ref (eA V 0)), (1, .int v1), (2, .int v2), (3, .int v3), (4, .int v4)] [] u := by
  rw [wj_X11_ledger_56] at h
  refine a_iload_n C 2 dX11_ledger_56 rfl rfl ?_
  refine a_iload C 4 dX11_ledger_57 rfl ?_
  refine a_callSi C dX11_ledger_59 (m_X5_waterIn l V h) bw_804 bw_805 bw_130 bw_806 np_X5_waterIn rfl rfl (by decide) (Nat.le_of_ble_eq_true rfl) ⟨Nat.zero_le _, Nat.zero_le _⟩ (fun r2 u3 h => ?_)
  refine a_iadd C dX11_ledger_62 ?_
  refine a_topi (fun x4 ex4 => ?_)
  have h := h x4 ex4
  refine a_istore_n C [(2, .int x4), (0, .ref (eA V 0)), (1, .int v1), (3, .int v3), (4, .int v4)] dX11_ledger_63 rfl (by decide) rfl ?_
  refine a_sub [1, 2, 0, 3] rfl ?_
  refine tj_X11_ledger_64 C hk20 _ _ _ _ h
set_option maxHeartbeats 4000000 in
set_option maxRecDepth 100000 in
theorem tl_X11_ledger_20 {p : Program} {l : Launch} {e : Env} {s : State} {m : MethodId} {args : Array Value} {below : List Frame} {meth : Method} {c : Code} {V : VEn} {post : Int32 → PoS → Prop} (C : CxS p s m args meth c V cX11_ledger 5 RX11 (some .int)) : ∀ (n : Nat) (v1 : Int32) (v2 : Int32) (v3 : Int32) (u : PoS), wl_X11_ledger_20 post n v1 v2 v3 u → AtS p l e (Rm 1) s m args below meth c V 5 0 0 (QI V below args s post) 20 [(0, .ref (eA V 0)), (1, .int v1), (2, .int v2), (3, .int v3)] [] u := by
  intro n
  induction n with
  | zero => intro v1 v2 v3 u h; exact h.elim
  | succ n ih =>
    intro v1 v2 v3 u h
    rw [wl_X11_ledger_20] at h
    refine a_iload_n C 3 dX11_ledger_20 rfl rfl ?_
    refine a_aload_n C 0 dX11_ledger_21 rfl rfl ?_
    refine a_getr C 2 (r := 3) dX11_ledger_22 (by decide) rfl rfl rfl ib_11 (by decide) bw_351 ?_
    refine a_bipush C 53 dX11_ledger_25 (by decide) ?_
    refine b_iald C 53 dX11_ledger_27 (by decide) rfl (vp_lit (by decide)) (by decide) ?_
    refine a_icmp_ge C 70 dX11_ledger_28 (by decide) (fun c9 => ?_) (fun c9 => ?_)
    · have h := h.1 c9
      refine a_iload_n C 2 dX11_ledger_70 rfl rfl ?_
      exact a_iret C dX11_ledger_71 h
    · have h := h.2 c9
      refine a_aload_n C 0 dX11_ledger_31 rfl rfl ?_
      refine a_getr C 2 (r := 3) dX11_ledger_32 (by decide) rfl rfl rfl ib_11 (by decide) bw_351 ?_
      refine a_bipush C 54 dX11_ledger_35 (by decide) ?_
      refine a_iload_n C 3 dX11_ledger_37 rfl rfl ?_
      refine a_iadd C dX11_ledger_38 ?_
      refine b_iald C (Int32.toNatClampNeg (54 + v3)) dX11_ledger_39 (by decide) rfl h.1 rfl ?_
      have h := h.2
      refine a_topi (fun x1 ex1 => ?_)
      have h := h x1 ex1
      refine a_istore C [(4, .int x1), (0, .ref (eA V 0)), (1, .int v1), (2, .int v2), (3, .int v3)] dX11_ledger_40 (by decide) rfl ?_
      refine a_iload_n C 2 dX11_ledger_42 rfl rfl ?_
      refine a_iconst C (-1) dX11_ledger_43 (by decide) ?_
      refine a_icmp_eq C 56 dX11_ledger_44 (by decide) (fun c8 => ?_) (fun c8 => ?_)
      · have h := h.1 c8
        refine a_sub [1, 2, 3, 4, 0] rfl ?_
        refine tj_X11_ledger_56 C ih _ _ _ _ _ h
      · have h := h.2 c8
        refine a_iload C 0 dX11_ledger_47 rfl ?_
        refine a_callSi C dX11_ledger_49 (m_X5_personIn l V h) bw_798 bw_799 bw_130 bw_800 np_X5_personIn rfl rfl (by decide) (Nat.le_of_ble_eq_true rfl) ⟨Nat.zero_le _, Nat.zero_le _⟩ (fun r5 u6 h => ?_)
        refine a_iload_n C 2 dX11_ledger_52 rfl rfl ?_
        refine a_icmp_ne C 64 dX11_ledger_53 (by decide) (fun c7 => ?_) (fun c7 => ?_)
        · have h := h.1 c7
          refine a_sub [1, 2, 3, 4] rfl ?_
          refine tj_X11_ledger_64 C ih _ _ _ _ h
        · have h := h.2 c7
          refine a_sub [1, 2, 3, 4, 0] rfl ?_
          refine tj_X11_ledger_56 C ih _ _ _ _ _ h
set_option maxHeartbeats 4000000 in
set_option maxRecDepth 100000 in
theorem tj_X11_ledger_16 {p : Program} {l : Launch} {e : Env} {s : State} {m : MethodId} {args : Array Value} {below : List Frame} {meth : Method} {c : Code} {V : VEn} {post : Int32 → PoS → Prop} (C : CxS p s m args meth c V cX11_ledger 5 RX11 (some .int)) (v1 : Int32) (u : PoS) (h : wj_X11_ledger_16 post v1 u) : AtS p l e (Rm 1) s m args below meth c V 5 0 0 (QI V below args s post) 16 [(0, .ref (eA V 0)), (1, .int v1)] [] u := by
  rw [wj_X11_ledger_16] at h
  refine a_iconst C 0 dX11_ledger_16 (by decide) ?_
  refine a_istore_n C [(2, .int 0), (0, .ref (eA V 0)), (1, .int v1)] dX11_ledger_17 rfl (by decide) rfl ?_
  refine a_iconst C 0 dX11_ledger_18 (by decide) ?_
  refine a_istore_n C [(3, .int 0), (2, .int 0), (0, .ref (eA V 0)), (1, .int v1)] dX11_ledger_19 rfl (by decide) rfl ?_
  refine a_sub [2, 3, 1, 0] rfl ?_
  obtain ⟨n20, h⟩ := h
  refine tl_X11_ledger_20 C n20 _ _ _ _ h
theorem np_X11_ledger : yX11_ledger.cls ≠ "java/lang/invoke/MethodHandle" ∧ yX11_ledger.cls ≠ "java/lang/invoke/VarHandle" ∧ (parseMethodDescriptor yX11_ledger.desc).map (fun d => d.parameters.length) = some 1 := by decide +kernel
set_option maxHeartbeats 4000000 in
set_option maxRecDepth 100000 in
theorem m_X11_ledger (l : Launch) (V : VEn) {a0 : Int32} {u : PoS} {post : Int32 → PoS → Prop} (h : wp_X11_ledger a0 u post) : KI l V yX11_ledger cX11_ledger 5 .int 1 [.ref (eA V 0), .int a0] u post := by
  refine KI_of (by decide) (Nat.le_of_ble_eq_true rfl) (lv := [(0, .ref (eA V 0)), (1, .int a0)]) rfl ?_
  intro p e s m args below meth c C
  rw [wp_X11_ledger] at h
  refine a_iload_n C 1 dX11_ledger_0 rfl rfl ?_
  refine a_iconst C (-1) dX11_ledger_1 (by decide) ?_
  refine a_icmp_eq C 16 dX11_ledger_2 (by decide) (fun c13 => ?_) (fun c13 => ?_)
  · have h := h.1 c13
    refine tj_X11_ledger_16 C _ _ h
  · have h := h.2 c13
    refine a_aload_n C 0 dX11_ledger_5 rfl rfl ?_
    refine a_iload_n C 1 dX11_ledger_6 rfl rfl ?_
    refine a_callVi C dX11_ledger_7 (m_X11_isPerson l V h) bw_626 bw_628 bw_21 bw_112 bw_629 (by decide) rfl rfl np_X11_isPerson rfl rfl (by decide) (Nat.le_of_ble_eq_true rfl) ⟨Nat.zero_le _, Nat.zero_le _⟩ (fun r10 u11 h => ?_)
    refine a_if_ne C 16 dX11_ledger_10 (by decide) (fun c12 => ?_) (fun c12 => ?_)
    · have h := h.1 c12
      refine tj_X11_ledger_16 C _ _ h
    · have h := h.2 c12
      refine a_bipush C (-2) dX11_ledger_13 (by decide) ?_
      exact a_iret C dX11_ledger_15 h

/-! RainOnTheOne.image()I -/
def wp_X11_image (u : PoS) (post : Int32 → PoS → Prop) : Prop := (¬ (0 : Int32) < 0 ∧ ¬ (0 : Int32) < 0 ∧ ¬ (2735 : Int32) < 0 ∧ Int32.toNatClampNeg 0 + Int32.toNatClampNeg 2735 ≤ 2735 ∧ Int32.toNatClampNeg 0 + Int32.toNatClampNeg 2735 ≤ 2735) ∧ ∀ z1 : PoS, z1 = cI u 3 5 (Int32.toNatClampNeg 0) (Int32.toNatClampNeg 0) (Int32.toNatClampNeg 2735) → post (gI z1 3 51) z1
theorem np_X11_image : yX11_image.cls ≠ "java/lang/invoke/MethodHandle" ∧ yX11_image.cls ≠ "java/lang/invoke/VarHandle" ∧ (parseMethodDescriptor yX11_image.desc).map (fun d => d.parameters.length) = some 0 := by decide +kernel
set_option maxHeartbeats 4000000 in
set_option maxRecDepth 100000 in
theorem m_X11_image (l : Launch) (V : VEn) {u : PoS} {post : Int32 → PoS → Prop} (h : wp_X11_image  u post) : KI l V yX11_image cX11_image 1 .int 1 [.ref (eA V 0)] u post := by
  refine KI_of (by decide) (Nat.le_of_ble_eq_true rfl) (lv := [(0, .ref (eA V 0))]) rfl ?_
  intro p e s m args below meth c C
  rw [wp_X11_image] at h
  refine a_aload_n C 0 dX11_image_0 rfl rfl ?_
  refine a_getr C 2 (r := 3) dX11_image_1 (by decide) rfl rfl rfl ib_11 (by decide) bw_351 ?_
  refine a_iconst C 0 dX11_image_4 (by decide) ?_
  refine a_aload_n C 0 dX11_image_5 rfl rfl ?_
  refine a_getr C 3 (r := 5) dX11_image_6 (by decide) rfl rfl rfl ib_11 (by decide) bw_352 ?_
  refine a_iconst C 0 dX11_image_9 (by decide) ?_
  refine a_sipush C 2735 dX11_image_10 (by decide) ?_
  obtain ⟨⟨q1, q2, q3, q4, q5⟩, h⟩ := h
  refine a_copy C dX11_image_13 bw_346 bw_348 bw_347 bw_122 (by decide) (by decide) rfl rfl q1 q2 q3 q4 q5 (by decide) (Nat.le_of_ble_eq_true rfl) ?_
  refine a_topu (fun z1 ez1 => ?_)
  have h := h z1 ez1
  refine a_aload_n C 0 dX11_image_16 rfl rfl ?_
  refine a_getr C 2 (r := 3) dX11_image_17 (by decide) rfl rfl rfl ib_11 (by decide) bw_351 ?_
  refine a_bipush C 51 dX11_image_20 (by decide) ?_
  refine b_iald C 51 dX11_image_22 (by decide) rfl (vp_lit (by decide)) (by decide) ?_
  exact a_iret C dX11_image_23 h

/-! RainOnTheOne.back()I -/
def wp_X11_back (u : PoS) (post : Int32 → PoS → Prop) : Prop := (¬ (0 : Int32) < 0 ∧ ¬ (0 : Int32) < 0 ∧ ¬ (2735 : Int32) < 0 ∧ Int32.toNatClampNeg 0 + Int32.toNatClampNeg 2735 ≤ 2735 ∧ Int32.toNatClampNeg 0 + Int32.toNatClampNeg 2735 ≤ 2735) ∧ ∀ z1 : PoS, z1 = cI u 5 3 (Int32.toNatClampNeg 0) (Int32.toNatClampNeg 0) (Int32.toNatClampNeg 2735) → post (gI z1 3 51) z1
theorem np_X11_back : yX11_back.cls ≠ "java/lang/invoke/MethodHandle" ∧ yX11_back.cls ≠ "java/lang/invoke/VarHandle" ∧ (parseMethodDescriptor yX11_back.desc).map (fun d => d.parameters.length) = some 0 := by decide +kernel
set_option maxHeartbeats 4000000 in
set_option maxRecDepth 100000 in
theorem m_X11_back (l : Launch) (V : VEn) {u : PoS} {post : Int32 → PoS → Prop} (h : wp_X11_back  u post) : KI l V yX11_back cX11_back 1 .int 1 [.ref (eA V 0)] u post := by
  refine KI_of (by decide) (Nat.le_of_ble_eq_true rfl) (lv := [(0, .ref (eA V 0))]) rfl ?_
  intro p e s m args below meth c C
  rw [wp_X11_back] at h
  refine a_aload_n C 0 dX11_back_0 rfl rfl ?_
  refine a_getr C 3 (r := 5) dX11_back_1 (by decide) rfl rfl rfl ib_11 (by decide) bw_352 ?_
  refine a_iconst C 0 dX11_back_4 (by decide) ?_
  refine a_aload_n C 0 dX11_back_5 rfl rfl ?_
  refine a_getr C 2 (r := 3) dX11_back_6 (by decide) rfl rfl rfl ib_11 (by decide) bw_351 ?_
  refine a_iconst C 0 dX11_back_9 (by decide) ?_
  refine a_sipush C 2735 dX11_back_10 (by decide) ?_
  obtain ⟨⟨q1, q2, q3, q4, q5⟩, h⟩ := h
  refine a_copy C dX11_back_13 bw_346 bw_348 bw_347 bw_122 (by decide) (by decide) rfl rfl q1 q2 q3 q4 q5 (by decide) (Nat.le_of_ble_eq_true rfl) ?_
  refine a_topu (fun z1 ez1 => ?_)
  have h := h z1 ez1
  refine a_aload_n C 0 dX11_back_16 rfl rfl ?_
  refine a_getr C 2 (r := 3) dX11_back_17 (by decide) rfl rfl rfl ib_11 (by decide) bw_351 ?_
  refine a_bipush C 51 dX11_back_20 (by decide) ?_
  refine b_iald C 51 dX11_back_22 (by decide) rfl (vp_lit (by decide)) (by decide) ?_
  exact a_iret C dX11_back_23 h

/-! RainOnTheOne.about(I)I -/
def wp_X11_about (a0 : Int32) (u : PoS) (post : Int32 → PoS → Prop) : Prop := ((a0 = 0 → post (gI u 3 84) u) ∧ (a0 = 1 → post (gI u 3 117) u) ∧ (a0 = 2 → post (gI u 3 116) u) ∧ (a0 = 3 → post (gI u 3 183) u) ∧ (a0 = 4 → post (gI u 3 153) u) ∧ (a0 = 5 → post (gI u 3 166) u) ∧ (a0 = 6 → post (gI u 0 7) u) ∧ (¬ a0 = 0 → ¬ a0 = 1 → ¬ a0 = 2 → ¬ a0 = 3 → ¬ a0 = 4 → ¬ a0 = 5 → ¬ a0 = 6 → post (-2) u))
theorem np_X11_about : yX11_about.cls ≠ "java/lang/invoke/MethodHandle" ∧ yX11_about.cls ≠ "java/lang/invoke/VarHandle" ∧ (parseMethodDescriptor yX11_about.desc).map (fun d => d.parameters.length) = some 1 := by decide +kernel
set_option maxHeartbeats 4000000 in
set_option maxRecDepth 100000 in
theorem m_X11_about (l : Launch) (V : VEn) {a0 : Int32} {u : PoS} {post : Int32 → PoS → Prop} (h : wp_X11_about a0 u post) : KI l V yX11_about cX11_about 2 .int 0 [.ref (eA V 0), .int a0] u post := by
  refine KI_of (by decide) (Nat.le_of_ble_eq_true rfl) (lv := [(0, .ref (eA V 0)), (1, .int a0)]) rfl ?_
  intro p e s m args below meth c C
  rw [wp_X11_about] at h
  refine a_iload_n C 1 dX11_about_0 rfl rfl ?_
  obtain ⟨hs0, hs1, hs2, hs3, hs4, hs5, hs6, hd0⟩ := h
  by_cases hq0 : a0 = 0
  · have h := hs0 hq0
    refine a_tableIn C (off := 43) 44 dX11_about_1 (by rw [hq0]; decide) (by rw [hq0]; decide) (by rw [hq0]; decide +kernel) (by decide) ?_
    refine a_aload_n C 0 dX11_about_44 rfl rfl ?_
    refine a_getr C 2 (r := 3) dX11_about_45 (by decide) rfl rfl rfl ib_11 (by decide) bw_351 ?_
    refine a_bipush C 84 dX11_about_48 (by decide) ?_
    refine b_iald C 84 dX11_about_50 (by decide) rfl (vp_lit (by decide)) (by decide) ?_
    exact a_iret C dX11_about_51 h
  by_cases hq1 : a0 = 1
  · have h := hs1 hq1
    refine a_tableIn C (off := 51) 52 dX11_about_1 (by rw [hq1]; decide) (by rw [hq1]; decide) (by rw [hq1]; decide +kernel) (by decide) ?_
    refine a_aload_n C 0 dX11_about_52 rfl rfl ?_
    refine a_getr C 2 (r := 3) dX11_about_53 (by decide) rfl rfl rfl ib_11 (by decide) bw_351 ?_
    refine a_bipush C 117 dX11_about_56 (by decide) ?_
    refine b_iald C 117 dX11_about_58 (by decide) rfl (vp_lit (by decide)) (by decide) ?_
    exact a_iret C dX11_about_59 h
  by_cases hq2 : a0 = 2
  · have h := hs2 hq2
    refine a_tableIn C (off := 59) 60 dX11_about_1 (by rw [hq2]; decide) (by rw [hq2]; decide) (by rw [hq2]; decide +kernel) (by decide) ?_
    refine a_aload_n C 0 dX11_about_60 rfl rfl ?_
    refine a_getr C 2 (r := 3) dX11_about_61 (by decide) rfl rfl rfl ib_11 (by decide) bw_351 ?_
    refine a_bipush C 116 dX11_about_64 (by decide) ?_
    refine b_iald C 116 dX11_about_66 (by decide) rfl (vp_lit (by decide)) (by decide) ?_
    exact a_iret C dX11_about_67 h
  by_cases hq3 : a0 = 3
  · have h := hs3 hq3
    refine a_tableIn C (off := 67) 68 dX11_about_1 (by rw [hq3]; decide) (by rw [hq3]; decide) (by rw [hq3]; decide +kernel) (by decide) ?_
    refine a_aload_n C 0 dX11_about_68 rfl rfl ?_
    refine a_getr C 2 (r := 3) dX11_about_69 (by decide) rfl rfl rfl ib_11 (by decide) bw_351 ?_
    refine a_sipush C 183 dX11_about_72 (by decide) ?_
    refine b_iald C 183 dX11_about_75 (by decide) rfl (vp_lit (by decide)) (by decide) ?_
    exact a_iret C dX11_about_76 h
  by_cases hq4 : a0 = 4
  · have h := hs4 hq4
    refine a_tableIn C (off := 76) 77 dX11_about_1 (by rw [hq4]; decide) (by rw [hq4]; decide) (by rw [hq4]; decide +kernel) (by decide) ?_
    refine a_aload_n C 0 dX11_about_77 rfl rfl ?_
    refine a_getr C 2 (r := 3) dX11_about_78 (by decide) rfl rfl rfl ib_11 (by decide) bw_351 ?_
    refine a_sipush C 153 dX11_about_81 (by decide) ?_
    refine b_iald C 153 dX11_about_84 (by decide) rfl (vp_lit (by decide)) (by decide) ?_
    exact a_iret C dX11_about_85 h
  by_cases hq5 : a0 = 5
  · have h := hs5 hq5
    refine a_tableIn C (off := 85) 86 dX11_about_1 (by rw [hq5]; decide) (by rw [hq5]; decide) (by rw [hq5]; decide +kernel) (by decide) ?_
    refine a_aload_n C 0 dX11_about_86 rfl rfl ?_
    refine a_getr C 2 (r := 3) dX11_about_87 (by decide) rfl rfl rfl ib_11 (by decide) bw_351 ?_
    refine a_sipush C 166 dX11_about_90 (by decide) ?_
    refine b_iald C 166 dX11_about_93 (by decide) rfl (vp_lit (by decide)) (by decide) ?_
    exact a_iret C dX11_about_94 h
  by_cases hq6 : a0 = 6
  · have h := hs6 hq6
    refine a_tableIn C (off := 94) 95 dX11_about_1 (by rw [hq6]; decide) (by rw [hq6]; decide) (by rw [hq6]; decide +kernel) (by decide) ?_
    refine a_aload_n C 0 dX11_about_95 rfl rfl ?_
    refine a_geti C 7 dX11_about_96 (by decide) rfl rfl rfl ib_11 (by decide) bw_356 ?_
    exact a_iret C dX11_about_99 h
  have h := hd0 hq0 hq1 hq2 hq3 hq4 hq5 hq6
  refine a_tableOut C 100 dX11_about_1 (tsw_out 0 6 (fun q h1 h2 => by rcases (show q = 0 ∨ q = 1 ∨ q = 2 ∨ q = 3 ∨ q = 4 ∨ q = 5 ∨ q = 6 by omega) with rfl | rfl | rfl | rfl | rfl | rfl | rfl <;> first | exact lv_neT hq0 (by decide) | exact lv_neT hq1 (by decide) | exact lv_neT hq2 (by decide) | exact lv_neT hq3 (by decide) | exact lv_neT hq4 (by decide) | exact lv_neT hq5 (by decide) | exact lv_neT hq6 (by decide))) (by decide) ?_
  refine a_bipush C (-2) dX11_about_100 (by decide) ?_
  exact a_iret C dX11_about_102 h

/-! RainOnTheOneModel.copy([I[I)V -/
def wl_X12_copyA_2 (post : PoS → Prop) : Nat → Int32 → PoS → Prop
  | 0, _, _ => False
  | n + 1, v2, u => ((3703 ≤ v2 → post u) ∧ (¬ 3703 ≤ v2 → vp_in v2 3703 ∧ vp_in v2 3703 ∧ ∀ z1 : PoS, z1 = pI u 50 (Int32.toNatClampNeg v2) (gI u 49 (Int32.toNatClampNeg v2)) → wl_X12_copyA_2 post n (v2 + 1) z1))
def wp_X12_copyA (u : PoS) (post : PoS → Prop) : Prop := (∃ n2, wl_X12_copyA_2 post n2 0 u)
set_option maxHeartbeats 4000000 in
set_option maxRecDepth 100000 in
theorem tl_X12_copyA_2 {p : Program} {l : Launch} {e : Env} {s : State} {m : MethodId} {args : Array Value} {below : List Frame} {meth : Method} {c : Code} {V : VEn} {post : PoS → Prop} (C : CxS p s m args meth c V cX12_copy 3 RX12 none) : ∀ (n : Nat) (v2 : Int32) (u : PoS), wl_X12_copyA_2 post n v2 u → AtS p l e (Rm 0) s m args below meth c V 3 0 0 (QV V below args s post) 2 [(0, .ref (eA V 49)), (1, .ref (eA V 50)), (2, .int v2)] [] u := by
  intro n
  induction n with
  | zero => intro v2 u h; exact h.elim
  | succ n ih =>
    intro v2 u h
    rw [wl_X12_copyA_2] at h
    refine a_iload_n C 2 dX12_copy_2 rfl rfl ?_
    refine a_sipush C 3703 dX12_copy_3 (by decide) ?_
    refine a_icmp_ge C 21 dX12_copy_6 (by decide) (fun c2 => ?_) (fun c2 => ?_)
    · have h := h.1 c2
      exact a_vret C dX12_copy_21 h
    · have h := h.2 c2
      refine a_aload_n C 1 dX12_copy_9 rfl rfl ?_
      refine a_iload_n C 2 dX12_copy_10 rfl rfl ?_
      refine a_aload_n C 0 dX12_copy_11 rfl rfl ?_
      refine a_iload_n C 2 dX12_copy_12 rfl rfl ?_
      refine b_iald C (Int32.toNatClampNeg v2) dX12_copy_13 (by decide) rfl h.1 rfl ?_
      have h := h.2
      refine b_iast C (Int32.toNatClampNeg v2) dX12_copy_14 (by decide) rfl h.1 rfl ?_
      have h := h.2
      refine a_topu (fun z1 ez1 => ?_)
      have h := h z1 ez1
      refine a_iinc C (v2 + 1) 2 [(2, .int (v2 + 1)), (0, .ref (eA V 49)), (1, .ref (eA V 50))] dX12_copy_15 rfl (congrArg (fun z => v2 + z) (show Int32.ofInt 1 = 1 by decide)) (by decide) rfl ?_
      refine a_goto C 2 dX12_copy_18 (by decide) ?_
      refine a_sub [1, 2, 0] rfl ?_
      exact ih _ _ h
theorem np_X12_copyA : yX12_copy.cls ≠ "java/lang/invoke/MethodHandle" ∧ yX12_copy.cls ≠ "java/lang/invoke/VarHandle" ∧ (parseMethodDescriptor yX12_copy.desc).map (fun d => d.parameters.length) = some 2 := by decide +kernel
set_option maxHeartbeats 4000000 in
set_option maxRecDepth 100000 in
theorem m_X12_copyA (l : Launch) (V : VEn) {u : PoS} {post : PoS → Prop} (h : wp_X12_copyA  u post) : KV l V yX12_copy cX12_copy 3 0 [.ref (eA V 49), .ref (eA V 50)] u post := by
  refine KV_of (by decide) (Nat.le_of_ble_eq_true rfl) (lv := [(0, .ref (eA V 49)), (1, .ref (eA V 50))]) rfl ?_
  intro p e s m args below meth c C
  rw [wp_X12_copyA] at h
  refine a_iconst C 0 dX12_copy_0 (by decide) ?_
  refine a_istore_n C [(2, .int 0), (0, .ref (eA V 49)), (1, .ref (eA V 50))] dX12_copy_1 rfl (by decide) rfl ?_
  refine a_sub [1, 2, 0] rfl ?_
  obtain ⟨n2, h⟩ := h
  refine tl_X12_copyA_2 C n2 _ _ h

/-! RainOnTheOneModel.copy([I[I)V -/
def wl_X12_copyB_2 (post : PoS → Prop) : Nat → Int32 → PoS → Prop
  | 0, _, _ => False
  | n + 1, v2, u => ((3703 ≤ v2 → post u) ∧ (¬ 3703 ≤ v2 → vp_in v2 3703 ∧ vp_in v2 3703 ∧ ∀ z1 : PoS, z1 = pI u 49 (Int32.toNatClampNeg v2) (gI u 50 (Int32.toNatClampNeg v2)) → wl_X12_copyB_2 post n (v2 + 1) z1))
def wp_X12_copyB (u : PoS) (post : PoS → Prop) : Prop := (∃ n2, wl_X12_copyB_2 post n2 0 u)
set_option maxHeartbeats 4000000 in
set_option maxRecDepth 100000 in
theorem tl_X12_copyB_2 {p : Program} {l : Launch} {e : Env} {s : State} {m : MethodId} {args : Array Value} {below : List Frame} {meth : Method} {c : Code} {V : VEn} {post : PoS → Prop} (C : CxS p s m args meth c V cX12_copy 3 RX12 none) : ∀ (n : Nat) (v2 : Int32) (u : PoS), wl_X12_copyB_2 post n v2 u → AtS p l e (Rm 0) s m args below meth c V 3 0 0 (QV V below args s post) 2 [(0, .ref (eA V 50)), (1, .ref (eA V 49)), (2, .int v2)] [] u := by
  intro n
  induction n with
  | zero => intro v2 u h; exact h.elim
  | succ n ih =>
    intro v2 u h
    rw [wl_X12_copyB_2] at h
    refine a_iload_n C 2 dX12_copy_2 rfl rfl ?_
    refine a_sipush C 3703 dX12_copy_3 (by decide) ?_
    refine a_icmp_ge C 21 dX12_copy_6 (by decide) (fun c2 => ?_) (fun c2 => ?_)
    · have h := h.1 c2
      exact a_vret C dX12_copy_21 h
    · have h := h.2 c2
      refine a_aload_n C 1 dX12_copy_9 rfl rfl ?_
      refine a_iload_n C 2 dX12_copy_10 rfl rfl ?_
      refine a_aload_n C 0 dX12_copy_11 rfl rfl ?_
      refine a_iload_n C 2 dX12_copy_12 rfl rfl ?_
      refine b_iald C (Int32.toNatClampNeg v2) dX12_copy_13 (by decide) rfl h.1 rfl ?_
      have h := h.2
      refine b_iast C (Int32.toNatClampNeg v2) dX12_copy_14 (by decide) rfl h.1 rfl ?_
      have h := h.2
      refine a_topu (fun z1 ez1 => ?_)
      have h := h z1 ez1
      refine a_iinc C (v2 + 1) 2 [(2, .int (v2 + 1)), (0, .ref (eA V 50)), (1, .ref (eA V 49))] dX12_copy_15 rfl (congrArg (fun z => v2 + z) (show Int32.ofInt 1 = 1 by decide)) (by decide) rfl ?_
      refine a_goto C 2 dX12_copy_18 (by decide) ?_
      refine a_sub [1, 2, 0] rfl ?_
      exact ih _ _ h
theorem np_X12_copyB : yX12_copy.cls ≠ "java/lang/invoke/MethodHandle" ∧ yX12_copy.cls ≠ "java/lang/invoke/VarHandle" ∧ (parseMethodDescriptor yX12_copy.desc).map (fun d => d.parameters.length) = some 2 := by decide +kernel
set_option maxHeartbeats 4000000 in
set_option maxRecDepth 100000 in
theorem m_X12_copyB (l : Launch) (V : VEn) {u : PoS} {post : PoS → Prop} (h : wp_X12_copyB  u post) : KV l V yX12_copy cX12_copy 3 0 [.ref (eA V 50), .ref (eA V 49)] u post := by
  refine KV_of (by decide) (Nat.le_of_ble_eq_true rfl) (lv := [(0, .ref (eA V 50)), (1, .ref (eA V 49))]) rfl ?_
  intro p e s m args below meth c C
  rw [wp_X12_copyB] at h
  refine a_iconst C 0 dX12_copy_0 (by decide) ?_
  refine a_istore_n C [(2, .int 0), (0, .ref (eA V 50)), (1, .ref (eA V 49))] dX12_copy_1 rfl (by decide) rfl ?_
  refine a_sub [1, 2, 0] rfl ?_
  obtain ⟨n2, h⟩ := h
  refine tl_X12_copyB_2 C n2 _ _ h

/-! RainOnTheOneModel.isIn(III)Z -/
def wp_X12_isIn (a0 : Int32) (a1 : Int32) (a2 : Int32) (u : PoS) (post : Int32 → PoS → Prop) : Prop := ((a0 < a1 → post 0 u) ∧ (¬ a0 < a1 → ((a2 < a0 → post 0 u) ∧ (¬ a2 < a0 → post 1 u))))
theorem np_X12_isIn : yX12_isIn.cls ≠ "java/lang/invoke/MethodHandle" ∧ yX12_isIn.cls ≠ "java/lang/invoke/VarHandle" ∧ (parseMethodDescriptor yX12_isIn.desc).map (fun d => d.parameters.length) = some 3 := by decide +kernel
set_option maxHeartbeats 4000000 in
set_option maxRecDepth 100000 in
theorem m_X12_isIn (l : Launch) (V : VEn) {a0 : Int32} {a1 : Int32} {a2 : Int32} {u : PoS} {post : Int32 → PoS → Prop} (h : wp_X12_isIn a0 a1 a2 u post) : KI l V yX12_isIn cX12_isIn 3 .boolean 0 [.int a0, .int a1, .int a2] u post := by
  refine KI_of (by decide) (Nat.le_of_ble_eq_true rfl) (lv := [(0, .int a0), (1, .int a1), (2, .int a2)]) rfl ?_
  intro p e s m args below meth c C
  rw [wp_X12_isIn] at h
  refine a_iload_n C 0 dX12_isIn_0 rfl rfl ?_
  refine a_iload_n C 1 dX12_isIn_1 rfl rfl ?_
  refine a_icmp_lt C 14 dX12_isIn_2 (by decide) (fun c2 => ?_) (fun c2 => ?_)
  · have h := h.1 c2
    refine a_iconst C 0 dX12_isIn_14 (by decide) ?_
    exact a_zret C rfl dX12_isIn_15 h
  · have h := h.2 c2
    refine a_iload_n C 0 dX12_isIn_5 rfl rfl ?_
    refine a_iload_n C 2 dX12_isIn_6 rfl rfl ?_
    refine a_icmp_gt C 14 dX12_isIn_7 (by decide) (fun c1 => ?_) (fun c1 => ?_)
    · have h := h.1 c1
      refine a_iconst C 0 dX12_isIn_14 (by decide) ?_
      exact a_zret C rfl dX12_isIn_15 h
    · have h := h.2 c1
      refine a_iconst C 1 dX12_isIn_10 (by decide) ?_
      refine a_goto C 15 dX12_isIn_11 (by decide) ?_
      exact a_zret C rfl dX12_isIn_15 h

/-! RainOnTheOneModel.held(JII)I -/
def wp_X12_held (a0 : Int64) (a1 : Int32) (a2 : Int32) (u : PoS) (post : Int32 → PoS → Prop) : Prop := ((0 ≤ (lg_cmp a0 (Int32.toInt64 a1)) → (((lg_cmp a0 (Int32.toInt64 a2)) ≤ 0 → post (Int64.toInt32 a0) u) ∧ (¬ (lg_cmp a0 (Int32.toInt64 a2)) ≤ 0 → post a2 u))) ∧ (¬ 0 ≤ (lg_cmp a0 (Int32.toInt64 a1)) → post a1 u))
theorem np_X12_held : yX12_held.cls ≠ "java/lang/invoke/MethodHandle" ∧ yX12_held.cls ≠ "java/lang/invoke/VarHandle" ∧ (parseMethodDescriptor yX12_held.desc).map (fun d => d.parameters.length) = some 3 := by decide +kernel
set_option maxHeartbeats 4000000 in
set_option maxRecDepth 100000 in
theorem m_X12_held (l : Launch) (V : VEn) {a0 : Int64} {a1 : Int32} {a2 : Int32} {u : PoS} {post : Int32 → PoS → Prop} (h : wp_X12_held a0 a1 a2 u post) : KI l V yX12_held cX12_held 4 .int 0 [.long a0, .int a1, .int a2] u post := by
  refine KI_of (by decide) (Nat.le_of_ble_eq_true rfl) (lv := [(0, .long a0), (2, .int a1), (3, .int a2)]) rfl ?_
  intro p e s m args below meth c C
  rw [wp_X12_held] at h
  refine a_lload_n C 0 dX12_held_0 rfl rfl ?_
  refine a_iload_n C 1 dX12_held_1 rfl rfl ?_
  refine a_i2l C dX12_held_2 ?_
  refine a_lcmp C dX12_held_3 ?_
  refine a_if_ge C 11 dX12_held_4 (by decide) (fun c2 => ?_) (fun c2 => ?_)
  · have h := h.1 c2
    refine a_lload_n C 0 dX12_held_11 rfl rfl ?_
    refine a_iload_n C 2 dX12_held_12 rfl rfl ?_
    refine a_i2l C dX12_held_13 ?_
    refine a_lcmp C dX12_held_14 ?_
    refine a_if_le C 22 dX12_held_15 (by decide) (fun c1 => ?_) (fun c1 => ?_)
    · have h := h.1 c1
      refine a_lload_n C 0 dX12_held_22 rfl rfl ?_
      refine a_l2i C dX12_held_23 ?_
      exact a_iret C dX12_held_24 h
    · have h := h.2 c1
      refine a_iload_n C 2 dX12_held_18 rfl rfl ?_
      refine a_goto C 24 dX12_held_19 (by decide) ?_
      exact a_iret C dX12_held_24 h
  · have h := h.2 c2
    refine a_iload_n C 1 dX12_held_7 rfl rfl ?_
    refine a_goto C 24 dX12_held_8 (by decide) ?_
    exact a_iret C dX12_held_24 h

/-! RainOnTheOneModel.has(II)Z -/
def wp_X12_has (a0 : Int32) (a1 : Int32) (u : PoS) (post : Int32 → PoS → Prop) : Prop := ((¬ ((a0 >>> (a1 &&& 31)) &&& 1) = 1 → post 0 u) ∧ (((a0 >>> (a1 &&& 31)) &&& 1) = 1 → post 1 u))
theorem np_X12_has : yX12_has.cls ≠ "java/lang/invoke/MethodHandle" ∧ yX12_has.cls ≠ "java/lang/invoke/VarHandle" ∧ (parseMethodDescriptor yX12_has.desc).map (fun d => d.parameters.length) = some 2 := by decide +kernel
set_option maxHeartbeats 4000000 in
set_option maxRecDepth 100000 in
theorem m_X12_has (l : Launch) (V : VEn) {a0 : Int32} {a1 : Int32} {u : PoS} {post : Int32 → PoS → Prop} (h : wp_X12_has a0 a1 u post) : KI l V yX12_has cX12_has 2 .boolean 0 [.int a0, .int a1] u post := by
  refine KI_of (by decide) (Nat.le_of_ble_eq_true rfl) (lv := [(0, .int a0), (1, .int a1)]) rfl ?_
  intro p e s m args below meth c C
  rw [wp_X12_has] at h
  refine a_iload_n C 0 dX12_has_0 rfl rfl ?_
  refine a_iload_n C 1 dX12_has_1 rfl rfl ?_
  refine a_ishr C dX12_has_2 ?_
  refine a_iconst C 1 dX12_has_3 (by decide) ?_
  refine a_iand C dX12_has_4 ?_
  refine a_iconst C 1 dX12_has_5 (by decide) ?_
  refine a_icmp_ne C 13 dX12_has_6 (by decide) (fun c1 => ?_) (fun c1 => ?_)
  · have h := h.1 c1
    refine a_iconst C 0 dX12_has_13 (by decide) ?_
    exact a_zret C rfl dX12_has_14 h
  · have h := h.2 c1
    refine a_iconst C 1 dX12_has_9 (by decide) ?_
    refine a_goto C 14 dX12_has_10 (by decide) ?_
    exact a_zret C rfl dX12_has_14 h

/-! RainOnTheOneModel.bits(I)I -/
def wl_X12_bits_4 (post : Int32 → PoS → Prop) : Nat → Int32 → Int32 → PoS → Prop
  | 0, _, _, _ => False
  | n + 1, v1, v2, u => ((v2 = 0 → post v1 u) ∧ (¬ v2 = 0 → ∀ x1 : Int32, x1 = (v2 &&& (v2 - 1)) → wl_X12_bits_4 post n (v1 + 1) x1 u))
def wp_X12_bits (a0 : Int32) (u : PoS) (post : Int32 → PoS → Prop) : Prop := (∃ n4, wl_X12_bits_4 post n4 0 a0 u)
set_option maxHeartbeats 4000000 in
set_option maxRecDepth 100000 in
theorem tl_X12_bits_4 {p : Program} {l : Launch} {e : Env} {s : State} {m : MethodId} {args : Array Value} {below : List Frame} {meth : Method} {c : Code} {V : VEn} {post : Int32 → PoS → Prop} (C : CxS p s m args meth c V cX12_bits 3 RX12 (some .int)) : ∀ (n : Nat) (v1 : Int32) (v2 : Int32) (u : PoS), wl_X12_bits_4 post n v1 v2 u → AtS p l e (Rm 0) s m args below meth c V 3 0 0 (QI V below args s post) 4 [(1, .int v1), (2, .int v2)] [] u := by
  intro n
  induction n with
  | zero => intro v1 v2 u h; exact h.elim
  | succ n ih =>
    intro v1 v2 u h
    rw [wl_X12_bits_4] at h
    refine a_iload_n C 1 dX12_bits_4 rfl rfl ?_
    refine a_if_eq C 20 dX12_bits_5 (by decide) (fun c2 => ?_) (fun c2 => ?_)
    · have h := h.1 c2
      refine a_iload_n C 0 dX12_bits_20 rfl rfl ?_
      exact a_iret C dX12_bits_21 h
    · have h := h.2 c2
      refine a_iinc C (v1 + 1) 0 [(1, .int (v1 + 1)), (2, .int v2)] dX12_bits_8 rfl (congrArg (fun z => v1 + z) (show Int32.ofInt 1 = 1 by decide)) (by decide) rfl ?_
      refine a_iload_n C 1 dX12_bits_11 rfl rfl ?_
      refine a_iload_n C 1 dX12_bits_12 rfl rfl ?_
      refine a_iconst C 1 dX12_bits_13 (by decide) ?_
      refine a_isub C dX12_bits_14 ?_
      refine a_iand C dX12_bits_15 ?_
      refine a_topi (fun x1 ex1 => ?_)
      have h := h x1 ex1
      refine a_istore_n C [(2, .int x1), (1, .int (v1 + 1))] dX12_bits_16 rfl (by decide) rfl ?_
      refine a_goto C 4 dX12_bits_17 (by decide) ?_
      refine a_sub [1, 0] rfl ?_
      exact ih _ _ _ h
theorem np_X12_bits : yX12_bits.cls ≠ "java/lang/invoke/MethodHandle" ∧ yX12_bits.cls ≠ "java/lang/invoke/VarHandle" ∧ (parseMethodDescriptor yX12_bits.desc).map (fun d => d.parameters.length) = some 1 := by decide +kernel
set_option maxHeartbeats 4000000 in
set_option maxRecDepth 100000 in
theorem m_X12_bits (l : Launch) (V : VEn) {a0 : Int32} {u : PoS} {post : Int32 → PoS → Prop} (h : wp_X12_bits a0 u post) : KI l V yX12_bits cX12_bits 3 .int 0 [.int a0] u post := by
  refine KI_of (by decide) (Nat.le_of_ble_eq_true rfl) (lv := [(0, .int a0)]) rfl ?_
  intro p e s m args below meth c C
  rw [wp_X12_bits] at h
  refine a_iconst C 0 dX12_bits_0 (by decide) ?_
  refine a_istore_n C [(1, .int 0), (0, .int a0)] dX12_bits_1 rfl (by decide) rfl ?_
  refine a_iload_n C 1 dX12_bits_2 rfl rfl ?_
  refine a_istore_n C [(2, .int a0), (1, .int 0), (0, .int a0)] dX12_bits_3 rfl (by decide) rfl ?_
  refine a_sub [1, 0] rfl ?_
  obtain ⟨n4, h⟩ := h
  refine tl_X12_bits_4 C n4 _ _ _ h

/-! RainOnTheOneModel.isCell(I)Z -/
def wp_X12_isCell (a0 : Int32) (u : PoS) (post : Int32 → PoS → Prop) : Prop := wp_X12_isIn a0 0 29 u (fun (r1 : Int32) (u2 : PoS) => IsB r1 ∧ post r1 u2)
theorem np_X12_isCell : yX12_isCell.cls ≠ "java/lang/invoke/MethodHandle" ∧ yX12_isCell.cls ≠ "java/lang/invoke/VarHandle" ∧ (parseMethodDescriptor yX12_isCell.desc).map (fun d => d.parameters.length) = some 1 := by decide +kernel
set_option maxHeartbeats 4000000 in
set_option maxRecDepth 100000 in
theorem m_X12_isCell (l : Launch) (V : VEn) {a0 : Int32} {u : PoS} {post : Int32 → PoS → Prop} (h : wp_X12_isCell a0 u post) : KI l V yX12_isCell cX12_isCell 1 .boolean 1 [.int a0] u post := by
  refine KI_of (by decide) (Nat.le_of_ble_eq_true rfl) (lv := [(0, .int a0)]) rfl ?_
  intro p e s m args below meth c C
  rw [wp_X12_isCell] at h
  refine a_iload_n C 0 dX12_isCell_0 rfl rfl ?_
  refine a_iconst C 0 dX12_isCell_1 (by decide) ?_
  refine a_bipush C 29 dX12_isCell_2 (by decide) ?_
  refine a_callSi C dX12_isCell_4 (m_X12_isIn l V h) bw_1147 bw_1148 bw_123 bw_1149 np_X12_isIn rfl rfl (by decide) (Nat.le_of_ble_eq_true rfl) ⟨Nat.zero_le _, Nat.zero_le _⟩ (fun r1 u2 h => ?_)
  exact a_zret C (isB_n h.1) dX12_isCell_7 h.2

/-! RainOnTheOneModel.isFree(I)Z -/
def wp_X12_isFree (a0 : Int32) (u : PoS) (post : Int32 → PoS → Prop) : Prop := wp_X12_isCell a0 u (fun (r1 : Int32) (u2 : PoS) => ((r1 = 0 → post 0 u2) ∧ (¬ r1 = 0 → vp_in (100 + a0) 3703 ∧ ((¬ (gI u2 49 (Int32.toNatClampNeg (100 + a0))) = 0 → post 0 u2) ∧ ((gI u2 49 (Int32.toNatClampNeg (100 + a0))) = 0 → post 1 u2)))))
theorem np_X12_isFree : yX12_isFree.cls ≠ "java/lang/invoke/MethodHandle" ∧ yX12_isFree.cls ≠ "java/lang/invoke/VarHandle" ∧ (parseMethodDescriptor yX12_isFree.desc).map (fun d => d.parameters.length) = some 1 := by decide +kernel
set_option maxHeartbeats 4000000 in
set_option maxRecDepth 100000 in
theorem m_X12_isFree (l : Launch) (V : VEn) {a0 : Int32} {u : PoS} {post : Int32 → PoS → Prop} (h : wp_X12_isFree a0 u post) : KI l V yX12_isFree cX12_isFree 2 .boolean 2 [.ref (eA V 48), .int a0] u post := by
  refine KI_of (by decide) (Nat.le_of_ble_eq_true rfl) (lv := [(0, .ref (eA V 48)), (1, .int a0)]) rfl ?_
  intro p e s m args below meth c C
  rw [wp_X12_isFree] at h
  refine a_iload_n C 1 dX12_isFree_0 rfl rfl ?_
  refine a_callSi C dX12_isFree_1 (m_X12_isCell l V h) bw_1144 bw_1145 bw_123 bw_1146 np_X12_isCell rfl rfl (by decide) (Nat.le_of_ble_eq_true rfl) ⟨Nat.zero_le _, Nat.zero_le _⟩ (fun r1 u2 h => ?_)
  refine a_if_eq C 23 dX12_isFree_4 (by decide) (fun c4 => ?_) (fun c4 => ?_)
  · have h := h.1 c4
    refine a_iconst C 0 dX12_isFree_23 (by decide) ?_
    exact a_zret C rfl dX12_isFree_24 h
  · have h := h.2 c4
    refine a_aload_n C 0 dX12_isFree_7 rfl rfl ?_
    refine a_getr C 0 (r := 49) dX12_isFree_8 (by decide) rfl rfl rfl ib_12 (by decide) bw_1022 ?_
    refine a_bipush C 100 dX12_isFree_11 (by decide) ?_
    refine a_iload_n C 1 dX12_isFree_13 rfl rfl ?_
    refine a_iadd C dX12_isFree_14 ?_
    refine b_iald C (Int32.toNatClampNeg (100 + a0)) dX12_isFree_15 (by decide) rfl h.1 rfl ?_
    have h := h.2
    refine a_if_ne C 23 dX12_isFree_16 (by decide) (fun c3 => ?_) (fun c3 => ?_)
    · have h := h.1 c3
      refine a_iconst C 0 dX12_isFree_23 (by decide) ?_
      exact a_zret C rfl dX12_isFree_24 h
    · have h := h.2 c3
      refine a_iconst C 1 dX12_isFree_19 (by decide) ?_
      refine a_goto C 24 dX12_isFree_20 (by decide) ?_
      exact a_zret C rfl dX12_isFree_24 h

/-! RainOnTheOneModel.isPerson(I)Z -/
def wp_X12_isPerson (a0 : Int32) (u : PoS) (post : Int32 → PoS → Prop) : Prop := wp_X12_isIn a0 0 ((gI u 49 0) - 1) u (fun (r1 : Int32) (u2 : PoS) => IsB r1 ∧ post r1 u2)
theorem np_X12_isPerson : yX12_isPerson.cls ≠ "java/lang/invoke/MethodHandle" ∧ yX12_isPerson.cls ≠ "java/lang/invoke/VarHandle" ∧ (parseMethodDescriptor yX12_isPerson.desc).map (fun d => d.parameters.length) = some 1 := by decide +kernel
set_option maxHeartbeats 4000000 in
set_option maxRecDepth 100000 in
theorem m_X12_isPerson (l : Launch) (V : VEn) {a0 : Int32} {u : PoS} {post : Int32 → PoS → Prop} (h : wp_X12_isPerson a0 u post) : KI l V yX12_isPerson cX12_isPerson 2 .boolean 1 [.ref (eA V 48), .int a0] u post := by
  refine KI_of (by decide) (Nat.le_of_ble_eq_true rfl) (lv := [(0, .ref (eA V 48)), (1, .int a0)]) rfl ?_
  intro p e s m args below meth c C
  rw [wp_X12_isPerson] at h
  refine a_iload_n C 1 dX12_isPerson_0 rfl rfl ?_
  refine a_iconst C 0 dX12_isPerson_1 (by decide) ?_
  refine a_aload_n C 0 dX12_isPerson_2 rfl rfl ?_
  refine a_getr C 0 (r := 49) dX12_isPerson_3 (by decide) rfl rfl rfl ib_12 (by decide) bw_1022 ?_
  refine a_iconst C 0 dX12_isPerson_6 (by decide) ?_
  refine b_iald C 0 dX12_isPerson_7 (by decide) rfl (vp_lit (by decide)) (by decide) ?_
  refine a_iconst C 1 dX12_isPerson_8 (by decide) ?_
  refine a_isub C dX12_isPerson_9 ?_
  refine a_callSi C dX12_isPerson_10 (m_X12_isIn l V h) bw_1147 bw_1148 bw_123 bw_1149 np_X12_isIn rfl rfl (by decide) (Nat.le_of_ble_eq_true rfl) ⟨Nat.zero_le _, Nat.zero_le _⟩ (fun r1 u2 h => ?_)
  exact a_zret C (isB_n h.1) dX12_isPerson_13 h.2

/-! RainOnTheOneModel.get(II)I -/
def wp_X12_get (a0 : Int32) (a1 : Int32) (u : PoS) (post : Int32 → PoS → Prop) : Prop := vp_in ((10 + (6 * a0)) + a1) 3703 ∧ post (gI u 49 (Int32.toNatClampNeg ((10 + (6 * a0)) + a1))) u
theorem np_X12_get : yX12_get.cls ≠ "java/lang/invoke/MethodHandle" ∧ yX12_get.cls ≠ "java/lang/invoke/VarHandle" ∧ (parseMethodDescriptor yX12_get.desc).map (fun d => d.parameters.length) = some 2 := by decide +kernel
set_option maxHeartbeats 4000000 in
set_option maxRecDepth 100000 in
theorem m_X12_get (l : Launch) (V : VEn) {a0 : Int32} {a1 : Int32} {u : PoS} {post : Int32 → PoS → Prop} (h : wp_X12_get a0 a1 u post) : KI l V yX12_get cX12_get 3 .int 0 [.ref (eA V 48), .int a0, .int a1] u post := by
  refine KI_of (by decide) (Nat.le_of_ble_eq_true rfl) (lv := [(0, .ref (eA V 48)), (1, .int a0), (2, .int a1)]) rfl ?_
  intro p e s m args below meth c C
  rw [wp_X12_get] at h
  refine a_aload_n C 0 dX12_get_0 rfl rfl ?_
  refine a_getr C 0 (r := 49) dX12_get_1 (by decide) rfl rfl rfl ib_12 (by decide) bw_1022 ?_
  refine a_bipush C 10 dX12_get_4 (by decide) ?_
  refine a_bipush C 6 dX12_get_6 (by decide) ?_
  refine a_iload_n C 1 dX12_get_8 rfl rfl ?_
  refine a_imul C dX12_get_9 ?_
  refine a_iadd C dX12_get_10 ?_
  refine a_iload_n C 2 dX12_get_11 rfl rfl ?_
  refine a_iadd C dX12_get_12 ?_
  refine b_iald C (Int32.toNatClampNeg ((10 + (6 * a0)) + a1)) dX12_get_13 (by decide) rfl h.1 rfl ?_
  have h := h.2
  exact a_iret C dX12_get_14 h

/-! RainOnTheOneModel.put(III)V -/
def wp_X12_put (a0 : Int32) (a1 : Int32) (a2 : Int32) (u : PoS) (post : PoS → Prop) : Prop := vp_in ((10 + (6 * a0)) + a1) 3703 ∧ ∀ z1 : PoS, z1 = pI u 49 (Int32.toNatClampNeg ((10 + (6 * a0)) + a1)) a2 → post z1
theorem np_X12_put : yX12_put.cls ≠ "java/lang/invoke/MethodHandle" ∧ yX12_put.cls ≠ "java/lang/invoke/VarHandle" ∧ (parseMethodDescriptor yX12_put.desc).map (fun d => d.parameters.length) = some 3 := by decide +kernel
set_option maxHeartbeats 4000000 in
set_option maxRecDepth 100000 in
theorem m_X12_put (l : Launch) (V : VEn) {a0 : Int32} {a1 : Int32} {a2 : Int32} {u : PoS} {post : PoS → Prop} (h : wp_X12_put a0 a1 a2 u post) : KV l V yX12_put cX12_put 4 0 [.ref (eA V 48), .int a0, .int a1, .int a2] u post := by
  refine KV_of (by decide) (Nat.le_of_ble_eq_true rfl) (lv := [(0, .ref (eA V 48)), (1, .int a0), (2, .int a1), (3, .int a2)]) rfl ?_
  intro p e s m args below meth c C
  rw [wp_X12_put] at h
  refine a_aload_n C 0 dX12_put_0 rfl rfl ?_
  refine a_getr C 0 (r := 49) dX12_put_1 (by decide) rfl rfl rfl ib_12 (by decide) bw_1022 ?_
  refine a_bipush C 10 dX12_put_4 (by decide) ?_
  refine a_bipush C 6 dX12_put_6 (by decide) ?_
  refine a_iload_n C 1 dX12_put_8 rfl rfl ?_
  refine a_imul C dX12_put_9 ?_
  refine a_iadd C dX12_put_10 ?_
  refine a_iload_n C 2 dX12_put_11 rfl rfl ?_
  refine a_iadd C dX12_put_12 ?_
  refine a_iload_n C 3 dX12_put_13 rfl rfl ?_
  refine b_iast C (Int32.toNatClampNeg ((10 + (6 * a0)) + a1)) dX12_put_14 (by decide) rfl h.1 rfl ?_
  have h := h.2
  refine a_topu (fun z1 ez1 => ?_)
  have h := h z1 ez1
  exact a_vret C dX12_put_15 h

/-! RainOnTheOneModel.sideOf(II)I -/
def wp_X12_sideOf (a0 : Int32) (a1 : Int32) (u : PoS) (post : Int32 → PoS → Prop) : Prop := ((a1 = 0 → ((a0 < 6 → post (-1) u) ∧ (¬ a0 < 6 → post (a0 - 6) u))) ∧ (a1 = 1 → (((irem a0 6) ≤ 0 → post (-1) u) ∧ (¬ (irem a0 6) ≤ 0 → post (a0 - 1) u))) ∧ (a1 = 2 → ((5 ≤ (irem a0 6) → post (-1) u) ∧ (¬ 5 ≤ (irem a0 6) → post (a0 + 1) u))) ∧ (¬ a1 = 0 → ¬ a1 = 1 → ¬ a1 = 2 → ((24 ≤ a0 → post (-1) u) ∧ (¬ 24 ≤ a0 → post (a0 + 6) u))))
theorem np_X12_sideOf : yX12_sideOf.cls ≠ "java/lang/invoke/MethodHandle" ∧ yX12_sideOf.cls ≠ "java/lang/invoke/VarHandle" ∧ (parseMethodDescriptor yX12_sideOf.desc).map (fun d => d.parameters.length) = some 2 := by decide +kernel
set_option maxHeartbeats 4000000 in
set_option maxRecDepth 100000 in
theorem m_X12_sideOf (l : Launch) (V : VEn) {a0 : Int32} {a1 : Int32} {u : PoS} {post : Int32 → PoS → Prop} (h : wp_X12_sideOf a0 a1 u post) : KI l V yX12_sideOf cX12_sideOf 2 .int 0 [.int a0, .int a1] u post := by
  refine KI_of (by decide) (Nat.le_of_ble_eq_true rfl) (lv := [(0, .int a0), (1, .int a1)]) rfl ?_
  intro p e s m args below meth c C
  rw [wp_X12_sideOf] at h
  refine a_iload_n C 1 dX12_sideOf_0 rfl rfl ?_
  obtain ⟨hs0, hs1, hs2, hd0⟩ := h
  by_cases hq0 : a1 = 0
  · have h := hs0 hq0
    refine a_tableIn C (off := 27) 28 dX12_sideOf_1 (by rw [hq0]; decide) (by rw [hq0]; decide) (by rw [hq0]; decide +kernel) (by decide) ?_
    refine a_iload_n C 0 dX12_sideOf_28 rfl rfl ?_
    refine a_bipush C 6 dX12_sideOf_29 (by decide) ?_
    refine a_icmp_lt C 41 dX12_sideOf_31 (by decide) (fun c1 => ?_) (fun c1 => ?_)
    · have h := h.1 c1
      refine a_iconst C (-1) dX12_sideOf_41 (by decide) ?_
      exact a_iret C dX12_sideOf_42 h
    · have h := h.2 c1
      refine a_iload_n C 0 dX12_sideOf_34 rfl rfl ?_
      refine a_bipush C 6 dX12_sideOf_35 (by decide) ?_
      refine a_isub C dX12_sideOf_37 ?_
      refine a_goto C 42 dX12_sideOf_38 (by decide) ?_
      exact a_iret C dX12_sideOf_42 h
  by_cases hq1 : a1 = 1
  · have h := hs1 hq1
    refine a_tableIn C (off := 42) 43 dX12_sideOf_1 (by rw [hq1]; decide) (by rw [hq1]; decide) (by rw [hq1]; decide +kernel) (by decide) ?_
    refine a_iload_n C 0 dX12_sideOf_43 rfl rfl ?_
    refine a_bipush C 6 dX12_sideOf_44 (by decide) ?_
    refine b_irem C dX12_sideOf_46 (by decide) ?_
    refine a_if_le C 56 dX12_sideOf_47 (by decide) (fun c2 => ?_) (fun c2 => ?_)
    · have h := h.1 c2
      refine a_iconst C (-1) dX12_sideOf_56 (by decide) ?_
      exact a_iret C dX12_sideOf_57 h
    · have h := h.2 c2
      refine a_iload_n C 0 dX12_sideOf_50 rfl rfl ?_
      refine a_iconst C 1 dX12_sideOf_51 (by decide) ?_
      refine a_isub C dX12_sideOf_52 ?_
      refine a_goto C 57 dX12_sideOf_53 (by decide) ?_
      exact a_iret C dX12_sideOf_57 h
  by_cases hq2 : a1 = 2
  · have h := hs2 hq2
    refine a_tableIn C (off := 57) 58 dX12_sideOf_1 (by rw [hq2]; decide) (by rw [hq2]; decide) (by rw [hq2]; decide +kernel) (by decide) ?_
    refine a_iload_n C 0 dX12_sideOf_58 rfl rfl ?_
    refine a_bipush C 6 dX12_sideOf_59 (by decide) ?_
    refine b_irem C dX12_sideOf_61 (by decide) ?_
    refine a_iconst C 5 dX12_sideOf_62 (by decide) ?_
    refine a_icmp_ge C 72 dX12_sideOf_63 (by decide) (fun c3 => ?_) (fun c3 => ?_)
    · have h := h.1 c3
      refine a_iconst C (-1) dX12_sideOf_72 (by decide) ?_
      exact a_iret C dX12_sideOf_73 h
    · have h := h.2 c3
      refine a_iload_n C 0 dX12_sideOf_66 rfl rfl ?_
      refine a_iconst C 1 dX12_sideOf_67 (by decide) ?_
      refine a_iadd C dX12_sideOf_68 ?_
      refine a_goto C 73 dX12_sideOf_69 (by decide) ?_
      exact a_iret C dX12_sideOf_73 h
  have h := hd0 hq0 hq1 hq2
  refine a_tableOut C 74 dX12_sideOf_1 (tsw_out 0 2 (fun q h1 h2 => by rcases (show q = 0 ∨ q = 1 ∨ q = 2 by omega) with rfl | rfl | rfl <;> first | exact lv_neT hq0 (by decide) | exact lv_neT hq1 (by decide) | exact lv_neT hq2 (by decide))) (by decide) ?_
  refine a_iload_n C 0 dX12_sideOf_74 rfl rfl ?_
  refine a_bipush C 24 dX12_sideOf_75 (by decide) ?_
  refine a_icmp_ge C 87 dX12_sideOf_77 (by decide) (fun c4 => ?_) (fun c4 => ?_)
  · have h := h.1 c4
    refine a_iconst C (-1) dX12_sideOf_87 (by decide) ?_
    exact a_iret C dX12_sideOf_88 h
  · have h := h.2 c4
    refine a_iload_n C 0 dX12_sideOf_80 rfl rfl ?_
    refine a_bipush C 6 dX12_sideOf_81 (by decide) ?_
    refine a_iadd C dX12_sideOf_83 ?_
    refine a_goto C 88 dX12_sideOf_84 (by decide) ?_
    exact a_iret C dX12_sideOf_88 h

/-! RainOnTheOneModel.beside(I)I -/
def wj_X12_beside_30 (k4 : Int32 → Int32 → Int32 → PoS → Prop) (post : Int32 → PoS → Prop) (v0 : Int32) (v2 : Int32) (s0 : Int32) (s1 : Int32) (u : PoS) : Prop := ∀ x5 : Int32, x5 = (s1 ||| s0) → k4 v0 x5 (v2 + 1) u
def wl_X12_beside_4 (post : Int32 → PoS → Prop) : Nat → Int32 → Int32 → Int32 → PoS → Prop
  | 0, _, _, _, _ => False
  | n + 1, v0, v1, v2, u => ((4 ≤ v2 → post v1 u) ∧ (¬ 4 ≤ v2 → wp_X12_sideOf v0 v2 u (fun (r1 : Int32) (u2 : PoS) => ((¬ r1 = (-1) → wp_X12_sideOf v0 v2 u2 (fun (r3 : Int32) (u4 : PoS) => wj_X12_beside_30 (wl_X12_beside_4 post n) post v0 v2 (1 <<< (r3 &&& 31)) v1 u4)) ∧ (r1 = (-1) → wj_X12_beside_30 (wl_X12_beside_4 post n) post v0 v2 0 v1 u2)))))
def wp_X12_beside (a0 : Int32) (u : PoS) (post : Int32 → PoS → Prop) : Prop := (∃ n4, wl_X12_beside_4 post n4 a0 0 0 u)
set_option maxHeartbeats 4000000 in
set_option maxRecDepth 100000 in
theorem tj_X12_beside_30 {p : Program} {l : Launch} {e : Env} {s : State} {m : MethodId} {args : Array Value} {below : List Frame} {meth : Method} {c : Code} {V : VEn} {k4 : Int32 → Int32 → Int32 → PoS → Prop} {post : Int32 → PoS → Prop} (C : CxS p s m args meth c V cX12_beside 3 RX12 (some .int)) (hk4 : ∀ (v0 : Int32) (v1 : Int32) (v2 : Int32) (u : PoS), k4 v0 v1 v2 u → AtS p l e (Rm 1) s m args below meth c V 3 0 0 (QI V below args s post) 4 [(0, .int v0), (1, .int v1), (2, .int v2)] [] u) (v0 : Int32) (v2 : Int32) (s0 : Int32) (s1 : Int32) (u : PoS) (h : wj_X12_beside_30 k4 post v0 v2 s0 s1 u) : AtS p l e (Rm 1) s m args below meth c V 3 0 0 (QI V below args s post) 30 [(0, .int v0), (2, .int v2)] [.int s0, .int s1] u := by
  rw [wj_X12_beside_30] at h
  refine a_ior C dX12_beside_30 ?_
  refine a_topi (fun x5 ex5 => ?_)
  have h := h x5 ex5
  refine a_istore_n C [(1, .int x5), (0, .int v0), (2, .int v2)] dX12_beside_31 rfl (by decide) rfl ?_
  refine a_iinc C (v2 + 1) 2 [(2, .int (v2 + 1)), (1, .int x5), (0, .int v0)] dX12_beside_32 rfl (congrArg (fun z => v2 + z) (show Int32.ofInt 1 = 1 by decide)) (by decide) rfl ?_
  refine a_goto C 4 dX12_beside_35 (by decide) ?_
  refine a_sub [2, 1, 0] rfl ?_
  exact hk4 _ _ _ _ h
set_option maxHeartbeats 4000000 in
set_option maxRecDepth 100000 in
theorem tl_X12_beside_4 {p : Program} {l : Launch} {e : Env} {s : State} {m : MethodId} {args : Array Value} {below : List Frame} {meth : Method} {c : Code} {V : VEn} {post : Int32 → PoS → Prop} (C : CxS p s m args meth c V cX12_beside 3 RX12 (some .int)) : ∀ (n : Nat) (v0 : Int32) (v1 : Int32) (v2 : Int32) (u : PoS), wl_X12_beside_4 post n v0 v1 v2 u → AtS p l e (Rm 1) s m args below meth c V 3 0 0 (QI V below args s post) 4 [(0, .int v0), (1, .int v1), (2, .int v2)] [] u := by
  intro n
  induction n with
  | zero => intro v0 v1 v2 u h; exact h.elim
  | succ n ih =>
    intro v0 v1 v2 u h
    rw [wl_X12_beside_4] at h
    refine a_iload_n C 2 dX12_beside_4 rfl rfl ?_
    refine a_iconst C 4 dX12_beside_5 (by decide) ?_
    refine a_icmp_ge C 38 dX12_beside_6 (by decide) (fun c7 => ?_) (fun c7 => ?_)
    · have h := h.1 c7
      refine a_iload_n C 1 dX12_beside_38 rfl rfl ?_
      exact a_iret C dX12_beside_39 h
    · have h := h.2 c7
      refine a_iload_n C 1 dX12_beside_9 rfl rfl ?_
      refine a_iload_n C 0 dX12_beside_10 rfl rfl ?_
      refine a_iload_n C 2 dX12_beside_11 rfl rfl ?_
      refine a_callSi C dX12_beside_12 (m_X12_sideOf l V h) bw_1349 bw_1350 bw_123 bw_1351 np_X12_sideOf rfl rfl (by decide) (Nat.le_of_ble_eq_true rfl) ⟨Nat.zero_le _, Nat.zero_le _⟩ (fun r1 u2 h => ?_)
      refine a_iconst C (-1) dX12_beside_15 (by decide) ?_
      refine a_icmp_ne C 23 dX12_beside_16 (by decide) (fun c6 => ?_) (fun c6 => ?_)
      · have h := h.1 c6
        refine a_iconst C 1 dX12_beside_23 (by decide) ?_
        refine a_iload_n C 0 dX12_beside_24 rfl rfl ?_
        refine a_iload_n C 2 dX12_beside_25 rfl rfl ?_
        refine a_callSi C dX12_beside_26 (m_X12_sideOf l V h) bw_1349 bw_1350 bw_123 bw_1351 np_X12_sideOf rfl rfl (by decide) (Nat.le_of_ble_eq_true rfl) ⟨Nat.zero_le _, Nat.zero_le _⟩ (fun r3 u4 h => ?_)
        refine a_ishl C dX12_beside_29 ?_
        refine a_sub [0, 2] rfl ?_
        refine tj_X12_beside_30 C ih _ _ _ _ _ h
      · have h := h.2 c6
        refine a_iconst C 0 dX12_beside_19 (by decide) ?_
        refine a_goto C 30 dX12_beside_20 (by decide) ?_
        refine a_sub [0, 2] rfl ?_
        refine tj_X12_beside_30 C ih _ _ _ _ _ h
theorem np_X12_beside : yX12_beside.cls ≠ "java/lang/invoke/MethodHandle" ∧ yX12_beside.cls ≠ "java/lang/invoke/VarHandle" ∧ (parseMethodDescriptor yX12_beside.desc).map (fun d => d.parameters.length) = some 1 := by decide +kernel
set_option maxHeartbeats 4000000 in
set_option maxRecDepth 100000 in
theorem m_X12_beside (l : Launch) (V : VEn) {a0 : Int32} {u : PoS} {post : Int32 → PoS → Prop} (h : wp_X12_beside a0 u post) : KI l V yX12_beside cX12_beside 3 .int 1 [.int a0] u post := by
  refine KI_of (by decide) (Nat.le_of_ble_eq_true rfl) (lv := [(0, .int a0)]) rfl ?_
  intro p e s m args below meth c C
  rw [wp_X12_beside] at h
  refine a_iconst C 0 dX12_beside_0 (by decide) ?_
  refine a_istore_n C [(1, .int 0), (0, .int a0)] dX12_beside_1 rfl (by decide) rfl ?_
  refine a_iconst C 0 dX12_beside_2 (by decide) ?_
  refine a_istore_n C [(2, .int 0), (1, .int 0), (0, .int a0)] dX12_beside_3 rfl (by decide) rfl ?_
  refine a_sub [2, 1, 0] rfl ?_
  obtain ⟨n4, h⟩ := h
  refine tl_X12_beside_4 C n4 _ _ _ _ h

/-! RainOnTheOneModel.free()I -/
def wj_X12_free_26 (k4 : Int32 → Int32 → PoS → Prop) (post : Int32 → PoS → Prop) (v2 : Int32) (s0 : Int32) (s1 : Int32) (u : PoS) : Prop := ∀ x3 : Int32, x3 = (s1 ||| s0) → k4 x3 (v2 + 1) u
def wl_X12_free_4 (post : Int32 → PoS → Prop) : Nat → Int32 → Int32 → PoS → Prop
  | 0, _, _, _ => False
  | n + 1, v1, v2, u => ((30 ≤ v2 → post v1 u) ∧ (¬ 30 ≤ v2 → wp_X12_isFree v2 u (fun (r1 : Int32) (u2 : PoS) => ((r1 = 0 → wj_X12_free_26 (wl_X12_free_4 post n) post v2 0 v1 u2) ∧ (¬ r1 = 0 → wj_X12_free_26 (wl_X12_free_4 post n) post v2 (1 <<< (v2 &&& 31)) v1 u2)))))
def wp_X12_free (u : PoS) (post : Int32 → PoS → Prop) : Prop := (∃ n4, wl_X12_free_4 post n4 0 0 u)
set_option maxHeartbeats 4000000 in
set_option maxRecDepth 100000 in
theorem tj_X12_free_26 {p : Program} {l : Launch} {e : Env} {s : State} {m : MethodId} {args : Array Value} {below : List Frame} {meth : Method} {c : Code} {V : VEn} {k4 : Int32 → Int32 → PoS → Prop} {post : Int32 → PoS → Prop} (C : CxS p s m args meth c V cX12_free 3 RX12 (some .int)) (hk4 : ∀ (v1 : Int32) (v2 : Int32) (u : PoS), k4 v1 v2 u → AtS p l e (Rm 3) s m args below meth c V 3 0 0 (QI V below args s post) 4 [(0, .ref (eA V 48)), (1, .int v1), (2, .int v2)] [] u) (v2 : Int32) (s0 : Int32) (s1 : Int32) (u : PoS) (h : wj_X12_free_26 k4 post v2 s0 s1 u) : AtS p l e (Rm 3) s m args below meth c V 3 0 0 (QI V below args s post) 26 [(0, .ref (eA V 48)), (2, .int v2)] [.int s0, .int s1] u := by
  rw [wj_X12_free_26] at h
  refine a_ior C dX12_free_26 ?_
  refine a_topi (fun x3 ex3 => ?_)
  have h := h x3 ex3
  refine a_istore_n C [(1, .int x3), (0, .ref (eA V 48)), (2, .int v2)] dX12_free_27 rfl (by decide) rfl ?_
  refine a_iinc C (v2 + 1) 2 [(2, .int (v2 + 1)), (1, .int x3), (0, .ref (eA V 48))] dX12_free_28 rfl (congrArg (fun z => v2 + z) (show Int32.ofInt 1 = 1 by decide)) (by decide) rfl ?_
  refine a_goto C 4 dX12_free_31 (by decide) ?_
  refine a_sub [2, 1, 0] rfl ?_
  exact hk4 _ _ _ h
set_option maxHeartbeats 4000000 in
set_option maxRecDepth 100000 in
theorem tl_X12_free_4 {p : Program} {l : Launch} {e : Env} {s : State} {m : MethodId} {args : Array Value} {below : List Frame} {meth : Method} {c : Code} {V : VEn} {post : Int32 → PoS → Prop} (C : CxS p s m args meth c V cX12_free 3 RX12 (some .int)) : ∀ (n : Nat) (v1 : Int32) (v2 : Int32) (u : PoS), wl_X12_free_4 post n v1 v2 u → AtS p l e (Rm 3) s m args below meth c V 3 0 0 (QI V below args s post) 4 [(0, .ref (eA V 48)), (1, .int v1), (2, .int v2)] [] u := by
  intro n
  induction n with
  | zero => intro v1 v2 u h; exact h.elim
  | succ n ih =>
    intro v1 v2 u h
    rw [wl_X12_free_4] at h
    refine a_iload_n C 2 dX12_free_4 rfl rfl ?_
    refine a_bipush C 30 dX12_free_5 (by decide) ?_
    refine a_icmp_ge C 34 dX12_free_7 (by decide) (fun c5 => ?_) (fun c5 => ?_)
    · have h := h.1 c5
      refine a_iload_n C 1 dX12_free_34 rfl rfl ?_
      exact a_iret C dX12_free_35 h
    · have h := h.2 c5
      refine a_iload_n C 1 dX12_free_10 rfl rfl ?_
      refine a_aload_n C 0 dX12_free_11 rfl rfl ?_
      refine a_iload_n C 2 dX12_free_12 rfl rfl ?_
      refine a_callVi C dX12_free_13 (m_X12_isFree l V h) bw_1140 bw_1142 bw_39 bw_123 bw_1143 (by decide) rfl rfl np_X12_isFree rfl rfl (by decide) (Nat.le_of_ble_eq_true rfl) ⟨Nat.zero_le _, Nat.zero_le _⟩ (fun r1 u2 h => ?_)
      refine a_if_eq C 25 dX12_free_16 (by decide) (fun c4 => ?_) (fun c4 => ?_)
      · have h := h.1 c4
        refine a_iconst C 0 dX12_free_25 (by decide) ?_
        refine a_sub [0, 2] rfl ?_
        refine tj_X12_free_26 C ih _ _ _ _ h
      · have h := h.2 c4
        refine a_iconst C 1 dX12_free_19 (by decide) ?_
        refine a_iload_n C 2 dX12_free_20 rfl rfl ?_
        refine a_ishl C dX12_free_21 ?_
        refine a_goto C 26 dX12_free_22 (by decide) ?_
        refine a_sub [0, 2] rfl ?_
        refine tj_X12_free_26 C ih _ _ _ _ h
theorem np_X12_free : yX12_free.cls ≠ "java/lang/invoke/MethodHandle" ∧ yX12_free.cls ≠ "java/lang/invoke/VarHandle" ∧ (parseMethodDescriptor yX12_free.desc).map (fun d => d.parameters.length) = some 0 := by decide +kernel
set_option maxHeartbeats 4000000 in
set_option maxRecDepth 100000 in
theorem m_X12_free (l : Launch) (V : VEn) {u : PoS} {post : Int32 → PoS → Prop} (h : wp_X12_free  u post) : KI l V yX12_free cX12_free 3 .int 3 [.ref (eA V 48)] u post := by
  refine KI_of (by decide) (Nat.le_of_ble_eq_true rfl) (lv := [(0, .ref (eA V 48))]) rfl ?_
  intro p e s m args below meth c C
  rw [wp_X12_free] at h
  refine a_iconst C 0 dX12_free_0 (by decide) ?_
  refine a_istore_n C [(1, .int 0), (0, .ref (eA V 48))] dX12_free_1 rfl (by decide) rfl ?_
  refine a_iconst C 0 dX12_free_2 (by decide) ?_
  refine a_istore_n C [(2, .int 0), (1, .int 0), (0, .ref (eA V 48))] dX12_free_3 rfl (by decide) rfl ?_
  refine a_sub [2, 1, 0] rfl ?_
  obtain ⟨n4, h⟩ := h
  refine tl_X12_free_4 C n4 _ _ _ h

/-! RainOnTheOneModel.aside(I)I -/
def wp_X12_aside (a0 : Int32) (u : PoS) (post : Int32 → PoS → Prop) : Prop := post ((((((a0 &&& (-17043522)) >>> (1 &&& 31)) ||| ((a0 &&& (-545392673)) <<< (1 &&& 31))) ||| (a0 >>> (6 &&& 31))) ||| (a0 <<< (6 &&& 31))) &&& 1073741823) u
theorem np_X12_aside : yX12_aside.cls ≠ "java/lang/invoke/MethodHandle" ∧ yX12_aside.cls ≠ "java/lang/invoke/VarHandle" ∧ (parseMethodDescriptor yX12_aside.desc).map (fun d => d.parameters.length) = some 1 := by decide +kernel
set_option maxHeartbeats 4000000 in
set_option maxRecDepth 100000 in
theorem m_X12_aside (l : Launch) (V : VEn) {a0 : Int32} {u : PoS} {post : Int32 → PoS → Prop} (h : wp_X12_aside a0 u post) : KI l V yX12_aside cX12_aside 1 .int 0 [.int a0] u post := by
  refine KI_of (by decide) (Nat.le_of_ble_eq_true rfl) (lv := [(0, .int a0)]) rfl ?_
  intro p e s m args below meth c C
  rw [wp_X12_aside] at h
  refine a_iload_n C 0 dX12_aside_0 rfl rfl ?_
  refine a_ldc C dX12_aside_1 bw_1406 ?_
  refine a_iand C dX12_aside_3 ?_
  refine a_iconst C 1 dX12_aside_4 (by decide) ?_
  refine a_ishr C dX12_aside_5 ?_
  refine a_iload_n C 0 dX12_aside_6 rfl rfl ?_
  refine a_ldc C dX12_aside_7 bw_1407 ?_
  refine a_iand C dX12_aside_9 ?_
  refine a_iconst C 1 dX12_aside_10 (by decide) ?_
  refine a_ishl C dX12_aside_11 ?_
  refine a_ior C dX12_aside_12 ?_
  refine a_iload_n C 0 dX12_aside_13 rfl rfl ?_
  refine a_bipush C 6 dX12_aside_14 (by decide) ?_
  refine a_ishr C dX12_aside_16 ?_
  refine a_ior C dX12_aside_17 ?_
  refine a_iload_n C 0 dX12_aside_18 rfl rfl ?_
  refine a_bipush C 6 dX12_aside_19 (by decide) ?_
  refine a_ishl C dX12_aside_21 ?_
  refine a_ior C dX12_aside_22 ?_
  refine a_ldc C dX12_aside_23 bw_1408 ?_
  refine a_iand C dX12_aside_25 ?_
  exact a_iret C dX12_aside_26 h

/-! RainOnTheOneModel.peopleAt(I)I -/
def wj_X12_peopleAt_32 (k4 : Int32 → Int32 → Int32 → PoS → Prop) (post : Int32 → PoS → Prop) (v1 : Int32) (v3 : Int32) (s0 : Int32) (s1 : Int32) (u : PoS) : Prop := ∀ x3 : Int32, x3 = (s1 ||| s0) → k4 v1 x3 (v3 + 1) u
def wl_X12_peopleAt_4 (post : Int32 → PoS → Prop) : Nat → Int32 → Int32 → Int32 → PoS → Prop
  | 0, _, _, _, _ => False
  | n + 1, v1, v2, v3, u => (((gI u 49 0) ≤ v3 → post v2 u) ∧ (¬ (gI u 49 0) ≤ v3 → wp_X12_get v3 0 u (fun (r1 : Int32) (u2 : PoS) => ((¬ r1 = v1 → wj_X12_peopleAt_32 (wl_X12_peopleAt_4 post n) post v1 v3 0 v2 u2) ∧ (r1 = v1 → wj_X12_peopleAt_32 (wl_X12_peopleAt_4 post n) post v1 v3 (1 <<< (v3 &&& 31)) v2 u2)))))
def wp_X12_peopleAt (a0 : Int32) (u : PoS) (post : Int32 → PoS → Prop) : Prop := (∃ n4, wl_X12_peopleAt_4 post n4 a0 0 0 u)
set_option maxHeartbeats 4000000 in
set_option maxRecDepth 100000 in
theorem tj_X12_peopleAt_32 {p : Program} {l : Launch} {e : Env} {s : State} {m : MethodId} {args : Array Value} {below : List Frame} {meth : Method} {c : Code} {V : VEn} {k4 : Int32 → Int32 → Int32 → PoS → Prop} {post : Int32 → PoS → Prop} (C : CxS p s m args meth c V cX12_peopleAt 4 RX12 (some .int)) (hk4 : ∀ (v1 : Int32) (v2 : Int32) (v3 : Int32) (u : PoS), k4 v1 v2 v3 u → AtS p l e (Rm 1) s m args below meth c V 4 0 0 (QI V below args s post) 4 [(0, .ref (eA V 48)), (1, .int v1), (2, .int v2), (3, .int v3)] [] u) (v1 : Int32) (v3 : Int32) (s0 : Int32) (s1 : Int32) (u : PoS) (h : wj_X12_peopleAt_32 k4 post v1 v3 s0 s1 u) : AtS p l e (Rm 1) s m args below meth c V 4 0 0 (QI V below args s post) 32 [(0, .ref (eA V 48)), (1, .int v1), (3, .int v3)] [.int s0, .int s1] u := by
  rw [wj_X12_peopleAt_32] at h
  refine a_ior C dX12_peopleAt_32 ?_
  refine a_topi (fun x3 ex3 => ?_)
  have h := h x3 ex3
  refine a_istore_n C [(2, .int x3), (0, .ref (eA V 48)), (1, .int v1), (3, .int v3)] dX12_peopleAt_33 rfl (by decide) rfl ?_
  refine a_iinc C (v3 + 1) 3 [(3, .int (v3 + 1)), (2, .int x3), (0, .ref (eA V 48)), (1, .int v1)] dX12_peopleAt_34 rfl (congrArg (fun z => v3 + z) (show Int32.ofInt 1 = 1 by decide)) (by decide) rfl ?_
  refine a_goto C 4 dX12_peopleAt_37 (by decide) ?_
  refine a_sub [2, 3, 1, 0] rfl ?_
  exact hk4 _ _ _ _ h
set_option maxHeartbeats 4000000 in
set_option maxRecDepth 100000 in
theorem tl_X12_peopleAt_4 {p : Program} {l : Launch} {e : Env} {s : State} {m : MethodId} {args : Array Value} {below : List Frame} {meth : Method} {c : Code} {V : VEn} {post : Int32 → PoS → Prop} (C : CxS p s m args meth c V cX12_peopleAt 4 RX12 (some .int)) : ∀ (n : Nat) (v1 : Int32) (v2 : Int32) (v3 : Int32) (u : PoS), wl_X12_peopleAt_4 post n v1 v2 v3 u → AtS p l e (Rm 1) s m args below meth c V 4 0 0 (QI V below args s post) 4 [(0, .ref (eA V 48)), (1, .int v1), (2, .int v2), (3, .int v3)] [] u := by
  intro n
  induction n with
  | zero => intro v1 v2 v3 u h; exact h.elim
  | succ n ih =>
    intro v1 v2 v3 u h
    rw [wl_X12_peopleAt_4] at h
    refine a_iload_n C 3 dX12_peopleAt_4 rfl rfl ?_
    refine a_aload_n C 0 dX12_peopleAt_5 rfl rfl ?_
    refine a_getr C 0 (r := 49) dX12_peopleAt_6 (by decide) rfl rfl rfl ib_12 (by decide) bw_1022 ?_
    refine a_iconst C 0 dX12_peopleAt_9 (by decide) ?_
    refine b_iald C 0 dX12_peopleAt_10 (by decide) rfl (vp_lit (by decide)) (by decide) ?_
    refine a_icmp_ge C 40 dX12_peopleAt_11 (by decide) (fun c5 => ?_) (fun c5 => ?_)
    · have h := h.1 c5
      refine a_iload_n C 2 dX12_peopleAt_40 rfl rfl ?_
      exact a_iret C dX12_peopleAt_41 h
    · have h := h.2 c5
      refine a_iload_n C 2 dX12_peopleAt_14 rfl rfl ?_
      refine a_aload_n C 0 dX12_peopleAt_15 rfl rfl ?_
      refine a_iload_n C 3 dX12_peopleAt_16 rfl rfl ?_
      refine a_iconst C 0 dX12_peopleAt_17 (by decide) ?_
      refine a_callVi C dX12_peopleAt_18 (m_X12_get l V h) bw_1158 bw_1160 bw_42 bw_123 bw_1161 (by decide) rfl rfl np_X12_get rfl rfl (by decide) (Nat.le_of_ble_eq_true rfl) ⟨Nat.zero_le _, Nat.zero_le _⟩ (fun r1 u2 h => ?_)
      refine a_iload_n C 1 dX12_peopleAt_21 rfl rfl ?_
      refine a_icmp_ne C 31 dX12_peopleAt_22 (by decide) (fun c4 => ?_) (fun c4 => ?_)
      · have h := h.1 c4
        refine a_iconst C 0 dX12_peopleAt_31 (by decide) ?_
        refine a_sub [0, 1, 3] rfl ?_
        refine tj_X12_peopleAt_32 C ih _ _ _ _ _ h
      · have h := h.2 c4
        refine a_iconst C 1 dX12_peopleAt_25 (by decide) ?_
        refine a_iload_n C 3 dX12_peopleAt_26 rfl rfl ?_
        refine a_ishl C dX12_peopleAt_27 ?_
        refine a_goto C 32 dX12_peopleAt_28 (by decide) ?_
        refine a_sub [0, 1, 3] rfl ?_
        refine tj_X12_peopleAt_32 C ih _ _ _ _ _ h
theorem np_X12_peopleAt : yX12_peopleAt.cls ≠ "java/lang/invoke/MethodHandle" ∧ yX12_peopleAt.cls ≠ "java/lang/invoke/VarHandle" ∧ (parseMethodDescriptor yX12_peopleAt.desc).map (fun d => d.parameters.length) = some 1 := by decide +kernel
set_option maxHeartbeats 4000000 in
set_option maxRecDepth 100000 in
theorem m_X12_peopleAt (l : Launch) (V : VEn) {a0 : Int32} {u : PoS} {post : Int32 → PoS → Prop} (h : wp_X12_peopleAt a0 u post) : KI l V yX12_peopleAt cX12_peopleAt 4 .int 1 [.ref (eA V 48), .int a0] u post := by
  refine KI_of (by decide) (Nat.le_of_ble_eq_true rfl) (lv := [(0, .ref (eA V 48)), (1, .int a0)]) rfl ?_
  intro p e s m args below meth c C
  rw [wp_X12_peopleAt] at h
  refine a_iconst C 0 dX12_peopleAt_0 (by decide) ?_
  refine a_istore_n C [(2, .int 0), (0, .ref (eA V 48)), (1, .int a0)] dX12_peopleAt_1 rfl (by decide) rfl ?_
  refine a_iconst C 0 dX12_peopleAt_2 (by decide) ?_
  refine a_istore_n C [(3, .int 0), (2, .int 0), (0, .ref (eA V 48)), (1, .int a0)] dX12_peopleAt_3 rfl (by decide) rfl ?_
  refine a_sub [2, 3, 1, 0] rfl ?_
  obtain ⟨n4, h⟩ := h
  refine tl_X12_peopleAt_4 C n4 _ _ _ _ h

/-! RainOnTheOneModel.begin(I)V -/
def wp_X12_begin (a0 : Int32) (u : PoS) (post : PoS → Prop) : Prop := wp_X12_get a0 4 u (fun (r1 : Int32) (u2 : PoS) => wp_X12_put a0 0 r1 u2 (fun (u4 : PoS) => wp_X12_get a0 5 u4 (fun (r5 : Int32) (u6 : PoS) => wp_X12_put a0 1 r5 u6 (fun (u8 : PoS) => wp_X12_put a0 2 0 u8 (fun (u10 : PoS) => wp_X12_put a0 3 0 u10 (fun (u12 : PoS) => post u12))))))
theorem np_X12_begin : yX12_begin.cls ≠ "java/lang/invoke/MethodHandle" ∧ yX12_begin.cls ≠ "java/lang/invoke/VarHandle" ∧ (parseMethodDescriptor yX12_begin.desc).map (fun d => d.parameters.length) = some 1 := by decide +kernel
set_option maxHeartbeats 4000000 in
set_option maxRecDepth 100000 in
theorem m_X12_begin (l : Launch) (V : VEn) {a0 : Int32} {u : PoS} {post : PoS → Prop} (h : wp_X12_begin a0 u post) : KV l V yX12_begin cX12_begin 2 1 [.ref (eA V 48), .int a0] u post := by
  refine KV_of (by decide) (Nat.le_of_ble_eq_true rfl) (lv := [(0, .ref (eA V 48)), (1, .int a0)]) rfl ?_
  intro p e s m args below meth c C
  rw [wp_X12_begin] at h
  refine a_aload_n C 0 dX12_begin_0 rfl rfl ?_
  refine a_iload_n C 1 dX12_begin_1 rfl rfl ?_
  refine a_iconst C 0 dX12_begin_2 (by decide) ?_
  refine a_aload_n C 0 dX12_begin_3 rfl rfl ?_
  refine a_iload_n C 1 dX12_begin_4 rfl rfl ?_
  refine a_iconst C 4 dX12_begin_5 (by decide) ?_
  refine a_callVi C dX12_begin_6 (m_X12_get l V h) bw_1158 bw_1160 bw_42 bw_123 bw_1161 (by decide) rfl rfl np_X12_get rfl rfl (by decide) (Nat.le_of_ble_eq_true rfl) ⟨Nat.zero_le _, Nat.zero_le _⟩ (fun r1 u2 h => ?_)
  refine a_callVv C dX12_begin_9 (m_X12_put l V h) bw_1150 bw_1152 bw_40 bw_123 bw_1153 (by decide) rfl rfl np_X12_put rfl rfl (by decide) (Nat.le_of_ble_eq_true rfl) ⟨Nat.zero_le _, Nat.zero_le _⟩ (fun u4 h => ?_)
  refine a_aload_n C 0 dX12_begin_12 rfl rfl ?_
  refine a_iload_n C 1 dX12_begin_13 rfl rfl ?_
  refine a_iconst C 1 dX12_begin_14 (by decide) ?_
  refine a_aload_n C 0 dX12_begin_15 rfl rfl ?_
  refine a_iload_n C 1 dX12_begin_16 rfl rfl ?_
  refine a_iconst C 5 dX12_begin_17 (by decide) ?_
  refine a_callVi C dX12_begin_18 (m_X12_get l V h) bw_1158 bw_1160 bw_42 bw_123 bw_1161 (by decide) rfl rfl np_X12_get rfl rfl (by decide) (Nat.le_of_ble_eq_true rfl) ⟨Nat.zero_le _, Nat.zero_le _⟩ (fun r5 u6 h => ?_)
  refine a_callVv C dX12_begin_21 (m_X12_put l V h) bw_1150 bw_1152 bw_40 bw_123 bw_1153 (by decide) rfl rfl np_X12_put rfl rfl (by decide) (Nat.le_of_ble_eq_true rfl) ⟨Nat.zero_le _, Nat.zero_le _⟩ (fun u8 h => ?_)
  refine a_aload_n C 0 dX12_begin_24 rfl rfl ?_
  refine a_iload_n C 1 dX12_begin_25 rfl rfl ?_
  refine a_iconst C 2 dX12_begin_26 (by decide) ?_
  refine a_iconst C 0 dX12_begin_27 (by decide) ?_
  refine a_callVv C dX12_begin_28 (m_X12_put l V h) bw_1150 bw_1152 bw_40 bw_123 bw_1153 (by decide) rfl rfl np_X12_put rfl rfl (by decide) (Nat.le_of_ble_eq_true rfl) ⟨Nat.zero_le _, Nat.zero_le _⟩ (fun u10 h => ?_)
  refine a_aload_n C 0 dX12_begin_31 rfl rfl ?_
  refine a_iload_n C 1 dX12_begin_32 rfl rfl ?_
  refine a_iconst C 3 dX12_begin_33 (by decide) ?_
  refine a_iconst C 0 dX12_begin_34 (by decide) ?_
  refine a_callVv C dX12_begin_35 (m_X12_put l V h) bw_1150 bw_1152 bw_40 bw_123 bw_1153 (by decide) rfl rfl np_X12_put rfl rfl (by decide) (Nat.le_of_ble_eq_true rfl) ⟨Nat.zero_le _, Nat.zero_le _⟩ (fun u12 h => ?_)
  exact a_vret C dX12_begin_38 h

/-! RainOnTheOneModel.person(IZ)I -/
def wj_X12_person_46 (post : Int32 → PoS → Prop) (v3 : Int32) (s0 : Int32) (s1 : Int32) (s2 : Int32) (u : PoS) : Prop := wp_X12_put s2 s1 s0 u (fun (u7 : PoS) => wp_X12_begin v3 u7 (fun (u9 : PoS) => ∀ z10 : PoS, z10 = pI u9 49 0 ((gI u9 49 0) + 1) → post v3 z10))
def wp_X12_person (a0 : Int32) (a1 : Int32) (u : PoS) (post : Int32 → PoS → Prop) : Prop := wp_X12_isFree a0 u (fun (r1 : Int32) (u2 : PoS) => ((r1 = 0 → post (-1) u2) ∧ (¬ r1 = 0 → ((¬ (gI u2 49 0) = 5 → ∀ x3 : Int32, x3 = (gI u2 49 0) → wp_X12_put x3 4 a0 u2 (fun (u5 : PoS) => ((a1 = 0 → wj_X12_person_46 post x3 0 5 x3 u5) ∧ (¬ a1 = 0 → wj_X12_person_46 post x3 1 5 x3 u5)))) ∧ ((gI u2 49 0) = 5 → post (-1) u2)))))
set_option maxHeartbeats 4000000 in
set_option maxRecDepth 100000 in
theorem tj_X12_person_46 {p : Program} {l : Launch} {e : Env} {s : State} {m : MethodId} {args : Array Value} {below : List Frame} {meth : Method} {c : Code} {V : VEn} {post : Int32 → PoS → Prop} (C : CxS p s m args meth c V cX12_person 4 RX12 (some .int)) (v3 : Int32) (s0 : Int32) (s1 : Int32) (s2 : Int32) (u : PoS) (h : wj_X12_person_46 post v3 s0 s1 s2 u) : AtS p l e (Rm 3) s m args below meth c V 4 0 0 (QI V below args s post) 46 [(0, .ref (eA V 48)), (3, .int v3)] [.int s0, .int s1, .int s2, .ref (eA V 48)] u := by
  rw [wj_X12_person_46] at h
  refine a_callVv C dX12_person_46 (m_X12_put l V h) bw_1150 bw_1152 bw_40 bw_123 bw_1153 (by decide) rfl rfl np_X12_put rfl rfl (by decide) (Nat.le_of_ble_eq_true rfl) ⟨Nat.zero_le _, Nat.zero_le _⟩ (fun u7 h => ?_)
  refine a_aload_n C 0 dX12_person_49 rfl rfl ?_
  refine a_iload_n C 1 dX12_person_50 rfl rfl ?_
  refine a_callVv C dX12_person_51 (m_X12_begin l V h) bw_1154 bw_1156 bw_41 bw_123 bw_1157 (by decide) rfl rfl np_X12_begin rfl rfl (by decide) (Nat.le_of_ble_eq_true rfl) ⟨Nat.zero_le _, Nat.zero_le _⟩ (fun u9 h => ?_)
  refine a_aload_n C 0 dX12_person_54 rfl rfl ?_
  refine a_getr C 0 (r := 49) dX12_person_55 (by decide) rfl rfl rfl ib_12 (by decide) bw_1022 ?_
  refine a_iconst C 0 dX12_person_58 (by decide) ?_
  refine a_dup2 C dX12_person_59 rfl rfl ?_
  refine b_iald C 0 dX12_person_60 (by decide) rfl (vp_lit (by decide)) (by decide) ?_
  refine a_iconst C 1 dX12_person_61 (by decide) ?_
  refine a_iadd C dX12_person_62 ?_
  refine b_iast C 0 dX12_person_63 (by decide) rfl (vp_lit (by decide)) (by decide) ?_
  refine a_topu (fun z10 ez10 => ?_)
  have h := h z10 ez10
  refine a_iload_n C 1 dX12_person_64 rfl rfl ?_
  exact a_iret C dX12_person_65 h
theorem np_X12_person : yX12_person.cls ≠ "java/lang/invoke/MethodHandle" ∧ yX12_person.cls ≠ "java/lang/invoke/VarHandle" ∧ (parseMethodDescriptor yX12_person.desc).map (fun d => d.parameters.length) = some 2 := by decide +kernel
set_option maxHeartbeats 4000000 in
set_option maxRecDepth 100000 in
theorem m_X12_person (l : Launch) (V : VEn) {a0 : Int32} {a1 : Int32} {u : PoS} {post : Int32 → PoS → Prop} (h : wp_X12_person a0 a1 u post) : KI l V yX12_person cX12_person 4 .int 3 [.ref (eA V 48), .int a0, .int a1] u post := by
  refine KI_of (by decide) (Nat.le_of_ble_eq_true rfl) (lv := [(0, .ref (eA V 48)), (1, .int a0), (2, .int a1)]) rfl ?_
  intro p e s m args below meth c C
  rw [wp_X12_person] at h
  refine a_aload_n C 0 dX12_person_0 rfl rfl ?_
  refine a_iload_n C 1 dX12_person_1 rfl rfl ?_
  refine a_callVi C dX12_person_2 (m_X12_isFree l V h) bw_1140 bw_1142 bw_39 bw_123 bw_1143 (by decide) rfl rfl np_X12_isFree rfl rfl (by decide) (Nat.le_of_ble_eq_true rfl) ⟨Nat.zero_le _, Nat.zero_le _⟩ (fun r1 u2 h => ?_)
  refine a_if_eq C 18 dX12_person_5 (by decide) (fun c13 => ?_) (fun c13 => ?_)
  · have h := h.1 c13
    refine a_iconst C (-1) dX12_person_18 (by decide) ?_
    exact a_iret C dX12_person_19 h
  · have h := h.2 c13
    refine a_aload_n C 0 dX12_person_8 rfl rfl ?_
    refine a_getr C 0 (r := 49) dX12_person_9 (by decide) rfl rfl rfl ib_12 (by decide) bw_1022 ?_
    refine a_iconst C 0 dX12_person_12 (by decide) ?_
    refine b_iald C 0 dX12_person_13 (by decide) rfl (vp_lit (by decide)) (by decide) ?_
    refine a_iconst C 5 dX12_person_14 (by decide) ?_
    refine a_icmp_ne C 20 dX12_person_15 (by decide) (fun c12 => ?_) (fun c12 => ?_)
    · have h := h.1 c12
      refine a_aload_n C 0 dX12_person_20 rfl rfl ?_
      refine a_getr C 0 (r := 49) dX12_person_21 (by decide) rfl rfl rfl ib_12 (by decide) bw_1022 ?_
      refine a_iconst C 0 dX12_person_24 (by decide) ?_
      refine b_iald C 0 dX12_person_25 (by decide) rfl (vp_lit (by decide)) (by decide) ?_
      refine a_topi (fun x3 ex3 => ?_)
      have h := h x3 ex3
      refine a_istore_n C [(3, .int x3), (0, .ref (eA V 48)), (1, .int a0), (2, .int a1)] dX12_person_26 rfl (by decide) rfl ?_
      refine a_aload_n C 1 dX12_person_27 rfl rfl ?_
      refine a_iload_n C 0 dX12_person_28 rfl rfl ?_
      refine a_iconst C 4 dX12_person_29 (by decide) ?_
      refine a_iload_n C 2 dX12_person_30 rfl rfl ?_
      refine a_callVv C dX12_person_31 (m_X12_put l V h) bw_1150 bw_1152 bw_40 bw_123 bw_1153 (by decide) rfl rfl np_X12_put rfl rfl (by decide) (Nat.le_of_ble_eq_true rfl) ⟨Nat.zero_le _, Nat.zero_le _⟩ (fun u5 h => ?_)
      refine a_aload_n C 1 dX12_person_34 rfl rfl ?_
      refine a_iload_n C 0 dX12_person_35 rfl rfl ?_
      refine a_iconst C 5 dX12_person_36 (by decide) ?_
      refine a_iload_n C 3 dX12_person_37 rfl rfl ?_
      refine a_if_eq C 45 dX12_person_38 (by decide) (fun c11 => ?_) (fun c11 => ?_)
      · have h := h.1 c11
        refine a_iconst C 0 dX12_person_45 (by decide) ?_
        refine a_sub [1, 0] rfl ?_
        refine tj_X12_person_46 C _ _ _ _ _ h
      · have h := h.2 c11
        refine a_iconst C 1 dX12_person_41 (by decide) ?_
        refine a_goto C 46 dX12_person_42 (by decide) ?_
        refine a_sub [1, 0] rfl ?_
        refine tj_X12_person_46 C _ _ _ _ _ h
    · have h := h.2 c12
      refine a_iconst C (-1) dX12_person_18 (by decide) ?_
      exact a_iret C dX12_person_19 h

/-! RainOnTheOneModel.field(II)Z -/
def wp_X12_field (a0 : Int32) (a1 : Int32) (u : PoS) (post : Int32 → PoS → Prop) : Prop := wp_X12_isCell a0 u (fun (r1 : Int32) (u2 : PoS) => ((r1 = 0 → post 0 u2) ∧ (¬ r1 = 0 → wp_X12_isIn a1 0 99 u2 (fun (r3 : Int32) (u4 : PoS) => ((¬ r3 = 0 → vp_in (70 + a0) 3703 ∧ ∀ z5 : PoS, z5 = pI u4 49 (Int32.toNatClampNeg (70 + a0)) a1 → post 1 z5) ∧ (r3 = 0 → post 0 u4))))))
theorem np_X12_field : yX12_field.cls ≠ "java/lang/invoke/MethodHandle" ∧ yX12_field.cls ≠ "java/lang/invoke/VarHandle" ∧ (parseMethodDescriptor yX12_field.desc).map (fun d => d.parameters.length) = some 2 := by decide +kernel
set_option maxHeartbeats 4000000 in
set_option maxRecDepth 100000 in
theorem m_X12_field (l : Launch) (V : VEn) {a0 : Int32} {a1 : Int32} {u : PoS} {post : Int32 → PoS → Prop} (h : wp_X12_field a0 a1 u post) : KI l V yX12_field cX12_field 3 .boolean 2 [.ref (eA V 48), .int a0, .int a1] u post := by
  refine KI_of (by decide) (Nat.le_of_ble_eq_true rfl) (lv := [(0, .ref (eA V 48)), (1, .int a0), (2, .int a1)]) rfl ?_
  intro p e s m args below meth c C
  rw [wp_X12_field] at h
  refine a_iload_n C 1 dX12_field_0 rfl rfl ?_
  refine a_callSi C dX12_field_1 (m_X12_isCell l V h) bw_1144 bw_1145 bw_123 bw_1146 np_X12_isCell rfl rfl (by decide) (Nat.le_of_ble_eq_true rfl) ⟨Nat.zero_le _, Nat.zero_le _⟩ (fun r1 u2 h => ?_)
  refine a_if_eq C 17 dX12_field_4 (by decide) (fun c7 => ?_) (fun c7 => ?_)
  · have h := h.1 c7
    refine a_iconst C 0 dX12_field_17 (by decide) ?_
    exact a_zret C rfl dX12_field_18 h
  · have h := h.2 c7
    refine a_iload_n C 2 dX12_field_7 rfl rfl ?_
    refine a_iconst C 0 dX12_field_8 (by decide) ?_
    refine a_bipush C 99 dX12_field_9 (by decide) ?_
    refine a_callSi C dX12_field_11 (m_X12_isIn l V h) bw_1147 bw_1148 bw_123 bw_1149 np_X12_isIn rfl rfl (by decide) (Nat.le_of_ble_eq_true rfl) ⟨Nat.zero_le _, Nat.zero_le _⟩ (fun r3 u4 h => ?_)
    refine a_if_ne C 19 dX12_field_14 (by decide) (fun c6 => ?_) (fun c6 => ?_)
    · have h := h.1 c6
      refine a_aload_n C 0 dX12_field_19 rfl rfl ?_
      refine a_getr C 0 (r := 49) dX12_field_20 (by decide) rfl rfl rfl ib_12 (by decide) bw_1022 ?_
      refine a_bipush C 70 dX12_field_23 (by decide) ?_
      refine a_iload_n C 1 dX12_field_25 rfl rfl ?_
      refine a_iadd C dX12_field_26 ?_
      refine a_iload_n C 2 dX12_field_27 rfl rfl ?_
      refine b_iast C (Int32.toNatClampNeg (70 + a0)) dX12_field_28 (by decide) rfl h.1 rfl ?_
      have h := h.2
      refine a_topu (fun z5 ez5 => ?_)
      have h := h z5 ez5
      refine a_iconst C 1 dX12_field_29 (by decide) ?_
      exact a_zret C rfl dX12_field_30 h
    · have h := h.2 c6
      refine a_iconst C 0 dX12_field_17 (by decide) ?_
      exact a_zret C rfl dX12_field_18 h

/-! RainOnTheOneModel.shed(IZ)Z -/
def wj_X12_shed_54 (post : Int32 → PoS → Prop) (s0 : Int32) (s1 : Int32) (u : PoS) : Prop := vp_in s1 3703 ∧ ∀ z7 : PoS, z7 = pI u 49 (Int32.toNatClampNeg s1) s0 → post 1 z7
def wp_X12_shed (a0 : Int32) (a1 : Int32) (u : PoS) (post : Int32 → PoS → Prop) : Prop := wp_X12_isCell a0 u (fun (r1 : Int32) (u2 : PoS) => ((r1 = 0 → post 0 u2) ∧ (¬ r1 = 0 → wp_X12_isFree a0 u2 (fun (r3 : Int32) (u4 : PoS) => ((¬ r3 = a1 → post 0 u4) ∧ (r3 = a1 → wp_X12_peopleAt a0 u4 (fun (r5 : Int32) (u6 : PoS) => ((¬ r5 = 0 → post 0 u6) ∧ (r5 = 0 → ((¬ (gI u6 49 7) = a0 → ((a1 = 0 → wj_X12_shed_54 post 0 (100 + a0) u6) ∧ (¬ a1 = 0 → wj_X12_shed_54 post 1 (100 + a0) u6))) ∧ ((gI u6 49 7) = a0 → post 0 u6)))))))))))
set_option maxHeartbeats 4000000 in
set_option maxRecDepth 100000 in
theorem tj_X12_shed_54 {p : Program} {l : Launch} {e : Env} {s : State} {m : MethodId} {args : Array Value} {below : List Frame} {meth : Method} {c : Code} {V : VEn} {post : Int32 → PoS → Prop} (C : CxS p s m args meth c V cX12_shed 3 RX12 (some .boolean)) (s0 : Int32) (s1 : Int32) (u : PoS) (h : wj_X12_shed_54 post s0 s1 u) : AtS p l e (Rm 3) s m args below meth c V 3 0 0 (QI V below args s post) 54 [] [.int s0, .int s1, .ref (eA V 49)] u := by
  rw [wj_X12_shed_54] at h
  refine b_iast C (Int32.toNatClampNeg s1) dX12_shed_54 (by decide) rfl h.1 rfl ?_
  have h := h.2
  refine a_topu (fun z7 ez7 => ?_)
  have h := h z7 ez7
  refine a_iconst C 1 dX12_shed_55 (by decide) ?_
  exact a_zret C rfl dX12_shed_56 h
theorem np_X12_shed : yX12_shed.cls ≠ "java/lang/invoke/MethodHandle" ∧ yX12_shed.cls ≠ "java/lang/invoke/VarHandle" ∧ (parseMethodDescriptor yX12_shed.desc).map (fun d => d.parameters.length) = some 2 := by decide +kernel
set_option maxHeartbeats 4000000 in
set_option maxRecDepth 100000 in
theorem m_X12_shed (l : Launch) (V : VEn) {a0 : Int32} {a1 : Int32} {u : PoS} {post : Int32 → PoS → Prop} (h : wp_X12_shed a0 a1 u post) : KI l V yX12_shed cX12_shed 3 .boolean 3 [.ref (eA V 48), .int a0, .int a1] u post := by
  refine KI_of (by decide) (Nat.le_of_ble_eq_true rfl) (lv := [(0, .ref (eA V 48)), (1, .int a0), (2, .int a1)]) rfl ?_
  intro p e s m args below meth c C
  rw [wp_X12_shed] at h
  refine a_iload_n C 1 dX12_shed_0 rfl rfl ?_
  refine a_callSi C dX12_shed_1 (m_X12_isCell l V h) bw_1144 bw_1145 bw_123 bw_1146 np_X12_isCell rfl rfl (by decide) (Nat.le_of_ble_eq_true rfl) ⟨Nat.zero_le _, Nat.zero_le _⟩ (fun r1 u2 h => ?_)
  refine a_if_eq C 35 dX12_shed_4 (by decide) (fun c12 => ?_) (fun c12 => ?_)
  · have h := h.1 c12
    refine a_iconst C 0 dX12_shed_35 (by decide) ?_
    exact a_zret C rfl dX12_shed_36 h
  · have h := h.2 c12
    refine a_aload_n C 0 dX12_shed_7 rfl rfl ?_
    refine a_iload_n C 1 dX12_shed_8 rfl rfl ?_
    refine a_callVi C dX12_shed_9 (m_X12_isFree l V h) bw_1140 bw_1142 bw_39 bw_123 bw_1143 (by decide) rfl rfl np_X12_isFree rfl rfl (by decide) (Nat.le_of_ble_eq_true rfl) ⟨Nat.zero_le _, Nat.zero_le _⟩ (fun r3 u4 h => ?_)
    refine a_iload_n C 2 dX12_shed_12 rfl rfl ?_
    refine a_icmp_ne C 35 dX12_shed_13 (by decide) (fun c11 => ?_) (fun c11 => ?_)
    · have h := h.1 c11
      refine a_iconst C 0 dX12_shed_35 (by decide) ?_
      exact a_zret C rfl dX12_shed_36 h
    · have h := h.2 c11
      refine a_aload_n C 0 dX12_shed_16 rfl rfl ?_
      refine a_iload_n C 1 dX12_shed_17 rfl rfl ?_
      refine a_callVi C dX12_shed_18 (m_X12_peopleAt l V h) bw_1170 bw_1172 bw_43 bw_123 bw_1173 (by decide) rfl rfl np_X12_peopleAt rfl rfl (by decide) (Nat.le_of_ble_eq_true rfl) ⟨Nat.zero_le _, Nat.zero_le _⟩ (fun r5 u6 h => ?_)
      refine a_if_ne C 35 dX12_shed_21 (by decide) (fun c10 => ?_) (fun c10 => ?_)
      · have h := h.1 c10
        refine a_iconst C 0 dX12_shed_35 (by decide) ?_
        exact a_zret C rfl dX12_shed_36 h
      · have h := h.2 c10
        refine a_aload_n C 0 dX12_shed_24 rfl rfl ?_
        refine a_getr C 0 (r := 49) dX12_shed_25 (by decide) rfl rfl rfl ib_12 (by decide) bw_1022 ?_
        refine a_bipush C 7 dX12_shed_28 (by decide) ?_
        refine b_iald C 7 dX12_shed_30 (by decide) rfl (vp_lit (by decide)) (by decide) ?_
        refine a_iload_n C 1 dX12_shed_31 rfl rfl ?_
        refine a_icmp_ne C 37 dX12_shed_32 (by decide) (fun c9 => ?_) (fun c9 => ?_)
        · have h := h.1 c9
          refine a_aload_n C 0 dX12_shed_37 rfl rfl ?_
          refine a_getr C 0 (r := 49) dX12_shed_38 (by decide) rfl rfl rfl ib_12 (by decide) bw_1022 ?_
          refine a_bipush C 100 dX12_shed_41 (by decide) ?_
          refine a_iload_n C 1 dX12_shed_43 rfl rfl ?_
          refine a_iadd C dX12_shed_44 ?_
          refine a_iload_n C 2 dX12_shed_45 rfl rfl ?_
          refine a_if_eq C 53 dX12_shed_46 (by decide) (fun c8 => ?_) (fun c8 => ?_)
          · have h := h.1 c8
            refine a_iconst C 0 dX12_shed_53 (by decide) ?_
            refine a_sub [] rfl ?_
            refine tj_X12_shed_54 C _ _ _ h
          · have h := h.2 c8
            refine a_iconst C 1 dX12_shed_49 (by decide) ?_
            refine a_goto C 54 dX12_shed_50 (by decide) ?_
            refine a_sub [] rfl ?_
            refine tj_X12_shed_54 C _ _ _ h
        · have h := h.2 c9
          refine a_iconst C 0 dX12_shed_35 (by decide) ?_
          exact a_zret C rfl dX12_shed_36 h

/-! RainOnTheOneModel.four(I)V -/
def wl_X12_four_3 (post : PoS → Prop) : Nat → Int32 → Int32 → PoS → Prop
  | 0, _, _, _ => False
  | n + 1, v1, v2, u => ((v2 < 0 → post u) ∧ (¬ v2 < 0 → vp_in (gI u 48 4) 300 ∧ ∀ z1 : PoS, z1 = pI u 52 (Int32.toNatClampNeg (gI u 48 4)) ((v1 >>> (v2 &&& 31)) &&& 255) → ∀ z2 : PoS, z2 = pI z1 48 4 ((gI z1 48 4) + 1) → wl_X12_four_3 post n v1 (v2 + (-8)) z2))
def wp_X12_four (a0 : Int32) (u : PoS) (post : PoS → Prop) : Prop := (∃ n3, wl_X12_four_3 post n3 a0 24 u)
set_option maxHeartbeats 4000000 in
set_option maxRecDepth 100000 in
theorem tl_X12_four_3 {p : Program} {l : Launch} {e : Env} {s : State} {m : MethodId} {args : Array Value} {below : List Frame} {meth : Method} {c : Code} {V : VEn} {post : PoS → Prop} (C : CxS p s m args meth c V cX12_four 3 RX12 none) : ∀ (n : Nat) (v1 : Int32) (v2 : Int32) (u : PoS), wl_X12_four_3 post n v1 v2 u → AtS p l e (Rm 0) s m args below meth c V 3 0 0 (QV V below args s post) 3 [(0, .ref (eA V 48)), (1, .int v1), (2, .int v2)] [] u := by
  intro n
  induction n with
  | zero => intro v1 v2 u h; exact h.elim
  | succ n ih =>
    intro v1 v2 u h
    rw [wl_X12_four_3] at h
    refine a_iload_n C 2 dX12_four_3 rfl rfl ?_
    refine a_if_lt C 39 dX12_four_4 (by decide) (fun c3 => ?_) (fun c3 => ?_)
    · have h := h.1 c3
      exact a_vret C dX12_four_39 h
    · have h := h.2 c3
      refine a_aload_n C 0 dX12_four_7 rfl rfl ?_
      refine a_getr C 3 (r := 52) dX12_four_8 (by decide) rfl rfl rfl ib_12 (by decide) bw_1025 ?_
      refine a_aload_n C 0 dX12_four_11 rfl rfl ?_
      refine a_geti C 4 dX12_four_12 (by decide) rfl rfl rfl ib_12 (by decide) bw_1026 ?_
      refine a_iload_n C 1 dX12_four_15 rfl rfl ?_
      refine a_iload_n C 2 dX12_four_16 rfl rfl ?_
      refine a_ishr C dX12_four_17 ?_
      refine a_sipush C 255 dX12_four_18 (by decide) ?_
      refine a_iand C dX12_four_21 ?_
      refine b_iast C (Int32.toNatClampNeg (gI u 48 4)) dX12_four_22 (by decide) rfl h.1 rfl ?_
      have h := h.2
      refine a_topu (fun z1 ez1 => ?_)
      have h := h z1 ez1
      refine a_aload_n C 0 dX12_four_23 rfl rfl ?_
      refine a_dup C dX12_four_24 rfl ?_
      refine a_geti C 4 dX12_four_25 (by decide) rfl rfl rfl ib_12 (by decide) bw_1026 ?_
      refine a_iconst C 1 dX12_four_28 (by decide) ?_
      refine a_iadd C dX12_four_29 ?_
      refine a_puti C (ty := .int) 4 dX12_four_30 (by decide) rfl rfl rfl ib_12 (by decide) bw_1026 tyX12 tyX12_ok nmX12 rfl (by decide +kernel) rfl rfl ?_
      refine a_topu (fun z2 ez2 => ?_)
      have h := h z2 ez2
      refine a_iinc C (v2 + (-8)) 2 [(2, .int (v2 + (-8))), (0, .ref (eA V 48)), (1, .int v1)] dX12_four_33 rfl (congrArg (fun z => v2 + z) (show Int32.ofInt (-8) = (-8) by decide)) (by decide) rfl ?_
      refine a_goto C 3 dX12_four_36 (by decide) ?_
      refine a_sub [1, 2, 0] rfl ?_
      exact ih _ _ _ h
theorem np_X12_four : yX12_four.cls ≠ "java/lang/invoke/MethodHandle" ∧ yX12_four.cls ≠ "java/lang/invoke/VarHandle" ∧ (parseMethodDescriptor yX12_four.desc).map (fun d => d.parameters.length) = some 1 := by decide +kernel
set_option maxHeartbeats 4000000 in
set_option maxRecDepth 100000 in
theorem m_X12_four (l : Launch) (V : VEn) {a0 : Int32} {u : PoS} {post : PoS → Prop} (h : wp_X12_four a0 u post) : KV l V yX12_four cX12_four 3 0 [.ref (eA V 48), .int a0] u post := by
  refine KV_of (by decide) (Nat.le_of_ble_eq_true rfl) (lv := [(0, .ref (eA V 48)), (1, .int a0)]) rfl ?_
  intro p e s m args below meth c C
  rw [wp_X12_four] at h
  refine a_bipush C 24 dX12_four_0 (by decide) ?_
  refine a_istore_n C [(2, .int 24), (0, .ref (eA V 48)), (1, .int a0)] dX12_four_2 rfl (by decide) rfl ?_
  refine a_sub [1, 2, 0] rfl ?_
  obtain ⟨n3, h⟩ := h
  refine tl_X12_four_3 C n3 _ _ _ h

/-! RainOnTheOneModel.feed(IIIII)I -/
def wp_X12_feed (a0 : Int32) (a1 : Int32) (a2 : Int32) (a3 : Int32) (a4 : Int32) (u : PoS) (post : Int32 → PoS → Prop) : Prop := ((((gI u 48 4) + 20) ≤ 300 → wp_X12_four a0 u (fun (u2 : PoS) => wp_X12_four a1 u2 (fun (u4 : PoS) => wp_X12_four a2 u4 (fun (u6 : PoS) => wp_X12_four a3 u6 (fun (u8 : PoS) => wp_X12_four a4 u8 (fun (u10 : PoS) => post (gI u10 48 4) u10)))))) ∧ (¬ ((gI u 48 4) + 20) ≤ 300 → post (-1) u))
theorem np_X12_feed : yX12_feed.cls ≠ "java/lang/invoke/MethodHandle" ∧ yX12_feed.cls ≠ "java/lang/invoke/VarHandle" ∧ (parseMethodDescriptor yX12_feed.desc).map (fun d => d.parameters.length) = some 5 := by decide +kernel
set_option maxHeartbeats 4000000 in
set_option maxRecDepth 100000 in
theorem m_X12_feed (l : Launch) (V : VEn) {a0 : Int32} {a1 : Int32} {a2 : Int32} {a3 : Int32} {a4 : Int32} {u : PoS} {post : Int32 → PoS → Prop} (h : wp_X12_feed a0 a1 a2 a3 a4 u post) : KI l V yX12_feed cX12_feed 6 .int 1 [.ref (eA V 48), .int a0, .int a1, .int a2, .int a3, .int a4] u post := by
  refine KI_of (by decide) (Nat.le_of_ble_eq_true rfl) (lv := [(0, .ref (eA V 48)), (1, .int a0), (2, .int a1), (3, .int a2), (4, .int a3), (5, .int a4)]) rfl ?_
  intro p e s m args below meth c C
  rw [wp_X12_feed] at h
  refine a_aload_n C 0 dX12_feed_0 rfl rfl ?_
  refine a_geti C 4 dX12_feed_1 (by decide) rfl rfl rfl ib_12 (by decide) bw_1026 ?_
  refine a_bipush C 20 dX12_feed_4 (by decide) ?_
  refine a_iadd C dX12_feed_6 ?_
  refine a_sipush C 300 dX12_feed_7 (by decide) ?_
  refine a_icmp_le C 15 dX12_feed_10 (by decide) (fun c11 => ?_) (fun c11 => ?_)
  · have h := h.1 c11
    refine a_aload_n C 0 dX12_feed_15 rfl rfl ?_
    refine a_iload_n C 1 dX12_feed_16 rfl rfl ?_
    refine a_callVv C dX12_feed_17 (m_X12_four l V h) bw_1178 bw_1180 bw_44 bw_123 bw_1181 (by decide) rfl rfl np_X12_four rfl rfl (by decide) (Nat.le_of_ble_eq_true rfl) ⟨Nat.zero_le _, Nat.zero_le _⟩ (fun u2 h => ?_)
    refine a_aload_n C 0 dX12_feed_20 rfl rfl ?_
    refine a_iload_n C 2 dX12_feed_21 rfl rfl ?_
    refine a_callVv C dX12_feed_22 (m_X12_four l V h) bw_1178 bw_1180 bw_44 bw_123 bw_1181 (by decide) rfl rfl np_X12_four rfl rfl (by decide) (Nat.le_of_ble_eq_true rfl) ⟨Nat.zero_le _, Nat.zero_le _⟩ (fun u4 h => ?_)
    refine a_aload_n C 0 dX12_feed_25 rfl rfl ?_
    refine a_iload_n C 3 dX12_feed_26 rfl rfl ?_
    refine a_callVv C dX12_feed_27 (m_X12_four l V h) bw_1178 bw_1180 bw_44 bw_123 bw_1181 (by decide) rfl rfl np_X12_four rfl rfl (by decide) (Nat.le_of_ble_eq_true rfl) ⟨Nat.zero_le _, Nat.zero_le _⟩ (fun u6 h => ?_)
    refine a_aload_n C 0 dX12_feed_30 rfl rfl ?_
    refine a_iload C 4 dX12_feed_31 rfl ?_
    refine a_callVv C dX12_feed_33 (m_X12_four l V h) bw_1178 bw_1180 bw_44 bw_123 bw_1181 (by decide) rfl rfl np_X12_four rfl rfl (by decide) (Nat.le_of_ble_eq_true rfl) ⟨Nat.zero_le _, Nat.zero_le _⟩ (fun u8 h => ?_)
    refine a_aload_n C 0 dX12_feed_36 rfl rfl ?_
    refine a_iload C 5 dX12_feed_37 rfl ?_
    refine a_callVv C dX12_feed_39 (m_X12_four l V h) bw_1178 bw_1180 bw_44 bw_123 bw_1181 (by decide) rfl rfl np_X12_four rfl rfl (by decide) (Nat.le_of_ble_eq_true rfl) ⟨Nat.zero_le _, Nat.zero_le _⟩ (fun u10 h => ?_)
    refine a_aload_n C 0 dX12_feed_42 rfl rfl ?_
    refine a_geti C 4 dX12_feed_43 (by decide) rfl rfl rfl ib_12 (by decide) bw_1026 ?_
    exact a_iret C dX12_feed_46 h
  · have h := h.2 c11
    refine a_iconst C (-1) dX12_feed_13 (by decide) ?_
    exact a_iret C dX12_feed_14 h

/-! RainOnTheOneModel.end(I)I -/
def wp_X12_end (a0 : Int32) (u : PoS) (post : Int32 → PoS → Prop) : Prop := wp_X12_isIn a0 0 (gI u 48 4) u (fun (r1 : Int32) (u2 : PoS) => ((¬ r1 = 0 → ∀ z3 : PoS, z3 = pI u2 48 4 a0 → post a0 z3) ∧ (r1 = 0 → post (-1) u2)))
theorem np_X12_end : yX12_end.cls ≠ "java/lang/invoke/MethodHandle" ∧ yX12_end.cls ≠ "java/lang/invoke/VarHandle" ∧ (parseMethodDescriptor yX12_end.desc).map (fun d => d.parameters.length) = some 1 := by decide +kernel
set_option maxHeartbeats 4000000 in
set_option maxRecDepth 100000 in
theorem m_X12_end (l : Launch) (V : VEn) {a0 : Int32} {u : PoS} {post : Int32 → PoS → Prop} (h : wp_X12_end a0 u post) : KI l V yX12_end cX12_end 2 .int 1 [.ref (eA V 48), .int a0] u post := by
  refine KI_of (by decide) (Nat.le_of_ble_eq_true rfl) (lv := [(0, .ref (eA V 48)), (1, .int a0)]) rfl ?_
  intro p e s m args below meth c C
  rw [wp_X12_end] at h
  refine a_iload_n C 1 dX12_end_0 rfl rfl ?_
  refine a_iconst C 0 dX12_end_1 (by decide) ?_
  refine a_aload_n C 0 dX12_end_2 rfl rfl ?_
  refine a_geti C 4 dX12_end_3 (by decide) rfl rfl rfl ib_12 (by decide) bw_1026 ?_
  refine a_callSi C dX12_end_6 (m_X12_isIn l V h) bw_1147 bw_1148 bw_123 bw_1149 np_X12_isIn rfl rfl (by decide) (Nat.le_of_ble_eq_true rfl) ⟨Nat.zero_le _, Nat.zero_le _⟩ (fun r1 u2 h => ?_)
  refine a_if_ne C 14 dX12_end_9 (by decide) (fun c4 => ?_) (fun c4 => ?_)
  · have h := h.1 c4
    refine a_aload_n C 0 dX12_end_14 rfl rfl ?_
    refine a_iload_n C 1 dX12_end_15 rfl rfl ?_
    refine a_puti C (ty := .int) 4 dX12_end_16 (by decide) rfl rfl rfl ib_12 (by decide) bw_1026 tyX12 tyX12_ok nmX12 rfl (by decide +kernel) rfl rfl ?_
    refine a_topu (fun z3 ez3 => ?_)
    have h := h z3 ez3
    refine a_iload_n C 1 dX12_end_19 rfl rfl ?_
    exact a_iret C dX12_end_20 h
  · have h := h.2 c4
    refine a_iconst C (-1) dX12_end_12 (by decide) ?_
    exact a_iret C dX12_end_13 h

/-! RainOnTheOneModel.byteAt(I)I -/
def wp_X12_byteAt (a0 : Int32) (u : PoS) (post : Int32 → PoS → Prop) : Prop := (((gI u 48 4) ≤ a0 → post (-1) u) ∧ (¬ (gI u 48 4) ≤ a0 → vp_in a0 300 ∧ post (gI u 52 (Int32.toNatClampNeg a0)) u))
theorem np_X12_byteAt : yX12_byteAt.cls ≠ "java/lang/invoke/MethodHandle" ∧ yX12_byteAt.cls ≠ "java/lang/invoke/VarHandle" ∧ (parseMethodDescriptor yX12_byteAt.desc).map (fun d => d.parameters.length) = some 1 := by decide +kernel
set_option maxHeartbeats 4000000 in
set_option maxRecDepth 100000 in
theorem m_X12_byteAt (l : Launch) (V : VEn) {a0 : Int32} {u : PoS} {post : Int32 → PoS → Prop} (h : wp_X12_byteAt a0 u post) : KI l V yX12_byteAt cX12_byteAt 2 .int 0 [.ref (eA V 48), .int a0] u post := by
  refine KI_of (by decide) (Nat.le_of_ble_eq_true rfl) (lv := [(0, .ref (eA V 48)), (1, .int a0)]) rfl ?_
  intro p e s m args below meth c C
  rw [wp_X12_byteAt] at h
  refine a_iload_n C 1 dX12_byteAt_0 rfl rfl ?_
  refine a_aload_n C 0 dX12_byteAt_1 rfl rfl ?_
  refine a_geti C 4 dX12_byteAt_2 (by decide) rfl rfl rfl ib_12 (by decide) bw_1026 ?_
  refine a_icmp_ge C 17 dX12_byteAt_5 (by decide) (fun c1 => ?_) (fun c1 => ?_)
  · have h := h.1 c1
    refine a_iconst C (-1) dX12_byteAt_17 (by decide) ?_
    exact a_iret C dX12_byteAt_18 h
  · have h := h.2 c1
    refine a_aload_n C 0 dX12_byteAt_8 rfl rfl ?_
    refine a_getr C 3 (r := 52) dX12_byteAt_9 (by decide) rfl rfl rfl ib_12 (by decide) bw_1025 ?_
    refine a_iload_n C 1 dX12_byteAt_12 rfl rfl ?_
    refine b_iald C (Int32.toNatClampNeg a0) dX12_byteAt_13 (by decide) rfl h.1 rfl ?_
    have h := h.2
    refine a_goto C 18 dX12_byteAt_14 (by decide) ?_
    exact a_iret C dX12_byteAt_18 h

/-! RainOnTheOneModel.isLetterByte(I)Z -/
def wj_X12_isLetterByte_12 (post : Int32 → PoS → Prop) (v0 : Int32) (u : PoS) : Prop := ((v0 < 65 → post 0 u) ∧ (¬ v0 < 65 → ((90 < v0 → post 0 u) ∧ (¬ 90 < v0 → post 1 u))))
def wp_X12_isLetterByte (a0 : Int32) (u : PoS) (post : Int32 → PoS → Prop) : Prop := ((a0 < 97 → wj_X12_isLetterByte_12 post a0 u) ∧ (¬ a0 < 97 → ((a0 ≤ 122 → post 1 u) ∧ (¬ a0 ≤ 122 → wj_X12_isLetterByte_12 post a0 u))))
set_option maxHeartbeats 4000000 in
set_option maxRecDepth 100000 in
theorem tj_X12_isLetterByte_12 {p : Program} {l : Launch} {e : Env} {s : State} {m : MethodId} {args : Array Value} {below : List Frame} {meth : Method} {c : Code} {V : VEn} {post : Int32 → PoS → Prop} (C : CxS p s m args meth c V cX12_isLetterByte 1 RX12 (some .boolean)) (v0 : Int32) (u : PoS) (h : wj_X12_isLetterByte_12 post v0 u) : AtS p l e (Rm 0) s m args below meth c V 1 0 0 (QI V below args s post) 12 [(0, .int v0)] [] u := by
  rw [wj_X12_isLetterByte_12] at h
  refine a_iload_n C 0 dX12_isLetterByte_12 rfl rfl ?_
  refine a_bipush C 65 dX12_isLetterByte_13 (by decide) ?_
  refine a_icmp_lt C 28 dX12_isLetterByte_15 (by decide) (fun c2 => ?_) (fun c2 => ?_)
  · have h := h.1 c2
    refine a_iconst C 0 dX12_isLetterByte_28 (by decide) ?_
    exact a_zret C rfl dX12_isLetterByte_29 h
  · have h := h.2 c2
    refine a_iload_n C 0 dX12_isLetterByte_18 rfl rfl ?_
    refine a_bipush C 90 dX12_isLetterByte_19 (by decide) ?_
    refine a_icmp_gt C 28 dX12_isLetterByte_21 (by decide) (fun c1 => ?_) (fun c1 => ?_)
    · have h := h.1 c1
      refine a_iconst C 0 dX12_isLetterByte_28 (by decide) ?_
      exact a_zret C rfl dX12_isLetterByte_29 h
    · have h := h.2 c1
      refine a_iconst C 1 dX12_isLetterByte_24 (by decide) ?_
      refine a_goto C 29 dX12_isLetterByte_25 (by decide) ?_
      exact a_zret C rfl dX12_isLetterByte_29 h
theorem np_X12_isLetterByte : yX12_isLetterByte.cls ≠ "java/lang/invoke/MethodHandle" ∧ yX12_isLetterByte.cls ≠ "java/lang/invoke/VarHandle" ∧ (parseMethodDescriptor yX12_isLetterByte.desc).map (fun d => d.parameters.length) = some 1 := by decide +kernel
set_option maxHeartbeats 4000000 in
set_option maxRecDepth 100000 in
theorem m_X12_isLetterByte (l : Launch) (V : VEn) {a0 : Int32} {u : PoS} {post : Int32 → PoS → Prop} (h : wp_X12_isLetterByte a0 u post) : KI l V yX12_isLetterByte cX12_isLetterByte 1 .boolean 0 [.int a0] u post := by
  refine KI_of (by decide) (Nat.le_of_ble_eq_true rfl) (lv := [(0, .int a0)]) rfl ?_
  intro p e s m args below meth c C
  rw [wp_X12_isLetterByte] at h
  refine a_iload_n C 0 dX12_isLetterByte_0 rfl rfl ?_
  refine a_bipush C 97 dX12_isLetterByte_1 (by decide) ?_
  refine a_icmp_lt C 12 dX12_isLetterByte_3 (by decide) (fun c4 => ?_) (fun c4 => ?_)
  · have h := h.1 c4
    refine tj_X12_isLetterByte_12 C _ _ h
  · have h := h.2 c4
    refine a_iload_n C 0 dX12_isLetterByte_6 rfl rfl ?_
    refine a_bipush C 122 dX12_isLetterByte_7 (by decide) ?_
    refine a_icmp_le C 24 dX12_isLetterByte_9 (by decide) (fun c3 => ?_) (fun c3 => ?_)
    · have h := h.1 c3
      refine a_iconst C 1 dX12_isLetterByte_24 (by decide) ?_
      refine a_goto C 29 dX12_isLetterByte_25 (by decide) ?_
      exact a_zret C rfl dX12_isLetterByte_29 h
    · have h := h.2 c3
      refine tj_X12_isLetterByte_12 C _ _ h

/-! RainOnTheOneModel.isFigure(I)Z -/
def wp_X12_isFigure (a0 : Int32) (u : PoS) (post : Int32 → PoS → Prop) : Prop := ((a0 < 48 → post 0 u) ∧ (¬ a0 < 48 → ((57 < a0 → post 0 u) ∧ (¬ 57 < a0 → post 1 u))))
theorem np_X12_isFigure : yX12_isFigure.cls ≠ "java/lang/invoke/MethodHandle" ∧ yX12_isFigure.cls ≠ "java/lang/invoke/VarHandle" ∧ (parseMethodDescriptor yX12_isFigure.desc).map (fun d => d.parameters.length) = some 1 := by decide +kernel
set_option maxHeartbeats 4000000 in
set_option maxRecDepth 100000 in
theorem m_X12_isFigure (l : Launch) (V : VEn) {a0 : Int32} {u : PoS} {post : Int32 → PoS → Prop} (h : wp_X12_isFigure a0 u post) : KI l V yX12_isFigure cX12_isFigure 1 .boolean 0 [.int a0] u post := by
  refine KI_of (by decide) (Nat.le_of_ble_eq_true rfl) (lv := [(0, .int a0)]) rfl ?_
  intro p e s m args below meth c C
  rw [wp_X12_isFigure] at h
  refine a_iload_n C 0 dX12_isFigure_0 rfl rfl ?_
  refine a_bipush C 48 dX12_isFigure_1 (by decide) ?_
  refine a_icmp_lt C 16 dX12_isFigure_3 (by decide) (fun c2 => ?_) (fun c2 => ?_)
  · have h := h.1 c2
    refine a_iconst C 0 dX12_isFigure_16 (by decide) ?_
    exact a_zret C rfl dX12_isFigure_17 h
  · have h := h.2 c2
    refine a_iload_n C 0 dX12_isFigure_6 rfl rfl ?_
    refine a_bipush C 57 dX12_isFigure_7 (by decide) ?_
    refine a_icmp_gt C 16 dX12_isFigure_9 (by decide) (fun c1 => ?_) (fun c1 => ?_)
    · have h := h.1 c1
      refine a_iconst C 0 dX12_isFigure_16 (by decide) ?_
      exact a_zret C rfl dX12_isFigure_17 h
    · have h := h.2 c1
      refine a_iconst C 1 dX12_isFigure_12 (by decide) ?_
      refine a_goto C 17 dX12_isFigure_13 (by decide) ?_
      exact a_zret C rfl dX12_isFigure_17 h

/-! RainOnTheOneModel.isSign(I)Z -/
def wp_X12_isSign (a0 : Int32) (u : PoS) (post : Int32 → PoS → Prop) : Prop := ((a0 = 35 → post 1 u) ∧ (a0 = 36 → post 0 u) ∧ (a0 = 37 → post 0 u) ∧ (a0 = 38 → post 0 u) ∧ (a0 = 39 → post 0 u) ∧ (a0 = 40 → post 1 u) ∧ (a0 = 41 → post 1 u) ∧ (a0 = 42 → post 1 u) ∧ (a0 = 43 → post 1 u) ∧ (a0 = 44 → post 0 u) ∧ (a0 = 45 → post 1 u) ∧ (a0 = 46 → post 0 u) ∧ (a0 = 47 → post 1 u) ∧ (a0 = 48 → post 0 u) ∧ (a0 = 49 → post 0 u) ∧ (a0 = 50 → post 0 u) ∧ (a0 = 51 → post 0 u) ∧ (a0 = 52 → post 0 u) ∧ (a0 = 53 → post 0 u) ∧ (a0 = 54 → post 0 u) ∧ (a0 = 55 → post 0 u) ∧ (a0 = 56 → post 0 u) ∧ (a0 = 57 → post 0 u) ∧ (a0 = 58 → post 1 u) ∧ (a0 = 59 → post 1 u) ∧ (a0 = 60 → post 1 u) ∧ (a0 = 61 → post 1 u) ∧ (a0 = 62 → post 1 u) ∧ (¬ a0 = 35 → ¬ a0 = 36 → ¬ a0 = 37 → ¬ a0 = 38 → ¬ a0 = 39 → ¬ a0 = 40 → ¬ a0 = 41 → ¬ a0 = 42 → ¬ a0 = 43 → ¬ a0 = 44 → ¬ a0 = 45 → ¬ a0 = 46 → ¬ a0 = 47 → ¬ a0 = 48 → ¬ a0 = 49 → ¬ a0 = 50 → ¬ a0 = 51 → ¬ a0 = 52 → ¬ a0 = 53 → ¬ a0 = 54 → ¬ a0 = 55 → ¬ a0 = 56 → ¬ a0 = 57 → ¬ a0 = 58 → ¬ a0 = 59 → ¬ a0 = 60 → ¬ a0 = 61 → ¬ a0 = 62 → post 0 u))
theorem np_X12_isSign : yX12_isSign.cls ≠ "java/lang/invoke/MethodHandle" ∧ yX12_isSign.cls ≠ "java/lang/invoke/VarHandle" ∧ (parseMethodDescriptor yX12_isSign.desc).map (fun d => d.parameters.length) = some 1 := by decide +kernel
set_option maxHeartbeats 4000000 in
set_option maxRecDepth 100000 in
theorem m_X12_isSign (l : Launch) (V : VEn) {a0 : Int32} {u : PoS} {post : Int32 → PoS → Prop} (h : wp_X12_isSign a0 u post) : KI l V yX12_isSign cX12_isSign 1 .boolean 0 [.int a0] u post := by
  refine KI_of (by decide) (Nat.le_of_ble_eq_true rfl) (lv := [(0, .int a0)]) rfl ?_
  intro p e s m args below meth c C
  rw [wp_X12_isSign] at h
  refine a_iload_n C 0 dX12_isSign_0 rfl rfl ?_
  obtain ⟨hs0, hs1, hs2, hs3, hs4, hs5, hs6, hs7, hs8, hs9, hs10, hs11, hs12, hs13, hs14, hs15, hs16, hs17, hs18, hs19, hs20, hs21, hs22, hs23, hs24, hs25, hs26, hs27, hd0⟩ := h
  by_cases hq0 : a0 = 35
  · have h := hs0 hq0
    refine a_tableIn C (off := 127) 128 dX12_isSign_1 (by rw [hq0]; decide) (by rw [hq0]; decide) (by rw [hq0]; decide +kernel) (by decide) ?_
    refine a_iconst C 1 dX12_isSign_128 (by decide) ?_
    exact a_zret C rfl dX12_isSign_129 h
  by_cases hq1 : a0 = 36
  · have h := hs1 hq1
    refine a_tableIn C (off := 129) 130 dX12_isSign_1 (by rw [hq1]; decide) (by rw [hq1]; decide) (by rw [hq1]; decide +kernel) (by decide) ?_
    refine a_iconst C 0 dX12_isSign_130 (by decide) ?_
    exact a_zret C rfl dX12_isSign_131 h
  by_cases hq2 : a0 = 37
  · have h := hs2 hq2
    refine a_tableIn C (off := 129) 130 dX12_isSign_1 (by rw [hq2]; decide) (by rw [hq2]; decide) (by rw [hq2]; decide +kernel) (by decide) ?_
    refine a_iconst C 0 dX12_isSign_130 (by decide) ?_
    exact a_zret C rfl dX12_isSign_131 h
  by_cases hq3 : a0 = 38
  · have h := hs3 hq3
    refine a_tableIn C (off := 129) 130 dX12_isSign_1 (by rw [hq3]; decide) (by rw [hq3]; decide) (by rw [hq3]; decide +kernel) (by decide) ?_
    refine a_iconst C 0 dX12_isSign_130 (by decide) ?_
    exact a_zret C rfl dX12_isSign_131 h
  by_cases hq4 : a0 = 39
  · have h := hs4 hq4
    refine a_tableIn C (off := 129) 130 dX12_isSign_1 (by rw [hq4]; decide) (by rw [hq4]; decide) (by rw [hq4]; decide +kernel) (by decide) ?_
    refine a_iconst C 0 dX12_isSign_130 (by decide) ?_
    exact a_zret C rfl dX12_isSign_131 h
  by_cases hq5 : a0 = 40
  · have h := hs5 hq5
    refine a_tableIn C (off := 127) 128 dX12_isSign_1 (by rw [hq5]; decide) (by rw [hq5]; decide) (by rw [hq5]; decide +kernel) (by decide) ?_
    refine a_iconst C 1 dX12_isSign_128 (by decide) ?_
    exact a_zret C rfl dX12_isSign_129 h
  by_cases hq6 : a0 = 41
  · have h := hs6 hq6
    refine a_tableIn C (off := 127) 128 dX12_isSign_1 (by rw [hq6]; decide) (by rw [hq6]; decide) (by rw [hq6]; decide +kernel) (by decide) ?_
    refine a_iconst C 1 dX12_isSign_128 (by decide) ?_
    exact a_zret C rfl dX12_isSign_129 h
  by_cases hq7 : a0 = 42
  · have h := hs7 hq7
    refine a_tableIn C (off := 127) 128 dX12_isSign_1 (by rw [hq7]; decide) (by rw [hq7]; decide) (by rw [hq7]; decide +kernel) (by decide) ?_
    refine a_iconst C 1 dX12_isSign_128 (by decide) ?_
    exact a_zret C rfl dX12_isSign_129 h
  by_cases hq8 : a0 = 43
  · have h := hs8 hq8
    refine a_tableIn C (off := 127) 128 dX12_isSign_1 (by rw [hq8]; decide) (by rw [hq8]; decide) (by rw [hq8]; decide +kernel) (by decide) ?_
    refine a_iconst C 1 dX12_isSign_128 (by decide) ?_
    exact a_zret C rfl dX12_isSign_129 h
  by_cases hq9 : a0 = 44
  · have h := hs9 hq9
    refine a_tableIn C (off := 129) 130 dX12_isSign_1 (by rw [hq9]; decide) (by rw [hq9]; decide) (by rw [hq9]; decide +kernel) (by decide) ?_
    refine a_iconst C 0 dX12_isSign_130 (by decide) ?_
    exact a_zret C rfl dX12_isSign_131 h
  by_cases hq10 : a0 = 45
  · have h := hs10 hq10
    refine a_tableIn C (off := 127) 128 dX12_isSign_1 (by rw [hq10]; decide) (by rw [hq10]; decide) (by rw [hq10]; decide +kernel) (by decide) ?_
    refine a_iconst C 1 dX12_isSign_128 (by decide) ?_
    exact a_zret C rfl dX12_isSign_129 h
  by_cases hq11 : a0 = 46
  · have h := hs11 hq11
    refine a_tableIn C (off := 129) 130 dX12_isSign_1 (by rw [hq11]; decide) (by rw [hq11]; decide) (by rw [hq11]; decide +kernel) (by decide) ?_
    refine a_iconst C 0 dX12_isSign_130 (by decide) ?_
    exact a_zret C rfl dX12_isSign_131 h
  by_cases hq12 : a0 = 47
  · have h := hs12 hq12
    refine a_tableIn C (off := 127) 128 dX12_isSign_1 (by rw [hq12]; decide) (by rw [hq12]; decide) (by rw [hq12]; decide +kernel) (by decide) ?_
    refine a_iconst C 1 dX12_isSign_128 (by decide) ?_
    exact a_zret C rfl dX12_isSign_129 h
  by_cases hq13 : a0 = 48
  · have h := hs13 hq13
    refine a_tableIn C (off := 129) 130 dX12_isSign_1 (by rw [hq13]; decide) (by rw [hq13]; decide) (by rw [hq13]; decide +kernel) (by decide) ?_
    refine a_iconst C 0 dX12_isSign_130 (by decide) ?_
    exact a_zret C rfl dX12_isSign_131 h
  by_cases hq14 : a0 = 49
  · have h := hs14 hq14
    refine a_tableIn C (off := 129) 130 dX12_isSign_1 (by rw [hq14]; decide) (by rw [hq14]; decide) (by rw [hq14]; decide +kernel) (by decide) ?_
    refine a_iconst C 0 dX12_isSign_130 (by decide) ?_
    exact a_zret C rfl dX12_isSign_131 h
  by_cases hq15 : a0 = 50
  · have h := hs15 hq15
    refine a_tableIn C (off := 129) 130 dX12_isSign_1 (by rw [hq15]; decide) (by rw [hq15]; decide) (by rw [hq15]; decide +kernel) (by decide) ?_
    refine a_iconst C 0 dX12_isSign_130 (by decide) ?_
    exact a_zret C rfl dX12_isSign_131 h
  by_cases hq16 : a0 = 51
  · have h := hs16 hq16
    refine a_tableIn C (off := 129) 130 dX12_isSign_1 (by rw [hq16]; decide) (by rw [hq16]; decide) (by rw [hq16]; decide +kernel) (by decide) ?_
    refine a_iconst C 0 dX12_isSign_130 (by decide) ?_
    exact a_zret C rfl dX12_isSign_131 h
  by_cases hq17 : a0 = 52
  · have h := hs17 hq17
    refine a_tableIn C (off := 129) 130 dX12_isSign_1 (by rw [hq17]; decide) (by rw [hq17]; decide) (by rw [hq17]; decide +kernel) (by decide) ?_
    refine a_iconst C 0 dX12_isSign_130 (by decide) ?_
    exact a_zret C rfl dX12_isSign_131 h
  by_cases hq18 : a0 = 53
  · have h := hs18 hq18
    refine a_tableIn C (off := 129) 130 dX12_isSign_1 (by rw [hq18]; decide) (by rw [hq18]; decide) (by rw [hq18]; decide +kernel) (by decide) ?_
    refine a_iconst C 0 dX12_isSign_130 (by decide) ?_
    exact a_zret C rfl dX12_isSign_131 h
  by_cases hq19 : a0 = 54
  · have h := hs19 hq19
    refine a_tableIn C (off := 129) 130 dX12_isSign_1 (by rw [hq19]; decide) (by rw [hq19]; decide) (by rw [hq19]; decide +kernel) (by decide) ?_
    refine a_iconst C 0 dX12_isSign_130 (by decide) ?_
    exact a_zret C rfl dX12_isSign_131 h
  by_cases hq20 : a0 = 55
  · have h := hs20 hq20
    refine a_tableIn C (off := 129) 130 dX12_isSign_1 (by rw [hq20]; decide) (by rw [hq20]; decide) (by rw [hq20]; decide +kernel) (by decide) ?_
    refine a_iconst C 0 dX12_isSign_130 (by decide) ?_
    exact a_zret C rfl dX12_isSign_131 h
  by_cases hq21 : a0 = 56
  · have h := hs21 hq21
    refine a_tableIn C (off := 129) 130 dX12_isSign_1 (by rw [hq21]; decide) (by rw [hq21]; decide) (by rw [hq21]; decide +kernel) (by decide) ?_
    refine a_iconst C 0 dX12_isSign_130 (by decide) ?_
    exact a_zret C rfl dX12_isSign_131 h
  by_cases hq22 : a0 = 57
  · have h := hs22 hq22
    refine a_tableIn C (off := 129) 130 dX12_isSign_1 (by rw [hq22]; decide) (by rw [hq22]; decide) (by rw [hq22]; decide +kernel) (by decide) ?_
    refine a_iconst C 0 dX12_isSign_130 (by decide) ?_
    exact a_zret C rfl dX12_isSign_131 h
  by_cases hq23 : a0 = 58
  · have h := hs23 hq23
    refine a_tableIn C (off := 127) 128 dX12_isSign_1 (by rw [hq23]; decide) (by rw [hq23]; decide) (by rw [hq23]; decide +kernel) (by decide) ?_
    refine a_iconst C 1 dX12_isSign_128 (by decide) ?_
    exact a_zret C rfl dX12_isSign_129 h
  by_cases hq24 : a0 = 59
  · have h := hs24 hq24
    refine a_tableIn C (off := 127) 128 dX12_isSign_1 (by rw [hq24]; decide) (by rw [hq24]; decide) (by rw [hq24]; decide +kernel) (by decide) ?_
    refine a_iconst C 1 dX12_isSign_128 (by decide) ?_
    exact a_zret C rfl dX12_isSign_129 h
  by_cases hq25 : a0 = 60
  · have h := hs25 hq25
    refine a_tableIn C (off := 127) 128 dX12_isSign_1 (by rw [hq25]; decide) (by rw [hq25]; decide) (by rw [hq25]; decide +kernel) (by decide) ?_
    refine a_iconst C 1 dX12_isSign_128 (by decide) ?_
    exact a_zret C rfl dX12_isSign_129 h
  by_cases hq26 : a0 = 61
  · have h := hs26 hq26
    refine a_tableIn C (off := 127) 128 dX12_isSign_1 (by rw [hq26]; decide) (by rw [hq26]; decide) (by rw [hq26]; decide +kernel) (by decide) ?_
    refine a_iconst C 1 dX12_isSign_128 (by decide) ?_
    exact a_zret C rfl dX12_isSign_129 h
  by_cases hq27 : a0 = 62
  · have h := hs27 hq27
    refine a_tableIn C (off := 127) 128 dX12_isSign_1 (by rw [hq27]; decide) (by rw [hq27]; decide) (by rw [hq27]; decide +kernel) (by decide) ?_
    refine a_iconst C 1 dX12_isSign_128 (by decide) ?_
    exact a_zret C rfl dX12_isSign_129 h
  have h := hd0 hq0 hq1 hq2 hq3 hq4 hq5 hq6 hq7 hq8 hq9 hq10 hq11 hq12 hq13 hq14 hq15 hq16 hq17 hq18 hq19 hq20 hq21 hq22 hq23 hq24 hq25 hq26 hq27
  refine a_tableOut C 130 dX12_isSign_1 (tsw_out 35 62 (fun q h1 h2 => by rcases (show q = 35 ∨ q = 36 ∨ q = 37 ∨ q = 38 ∨ q = 39 ∨ q = 40 ∨ q = 41 ∨ q = 42 ∨ q = 43 ∨ q = 44 ∨ q = 45 ∨ q = 46 ∨ q = 47 ∨ q = 48 ∨ q = 49 ∨ q = 50 ∨ q = 51 ∨ q = 52 ∨ q = 53 ∨ q = 54 ∨ q = 55 ∨ q = 56 ∨ q = 57 ∨ q = 58 ∨ q = 59 ∨ q = 60 ∨ q = 61 ∨ q = 62 by omega) with rfl | rfl | rfl | rfl | rfl | rfl | rfl | rfl | rfl | rfl | rfl | rfl | rfl | rfl | rfl | rfl | rfl | rfl | rfl | rfl | rfl | rfl | rfl | rfl | rfl | rfl | rfl | rfl <;> first | exact lv_neT hq0 (by decide) | exact lv_neT hq1 (by decide) | exact lv_neT hq2 (by decide) | exact lv_neT hq3 (by decide) | exact lv_neT hq4 (by decide) | exact lv_neT hq5 (by decide) | exact lv_neT hq6 (by decide) | exact lv_neT hq7 (by decide) | exact lv_neT hq8 (by decide) | exact lv_neT hq9 (by decide) | exact lv_neT hq10 (by decide) | exact lv_neT hq11 (by decide) | exact lv_neT hq12 (by decide) | exact lv_neT hq13 (by decide) | exact lv_neT hq14 (by decide) | exact lv_neT hq15 (by decide) | exact lv_neT hq16 (by decide) | exact lv_neT hq17 (by decide) | exact lv_neT hq18 (by decide) | exact lv_neT hq19 (by decide) | exact lv_neT hq20 (by decide) | exact lv_neT hq21 (by decide) | exact lv_neT hq22 (by decide) | exact lv_neT hq23 (by decide) | exact lv_neT hq24 (by decide) | exact lv_neT hq25 (by decide) | exact lv_neT hq26 (by decide) | exact lv_neT hq27 (by decide))) (by decide) ?_
  refine a_iconst C 0 dX12_isSign_130 (by decide) ?_
  exact a_zret C rfl dX12_isSign_131 h
