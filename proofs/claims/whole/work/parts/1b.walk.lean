/-! RainOnTheOne$Reader.signKind(II)I -/
def wl_X6_signKind_34 (post : Int32 → PoS → Prop) : Nat → Int32 → Int32 → PoS → Prop
  | 0, _, _, _ => False
  | n + 1, v0, v2, u => ((11 ≤ v2 → post 42 u) ∧ (¬ 11 ≤ v2 → vp_in v2 11 ∧ ((¬ (jsC 1 (Int32.toNatClampNeg v2)) = v0 → wl_X6_signKind_34 post n v0 (v2 + 1) u) ∧ ((jsC 1 (Int32.toNatClampNeg v2)) = v0 → post (28 + v2) u))))
def wj_X6_signKind_32 (post : Int32 → PoS → Prop) (v0 : Int32) (u : PoS) : Prop := (∃ n34, wl_X6_signKind_34 post n34 v0 0 u)
def wj_X6_signKind_18 (post : Int32 → PoS → Prop) (v0 : Int32) (u : PoS) : Prop := ((¬ v0 = 60 → post 40 u) ∧ (v0 = 60 → post 39 u))
def wp_X6_signKind (a0 : Int32) (a1 : Int32) (u : PoS) (post : Int32 → PoS → Prop) : Prop := ((¬ a1 = 61 → wj_X6_signKind_32 post a0 u) ∧ (a1 = 61 → ((a0 = 60 → wj_X6_signKind_18 post a0 u) ∧ (¬ a0 = 60 → ((¬ a0 = 62 → wj_X6_signKind_32 post a0 u) ∧ (a0 = 62 → wj_X6_signKind_18 post a0 u))))))
set_option maxHeartbeats 4000000 in
set_option maxRecDepth 100000 in
theorem tl_X6_signKind_34 {p : Program} {l : Launch} {e : Env} {s : State} {m : MethodId} {args : Array Value} {below : List Frame} {meth : Method} {c : Code} {V : VEn} {post : Int32 → PoS → Prop} (C : CxS p s m args meth c V cX6_signKind 3 RX6 (some .int)) : ∀ (n : Nat) (v0 : Int32) (v2 : Int32) (u : PoS), wl_X6_signKind_34 post n v0 v2 u → AtS p l e (Rm 4) s m args below meth c V 3 0 0 (QI V below args s post) 34 [(0, .int v0), (2, .int v2)] [] u := by
  intro n
  induction n with
  | zero => intro v0 v2 u h; exact h.elim
  | succ n ih =>
    intro v0 v2 u h
    rw [wl_X6_signKind_34] at h
    refine a_iload_n C 1 dX6_signKind_34 rfl rfl ?_
    refine s_ldc1 C dX6_signKind_35 ?_
    refine a_callTi C (i := 1) (by decide) rfl dX6_signKind_37 (m_length l V (i := 1) (by decide) (post := fun r v => r = 11 ∧ v = u) ⟨by decide, rfl⟩) bw_467 bw_468 bw_469 bw_124 bw_470 np_length rfl rfl (by decide) (Nat.le_of_ble_eq_true rfl) ⟨Nat.zero_le _, Nat.zero_le _⟩ (fun r v q => ?_)
    rw [q.1, q.2]
    refine a_icmp_ge C 64 dX6_signKind_40 (by decide) (fun c2 => ?_) (fun c2 => ?_)
    · have h := h.1 c2
      refine a_bipush C 42 dX6_signKind_64 (by decide) ?_
      exact a_iret C dX6_signKind_66 h
    · have h := h.2 c2
      refine s_ldc1 C dX6_signKind_43 ?_
      refine a_iload_n C 1 dX6_signKind_45 rfl rfl ?_
      refine a_callTi C (i := 1) (by decide) rfl dX6_signKind_46 (m_charAt l V (i := 1) (by decide) h.1 (post := fun r v => r = (jsC 1 (Int32.toNatClampNeg v2)) ∧ v = u) ⟨rfl, rfl⟩) bw_477 bw_478 bw_479 bw_124 bw_480 np_charAt rfl rfl (by decide) (Nat.le_of_ble_eq_true rfl) ⟨Nat.zero_le _, Nat.zero_le _⟩ (fun r v q => ?_)
      have h := h.2
      rw [q.1, q.2]
      refine a_iload_n C 0 dX6_signKind_49 rfl rfl ?_
      refine a_icmp_ne C 58 dX6_signKind_50 (by decide) (fun c1 => ?_) (fun c1 => ?_)
      · have h := h.1 c1
        refine a_iinc C (v2 + 1) 1 [(2, .int (v2 + 1)), (0, .int v0)] dX6_signKind_58 rfl (congrArg (fun z => v2 + z) (show Int32.ofInt 1 = 1 by decide)) (by decide) rfl ?_
        refine a_goto C 34 dX6_signKind_61 (by decide) ?_
        refine a_sub [1, 0] rfl ?_
        exact ih _ _ _ h
      · have h := h.2 c1
        refine a_bipush C 28 dX6_signKind_53 (by decide) ?_
        refine a_iload_n C 1 dX6_signKind_55 rfl rfl ?_
        refine a_iadd C dX6_signKind_56 ?_
        exact a_iret C dX6_signKind_57 h
set_option maxHeartbeats 4000000 in
set_option maxRecDepth 100000 in
theorem tj_X6_signKind_32 {p : Program} {l : Launch} {e : Env} {s : State} {m : MethodId} {args : Array Value} {below : List Frame} {meth : Method} {c : Code} {V : VEn} {post : Int32 → PoS → Prop} (C : CxS p s m args meth c V cX6_signKind 3 RX6 (some .int)) (v0 : Int32) (u : PoS) (h : wj_X6_signKind_32 post v0 u) : AtS p l e (Rm 4) s m args below meth c V 3 0 0 (QI V below args s post) 32 [(0, .int v0)] [] u := by
  rw [wj_X6_signKind_32] at h
  refine a_iconst C 0 dX6_signKind_32 (by decide) ?_
  refine a_istore_n C [(2, .int 0), (0, .int v0)] dX6_signKind_33 rfl (by decide) rfl ?_
  refine a_sub [1, 0] rfl ?_
  obtain ⟨n34, h⟩ := h
  refine tl_X6_signKind_34 C n34 _ _ _ h
set_option maxHeartbeats 4000000 in
set_option maxRecDepth 100000 in
theorem tj_X6_signKind_18 {p : Program} {l : Launch} {e : Env} {s : State} {m : MethodId} {args : Array Value} {below : List Frame} {meth : Method} {c : Code} {V : VEn} {post : Int32 → PoS → Prop} (C : CxS p s m args meth c V cX6_signKind 3 RX6 (some .int)) (v0 : Int32) (u : PoS) (h : wj_X6_signKind_18 post v0 u) : AtS p l e (Rm 4) s m args below meth c V 3 0 0 (QI V below args s post) 18 [(0, .int v0)] [] u := by
  rw [wj_X6_signKind_18] at h
  refine a_iload_n C 0 dX6_signKind_18 rfl rfl ?_
  refine a_bipush C 60 dX6_signKind_19 (by decide) ?_
  refine a_icmp_ne C 29 dX6_signKind_21 (by decide) (fun c3 => ?_) (fun c3 => ?_)
  · have h := h.1 c3
    refine a_bipush C 40 dX6_signKind_29 (by decide) ?_
    exact a_iret C dX6_signKind_31 h
  · have h := h.2 c3
    refine a_bipush C 39 dX6_signKind_24 (by decide) ?_
    refine a_goto C 31 dX6_signKind_26 (by decide) ?_
    exact a_iret C dX6_signKind_31 h
theorem np_X6_signKind : yX6_signKind.cls ≠ "java/lang/invoke/MethodHandle" ∧ yX6_signKind.cls ≠ "java/lang/invoke/VarHandle" ∧ (parseMethodDescriptor yX6_signKind.desc).map (fun d => d.parameters.length) = some 2 := by decide +kernel
set_option maxHeartbeats 4000000 in
set_option maxRecDepth 100000 in
theorem m_X6_signKind (l : Launch) (V : VEn) {a0 : Int32} {a1 : Int32} {u : PoS} {post : Int32 → PoS → Prop} (h : wp_X6_signKind a0 a1 u post) : KI l V yX6_signKind cX6_signKind 3 .int 4 [.int a0, .int a1] u post := by
  refine KI_of (by decide) (Nat.le_of_ble_eq_true rfl) (lv := [(0, .int a0), (1, .int a1)]) rfl ?_
  intro p e s m args below meth c C
  rw [wp_X6_signKind] at h
  refine a_iload_n C 1 dX6_signKind_0 rfl rfl ?_
  refine a_bipush C 61 dX6_signKind_1 (by decide) ?_
  refine a_icmp_ne C 32 dX6_signKind_3 (by decide) (fun c6 => ?_) (fun c6 => ?_)
  · have h := h.1 c6
    refine a_sub [0] rfl ?_
    refine tj_X6_signKind_32 C _ _ h
  · have h := h.2 c6
    refine a_iload_n C 0 dX6_signKind_6 rfl rfl ?_
    refine a_bipush C 60 dX6_signKind_7 (by decide) ?_
    refine a_icmp_eq C 18 dX6_signKind_9 (by decide) (fun c5 => ?_) (fun c5 => ?_)
    · have h := h.1 c5
      refine a_sub [0] rfl ?_
      refine tj_X6_signKind_18 C _ _ h
    · have h := h.2 c5
      refine a_iload_n C 0 dX6_signKind_12 rfl rfl ?_
      refine a_bipush C 62 dX6_signKind_13 (by decide) ?_
      refine a_icmp_ne C 32 dX6_signKind_15 (by decide) (fun c4 => ?_) (fun c4 => ?_)
      · have h := h.1 c4
        refine a_sub [0] rfl ?_
        refine tj_X6_signKind_32 C _ _ h
      · have h := h.2 c4
        refine a_sub [0] rfl ?_
        refine tj_X6_signKind_18 C _ _ h

/-! RainOnTheOne$Reader.wordKind([III)I -/
def wj_X6_wordKind_81 (k8 : Int32 → Int32 → Int32 → Int32 → Int32 → PoS → Prop) (post : Int32 → PoS → Prop) (v1 : Int32) (v2 : Int32) (v3 : Int32) (v4 : Int32) (v5 : Int32) (u : PoS) : Prop := k8 v1 v2 v3 v4 (v5 + 1) u
def wj_X6_wordKind_78 (k8 : Int32 → Int32 → Int32 → Int32 → Int32 → PoS → Prop) (post : Int32 → PoS → Prop) (v1 : Int32) (v2 : Int32) (v3 : Int32) (v5 : Int32) (u : PoS) : Prop := wj_X6_wordKind_81 k8 post v1 v2 v3 (-1) v5 u
def wl_X6_wordKind_8 (post : Int32 → PoS → Prop) : Nat → Int32 → Int32 → Int32 → Int32 → Int32 → PoS → Prop
  | 0, _, _, _, _, _, _ => False
  | n + 1, v1, v2, v3, v4, v5, u => ((136 ≤ v5 → post 42 u) ∧ (¬ 136 ≤ v5 → vp_in v5 136 ∧ ∀ x1 : Int32, x1 = (jsC 0 (Int32.toNatClampNeg v5)) → ((¬ x1 = 32 → ((v4 = (-1) → wj_X6_wordKind_78 (wl_X6_wordKind_8 post n) post v1 v2 v3 v5 u) ∧ (¬ v4 = (-1) → ((v2 ≤ v4 → wj_X6_wordKind_78 (wl_X6_wordKind_8 post n) post v1 v2 v3 v5 u) ∧ (¬ v2 ≤ v4 → vp_in v4 300 ∧ ((¬ (gI u 31 (Int32.toNatClampNeg v4)) = x1 → wj_X6_wordKind_78 (wl_X6_wordKind_8 post n) post v1 v2 v3 v5 u) ∧ ((gI u 31 (Int32.toNatClampNeg v4)) = x1 → wj_X6_wordKind_81 (wl_X6_wordKind_8 post n) post v1 v2 v3 (v4 + 1) v5 u))))))) ∧ (x1 = 32 → ((¬ v4 = v2 → wj_X6_wordKind_81 (wl_X6_wordKind_8 post n) post v1 v2 (v3 + 1) v1 v5 u) ∧ (v4 = v2 → post v3 u))))))
def wp_X6_wordKind (a1 : Int32) (a2 : Int32) (u : PoS) (post : Int32 → PoS → Prop) : Prop := (∃ n8, wl_X6_wordKind_8 post n8 a1 a2 0 a1 0 u)
set_option maxHeartbeats 4000000 in
set_option maxRecDepth 100000 in
theorem tj_X6_wordKind_81 {p : Program} {l : Launch} {e : Env} {s : State} {m : MethodId} {args : Array Value} {below : List Frame} {meth : Method} {c : Code} {V : VEn} {k8 : Int32 → Int32 → Int32 → Int32 → Int32 → PoS → Prop} {post : Int32 → PoS → Prop} (C : CxS p s m args meth c V cX6_wordKind 7 RX6 (some .int)) (hk8 : ∀ (v1 : Int32) (v2 : Int32) (v3 : Int32) (v4 : Int32) (v5 : Int32) (u : PoS), k8 v1 v2 v3 v4 v5 u → AtS p l e (Rm 4) s m args below meth c V 7 0 0 (QI V below args s post) 8 [(0, .ref (eA V 31)), (1, .int v1), (2, .int v2), (3, .int v3), (4, .int v4), (5, .int v5)] [] u) (v1 : Int32) (v2 : Int32) (v3 : Int32) (v4 : Int32) (v5 : Int32) (u : PoS) (h : wj_X6_wordKind_81 k8 post v1 v2 v3 v4 v5 u) : AtS p l e (Rm 4) s m args below meth c V 7 0 0 (QI V below args s post) 81 [(0, .ref (eA V 31)), (1, .int v1), (2, .int v2), (3, .int v3), (4, .int v4), (5, .int v5)] [] u := by
  rw [wj_X6_wordKind_81] at h
  refine a_iinc C (v5 + 1) 5 [(5, .int (v5 + 1)), (0, .ref (eA V 31)), (1, .int v1), (2, .int v2), (3, .int v3), (4, .int v4)] dX6_wordKind_81 rfl (congrArg (fun z => v5 + z) (show Int32.ofInt 1 = 1 by decide)) (by decide) rfl ?_
  refine a_goto C 8 dX6_wordKind_84 (by decide) ?_
  refine a_sub [1, 2, 3, 4, 5, 0] rfl ?_
  exact hk8 _ _ _ _ _ _ h
set_option maxHeartbeats 4000000 in
set_option maxRecDepth 100000 in
theorem tj_X6_wordKind_78 {p : Program} {l : Launch} {e : Env} {s : State} {m : MethodId} {args : Array Value} {below : List Frame} {meth : Method} {c : Code} {V : VEn} {k8 : Int32 → Int32 → Int32 → Int32 → Int32 → PoS → Prop} {post : Int32 → PoS → Prop} (C : CxS p s m args meth c V cX6_wordKind 7 RX6 (some .int)) (hk8 : ∀ (v1 : Int32) (v2 : Int32) (v3 : Int32) (v4 : Int32) (v5 : Int32) (u : PoS), k8 v1 v2 v3 v4 v5 u → AtS p l e (Rm 4) s m args below meth c V 7 0 0 (QI V below args s post) 8 [(0, .ref (eA V 31)), (1, .int v1), (2, .int v2), (3, .int v3), (4, .int v4), (5, .int v5)] [] u) (v1 : Int32) (v2 : Int32) (v3 : Int32) (v5 : Int32) (u : PoS) (h : wj_X6_wordKind_78 k8 post v1 v2 v3 v5 u) : AtS p l e (Rm 4) s m args below meth c V 7 0 0 (QI V below args s post) 78 [(0, .ref (eA V 31)), (1, .int v1), (2, .int v2), (3, .int v3), (5, .int v5)] [] u := by
  rw [wj_X6_wordKind_78] at h
  refine a_iconst C (-1) dX6_wordKind_78 (by decide) ?_
  refine a_istore C [(4, .int (-1)), (0, .ref (eA V 31)), (1, .int v1), (2, .int v2), (3, .int v3), (5, .int v5)] dX6_wordKind_79 (by decide) rfl ?_
  refine a_sub [1, 2, 3, 4, 0, 5] rfl ?_
  refine tj_X6_wordKind_81 C hk8 _ _ _ _ _ _ h
set_option maxHeartbeats 4000000 in
set_option maxRecDepth 100000 in
theorem tl_X6_wordKind_8 {p : Program} {l : Launch} {e : Env} {s : State} {m : MethodId} {args : Array Value} {below : List Frame} {meth : Method} {c : Code} {V : VEn} {post : Int32 → PoS → Prop} (C : CxS p s m args meth c V cX6_wordKind 7 RX6 (some .int)) : ∀ (n : Nat) (v1 : Int32) (v2 : Int32) (v3 : Int32) (v4 : Int32) (v5 : Int32) (u : PoS), wl_X6_wordKind_8 post n v1 v2 v3 v4 v5 u → AtS p l e (Rm 4) s m args below meth c V 7 0 0 (QI V below args s post) 8 [(0, .ref (eA V 31)), (1, .int v1), (2, .int v2), (3, .int v3), (4, .int v4), (5, .int v5)] [] u := by
  intro n
  induction n with
  | zero => intro v1 v2 v3 v4 v5 u h; exact h.elim
  | succ n ih =>
    intro v1 v2 v3 v4 v5 u h
    rw [wl_X6_wordKind_8] at h
    refine a_iload C 5 dX6_wordKind_8 rfl ?_
    refine s_ldc0 C dX6_wordKind_10 ?_
    refine a_callTi C (i := 0) (by decide) rfl dX6_wordKind_12 (m_length l V (i := 0) (by decide) (post := fun r v => r = 136 ∧ v = u) ⟨by decide, rfl⟩) bw_467 bw_468 bw_469 bw_124 bw_470 np_length rfl rfl (by decide) (Nat.le_of_ble_eq_true rfl) ⟨Nat.zero_le _, Nat.zero_le _⟩ (fun r v q => ?_)
    rw [q.1, q.2]
    refine a_icmp_ge C 87 dX6_wordKind_15 (by decide) (fun c7 => ?_) (fun c7 => ?_)
    · have h := h.1 c7
      refine a_bipush C 42 dX6_wordKind_87 (by decide) ?_
      exact a_iret C dX6_wordKind_89 h
    · have h := h.2 c7
      refine s_ldc0 C dX6_wordKind_18 ?_
      refine a_iload C 5 dX6_wordKind_20 rfl ?_
      refine a_callTi C (i := 0) (by decide) rfl dX6_wordKind_22 (m_charAt l V (i := 0) (by decide) h.1 (post := fun r v => r = (jsC 0 (Int32.toNatClampNeg v5)) ∧ v = u) ⟨rfl, rfl⟩) bw_477 bw_478 bw_479 bw_124 bw_480 np_charAt rfl rfl (by decide) (Nat.le_of_ble_eq_true rfl) ⟨Nat.zero_le _, Nat.zero_le _⟩ (fun r v q => ?_)
      have h := h.2
      rw [q.1, q.2]
      refine a_topi (fun x1 ex1 => ?_)
      have h := h x1 ex1
      refine a_istore C [(6, .int x1), (0, .ref (eA V 31)), (1, .int v1), (2, .int v2), (3, .int v3), (4, .int v4), (5, .int v5)] dX6_wordKind_25 (by decide) rfl ?_
      refine a_iload C 0 dX6_wordKind_27 rfl ?_
      refine a_bipush C 32 dX6_wordKind_29 (by decide) ?_
      refine a_icmp_ne C 51 dX6_wordKind_31 (by decide) (fun c6 => ?_) (fun c6 => ?_)
      · have h := h.1 c6
        refine a_iload C 5 dX6_wordKind_51 rfl ?_
        refine a_iconst C (-1) dX6_wordKind_53 (by decide) ?_
        refine a_icmp_eq C 78 dX6_wordKind_54 (by decide) (fun c4 => ?_) (fun c4 => ?_)
        · have h := h.1 c4
          refine a_sub [1, 2, 3, 4, 6] rfl ?_
          refine tj_X6_wordKind_78 C ih _ _ _ _ _ h
        · have h := h.2 c4
          refine a_iload C 5 dX6_wordKind_57 rfl ?_
          refine a_iload_n C 3 dX6_wordKind_59 rfl rfl ?_
          refine a_icmp_ge C 78 dX6_wordKind_60 (by decide) (fun c3 => ?_) (fun c3 => ?_)
          · have h := h.1 c3
            refine a_sub [1, 2, 3, 4, 6] rfl ?_
            refine tj_X6_wordKind_78 C ih _ _ _ _ _ h
          · have h := h.2 c3
            refine a_aload_n C 1 dX6_wordKind_63 rfl rfl ?_
            refine a_iload C 5 dX6_wordKind_64 rfl ?_
            refine b_iald C (Int32.toNatClampNeg v4) dX6_wordKind_66 (by decide) rfl h.1 rfl ?_
            have h := h.2
            refine a_iload C 0 dX6_wordKind_67 rfl ?_
            refine a_icmp_ne C 78 dX6_wordKind_69 (by decide) (fun c2 => ?_) (fun c2 => ?_)
            · have h := h.1 c2
              refine a_sub [1, 2, 3, 4, 6] rfl ?_
              refine tj_X6_wordKind_78 C ih _ _ _ _ _ h
            · have h := h.2 c2
              refine a_iinc C (v4 + 1) 5 [(4, .int (v4 + 1)), (6, .int x1), (0, .ref (eA V 31)), (1, .int v1), (2, .int v2), (3, .int v3), (5, .int v5)] dX6_wordKind_72 rfl (congrArg (fun z => v4 + z) (show Int32.ofInt 1 = 1 by decide)) (by decide) rfl ?_
              refine a_goto C 81 dX6_wordKind_75 (by decide) ?_
              refine a_sub [2, 3, 4, 5, 0, 6] rfl ?_
              refine tj_X6_wordKind_81 C ih _ _ _ _ _ _ h
      · have h := h.2 c6
        refine a_iload C 5 dX6_wordKind_34 rfl ?_
        refine a_iload_n C 3 dX6_wordKind_36 rfl rfl ?_
        refine a_icmp_ne C 42 dX6_wordKind_37 (by decide) (fun c5 => ?_) (fun c5 => ?_)
        · have h := h.1 c5
          refine a_iinc C (v3 + 1) 4 [(3, .int (v3 + 1)), (6, .int x1), (0, .ref (eA V 31)), (1, .int v1), (2, .int v2), (4, .int v4), (5, .int v5)] dX6_wordKind_42 rfl (congrArg (fun z => v3 + z) (show Int32.ofInt 1 = 1 by decide)) (by decide) rfl ?_
          refine a_iload_n C 3 dX6_wordKind_45 rfl rfl ?_
          refine a_istore C [(4, .int v1), (3, .int (v3 + 1)), (6, .int x1), (0, .ref (eA V 31)), (1, .int v1), (2, .int v2), (5, .int v5)] dX6_wordKind_46 (by decide) rfl ?_
          refine a_goto C 81 dX6_wordKind_48 (by decide) ?_
          refine a_sub [3, 4, 5, 1, 0, 6] rfl ?_
          refine tj_X6_wordKind_81 C ih _ _ _ _ _ _ h
        · have h := h.2 c5
          refine a_iload_n C 4 dX6_wordKind_40 rfl rfl ?_
          exact a_iret C dX6_wordKind_41 h
theorem np_X6_wordKind : yX6_wordKind.cls ≠ "java/lang/invoke/MethodHandle" ∧ yX6_wordKind.cls ≠ "java/lang/invoke/VarHandle" ∧ (parseMethodDescriptor yX6_wordKind.desc).map (fun d => d.parameters.length) = some 3 := by decide +kernel
set_option maxHeartbeats 4000000 in
set_option maxRecDepth 100000 in
theorem m_X6_wordKind (l : Launch) (V : VEn) {a1 : Int32} {a2 : Int32} {u : PoS} {post : Int32 → PoS → Prop} (h : wp_X6_wordKind a1 a2 u post) : KI l V yX6_wordKind cX6_wordKind 7 .int 4 [.ref (eA V 31), .int a1, .int a2] u post := by
  refine KI_of (by decide) (Nat.le_of_ble_eq_true rfl) (lv := [(0, .ref (eA V 31)), (1, .int a1), (2, .int a2)]) rfl ?_
  intro p e s m args below meth c C
  rw [wp_X6_wordKind] at h
  refine a_iconst C 0 dX6_wordKind_0 (by decide) ?_
  refine a_istore_n C [(3, .int 0), (0, .ref (eA V 31)), (1, .int a1), (2, .int a2)] dX6_wordKind_1 rfl (by decide) rfl ?_
  refine a_iload_n C 2 dX6_wordKind_2 rfl rfl ?_
  refine a_istore C [(4, .int a1), (3, .int 0), (0, .ref (eA V 31)), (1, .int a1), (2, .int a2)] dX6_wordKind_3 (by decide) rfl ?_
  refine a_iconst C 0 dX6_wordKind_5 (by decide) ?_
  refine a_istore C [(5, .int 0), (4, .int a1), (3, .int 0), (0, .ref (eA V 31)), (1, .int a1), (2, .int a2)] dX6_wordKind_6 (by decide) rfl ?_
  refine a_sub [3, 4, 5, 2, 1, 0] rfl ?_
  obtain ⟨n8, h⟩ := h
  refine tl_X6_wordKind_8 C n8 _ _ _ _ _ _ h

/-! RainOnTheOne$Reader.cutTokens([II)V -/
def wl_X6_cutTokens_38 (k62 : Int32 → Int32 → Int32 → Int32 → PoS → Prop) (post : PoS → Prop) : Nat → Int32 → Int32 → Int32 → Int32 → PoS → Prop
  | 0, _, _, _, _, _ => False
  | n + 1, v2, v3, v4, v5, u => ((v2 ≤ v5 → k62 v2 v3 v4 v5 u) ∧ (¬ v2 ≤ v5 → vp_in v5 300 ∧ wp_X6_isAlike v4 (gI u 31 (Int32.toNatClampNeg v5)) u (fun (r6 : Int32) (u7 : PoS) => ((r6 = 0 → k62 v2 v3 v4 v5 u7) ∧ (¬ r6 = 0 → wl_X6_cutTokens_38 k62 post n v2 v3 v4 (v5 + 1) u7)))))
def wj_X6_cutTokens_174 (k7 : Int32 → Int32 → PoS → Prop) (post : PoS → Prop) (v2 : Int32) (v5 : Int32) (u : PoS) : Prop := k7 v2 v5 u
def wj_X6_cutTokens_62 (k7 : Int32 → Int32 → PoS → Prop) (post : PoS → Prop) (v2 : Int32) (v3 : Int32) (v4 : Int32) (v5 : Int32) (u : PoS) : Prop := wp_X6_isDigit v4 u (fun (r11 : Int32) (u12 : PoS) => ((r11 = 0 → wp_X6_wordKind v3 v5 u12 (fun (r13 : Int32) (u14 : PoS) => wp_X6_addToken r13 v3 0 u14 (fun (u16 : PoS) => wj_X6_cutTokens_174 k7 post v2 v5 u16))) ∧ (¬ r11 = 0 → wp_X6_numberOf v3 v5 u12 (fun (r17 : Int32) (u18 : PoS) => wp_X6_addToken 41 v3 r17 u18 (fun (u20 : PoS) => wj_X6_cutTokens_174 k7 post v2 v5 u20)))))
def wj_X6_cutTokens_171 (k7 : Int32 → Int32 → PoS → Prop) (post : PoS → Prop) (v2 : Int32) (s0 : Int32) (s1 : Int32) (u : PoS) : Prop := ∀ x28 : Int32, x28 = (s1 + s0) → wj_X6_cutTokens_174 k7 post v2 x28 u
def wj_X6_cutTokens_170 (k7 : Int32 → Int32 → PoS → Prop) (post : PoS → Prop) (v2 : Int32) (s0 : Int32) (u : PoS) : Prop := wj_X6_cutTokens_171 k7 post v2 0 s0 u
def wj_X6_cutTokens_131 (k7 : Int32 → Int32 → PoS → Prop) (post : PoS → Prop) (v2 : Int32) (v3 : Int32) (v4 : Int32) (v5 : Int32) (s0 : Int32) (u : PoS) : Prop := wp_X6_signKind v4 s0 u (fun (r24 : Int32) (u25 : PoS) => wp_X6_addToken r24 v3 0 u25 (fun (u27 : PoS) => ((r24 < 39 → wj_X6_cutTokens_170 k7 post v2 v5 u27) ∧ (¬ r24 < 39 → ((40 < r24 → wj_X6_cutTokens_170 k7 post v2 v5 u27) ∧ (¬ 40 < r24 → wj_X6_cutTokens_171 k7 post v2 1 v5 u27))))))
def wl_X6_cutTokens_7 (k180 : Int32 → PoS → Prop) (post : PoS → Prop) : Nat → Int32 → Int32 → PoS → Prop
  | 0, _, _, _ => False
  | n + 1, v2, v3, u => ((v2 ≤ v3 → k180 v2 u) ∧ (¬ v2 ≤ v3 → vp_in v3 300 ∧ ∀ x2 : Int32, x2 = (gI u 31 (Int32.toNatClampNeg v3)) → ∀ x3 : Int32, x3 = (v3 + 1) → wp_X6_isDigit x2 u (fun (r4 : Int32) (u5 : PoS) => ((¬ r4 = 0 → (∃ n38, wl_X6_cutTokens_38 (fun (v210 : Int32) (v310 : Int32) (v410 : Int32) (v510 : Int32) (u10 : PoS) => wj_X6_cutTokens_62 (wl_X6_cutTokens_7 k180 post n) post v210 v310 v410 v510 u10) post n38 v2 v3 x2 x3 u5)) ∧ (r4 = 0 → wp_X6_isLetter x2 u5 (fun (r22 : Int32) (u23 : PoS) => ((r22 = 0 → ((x2 = 32 → wj_X6_cutTokens_174 (wl_X6_cutTokens_7 k180 post n) post v2 x3 u23) ∧ (¬ x2 = 32 → ((x2 = 10 → wj_X6_cutTokens_174 (wl_X6_cutTokens_7 k180 post n) post v2 x3 u23) ∧ (¬ x2 = 10 → ((v2 ≤ x3 → wj_X6_cutTokens_131 (wl_X6_cutTokens_7 k180 post n) post v2 v3 x2 x3 0 u23) ∧ (¬ v2 ≤ x3 → vp_in x3 300 ∧ wj_X6_cutTokens_131 (wl_X6_cutTokens_7 k180 post n) post v2 v3 x2 x3 (gI u23 31 (Int32.toNatClampNeg x3)) u23))))))) ∧ (¬ r22 = 0 → (∃ n38, wl_X6_cutTokens_38 (fun (v234 : Int32) (v334 : Int32) (v434 : Int32) (v534 : Int32) (u34 : PoS) => wj_X6_cutTokens_62 (wl_X6_cutTokens_7 k180 post n) post v234 v334 v434 v534 u34) post n38 v2 v3 x2 x3 u23)))))))))
def wp_X6_cutTokens (a1 : Int32) (u : PoS) (post : PoS → Prop) : Prop := ∀ z1 : PoS, z1 = pI u 27 5 0 → (∃ n7, wl_X6_cutTokens_7 (fun (v238 : Int32) (u38 : PoS) => wp_X6_addToken 43 v238 0 u38 (fun (u40 : PoS) => post u40)) post n7 a1 0 z1)
set_option maxHeartbeats 4000000 in
set_option maxRecDepth 100000 in
theorem tl_X6_cutTokens_38 {p : Program} {l : Launch} {e : Env} {s : State} {m : MethodId} {args : Array Value} {below : List Frame} {meth : Method} {c : Code} {V : VEn} {k62 : Int32 → Int32 → Int32 → Int32 → PoS → Prop} {post : PoS → Prop} (C : CxS p s m args meth c V cX6_cutTokens 8 RX6 none) (hk62 : ∀ (v2 : Int32) (v3 : Int32) (v4 : Int32) (v5 : Int32) (u : PoS), k62 v2 v3 v4 v5 u → AtS p l e (Rm 5) s m args below meth c V 8 0 0 (QV V below args s post) 62 [(0, .ref (eA V 27)), (1, .ref (eA V 31)), (2, .int v2), (3, .int v3), (4, .int v4), (5, .int v5)] [] u) : ∀ (n : Nat) (v2 : Int32) (v3 : Int32) (v4 : Int32) (v5 : Int32) (u : PoS), wl_X6_cutTokens_38 k62 post n v2 v3 v4 v5 u → AtS p l e (Rm 5) s m args below meth c V 8 0 0 (QV V below args s post) 38 [(0, .ref (eA V 27)), (1, .ref (eA V 31)), (2, .int v2), (3, .int v3), (4, .int v4), (5, .int v5)] [] u := by
  intro n
  induction n with
  | zero => intro v2 v3 v4 v5 u h; exact h.elim
  | succ n ih =>
    intro v2 v3 v4 v5 u h
    rw [wl_X6_cutTokens_38] at h
    refine a_iload C 5 dX6_cutTokens_38 rfl ?_
    refine a_iload_n C 2 dX6_cutTokens_40 rfl rfl ?_
    refine a_icmp_ge C 62 dX6_cutTokens_41 (by decide) (fun c9 => ?_) (fun c9 => ?_)
    · have h := h.1 c9
      exact hk62 _ _ _ _ _ h
    · have h := h.2 c9
      refine a_iload C 4 dX6_cutTokens_44 rfl ?_
      refine a_aload_n C 1 dX6_cutTokens_46 rfl rfl ?_
      refine a_iload C 5 dX6_cutTokens_47 rfl ?_
      refine b_iald C (Int32.toNatClampNeg v5) dX6_cutTokens_49 (by decide) rfl h.1 rfl ?_
      have h := h.2
      refine a_callSi C dX6_cutTokens_50 (m_X6_isAlike l V h) bw_453 bw_454 bw_119 bw_455 np_X6_isAlike rfl rfl (by decide) (Nat.le_of_ble_eq_true rfl) ⟨Nat.zero_le _, Nat.zero_le _⟩ (fun r6 u7 h => ?_)
      refine a_if_eq C 62 dX6_cutTokens_53 (by decide) (fun c8 => ?_) (fun c8 => ?_)
      · have h := h.1 c8
        exact hk62 _ _ _ _ _ h
      · have h := h.2 c8
        refine a_iinc C (v5 + 1) 5 [(5, .int (v5 + 1)), (0, .ref (eA V 27)), (1, .ref (eA V 31)), (2, .int v2), (3, .int v3), (4, .int v4)] dX6_cutTokens_56 rfl (congrArg (fun z => v5 + z) (show Int32.ofInt 1 = 1 by decide)) (by decide) rfl ?_
        refine a_goto C 38 dX6_cutTokens_59 (by decide) ?_
        refine a_sub [1, 2, 3, 4, 5, 0] rfl ?_
        exact ih _ _ _ _ _ h
set_option maxHeartbeats 4000000 in
set_option maxRecDepth 100000 in
theorem tj_X6_cutTokens_174 {p : Program} {l : Launch} {e : Env} {s : State} {m : MethodId} {args : Array Value} {below : List Frame} {meth : Method} {c : Code} {V : VEn} {k7 : Int32 → Int32 → PoS → Prop} {post : PoS → Prop} (C : CxS p s m args meth c V cX6_cutTokens 8 RX6 none) (hk7 : ∀ (v2 : Int32) (v3 : Int32) (u : PoS), k7 v2 v3 u → AtS p l e (Rm 5) s m args below meth c V 8 0 0 (QV V below args s post) 7 [(0, .ref (eA V 27)), (1, .ref (eA V 31)), (2, .int v2), (3, .int v3)] [] u) (v2 : Int32) (v5 : Int32) (u : PoS) (h : wj_X6_cutTokens_174 k7 post v2 v5 u) : AtS p l e (Rm 5) s m args below meth c V 8 0 0 (QV V below args s post) 174 [(0, .ref (eA V 27)), (1, .ref (eA V 31)), (2, .int v2), (5, .int v5)] [] u := by
  rw [wj_X6_cutTokens_174] at h
  refine a_iload C 3 dX6_cutTokens_174 rfl ?_
  refine a_istore_n C [(3, .int v5), (0, .ref (eA V 27)), (1, .ref (eA V 31)), (2, .int v2), (5, .int v5)] dX6_cutTokens_176 rfl (by decide) rfl ?_
  refine a_goto C 7 dX6_cutTokens_177 (by decide) ?_
  refine a_sub [1, 2, 3, 0] rfl ?_
  exact hk7 _ _ _ h
set_option maxHeartbeats 4000000 in
set_option maxRecDepth 100000 in
theorem tj_X6_cutTokens_62 {p : Program} {l : Launch} {e : Env} {s : State} {m : MethodId} {args : Array Value} {below : List Frame} {meth : Method} {c : Code} {V : VEn} {k7 : Int32 → Int32 → PoS → Prop} {post : PoS → Prop} (C : CxS p s m args meth c V cX6_cutTokens 8 RX6 none) (hk7 : ∀ (v2 : Int32) (v3 : Int32) (u : PoS), k7 v2 v3 u → AtS p l e (Rm 5) s m args below meth c V 8 0 0 (QV V below args s post) 7 [(0, .ref (eA V 27)), (1, .ref (eA V 31)), (2, .int v2), (3, .int v3)] [] u) (v2 : Int32) (v3 : Int32) (v4 : Int32) (v5 : Int32) (u : PoS) (h : wj_X6_cutTokens_62 k7 post v2 v3 v4 v5 u) : AtS p l e (Rm 5) s m args below meth c V 8 0 0 (QV V below args s post) 62 [(0, .ref (eA V 27)), (1, .ref (eA V 31)), (2, .int v2), (3, .int v3), (4, .int v4), (5, .int v5)] [] u := by
  rw [wj_X6_cutTokens_62] at h
  refine a_iload C 4 dX6_cutTokens_62 rfl ?_
  refine a_callSi C dX6_cutTokens_64 (m_X6_isDigit l V h) bw_447 bw_448 bw_119 bw_449 np_X6_isDigit rfl rfl (by decide) (Nat.le_of_ble_eq_true rfl) ⟨Nat.zero_le _, Nat.zero_le _⟩ (fun r11 u12 h => ?_)
  refine a_if_eq C 87 dX6_cutTokens_67 (by decide) (fun c21 => ?_) (fun c21 => ?_)
  · have h := h.1 c21
    refine a_aload_n C 0 dX6_cutTokens_87 rfl rfl ?_
    refine a_aload_n C 1 dX6_cutTokens_88 rfl rfl ?_
    refine a_iload_n C 3 dX6_cutTokens_89 rfl rfl ?_
    refine a_iload C 5 dX6_cutTokens_90 rfl ?_
    refine a_callSi C dX6_cutTokens_92 (m_X6_wordKind l V h) bw_463 bw_464 bw_119 bw_465 np_X6_wordKind rfl rfl (by decide) (Nat.le_of_ble_eq_true rfl) ⟨Nat.zero_le _, Nat.zero_le _⟩ (fun r13 u14 h => ?_)
    refine a_iload_n C 3 dX6_cutTokens_95 rfl rfl ?_
    refine a_iconst C 0 dX6_cutTokens_96 (by decide) ?_
    refine a_callVv C dX6_cutTokens_97 (m_X6_addToken l V h) bw_459 bw_461 bw_2 bw_119 bw_462 (by decide) rfl rfl np_X6_addToken rfl rfl (by decide) (Nat.le_of_ble_eq_true rfl) ⟨Nat.zero_le _, Nat.zero_le _⟩ (fun u16 h => ?_)
    refine a_goto C 174 dX6_cutTokens_100 (by decide) ?_
    refine a_sub [0, 1, 2, 5] rfl ?_
    refine tj_X6_cutTokens_174 C hk7 _ _ _ h
  · have h := h.2 c21
    refine a_aload_n C 0 dX6_cutTokens_70 rfl rfl ?_
    refine a_bipush C 41 dX6_cutTokens_71 (by decide) ?_
    refine a_iload_n C 3 dX6_cutTokens_73 rfl rfl ?_
    refine a_aload_n C 1 dX6_cutTokens_74 rfl rfl ?_
    refine a_iload_n C 3 dX6_cutTokens_75 rfl rfl ?_
    refine a_iload C 5 dX6_cutTokens_76 rfl ?_
    refine a_callSi C dX6_cutTokens_78 (m_X6_numberOf l V h) bw_456 bw_457 bw_119 bw_458 np_X6_numberOf rfl rfl (by decide) (Nat.le_of_ble_eq_true rfl) ⟨Nat.zero_le _, Nat.zero_le _⟩ (fun r17 u18 h => ?_)
    refine a_callVv C dX6_cutTokens_81 (m_X6_addToken l V h) bw_459 bw_461 bw_2 bw_119 bw_462 (by decide) rfl rfl np_X6_addToken rfl rfl (by decide) (Nat.le_of_ble_eq_true rfl) ⟨Nat.zero_le _, Nat.zero_le _⟩ (fun u20 h => ?_)
    refine a_goto C 174 dX6_cutTokens_84 (by decide) ?_
    refine a_sub [0, 1, 2, 5] rfl ?_
    refine tj_X6_cutTokens_174 C hk7 _ _ _ h
set_option maxHeartbeats 4000000 in
set_option maxRecDepth 100000 in
theorem tj_X6_cutTokens_171 {p : Program} {l : Launch} {e : Env} {s : State} {m : MethodId} {args : Array Value} {below : List Frame} {meth : Method} {c : Code} {V : VEn} {k7 : Int32 → Int32 → PoS → Prop} {post : PoS → Prop} (C : CxS p s m args meth c V cX6_cutTokens 8 RX6 none) (hk7 : ∀ (v2 : Int32) (v3 : Int32) (u : PoS), k7 v2 v3 u → AtS p l e (Rm 5) s m args below meth c V 8 0 0 (QV V below args s post) 7 [(0, .ref (eA V 27)), (1, .ref (eA V 31)), (2, .int v2), (3, .int v3)] [] u) (v2 : Int32) (s0 : Int32) (s1 : Int32) (u : PoS) (h : wj_X6_cutTokens_171 k7 post v2 s0 s1 u) : AtS p l e (Rm 5) s m args below meth c V 8 0 0 (QV V below args s post) 171 [(0, .ref (eA V 27)), (1, .ref (eA V 31)), (2, .int v2)] [.int s0, .int s1] u := by
  rw [wj_X6_cutTokens_171] at h
  refine a_iadd C dX6_cutTokens_171 ?_
  refine a_topi (fun x28 ex28 => ?_)
  have h := h x28 ex28
  refine a_istore C [(5, .int x28), (0, .ref (eA V 27)), (1, .ref (eA V 31)), (2, .int v2)] dX6_cutTokens_172 (by decide) rfl ?_
  refine a_sub [1, 2, 3, 0] rfl ?_
  refine tj_X6_cutTokens_174 C hk7 _ _ _ h
set_option maxHeartbeats 4000000 in
set_option maxRecDepth 100000 in
theorem tj_X6_cutTokens_170 {p : Program} {l : Launch} {e : Env} {s : State} {m : MethodId} {args : Array Value} {below : List Frame} {meth : Method} {c : Code} {V : VEn} {k7 : Int32 → Int32 → PoS → Prop} {post : PoS → Prop} (C : CxS p s m args meth c V cX6_cutTokens 8 RX6 none) (hk7 : ∀ (v2 : Int32) (v3 : Int32) (u : PoS), k7 v2 v3 u → AtS p l e (Rm 5) s m args below meth c V 8 0 0 (QV V below args s post) 7 [(0, .ref (eA V 27)), (1, .ref (eA V 31)), (2, .int v2), (3, .int v3)] [] u) (v2 : Int32) (s0 : Int32) (u : PoS) (h : wj_X6_cutTokens_170 k7 post v2 s0 u) : AtS p l e (Rm 5) s m args below meth c V 8 0 0 (QV V below args s post) 170 [(0, .ref (eA V 27)), (1, .ref (eA V 31)), (2, .int v2)] [.int s0] u := by
  rw [wj_X6_cutTokens_170] at h
  refine a_iconst C 0 dX6_cutTokens_170 (by decide) ?_
  refine tj_X6_cutTokens_171 C hk7 _ _ _ _ h
set_option maxHeartbeats 4000000 in
set_option maxRecDepth 100000 in
theorem tj_X6_cutTokens_131 {p : Program} {l : Launch} {e : Env} {s : State} {m : MethodId} {args : Array Value} {below : List Frame} {meth : Method} {c : Code} {V : VEn} {k7 : Int32 → Int32 → PoS → Prop} {post : PoS → Prop} (C : CxS p s m args meth c V cX6_cutTokens 8 RX6 none) (hk7 : ∀ (v2 : Int32) (v3 : Int32) (u : PoS), k7 v2 v3 u → AtS p l e (Rm 5) s m args below meth c V 8 0 0 (QV V below args s post) 7 [(0, .ref (eA V 27)), (1, .ref (eA V 31)), (2, .int v2), (3, .int v3)] [] u) (v2 : Int32) (v3 : Int32) (v4 : Int32) (v5 : Int32) (s0 : Int32) (u : PoS) (h : wj_X6_cutTokens_131 k7 post v2 v3 v4 v5 s0 u) : AtS p l e (Rm 5) s m args below meth c V 8 0 0 (QV V below args s post) 131 [(0, .ref (eA V 27)), (1, .ref (eA V 31)), (2, .int v2), (3, .int v3), (4, .int v4), (5, .int v5)] [.int s0] u := by
  rw [wj_X6_cutTokens_131] at h
  refine a_istore C [(6, .int s0), (0, .ref (eA V 27)), (1, .ref (eA V 31)), (2, .int v2), (3, .int v3), (4, .int v4), (5, .int v5)] dX6_cutTokens_131 (by decide) rfl ?_
  refine a_iload C 5 dX6_cutTokens_133 rfl ?_
  refine a_iload C 0 dX6_cutTokens_135 rfl ?_
  refine a_callSi C dX6_cutTokens_137 (m_X6_signKind l V h) bw_515 bw_516 bw_119 bw_517 np_X6_signKind rfl rfl (by decide) (Nat.le_of_ble_eq_true rfl) ⟨Nat.zero_le _, Nat.zero_le _⟩ (fun r24 u25 h => ?_)
  refine a_istore C [(7, .int r24), (6, .int s0), (0, .ref (eA V 27)), (1, .ref (eA V 31)), (2, .int v2), (3, .int v3), (4, .int v4), (5, .int v5)] dX6_cutTokens_140 (by decide) rfl ?_
  refine a_aload_n C 2 dX6_cutTokens_142 rfl rfl ?_
  refine a_iload C 0 dX6_cutTokens_143 rfl ?_
  refine a_iload_n C 5 dX6_cutTokens_145 rfl rfl ?_
  refine a_iconst C 0 dX6_cutTokens_146 (by decide) ?_
  refine a_callVv C dX6_cutTokens_147 (m_X6_addToken l V h) bw_459 bw_461 bw_2 bw_119 bw_462 (by decide) rfl rfl np_X6_addToken rfl rfl (by decide) (Nat.le_of_ble_eq_true rfl) ⟨Nat.zero_le _, Nat.zero_le _⟩ (fun u27 h => ?_)
  refine a_iload C 7 dX6_cutTokens_150 rfl ?_
  refine a_iload C 0 dX6_cutTokens_152 rfl ?_
  refine a_bipush C 39 dX6_cutTokens_154 (by decide) ?_
  refine a_icmp_lt C 170 dX6_cutTokens_156 (by decide) (fun c30 => ?_) (fun c30 => ?_)
  · have h := h.1 c30
    refine a_sub [2, 3, 4] rfl ?_
    refine tj_X6_cutTokens_170 C hk7 _ _ _ h
  · have h := h.2 c30
    refine a_iload C 0 dX6_cutTokens_159 rfl ?_
    refine a_bipush C 40 dX6_cutTokens_161 (by decide) ?_
    refine a_icmp_gt C 170 dX6_cutTokens_163 (by decide) (fun c29 => ?_) (fun c29 => ?_)
    · have h := h.1 c29
      refine a_sub [2, 3, 4] rfl ?_
      refine tj_X6_cutTokens_170 C hk7 _ _ _ h
    · have h := h.2 c29
      refine a_iconst C 1 dX6_cutTokens_166 (by decide) ?_
      refine a_goto C 171 dX6_cutTokens_167 (by decide) ?_
      refine a_sub [2, 3, 4] rfl ?_
      refine tj_X6_cutTokens_171 C hk7 _ _ _ _ h
set_option maxHeartbeats 4000000 in
set_option maxRecDepth 100000 in
theorem tl_X6_cutTokens_7 {p : Program} {l : Launch} {e : Env} {s : State} {m : MethodId} {args : Array Value} {below : List Frame} {meth : Method} {c : Code} {V : VEn} {k180 : Int32 → PoS → Prop} {post : PoS → Prop} (C : CxS p s m args meth c V cX6_cutTokens 8 RX6 none) (hk180 : ∀ (v2 : Int32) (u : PoS), k180 v2 u → AtS p l e (Rm 5) s m args below meth c V 8 0 0 (QV V below args s post) 180 [(0, .ref (eA V 27)), (2, .int v2)] [] u) : ∀ (n : Nat) (v2 : Int32) (v3 : Int32) (u : PoS), wl_X6_cutTokens_7 k180 post n v2 v3 u → AtS p l e (Rm 5) s m args below meth c V 8 0 0 (QV V below args s post) 7 [(0, .ref (eA V 27)), (1, .ref (eA V 31)), (2, .int v2), (3, .int v3)] [] u := by
  intro n
  induction n with
  | zero => intro v2 v3 u h; exact h.elim
  | succ n ih =>
    intro v2 v3 u h
    rw [wl_X6_cutTokens_7] at h
    refine a_iload_n C 3 dX6_cutTokens_7 rfl rfl ?_
    refine a_iload_n C 2 dX6_cutTokens_8 rfl rfl ?_
    refine a_icmp_ge C 180 dX6_cutTokens_9 (by decide) (fun c37 => ?_) (fun c37 => ?_)
    · have h := h.1 c37
      refine a_sub [0, 2] rfl ?_
      exact hk180 _ _ h
    · have h := h.2 c37
      refine a_aload_n C 1 dX6_cutTokens_12 rfl rfl ?_
      refine a_iload_n C 3 dX6_cutTokens_13 rfl rfl ?_
      refine b_iald C (Int32.toNatClampNeg v3) dX6_cutTokens_14 (by decide) rfl h.1 rfl ?_
      have h := h.2
      refine a_topi (fun x2 ex2 => ?_)
      have h := h x2 ex2
      refine a_istore C [(4, .int x2), (0, .ref (eA V 27)), (1, .ref (eA V 31)), (2, .int v2), (3, .int v3)] dX6_cutTokens_15 (by decide) rfl ?_
      refine a_iload_n C 4 dX6_cutTokens_17 rfl rfl ?_
      refine a_iconst C 1 dX6_cutTokens_18 (by decide) ?_
      refine a_iadd C dX6_cutTokens_19 ?_
      refine a_topi (fun x3 ex3 => ?_)
      have h := h x3 ex3
      refine a_istore C [(5, .int x3), (4, .int x2), (0, .ref (eA V 27)), (1, .ref (eA V 31)), (2, .int v2), (3, .int v3)] dX6_cutTokens_20 (by decide) rfl ?_
      refine a_iload C 1 dX6_cutTokens_22 rfl ?_
      refine a_callSi C dX6_cutTokens_24 (m_X6_isDigit l V h) bw_447 bw_448 bw_119 bw_449 np_X6_isDigit rfl rfl (by decide) (Nat.le_of_ble_eq_true rfl) ⟨Nat.zero_le _, Nat.zero_le _⟩ (fun r4 u5 h => ?_)
      refine a_if_ne C 38 dX6_cutTokens_27 (by decide) (fun c36 => ?_) (fun c36 => ?_)
      · have h := h.1 c36
        refine a_sub [2, 3, 4, 5, 1, 0] rfl ?_
        obtain ⟨n38, h⟩ := h
        refine tl_X6_cutTokens_38 C (fun v210 v310 v410 v510 u10 h => ?_) n38 _ _ _ _ _ h
        refine tj_X6_cutTokens_62 C ih _ _ _ _ _ h
      · have h := h.2 c36
        refine a_iload C 1 dX6_cutTokens_30 rfl ?_
        refine a_callSi C dX6_cutTokens_32 (m_X6_isLetter l V h) bw_450 bw_451 bw_119 bw_452 np_X6_isLetter rfl rfl (by decide) (Nat.le_of_ble_eq_true rfl) ⟨Nat.zero_le _, Nat.zero_le _⟩ (fun r22 u23 h => ?_)
        refine a_if_eq C 103 dX6_cutTokens_35 (by decide) (fun c35 => ?_) (fun c35 => ?_)
        · have h := h.1 c35
          refine a_iload C 1 dX6_cutTokens_103 rfl ?_
          refine a_bipush C 32 dX6_cutTokens_105 (by decide) ?_
          refine a_icmp_eq C 174 dX6_cutTokens_107 (by decide) (fun c33 => ?_) (fun c33 => ?_)
          · have h := h.1 c33
            refine a_sub [2, 3, 4, 0] rfl ?_
            refine tj_X6_cutTokens_174 C ih _ _ _ h
          · have h := h.2 c33
            refine a_iload C 1 dX6_cutTokens_110 rfl ?_
            refine a_bipush C 10 dX6_cutTokens_112 (by decide) ?_
            refine a_icmp_eq C 174 dX6_cutTokens_114 (by decide) (fun c32 => ?_) (fun c32 => ?_)
            · have h := h.1 c32
              refine a_sub [2, 3, 4, 0] rfl ?_
              refine tj_X6_cutTokens_174 C ih _ _ _ h
            · have h := h.2 c32
              refine a_iload C 0 dX6_cutTokens_117 rfl ?_
              refine a_iload_n C 4 dX6_cutTokens_119 rfl rfl ?_
              refine a_icmp_ge C 130 dX6_cutTokens_120 (by decide) (fun c31 => ?_) (fun c31 => ?_)
              · have h := h.1 c31
                refine a_iconst C 0 dX6_cutTokens_130 (by decide) ?_
                refine a_sub [2, 3, 4, 5, 1, 0] rfl ?_
                refine tj_X6_cutTokens_131 C ih _ _ _ _ _ _ h
              · have h := h.2 c31
                refine a_aload_n C 3 dX6_cutTokens_123 rfl rfl ?_
                refine a_iload C 0 dX6_cutTokens_124 rfl ?_
                refine b_iald C (Int32.toNatClampNeg x3) dX6_cutTokens_126 (by decide) rfl h.1 rfl ?_
                have h := h.2
                refine a_goto C 131 dX6_cutTokens_127 (by decide) ?_
                refine a_sub [2, 3, 4, 5, 1, 0] rfl ?_
                refine tj_X6_cutTokens_131 C ih _ _ _ _ _ _ h
        · have h := h.2 c35
          refine a_sub [2, 3, 4, 5, 1, 0] rfl ?_
          obtain ⟨n38, h⟩ := h
          refine tl_X6_cutTokens_38 C (fun v234 v334 v434 v534 u34 h => ?_) n38 _ _ _ _ _ h
          refine tj_X6_cutTokens_62 C ih _ _ _ _ _ h
theorem np_X6_cutTokens : yX6_cutTokens.cls ≠ "java/lang/invoke/MethodHandle" ∧ yX6_cutTokens.cls ≠ "java/lang/invoke/VarHandle" ∧ (parseMethodDescriptor yX6_cutTokens.desc).map (fun d => d.parameters.length) = some 2 := by decide +kernel
set_option maxHeartbeats 4000000 in
set_option maxRecDepth 100000 in
theorem m_X6_cutTokens (l : Launch) (V : VEn) {a1 : Int32} {u : PoS} {post : PoS → Prop} (h : wp_X6_cutTokens a1 u post) : KV l V yX6_cutTokens cX6_cutTokens 8 5 [.ref (eA V 27), .ref (eA V 31), .int a1] u post := by
  refine KV_of (by decide) (Nat.le_of_ble_eq_true rfl) (lv := [(0, .ref (eA V 27)), (1, .ref (eA V 31)), (2, .int a1)]) rfl ?_
  intro p e s m args below meth c C
  rw [wp_X6_cutTokens] at h
  refine a_iconst C 0 dX6_cutTokens_0 (by decide) ?_
  refine a_istore_n C [(3, .int 0), (0, .ref (eA V 27)), (1, .ref (eA V 31)), (2, .int a1)] dX6_cutTokens_1 rfl (by decide) rfl ?_
  refine a_aload_n C 1 dX6_cutTokens_2 rfl rfl ?_
  refine a_iconst C 0 dX6_cutTokens_3 (by decide) ?_
  refine a_puti C (ty := .int) 5 dX6_cutTokens_4 (by decide) rfl rfl rfl ib_6 (by decide) bw_297 tyX6 tyX6_ok nmX6 rfl (by decide +kernel) rfl rfl ?_
  refine a_topu (fun z1 ez1 => ?_)
  have h := h z1 ez1
  refine a_sub [1, 2, 3, 0] rfl ?_
  obtain ⟨n7, h⟩ := h
  refine tl_X6_cutTokens_7 C (fun v238 u38 h => ?_) n7 _ _ _ h
  refine a_aload_n C 0 dX6_cutTokens_180 rfl rfl ?_
  refine a_bipush C 43 dX6_cutTokens_181 (by decide) ?_
  refine a_iload_n C 1 dX6_cutTokens_183 rfl rfl ?_
  refine a_iconst C 0 dX6_cutTokens_184 (by decide) ?_
  refine a_callVv C dX6_cutTokens_185 (m_X6_addToken l V h) bw_459 bw_461 bw_2 bw_119 bw_462 (by decide) rfl rfl np_X6_addToken rfl rfl (by decide) (Nat.le_of_ble_eq_true rfl) ⟨Nat.zero_le _, Nat.zero_le _⟩ (fun u40 h => ?_)
  exact a_vret C dX6_cutTokens_188 h

/-! RainOnTheOne$Reader.blame(I)V -/
def wp_X6_blame (a0 : Int32) (u : PoS) (post : PoS → Prop) : Prop := ((¬ (gI u 27 0) = 0 → post u) ∧ ((gI u 27 0) = 0 → ∀ z1 : PoS, z1 = pI u 27 0 a0 → vp_in (gI z1 27 6) 301 ∧ ∀ z2 : PoS, z2 = pI z1 27 1 (gI z1 29 (Int32.toNatClampNeg (gI z1 27 6))) → ∀ z3 : PoS, z3 = pI z2 27 7 44 → post z3))
theorem np_X6_blame : yX6_blame.cls ≠ "java/lang/invoke/MethodHandle" ∧ yX6_blame.cls ≠ "java/lang/invoke/VarHandle" ∧ (parseMethodDescriptor yX6_blame.desc).map (fun d => d.parameters.length) = some 1 := by decide +kernel
set_option maxHeartbeats 4000000 in
set_option maxRecDepth 100000 in
theorem m_X6_blame (l : Launch) (V : VEn) {a0 : Int32} {u : PoS} {post : PoS → Prop} (h : wp_X6_blame a0 u post) : KV l V yX6_blame cX6_blame 2 0 [.ref (eA V 27), .int a0] u post := by
  refine KV_of (by decide) (Nat.le_of_ble_eq_true rfl) (lv := [(0, .ref (eA V 27)), (1, .int a0)]) rfl ?_
  intro p e s m args below meth c C
  rw [wp_X6_blame] at h
  refine a_aload_n C 0 dX6_blame_0 rfl rfl ?_
  refine a_geti C 0 dX6_blame_1 (by decide) rfl rfl rfl ib_6 (by decide) bw_290 ?_
  refine a_if_ne C 31 dX6_blame_4 (by decide) (fun c4 => ?_) (fun c4 => ?_)
  · have h := h.1 c4
    exact a_vret C dX6_blame_31 h
  · have h := h.2 c4
    refine a_aload_n C 0 dX6_blame_7 rfl rfl ?_
    refine a_iload_n C 1 dX6_blame_8 rfl rfl ?_
    refine a_puti C (ty := .int) 0 dX6_blame_9 (by decide) rfl rfl rfl ib_6 (by decide) bw_290 tyX6 tyX6_ok nmX6 rfl (by decide +kernel) rfl rfl ?_
    refine a_topu (fun z1 ez1 => ?_)
    have h := h z1 ez1
    refine a_aload_n C 0 dX6_blame_12 rfl rfl ?_
    refine a_aload_n C 0 dX6_blame_13 rfl rfl ?_
    refine a_getr C 3 (r := 29) dX6_blame_14 (by decide) rfl rfl rfl ib_6 (by decide) bw_295 ?_
    refine a_aload_n C 0 dX6_blame_17 rfl rfl ?_
    refine a_geti C 6 dX6_blame_18 (by decide) rfl rfl rfl ib_6 (by decide) bw_298 ?_
    refine b_iald C (Int32.toNatClampNeg (gI z1 27 6)) dX6_blame_21 (by decide) rfl h.1 rfl ?_
    have h := h.2
    refine a_puti C (ty := .int) 1 dX6_blame_22 (by decide) rfl rfl rfl ib_6 (by decide) bw_292 tyX6 tyX6_ok nmX6 rfl (by decide +kernel) rfl rfl ?_
    refine a_topu (fun z2 ez2 => ?_)
    have h := h z2 ez2
    refine a_aload_n C 0 dX6_blame_25 rfl rfl ?_
    refine a_bipush C 44 dX6_blame_26 (by decide) ?_
    refine a_puti C (ty := .int) 7 dX6_blame_28 (by decide) rfl rfl rfl ib_6 (by decide) bw_299 tyX6 tyX6_ok nmX6 rfl (by decide +kernel) rfl rfl ?_
    refine a_topu (fun z3 ez3 => ?_)
    have h := h z3 ez3
    exact a_vret C dX6_blame_31 h

/-! RainOnTheOne$Reader.advance()V -/
def wp_X6_advance (u : PoS) (post : PoS → Prop) : Prop := (((gI u 27 7) = 44 → post u) ∧ (¬ (gI u 27 7) = 44 → (((gI u 27 5) ≤ ((gI u 27 6) + 1) → post u) ∧ (¬ (gI u 27 5) ≤ ((gI u 27 6) + 1) → ∀ z1 : PoS, z1 = pI u 27 6 ((gI u 27 6) + 1) → vp_in (gI z1 27 6) 301 ∧ ∀ z2 : PoS, z2 = pI z1 27 7 (gI z1 28 (Int32.toNatClampNeg (gI z1 27 6))) → post z2))))
theorem np_X6_advance : yX6_advance.cls ≠ "java/lang/invoke/MethodHandle" ∧ yX6_advance.cls ≠ "java/lang/invoke/VarHandle" ∧ (parseMethodDescriptor yX6_advance.desc).map (fun d => d.parameters.length) = some 0 := by decide +kernel
set_option maxHeartbeats 4000000 in
set_option maxRecDepth 100000 in
theorem m_X6_advance (l : Launch) (V : VEn) {u : PoS} {post : PoS → Prop} (h : wp_X6_advance  u post) : KV l V yX6_advance cX6_advance 1 0 [.ref (eA V 27)] u post := by
  refine KV_of (by decide) (Nat.le_of_ble_eq_true rfl) (lv := [(0, .ref (eA V 27))]) rfl ?_
  intro p e s m args below meth c C
  rw [wp_X6_advance] at h
  refine a_aload_n C 0 dX6_advance_0 rfl rfl ?_
  refine a_geti C 7 dX6_advance_1 (by decide) rfl rfl rfl ib_6 (by decide) bw_299 ?_
  refine a_bipush C 44 dX6_advance_4 (by decide) ?_
  refine a_icmp_eq C 45 dX6_advance_6 (by decide) (fun c4 => ?_) (fun c4 => ?_)
  · have h := h.1 c4
    exact a_vret C dX6_advance_45 h
  · have h := h.2 c4
    refine a_aload_n C 0 dX6_advance_9 rfl rfl ?_
    refine a_geti C 6 dX6_advance_10 (by decide) rfl rfl rfl ib_6 (by decide) bw_298 ?_
    refine a_iconst C 1 dX6_advance_13 (by decide) ?_
    refine a_iadd C dX6_advance_14 ?_
    refine a_aload_n C 0 dX6_advance_15 rfl rfl ?_
    refine a_geti C 5 dX6_advance_16 (by decide) rfl rfl rfl ib_6 (by decide) bw_297 ?_
    refine a_icmp_ge C 45 dX6_advance_19 (by decide) (fun c3 => ?_) (fun c3 => ?_)
    · have h := h.1 c3
      exact a_vret C dX6_advance_45 h
    · have h := h.2 c3
      refine a_aload_n C 0 dX6_advance_22 rfl rfl ?_
      refine a_dup C dX6_advance_23 rfl ?_
      refine a_geti C 6 dX6_advance_24 (by decide) rfl rfl rfl ib_6 (by decide) bw_298 ?_
      refine a_iconst C 1 dX6_advance_27 (by decide) ?_
      refine a_iadd C dX6_advance_28 ?_
      refine a_puti C (ty := .int) 6 dX6_advance_29 (by decide) rfl rfl rfl ib_6 (by decide) bw_298 tyX6 tyX6_ok nmX6 rfl (by decide +kernel) rfl rfl ?_
      refine a_topu (fun z1 ez1 => ?_)
      have h := h z1 ez1
      refine a_aload_n C 0 dX6_advance_32 rfl rfl ?_
      refine a_aload_n C 0 dX6_advance_33 rfl rfl ?_
      refine a_getr C 2 (r := 28) dX6_advance_34 (by decide) rfl rfl rfl ib_6 (by decide) bw_294 ?_
      refine a_aload_n C 0 dX6_advance_37 rfl rfl ?_
      refine a_geti C 6 dX6_advance_38 (by decide) rfl rfl rfl ib_6 (by decide) bw_298 ?_
      refine b_iald C (Int32.toNatClampNeg (gI z1 27 6)) dX6_advance_41 (by decide) rfl h.1 rfl ?_
      have h := h.2
      refine a_puti C (ty := .int) 7 dX6_advance_42 (by decide) rfl rfl rfl ib_6 (by decide) bw_299 tyX6 tyX6_ok nmX6 rfl (by decide +kernel) rfl rfl ?_
      refine a_topu (fun z2 ez2 => ?_)
      have h := h z2 ez2
      exact a_vret C dX6_advance_45 h

/-! RainOnTheOne$Reader.expect(I)V -/
def wj_X6_expect_13 (post : PoS → Prop) (u : PoS) : Prop := wp_X6_advance u (fun (u2 : PoS) => post u2)
def wp_X6_expect (a0 : Int32) (u : PoS) (post : PoS → Prop) : Prop := (((gI u 27 7) = a0 → wj_X6_expect_13 post  u) ∧ (¬ (gI u 27 7) = a0 → wp_X6_blame 1 u (fun (u4 : PoS) => wj_X6_expect_13 post  u4)))
set_option maxHeartbeats 4000000 in
set_option maxRecDepth 100000 in
theorem tj_X6_expect_13 {p : Program} {l : Launch} {e : Env} {s : State} {m : MethodId} {args : Array Value} {below : List Frame} {meth : Method} {c : Code} {V : VEn} {post : PoS → Prop} (C : CxS p s m args meth c V cX6_expect 2 RX6 none) (u : PoS) (h : wj_X6_expect_13 post  u) : AtS p l e (Rm 1) s m args below meth c V 2 0 0 (QV V below args s post) 13 [(0, .ref (eA V 27))] [] u := by
  rw [wj_X6_expect_13] at h
  refine a_aload_n C 0 dX6_expect_13 rfl rfl ?_
  refine a_callVv C dX6_expect_14 (m_X6_advance l V h) bw_538 bw_540 bw_6 bw_119 bw_541 (by decide) rfl rfl np_X6_advance rfl rfl (by decide) (Nat.le_of_ble_eq_true rfl) ⟨Nat.zero_le _, Nat.zero_le _⟩ (fun u2 h => ?_)
  exact a_vret C dX6_expect_17 h
theorem np_X6_expect : yX6_expect.cls ≠ "java/lang/invoke/MethodHandle" ∧ yX6_expect.cls ≠ "java/lang/invoke/VarHandle" ∧ (parseMethodDescriptor yX6_expect.desc).map (fun d => d.parameters.length) = some 1 := by decide +kernel
set_option maxHeartbeats 4000000 in
set_option maxRecDepth 100000 in
theorem m_X6_expect (l : Launch) (V : VEn) {a0 : Int32} {u : PoS} {post : PoS → Prop} (h : wp_X6_expect a0 u post) : KV l V yX6_expect cX6_expect 2 1 [.ref (eA V 27), .int a0] u post := by
  refine KV_of (by decide) (Nat.le_of_ble_eq_true rfl) (lv := [(0, .ref (eA V 27)), (1, .int a0)]) rfl ?_
  intro p e s m args below meth c C
  rw [wp_X6_expect] at h
  refine a_aload_n C 0 dX6_expect_0 rfl rfl ?_
  refine a_geti C 7 dX6_expect_1 (by decide) rfl rfl rfl ib_6 (by decide) bw_299 ?_
  refine a_iload_n C 1 dX6_expect_4 rfl rfl ?_
  refine a_icmp_eq C 13 dX6_expect_5 (by decide) (fun c5 => ?_) (fun c5 => ?_)
  · have h := h.1 c5
    refine a_sub [0] rfl ?_
    refine tj_X6_expect_13 C _ h
  · have h := h.2 c5
    refine a_aload_n C 0 dX6_expect_8 rfl rfl ?_
    refine a_iconst C 1 dX6_expect_9 (by decide) ?_
    refine a_callVv C dX6_expect_10 (m_X6_blame l V h) bw_526 bw_528 bw_4 bw_119 bw_529 (by decide) rfl rfl np_X6_blame rfl rfl (by decide) (Nat.le_of_ble_eq_true rfl) ⟨Nat.zero_le _, Nat.zero_le _⟩ (fun u4 h => ?_)
    refine a_sub [0] rfl ?_
    refine tj_X6_expect_13 C _ h

/-! RainOnTheOne.isWithin(III)Z -/
def wp_X11_isWithin (a0 : Int32) (a1 : Int32) (a2 : Int32) (u : PoS) (post : Int32 → PoS → Prop) : Prop := ((a0 < a1 → post 0 u) ∧ (¬ a0 < a1 → ((a2 < a0 → post 0 u) ∧ (¬ a2 < a0 → post 1 u))))
theorem np_X11_isWithin : yX11_isWithin.cls ≠ "java/lang/invoke/MethodHandle" ∧ yX11_isWithin.cls ≠ "java/lang/invoke/VarHandle" ∧ (parseMethodDescriptor yX11_isWithin.desc).map (fun d => d.parameters.length) = some 3 := by decide +kernel
set_option maxHeartbeats 4000000 in
set_option maxRecDepth 100000 in
theorem m_X11_isWithin (l : Launch) (V : VEn) {a0 : Int32} {a1 : Int32} {a2 : Int32} {u : PoS} {post : Int32 → PoS → Prop} (h : wp_X11_isWithin a0 a1 a2 u post) : KI l V yX11_isWithin cX11_isWithin 3 .boolean 0 [.int a0, .int a1, .int a2] u post := by
  refine KI_of (by decide) (Nat.le_of_ble_eq_true rfl) (lv := [(0, .int a0), (1, .int a1), (2, .int a2)]) rfl ?_
  intro p e s m args below meth c C
  rw [wp_X11_isWithin] at h
  refine a_iload_n C 0 dX11_isWithin_0 rfl rfl ?_
  refine a_iload_n C 1 dX11_isWithin_1 rfl rfl ?_
  refine a_icmp_lt C 14 dX11_isWithin_2 (by decide) (fun c2 => ?_) (fun c2 => ?_)
  · have h := h.1 c2
    refine a_iconst C 0 dX11_isWithin_14 (by decide) ?_
    exact a_zret C rfl dX11_isWithin_15 h
  · have h := h.2 c2
    refine a_iload_n C 0 dX11_isWithin_5 rfl rfl ?_
    refine a_iload_n C 2 dX11_isWithin_6 rfl rfl ?_
    refine a_icmp_gt C 14 dX11_isWithin_7 (by decide) (fun c1 => ?_) (fun c1 => ?_)
    · have h := h.1 c1
      refine a_iconst C 0 dX11_isWithin_14 (by decide) ?_
      exact a_zret C rfl dX11_isWithin_15 h
    · have h := h.2 c1
      refine a_iconst C 1 dX11_isWithin_10 (by decide) ?_
      refine a_goto C 15 dX11_isWithin_11 (by decide) ?_
      exact a_zret C rfl dX11_isWithin_15 h

/-! RainOnTheOne$Reader.numberWithin(II)I -/
def wj_X6_numberWithin_41 (post : Int32 → PoS → Prop) (v3 : Int32) (u : PoS) : Prop := wp_X6_advance u (fun (u5 : PoS) => post v3 u5)
def wp_X6_numberWithin (a0 : Int32) (a1 : Int32) (u : PoS) (post : Int32 → PoS → Prop) : Prop := vp_in (gI u 27 6) 301 ∧ ∀ x1 : Int32, x1 = (gI u 30 (Int32.toNatClampNeg (gI u 27 6))) → (((gI u 27 7) = 41 → wp_X11_isWithin x1 a0 a1 u (fun (r2 : Int32) (u3 : PoS) => ((¬ r2 = 0 → wj_X6_numberWithin_41 post x1 u3) ∧ (r2 = 0 → wp_X6_blame 2 u3 (fun (u7 : PoS) => wj_X6_numberWithin_41 post x1 u7))))) ∧ (¬ (gI u 27 7) = 41 → wp_X6_blame 1 u (fun (u10 : PoS) => wj_X6_numberWithin_41 post x1 u10)))
set_option maxHeartbeats 4000000 in
set_option maxRecDepth 100000 in
theorem tj_X6_numberWithin_41 {p : Program} {l : Launch} {e : Env} {s : State} {m : MethodId} {args : Array Value} {below : List Frame} {meth : Method} {c : Code} {V : VEn} {post : Int32 → PoS → Prop} (C : CxS p s m args meth c V cX6_numberWithin 4 RX6 (some .int)) (v3 : Int32) (u : PoS) (h : wj_X6_numberWithin_41 post v3 u) : AtS p l e (Rm 1) s m args below meth c V 4 0 0 (QI V below args s post) 41 [(0, .ref (eA V 27)), (3, .int v3)] [] u := by
  rw [wj_X6_numberWithin_41] at h
  refine a_aload_n C 0 dX6_numberWithin_41 rfl rfl ?_
  refine a_callVv C dX6_numberWithin_42 (m_X6_advance l V h) bw_538 bw_540 bw_6 bw_119 bw_541 (by decide) rfl rfl np_X6_advance rfl rfl (by decide) (Nat.le_of_ble_eq_true rfl) ⟨Nat.zero_le _, Nat.zero_le _⟩ (fun u5 h => ?_)
  refine a_iload_n C 1 dX6_numberWithin_45 rfl rfl ?_
  exact a_iret C dX6_numberWithin_46 h
theorem np_X6_numberWithin : yX6_numberWithin.cls ≠ "java/lang/invoke/MethodHandle" ∧ yX6_numberWithin.cls ≠ "java/lang/invoke/VarHandle" ∧ (parseMethodDescriptor yX6_numberWithin.desc).map (fun d => d.parameters.length) = some 2 := by decide +kernel
set_option maxHeartbeats 4000000 in
set_option maxRecDepth 100000 in
theorem m_X6_numberWithin (l : Launch) (V : VEn) {a0 : Int32} {a1 : Int32} {u : PoS} {post : Int32 → PoS → Prop} (h : wp_X6_numberWithin a0 a1 u post) : KI l V yX6_numberWithin cX6_numberWithin 4 .int 1 [.ref (eA V 27), .int a0, .int a1] u post := by
  refine KI_of (by decide) (Nat.le_of_ble_eq_true rfl) (lv := [(0, .ref (eA V 27)), (1, .int a0), (2, .int a1)]) rfl ?_
  intro p e s m args below meth c C
  rw [wp_X6_numberWithin] at h
  refine a_aload_n C 0 dX6_numberWithin_0 rfl rfl ?_
  refine a_getr C 4 (r := 30) dX6_numberWithin_1 (by decide) rfl rfl rfl ib_6 (by decide) bw_296 ?_
  refine a_aload_n C 0 dX6_numberWithin_4 rfl rfl ?_
  refine a_geti C 6 dX6_numberWithin_5 (by decide) rfl rfl rfl ib_6 (by decide) bw_298 ?_
  refine b_iald C (Int32.toNatClampNeg (gI u 27 6)) dX6_numberWithin_8 (by decide) rfl h.1 rfl ?_
  have h := h.2
  refine a_topi (fun x1 ex1 => ?_)
  have h := h x1 ex1
  refine a_istore_n C [(3, .int x1), (0, .ref (eA V 27)), (1, .int a0), (2, .int a1)] dX6_numberWithin_9 rfl (by decide) rfl ?_
  refine a_aload_n C 1 dX6_numberWithin_10 rfl rfl ?_
  refine a_geti C 7 dX6_numberWithin_11 (by decide) rfl rfl rfl ib_6 (by decide) bw_299 ?_
  refine a_bipush C 41 dX6_numberWithin_14 (by decide) ?_
  refine a_icmp_eq C 27 dX6_numberWithin_16 (by decide) (fun c11 => ?_) (fun c11 => ?_)
  · have h := h.1 c11
    refine a_iload_n C 0 dX6_numberWithin_27 rfl rfl ?_
    refine a_iload_n C 2 dX6_numberWithin_28 rfl rfl ?_
    refine a_iload_n C 3 dX6_numberWithin_29 rfl rfl ?_
    refine a_callNi C dX6_numberWithin_30 (m_X11_isWithin l V h) C.2.2.2.2.2.2.2.2.2.1.2.1 bw_406 bw_112 bw_407 np_X11_isWithin rfl rfl (by decide) (Nat.le_of_ble_eq_true rfl) ⟨Nat.zero_le _, Nat.zero_le _⟩ (fun r2 u3 h => ?_)
    refine a_if_ne C 41 dX6_numberWithin_33 (by decide) (fun c8 => ?_) (fun c8 => ?_)
    · have h := h.1 c8
      refine a_sub [1, 0] rfl ?_
      refine tj_X6_numberWithin_41 C _ _ h
    · have h := h.2 c8
      refine a_aload_n C 1 dX6_numberWithin_36 rfl rfl ?_
      refine a_iconst C 2 dX6_numberWithin_37 (by decide) ?_
      refine a_callVv C dX6_numberWithin_38 (m_X6_blame l V h) bw_526 bw_528 bw_4 bw_119 bw_529 (by decide) rfl rfl np_X6_blame rfl rfl (by decide) (Nat.le_of_ble_eq_true rfl) ⟨Nat.zero_le _, Nat.zero_le _⟩ (fun u7 h => ?_)
      refine a_sub [1, 0] rfl ?_
      refine tj_X6_numberWithin_41 C _ _ h
  · have h := h.2 c11
    refine a_aload_n C 1 dX6_numberWithin_19 rfl rfl ?_
    refine a_iconst C 1 dX6_numberWithin_20 (by decide) ?_
    refine a_callVv C dX6_numberWithin_21 (m_X6_blame l V h) bw_526 bw_528 bw_4 bw_119 bw_529 (by decide) rfl rfl np_X6_blame rfl rfl (by decide) (Nat.le_of_ble_eq_true rfl) ⟨Nat.zero_le _, Nat.zero_le _⟩ (fun u10 h => ?_)
    refine a_goto C 41 dX6_numberWithin_24 (by decide) ?_
    refine a_sub [1, 0] rfl ?_
    refine tj_X6_numberWithin_41 C _ _ h

/-! RainOnTheOne$Reader.readDeed(I)V -/
def wj_X6_readDeed_124 (post : PoS → Prop) (v1 : Int32) (v2 : Int32) (v3 : Int32) (u : PoS) : Prop := ∃ i5, i5 < 4 ∧ gR u 27 8 = 7 + i5 ∧ wp_X3_addClause i5 v1 v2 v3 u (fun (u7 : PoS) => post u7)
def wj_X6_readDeed_77 (post : PoS → Prop) (v1 : Int32) (v3 : Int32) (u : PoS) : Prop := wp_X6_numberWithin 0 29 u (fun (r3 : Int32) (u4 : PoS) => wj_X6_readDeed_124 post v1 r3 v3 u4)
def wj_X6_readDeed_100 (post : PoS → Prop) (v1 : Int32) (v3 : Int32) (u : PoS) : Prop := wp_X6_numberWithin 0 4 u (fun (r8 : Int32) (u9 : PoS) => wj_X6_readDeed_124 post v1 r8 v3 u9)
def wp_X6_readDeed (a0 : Int32) (u : PoS) (post : PoS → Prop) : Prop := wp_X6_advance u (fun (u2 : PoS) => ((¬ a0 = 3 → ((¬ a0 = 5 → ((a0 = 2 → wj_X6_readDeed_77 post a0 0 u2) ∧ (¬ a0 = 2 → ((¬ a0 = 4 → ((a0 = 6 → wj_X6_readDeed_100 post a0 0 u2) ∧ (¬ a0 = 6 → ((¬ a0 = 7 → ((¬ a0 = 9 → wj_X6_readDeed_124 post a0 0 0 u2) ∧ (a0 = 9 → wp_X6_numberWithin 1 60 u2 (fun (r10 : Int32) (u11 : PoS) => wj_X6_readDeed_124 post a0 r10 0 u11)))) ∧ (a0 = 7 → wj_X6_readDeed_100 post a0 0 u2))))) ∧ (a0 = 4 → wj_X6_readDeed_77 post a0 0 u2))))) ∧ (a0 = 5 → wp_X6_numberWithin 0 4 u2 (fun (r17 : Int32) (u18 : PoS) => wp_X6_expect 22 u18 (fun (u20 : PoS) => wp_X6_numberWithin 0 29 u20 (fun (r21 : Int32) (u22 : PoS) => wj_X6_readDeed_124 post a0 r17 r21 u22)))))) ∧ (a0 = 3 → wp_X6_numberWithin 0 99 u2 (fun (r24 : Int32) (u25 : PoS) => wp_X6_expect 21 u25 (fun (u27 : PoS) => wp_X6_numberWithin 0 29 u27 (fun (r28 : Int32) (u29 : PoS) => wj_X6_readDeed_124 post a0 r24 r28 u29))))))
set_option maxHeartbeats 4000000 in
set_option maxRecDepth 100000 in
theorem tj_X6_readDeed_124 {p : Program} {l : Launch} {e : Env} {s : State} {m : MethodId} {args : Array Value} {below : List Frame} {meth : Method} {c : Code} {V : VEn} {post : PoS → Prop} (C : CxS p s m args meth c V cX6_readDeed 4 RX6 none) (v1 : Int32) (v2 : Int32) (v3 : Int32) (u : PoS) (h : wj_X6_readDeed_124 post v1 v2 v3 u) : AtS p l e (Rm 2) s m args below meth c V 4 0 0 (QV V below args s post) 124 [(0, .ref (eA V 27)), (1, .int v1), (2, .int v2), (3, .int v3)] [] u := by
  rw [wj_X6_readDeed_124] at h
  refine a_aload_n C 0 dX6_readDeed_124 rfl rfl ?_
  refine a_getd C 8 dX6_readDeed_125 (by decide) rfl rfl rfl ib_6 (by decide) bw_300 ?_
  obtain ⟨i5, hi5, hri5, h⟩ := h
  rw [hri5]
  refine a_iload_n C 1 dX6_readDeed_128 rfl rfl ?_
  refine a_iload_n C 2 dX6_readDeed_129 rfl rfl ?_
  refine a_iload_n C 3 dX6_readDeed_130 rfl rfl ?_
  refine a_callVv C dX6_readDeed_131 (m_X3_addClause l V hi5 h) bw_534 bw_535 bw_536 bw_117 bw_537 (by have := hi5; omega) (lw_obj hi5) rfl np_X3_addClause rfl rfl (by decide) (Nat.le_of_ble_eq_true rfl) ⟨Nat.zero_le _, Nat.zero_le _⟩ (fun u7 h => ?_)
  exact a_vret C dX6_readDeed_134 h
set_option maxHeartbeats 4000000 in
set_option maxRecDepth 100000 in
theorem tj_X6_readDeed_77 {p : Program} {l : Launch} {e : Env} {s : State} {m : MethodId} {args : Array Value} {below : List Frame} {meth : Method} {c : Code} {V : VEn} {post : PoS → Prop} (C : CxS p s m args meth c V cX6_readDeed 4 RX6 none) (v1 : Int32) (v3 : Int32) (u : PoS) (h : wj_X6_readDeed_77 post v1 v3 u) : AtS p l e (Rm 2) s m args below meth c V 4 0 0 (QV V below args s post) 77 [(0, .ref (eA V 27)), (1, .int v1), (3, .int v3)] [] u := by
  rw [wj_X6_readDeed_77] at h
  refine a_aload_n C 0 dX6_readDeed_77 rfl rfl ?_
  refine a_iconst C 0 dX6_readDeed_78 (by decide) ?_
  refine a_bipush C 29 dX6_readDeed_79 (by decide) ?_
  refine a_callVi C dX6_readDeed_81 (m_X6_numberWithin l V h) bw_554 bw_556 bw_10 bw_119 bw_557 (by decide) rfl rfl np_X6_numberWithin rfl rfl (by decide) (Nat.le_of_ble_eq_true rfl) ⟨Nat.zero_le _, Nat.zero_le _⟩ (fun r3 u4 h => ?_)
  refine a_istore_n C [(2, .int r3), (0, .ref (eA V 27)), (1, .int v1), (3, .int v3)] dX6_readDeed_84 rfl (by decide) rfl ?_
  refine a_goto C 124 dX6_readDeed_85 (by decide) ?_
  refine a_sub [1, 2, 0, 3] rfl ?_
  refine tj_X6_readDeed_124 C _ _ _ _ h
set_option maxHeartbeats 4000000 in
set_option maxRecDepth 100000 in
theorem tj_X6_readDeed_100 {p : Program} {l : Launch} {e : Env} {s : State} {m : MethodId} {args : Array Value} {below : List Frame} {meth : Method} {c : Code} {V : VEn} {post : PoS → Prop} (C : CxS p s m args meth c V cX6_readDeed 4 RX6 none) (v1 : Int32) (v3 : Int32) (u : PoS) (h : wj_X6_readDeed_100 post v1 v3 u) : AtS p l e (Rm 2) s m args below meth c V 4 0 0 (QV V below args s post) 100 [(0, .ref (eA V 27)), (1, .int v1), (3, .int v3)] [] u := by
  rw [wj_X6_readDeed_100] at h
  refine a_aload_n C 0 dX6_readDeed_100 rfl rfl ?_
  refine a_iconst C 0 dX6_readDeed_101 (by decide) ?_
  refine a_iconst C 4 dX6_readDeed_102 (by decide) ?_
  refine a_callVi C dX6_readDeed_103 (m_X6_numberWithin l V h) bw_554 bw_556 bw_10 bw_119 bw_557 (by decide) rfl rfl np_X6_numberWithin rfl rfl (by decide) (Nat.le_of_ble_eq_true rfl) ⟨Nat.zero_le _, Nat.zero_le _⟩ (fun r8 u9 h => ?_)
  refine a_istore_n C [(2, .int r8), (0, .ref (eA V 27)), (1, .int v1), (3, .int v3)] dX6_readDeed_106 rfl (by decide) rfl ?_
  refine a_goto C 124 dX6_readDeed_107 (by decide) ?_
  refine a_sub [1, 2, 0, 3] rfl ?_
  refine tj_X6_readDeed_124 C _ _ _ _ h
theorem np_X6_readDeed : yX6_readDeed.cls ≠ "java/lang/invoke/MethodHandle" ∧ yX6_readDeed.cls ≠ "java/lang/invoke/VarHandle" ∧ (parseMethodDescriptor yX6_readDeed.desc).map (fun d => d.parameters.length) = some 1 := by decide +kernel
set_option maxHeartbeats 4000000 in
set_option maxRecDepth 100000 in
theorem m_X6_readDeed (l : Launch) (V : VEn) {a0 : Int32} {u : PoS} {post : PoS → Prop} (h : wp_X6_readDeed a0 u post) : KV l V yX6_readDeed cX6_readDeed 4 2 [.ref (eA V 27), .int a0] u post := by
  refine KV_of (by decide) (Nat.le_of_ble_eq_true rfl) (lv := [(0, .ref (eA V 27)), (1, .int a0)]) rfl ?_
  intro p e s m args below meth c C
  rw [wp_X6_readDeed] at h
  refine a_iconst C 0 dX6_readDeed_0 (by decide) ?_
  refine a_istore_n C [(2, .int 0), (0, .ref (eA V 27)), (1, .int a0)] dX6_readDeed_1 rfl (by decide) rfl ?_
  refine a_iconst C 0 dX6_readDeed_2 (by decide) ?_
  refine a_istore_n C [(3, .int 0), (2, .int 0), (0, .ref (eA V 27)), (1, .int a0)] dX6_readDeed_3 rfl (by decide) rfl ?_
  refine a_aload_n C 2 dX6_readDeed_4 rfl rfl ?_
  refine a_callVv C dX6_readDeed_5 (m_X6_advance l V h) bw_538 bw_540 bw_6 bw_119 bw_541 (by decide) rfl rfl np_X6_advance rfl rfl (by decide) (Nat.le_of_ble_eq_true rfl) ⟨Nat.zero_le _, Nat.zero_le _⟩ (fun u2 h => ?_)
  refine a_iload_n C 3 dX6_readDeed_8 rfl rfl ?_
  refine a_iconst C 3 dX6_readDeed_9 (by decide) ?_
  refine a_icmp_ne C 38 dX6_readDeed_10 (by decide) (fun c30 => ?_) (fun c30 => ?_)
  · have h := h.1 c30
    refine a_iload_n C 3 dX6_readDeed_38 rfl rfl ?_
    refine a_iconst C 5 dX6_readDeed_39 (by decide) ?_
    refine a_icmp_ne C 67 dX6_readDeed_40 (by decide) (fun c23 => ?_) (fun c23 => ?_)
    · have h := h.1 c23
      refine a_iload_n C 3 dX6_readDeed_67 rfl rfl ?_
      refine a_iconst C 2 dX6_readDeed_68 (by decide) ?_
      refine a_icmp_eq C 77 dX6_readDeed_69 (by decide) (fun c16 => ?_) (fun c16 => ?_)
      · have h := h.1 c16
        refine a_sub [2, 3, 0] rfl ?_
        refine tj_X6_readDeed_77 C _ _ _ h
      · have h := h.2 c16
        refine a_iload_n C 3 dX6_readDeed_72 rfl rfl ?_
        refine a_iconst C 4 dX6_readDeed_73 (by decide) ?_
        refine a_icmp_ne C 88 dX6_readDeed_74 (by decide) (fun c15 => ?_) (fun c15 => ?_)
        · have h := h.1 c15
          refine a_iload_n C 3 dX6_readDeed_88 rfl rfl ?_
          refine a_bipush C 6 dX6_readDeed_89 (by decide) ?_
          refine a_icmp_eq C 100 dX6_readDeed_91 (by decide) (fun c14 => ?_) (fun c14 => ?_)
          · have h := h.1 c14
            refine a_sub [2, 3, 0] rfl ?_
            refine tj_X6_readDeed_100 C _ _ _ h
          · have h := h.2 c14
            refine a_iload_n C 3 dX6_readDeed_94 rfl rfl ?_
            refine a_bipush C 7 dX6_readDeed_95 (by decide) ?_
            refine a_icmp_ne C 110 dX6_readDeed_97 (by decide) (fun c13 => ?_) (fun c13 => ?_)
            · have h := h.1 c13
              refine a_iload_n C 3 dX6_readDeed_110 rfl rfl ?_
              refine a_bipush C 9 dX6_readDeed_111 (by decide) ?_
              refine a_icmp_ne C 124 dX6_readDeed_113 (by decide) (fun c12 => ?_) (fun c12 => ?_)
              · have h := h.1 c12
                refine a_sub [2, 3, 1, 0] rfl ?_
                refine tj_X6_readDeed_124 C _ _ _ _ h
              · have h := h.2 c12
                refine a_aload_n C 2 dX6_readDeed_116 rfl rfl ?_
                refine a_iconst C 1 dX6_readDeed_117 (by decide) ?_
                refine a_bipush C 60 dX6_readDeed_118 (by decide) ?_
                refine a_callVi C dX6_readDeed_120 (m_X6_numberWithin l V h) bw_554 bw_556 bw_10 bw_119 bw_557 (by decide) rfl rfl np_X6_numberWithin rfl rfl (by decide) (Nat.le_of_ble_eq_true rfl) ⟨Nat.zero_le _, Nat.zero_le _⟩ (fun r10 u11 h => ?_)
                refine a_istore_n C [(2, .int r10), (3, .int 0), (0, .ref (eA V 27)), (1, .int a0)] dX6_readDeed_123 rfl (by decide) rfl ?_
                refine a_sub [2, 3, 0, 1] rfl ?_
                refine tj_X6_readDeed_124 C _ _ _ _ h
            · have h := h.2 c13
              refine a_sub [2, 3, 0] rfl ?_
              refine tj_X6_readDeed_100 C _ _ _ h
        · have h := h.2 c15
          refine a_sub [2, 3, 0] rfl ?_
          refine tj_X6_readDeed_77 C _ _ _ h
    · have h := h.2 c23
      refine a_aload_n C 2 dX6_readDeed_43 rfl rfl ?_
      refine a_iconst C 0 dX6_readDeed_44 (by decide) ?_
      refine a_iconst C 4 dX6_readDeed_45 (by decide) ?_
      refine a_callVi C dX6_readDeed_46 (m_X6_numberWithin l V h) bw_554 bw_556 bw_10 bw_119 bw_557 (by decide) rfl rfl np_X6_numberWithin rfl rfl (by decide) (Nat.le_of_ble_eq_true rfl) ⟨Nat.zero_le _, Nat.zero_le _⟩ (fun r17 u18 h => ?_)
      refine a_istore_n C [(2, .int r17), (3, .int 0), (0, .ref (eA V 27)), (1, .int a0)] dX6_readDeed_49 rfl (by decide) rfl ?_
      refine a_aload_n C 2 dX6_readDeed_50 rfl rfl ?_
      refine a_bipush C 22 dX6_readDeed_51 (by decide) ?_
      refine a_callVv C dX6_readDeed_53 (m_X6_expect l V h) bw_578 bw_580 bw_14 bw_119 bw_581 (by decide) rfl rfl np_X6_expect rfl rfl (by decide) (Nat.le_of_ble_eq_true rfl) ⟨Nat.zero_le _, Nat.zero_le _⟩ (fun u20 h => ?_)
      refine a_aload_n C 2 dX6_readDeed_56 rfl rfl ?_
      refine a_iconst C 0 dX6_readDeed_57 (by decide) ?_
      refine a_bipush C 29 dX6_readDeed_58 (by decide) ?_
      refine a_callVi C dX6_readDeed_60 (m_X6_numberWithin l V h) bw_554 bw_556 bw_10 bw_119 bw_557 (by decide) rfl rfl np_X6_numberWithin rfl rfl (by decide) (Nat.le_of_ble_eq_true rfl) ⟨Nat.zero_le _, Nat.zero_le _⟩ (fun r21 u22 h => ?_)
      refine a_istore_n C [(3, .int r21), (2, .int r17), (0, .ref (eA V 27)), (1, .int a0)] dX6_readDeed_63 rfl (by decide) rfl ?_
      refine a_goto C 124 dX6_readDeed_64 (by decide) ?_
      refine a_sub [2, 3, 1, 0] rfl ?_
      refine tj_X6_readDeed_124 C _ _ _ _ h
  · have h := h.2 c30
    refine a_aload_n C 2 dX6_readDeed_13 rfl rfl ?_
    refine a_iconst C 0 dX6_readDeed_14 (by decide) ?_
    refine a_bipush C 99 dX6_readDeed_15 (by decide) ?_
    refine a_callVi C dX6_readDeed_17 (m_X6_numberWithin l V h) bw_554 bw_556 bw_10 bw_119 bw_557 (by decide) rfl rfl np_X6_numberWithin rfl rfl (by decide) (Nat.le_of_ble_eq_true rfl) ⟨Nat.zero_le _, Nat.zero_le _⟩ (fun r24 u25 h => ?_)
    refine a_istore_n C [(2, .int r24), (3, .int 0), (0, .ref (eA V 27)), (1, .int a0)] dX6_readDeed_20 rfl (by decide) rfl ?_
    refine a_aload_n C 2 dX6_readDeed_21 rfl rfl ?_
    refine a_bipush C 21 dX6_readDeed_22 (by decide) ?_
    refine a_callVv C dX6_readDeed_24 (m_X6_expect l V h) bw_578 bw_580 bw_14 bw_119 bw_581 (by decide) rfl rfl np_X6_expect rfl rfl (by decide) (Nat.le_of_ble_eq_true rfl) ⟨Nat.zero_le _, Nat.zero_le _⟩ (fun u27 h => ?_)
    refine a_aload_n C 2 dX6_readDeed_27 rfl rfl ?_
    refine a_iconst C 0 dX6_readDeed_28 (by decide) ?_
    refine a_bipush C 29 dX6_readDeed_29 (by decide) ?_
    refine a_callVi C dX6_readDeed_31 (m_X6_numberWithin l V h) bw_554 bw_556 bw_10 bw_119 bw_557 (by decide) rfl rfl np_X6_numberWithin rfl rfl (by decide) (Nat.le_of_ble_eq_true rfl) ⟨Nat.zero_le _, Nat.zero_le _⟩ (fun r28 u29 h => ?_)
    refine a_istore_n C [(3, .int r28), (2, .int r24), (0, .ref (eA V 27)), (1, .int a0)] dX6_readDeed_34 rfl (by decide) rfl ?_
    refine a_goto C 124 dX6_readDeed_35 (by decide) ?_
    refine a_sub [2, 3, 1, 0] rfl ?_
    refine tj_X6_readDeed_124 C _ _ _ _ h

/-! RainOnTheOne$Reader.opensOne()Z -/
def wp_X6_opensOne (u : PoS) (post : Int32 → PoS → Prop) : Prop := (((gI u 27 7) = 36 → post 1 u) ∧ (¬ (gI u 27 7) = 36 → (((gI u 27 7) = 33 → post 1 u) ∧ (¬ (gI u 27 7) = 33 → (((gI u 27 7) = 17 → post 1 u) ∧ (¬ (gI u 27 7) = 17 → (((gI u 27 7) = 18 → post 1 u) ∧ (¬ (gI u 27 7) = 18 → ((¬ (gI u 27 7) = 19 → post 0 u) ∧ ((gI u 27 7) = 19 → post 1 u))))))))))
theorem np_X6_opensOne : yX6_opensOne.cls ≠ "java/lang/invoke/MethodHandle" ∧ yX6_opensOne.cls ≠ "java/lang/invoke/VarHandle" ∧ (parseMethodDescriptor yX6_opensOne.desc).map (fun d => d.parameters.length) = some 0 := by decide +kernel
set_option maxHeartbeats 4000000 in
set_option maxRecDepth 100000 in
theorem m_X6_opensOne (l : Launch) (V : VEn) {u : PoS} {post : Int32 → PoS → Prop} (h : wp_X6_opensOne  u post) : KI l V yX6_opensOne cX6_opensOne 1 .boolean 0 [.ref (eA V 27)] u post := by
  refine KI_of (by decide) (Nat.le_of_ble_eq_true rfl) (lv := [(0, .ref (eA V 27))]) rfl ?_
  intro p e s m args below meth c C
  rw [wp_X6_opensOne] at h
  refine a_aload_n C 0 dX6_opensOne_0 rfl rfl ?_
  refine a_geti C 7 dX6_opensOne_1 (by decide) rfl rfl rfl ib_6 (by decide) bw_299 ?_
  refine a_bipush C 36 dX6_opensOne_4 (by decide) ?_
  refine a_icmp_eq C 45 dX6_opensOne_6 (by decide) (fun c5 => ?_) (fun c5 => ?_)
  · have h := h.1 c5
    refine a_iconst C 1 dX6_opensOne_45 (by decide) ?_
    refine a_goto C 50 dX6_opensOne_46 (by decide) ?_
    exact a_zret C rfl dX6_opensOne_50 h
  · have h := h.2 c5
    refine a_aload_n C 0 dX6_opensOne_9 rfl rfl ?_
    refine a_geti C 7 dX6_opensOne_10 (by decide) rfl rfl rfl ib_6 (by decide) bw_299 ?_
    refine a_bipush C 33 dX6_opensOne_13 (by decide) ?_
    refine a_icmp_eq C 45 dX6_opensOne_15 (by decide) (fun c4 => ?_) (fun c4 => ?_)
    · have h := h.1 c4
      refine a_iconst C 1 dX6_opensOne_45 (by decide) ?_
      refine a_goto C 50 dX6_opensOne_46 (by decide) ?_
      exact a_zret C rfl dX6_opensOne_50 h
    · have h := h.2 c4
      refine a_aload_n C 0 dX6_opensOne_18 rfl rfl ?_
      refine a_geti C 7 dX6_opensOne_19 (by decide) rfl rfl rfl ib_6 (by decide) bw_299 ?_
      refine a_bipush C 17 dX6_opensOne_22 (by decide) ?_
      refine a_icmp_eq C 45 dX6_opensOne_24 (by decide) (fun c3 => ?_) (fun c3 => ?_)
      · have h := h.1 c3
        refine a_iconst C 1 dX6_opensOne_45 (by decide) ?_
        refine a_goto C 50 dX6_opensOne_46 (by decide) ?_
        exact a_zret C rfl dX6_opensOne_50 h
      · have h := h.2 c3
        refine a_aload_n C 0 dX6_opensOne_27 rfl rfl ?_
        refine a_geti C 7 dX6_opensOne_28 (by decide) rfl rfl rfl ib_6 (by decide) bw_299 ?_
        refine a_bipush C 18 dX6_opensOne_31 (by decide) ?_
        refine a_icmp_eq C 45 dX6_opensOne_33 (by decide) (fun c2 => ?_) (fun c2 => ?_)
        · have h := h.1 c2
          refine a_iconst C 1 dX6_opensOne_45 (by decide) ?_
          refine a_goto C 50 dX6_opensOne_46 (by decide) ?_
          exact a_zret C rfl dX6_opensOne_50 h
        · have h := h.2 c2
          refine a_aload_n C 0 dX6_opensOne_36 rfl rfl ?_
          refine a_geti C 7 dX6_opensOne_37 (by decide) rfl rfl rfl ib_6 (by decide) bw_299 ?_
          refine a_bipush C 19 dX6_opensOne_40 (by decide) ?_
          refine a_icmp_ne C 49 dX6_opensOne_42 (by decide) (fun c1 => ?_) (fun c1 => ?_)
          · have h := h.1 c1
            refine a_iconst C 0 dX6_opensOne_49 (by decide) ?_
            exact a_zret C rfl dX6_opensOne_50 h
          · have h := h.2 c1
            refine a_iconst C 1 dX6_opensOne_45 (by decide) ?_
            refine a_goto C 50 dX6_opensOne_46 (by decide) ?_
            exact a_zret C rfl dX6_opensOne_50 h

/-! RainOnTheOne$Token.isCompare(I)Z -/
def wj_X9_isCompare_12 (post : Int32 → PoS → Prop) (v0 : Int32) (u : PoS) : Prop := ((v0 = 39 → post 1 u) ∧ (¬ v0 = 39 → ((¬ v0 = 40 → post 0 u) ∧ (v0 = 40 → post 1 u))))
def wp_X9_isCompare (a0 : Int32) (u : PoS) (post : Int32 → PoS → Prop) : Prop := ((a0 < 28 → wj_X9_isCompare_12 post a0 u) ∧ (¬ a0 < 28 → ((a0 ≤ 31 → post 1 u) ∧ (¬ a0 ≤ 31 → wj_X9_isCompare_12 post a0 u))))
set_option maxHeartbeats 4000000 in
set_option maxRecDepth 100000 in
theorem tj_X9_isCompare_12 {p : Program} {l : Launch} {e : Env} {s : State} {m : MethodId} {args : Array Value} {below : List Frame} {meth : Method} {c : Code} {V : VEn} {post : Int32 → PoS → Prop} (C : CxS p s m args meth c V cX9_isCompare 1 RX9 (some .boolean)) (v0 : Int32) (u : PoS) (h : wj_X9_isCompare_12 post v0 u) : AtS p l e (Rm 0) s m args below meth c V 1 0 0 (QI V below args s post) 12 [(0, .int v0)] [] u := by
  rw [wj_X9_isCompare_12] at h
  refine a_iload_n C 0 dX9_isCompare_12 rfl rfl ?_
  refine a_bipush C 39 dX9_isCompare_13 (by decide) ?_
  refine a_icmp_eq C 24 dX9_isCompare_15 (by decide) (fun c2 => ?_) (fun c2 => ?_)
  · have h := h.1 c2
    refine a_iconst C 1 dX9_isCompare_24 (by decide) ?_
    refine a_goto C 29 dX9_isCompare_25 (by decide) ?_
    exact a_zret C rfl dX9_isCompare_29 h
  · have h := h.2 c2
    refine a_iload_n C 0 dX9_isCompare_18 rfl rfl ?_
    refine a_bipush C 40 dX9_isCompare_19 (by decide) ?_
    refine a_icmp_ne C 28 dX9_isCompare_21 (by decide) (fun c1 => ?_) (fun c1 => ?_)
    · have h := h.1 c1
      refine a_iconst C 0 dX9_isCompare_28 (by decide) ?_
      exact a_zret C rfl dX9_isCompare_29 h
    · have h := h.2 c1
      refine a_iconst C 1 dX9_isCompare_24 (by decide) ?_
      refine a_goto C 29 dX9_isCompare_25 (by decide) ?_
      exact a_zret C rfl dX9_isCompare_29 h
theorem np_X9_isCompare : yX9_isCompare.cls ≠ "java/lang/invoke/MethodHandle" ∧ yX9_isCompare.cls ≠ "java/lang/invoke/VarHandle" ∧ (parseMethodDescriptor yX9_isCompare.desc).map (fun d => d.parameters.length) = some 1 := by decide +kernel
set_option maxHeartbeats 4000000 in
set_option maxRecDepth 100000 in
theorem m_X9_isCompare (l : Launch) (V : VEn) {a0 : Int32} {u : PoS} {post : Int32 → PoS → Prop} (h : wp_X9_isCompare a0 u post) : KI l V yX9_isCompare cX9_isCompare 1 .boolean 0 [.int a0] u post := by
  refine KI_of (by decide) (Nat.le_of_ble_eq_true rfl) (lv := [(0, .int a0)]) rfl ?_
  intro p e s m args below meth c C
  rw [wp_X9_isCompare] at h
  refine a_iload_n C 0 dX9_isCompare_0 rfl rfl ?_
  refine a_bipush C 28 dX9_isCompare_1 (by decide) ?_
  refine a_icmp_lt C 12 dX9_isCompare_3 (by decide) (fun c4 => ?_) (fun c4 => ?_)
  · have h := h.1 c4
    refine tj_X9_isCompare_12 C _ _ h
  · have h := h.2 c4
    refine a_iload_n C 0 dX9_isCompare_6 rfl rfl ?_
    refine a_bipush C 31 dX9_isCompare_7 (by decide) ?_
    refine a_icmp_le C 24 dX9_isCompare_9 (by decide) (fun c3 => ?_) (fun c3 => ?_)
    · have h := h.1 c3
      refine a_iconst C 1 dX9_isCompare_24 (by decide) ?_
      refine a_goto C 29 dX9_isCompare_25 (by decide) ?_
      exact a_zret C rfl dX9_isCompare_29 h
    · have h := h.2 c3
      refine tj_X9_isCompare_12 C _ _ h

/-! RainOnTheOne$Reader.readName()V -/
def wj_X6_readName_21 (post : PoS → Prop) (u : PoS) : Prop := ∃ i1, i1 < 4 ∧ gR u 27 8 = 7 + i1 ∧ wp_X3_addCode i1 (gI u 27 7) 0 u (fun (u3 : PoS) => wp_X6_advance u3 (fun (u5 : PoS) => post u5))
def wp_X6_readName (u : PoS) (post : PoS → Prop) : Prop := ((¬ (gI u 27 7) = 16 → wj_X6_readName_21 post  u) ∧ ((gI u 27 7) = 16 → (((gI u 27 10) = 0 → wj_X6_readName_21 post  u) ∧ (¬ (gI u 27 10) = 0 → wp_X6_blame 5 u (fun (u7 : PoS) => wj_X6_readName_21 post  u7)))))
set_option maxHeartbeats 4000000 in
set_option maxRecDepth 100000 in
theorem tj_X6_readName_21 {p : Program} {l : Launch} {e : Env} {s : State} {m : MethodId} {args : Array Value} {below : List Frame} {meth : Method} {c : Code} {V : VEn} {post : PoS → Prop} (C : CxS p s m args meth c V cX6_readName 1 RX6 none) (u : PoS) (h : wj_X6_readName_21 post  u) : AtS p l e (Rm 1) s m args below meth c V 1 0 0 (QV V below args s post) 21 [(0, .ref (eA V 27))] [] u := by
  rw [wj_X6_readName_21] at h
  refine a_aload_n C 0 dX6_readName_21 rfl rfl ?_
  refine a_getd C 8 dX6_readName_22 (by decide) rfl rfl rfl ib_6 (by decide) bw_300 ?_
  obtain ⟨i1, hi1, hri1, h⟩ := h
  rw [hri1]
  refine a_aload_n C 0 dX6_readName_25 rfl rfl ?_
  refine a_geti C 7 dX6_readName_26 (by decide) rfl rfl rfl ib_6 (by decide) bw_299 ?_
  refine a_iconst C 0 dX6_readName_29 (by decide) ?_
  refine a_callVv C dX6_readName_30 (m_X3_addCode l V hi1 h) bw_559 bw_560 bw_561 bw_117 bw_562 (by have := hi1; omega) (lw_obj hi1) rfl np_X3_addCode rfl rfl (by decide) (Nat.le_of_ble_eq_true rfl) ⟨Nat.zero_le _, Nat.zero_le _⟩ (fun u3 h => ?_)
  refine a_aload_n C 0 dX6_readName_33 rfl rfl ?_
  refine a_callVv C dX6_readName_34 (m_X6_advance l V h) bw_538 bw_540 bw_6 bw_119 bw_541 (by decide) rfl rfl np_X6_advance rfl rfl (by decide) (Nat.le_of_ble_eq_true rfl) ⟨Nat.zero_le _, Nat.zero_le _⟩ (fun u5 h => ?_)
  exact a_vret C dX6_readName_37 h
theorem np_X6_readName : yX6_readName.cls ≠ "java/lang/invoke/MethodHandle" ∧ yX6_readName.cls ≠ "java/lang/invoke/VarHandle" ∧ (parseMethodDescriptor yX6_readName.desc).map (fun d => d.parameters.length) = some 0 := by decide +kernel
set_option maxHeartbeats 4000000 in
set_option maxRecDepth 100000 in
theorem m_X6_readName (l : Launch) (V : VEn) {u : PoS} {post : PoS → Prop} (h : wp_X6_readName  u post) : KV l V yX6_readName cX6_readName 1 1 [.ref (eA V 27)] u post := by
  refine KV_of (by decide) (Nat.le_of_ble_eq_true rfl) (lv := [(0, .ref (eA V 27))]) rfl ?_
  intro p e s m args below meth c C
  rw [wp_X6_readName] at h
  refine a_aload_n C 0 dX6_readName_0 rfl rfl ?_
  refine a_geti C 7 dX6_readName_1 (by decide) rfl rfl rfl ib_6 (by decide) bw_299 ?_
  refine a_bipush C 16 dX6_readName_4 (by decide) ?_
  refine a_icmp_ne C 21 dX6_readName_6 (by decide) (fun c9 => ?_) (fun c9 => ?_)
  · have h := h.1 c9
    refine tj_X6_readName_21 C _ h
  · have h := h.2 c9
    refine a_aload_n C 0 dX6_readName_9 rfl rfl ?_
    refine a_geti C 10 dX6_readName_10 (by decide) rfl rfl rfl ib_6 (by decide) bw_302 ?_
    refine a_if_eq C 21 dX6_readName_13 (by decide) (fun c8 => ?_) (fun c8 => ?_)
    · have h := h.1 c8
      refine tj_X6_readName_21 C _ h
    · have h := h.2 c8
      refine a_aload_n C 0 dX6_readName_16 rfl rfl ?_
      refine a_iconst C 5 dX6_readName_17 (by decide) ?_
      refine a_callVv C dX6_readName_18 (m_X6_blame l V h) bw_526 bw_528 bw_4 bw_119 bw_529 (by decide) rfl rfl np_X6_blame rfl rfl (by decide) (Nat.le_of_ble_eq_true rfl) ⟨Nat.zero_le _, Nat.zero_le _⟩ (fun u7 h => ?_)
      refine tj_X6_readName_21 C _ h

/-! RainOnTheOne$Token.isHead(I)Z -/
def wp_X9_isHead (a0 : Int32) (u : PoS) (post : Int32 → PoS → Prop) : Prop := ((a0 < 0 → post 0 u) ∧ (¬ a0 < 0 → ((9 < a0 → post 0 u) ∧ (¬ 9 < a0 → post 1 u))))
theorem np_X9_isHead : yX9_isHead.cls ≠ "java/lang/invoke/MethodHandle" ∧ yX9_isHead.cls ≠ "java/lang/invoke/VarHandle" ∧ (parseMethodDescriptor yX9_isHead.desc).map (fun d => d.parameters.length) = some 1 := by decide +kernel
set_option maxHeartbeats 4000000 in
set_option maxRecDepth 100000 in
theorem m_X9_isHead (l : Launch) (V : VEn) {a0 : Int32} {u : PoS} {post : Int32 → PoS → Prop} (h : wp_X9_isHead a0 u post) : KI l V yX9_isHead cX9_isHead 1 .boolean 0 [.int a0] u post := by
  refine KI_of (by decide) (Nat.le_of_ble_eq_true rfl) (lv := [(0, .int a0)]) rfl ?_
  intro p e s m args below meth c C
  rw [wp_X9_isHead] at h
  refine a_iload_n C 0 dX9_isHead_0 rfl rfl ?_
  refine a_if_lt C 14 dX9_isHead_1 (by decide) (fun c2 => ?_) (fun c2 => ?_)
  · have h := h.1 c2
    refine a_iconst C 0 dX9_isHead_14 (by decide) ?_
    exact a_zret C rfl dX9_isHead_15 h
  · have h := h.2 c2
    refine a_iload_n C 0 dX9_isHead_4 rfl rfl ?_
    refine a_bipush C 9 dX9_isHead_5 (by decide) ?_
    refine a_icmp_gt C 14 dX9_isHead_7 (by decide) (fun c1 => ?_) (fun c1 => ?_)
    · have h := h.1 c1
      refine a_iconst C 0 dX9_isHead_14 (by decide) ?_
      exact a_zret C rfl dX9_isHead_15 h
    · have h := h.2 c1
      refine a_iconst C 1 dX9_isHead_10 (by decide) ?_
      refine a_goto C 15 dX9_isHead_11 (by decide) ?_
      exact a_zret C rfl dX9_isHead_15 h

/-! RainOnTheOne$Roster.costOf(II)I -/
def wp_X7_costOf (a0 : Int32) (a1 : Int32) (u : PoS) (post : Int32 → PoS → Prop) : Prop := gR u 38 5 = 3 ∧ vp_in ((118 + (a0 * 7)) + a1) 2735 ∧ post (gI u 3 (Int32.toNatClampNeg ((118 + (a0 * 7)) + a1))) u
theorem np_X7_costOf : yX7_costOf.cls ≠ "java/lang/invoke/MethodHandle" ∧ yX7_costOf.cls ≠ "java/lang/invoke/VarHandle" ∧ (parseMethodDescriptor yX7_costOf.desc).map (fun d => d.parameters.length) = some 2 := by decide +kernel
set_option maxHeartbeats 4000000 in
set_option maxRecDepth 100000 in
theorem m_X7_costOf (l : Launch) (V : VEn) {a0 : Int32} {a1 : Int32} {u : PoS} {post : Int32 → PoS → Prop} (h : wp_X7_costOf a0 a1 u post) : KI l V yX7_costOf cX7_costOf 3 .int 0 [.ref (eA V 38), .int a0, .int a1] u post := by
  refine KI_of (by decide) (Nat.le_of_ble_eq_true rfl) (lv := [(0, .ref (eA V 38)), (1, .int a0), (2, .int a1)]) rfl ?_
  intro p e s m args below meth c C
  rw [wp_X7_costOf] at h
  refine a_aload_n C 0 dX7_costOf_0 rfl rfl ?_
  refine a_getd C 5 dX7_costOf_1 (by decide) rfl rfl rfl ib_7 (by decide) bw_200 ?_
  obtain ⟨hr1, h⟩ := h
  rw [hr1]
  refine a_bipush C 118 dX7_costOf_4 (by decide) ?_
  refine a_iload_n C 1 dX7_costOf_6 rfl rfl ?_
  refine a_bipush C 7 dX7_costOf_7 (by decide) ?_
  refine a_imul C dX7_costOf_9 ?_
  refine a_iadd C dX7_costOf_10 ?_
  refine a_iload_n C 2 dX7_costOf_11 rfl rfl ?_
  refine a_iadd C dX7_costOf_12 ?_
  refine b_iald C (Int32.toNatClampNeg ((118 + (a0 * 7)) + a1)) dX7_costOf_13 (by decide) rfl h.1 rfl ?_
  have h := h.2
  exact a_iret C dX7_costOf_14 h

/-! RainOnTheOne$Roster.boundDay(I)V -/
def wj_X7_boundDay_79 (k26 : Int32 → Int32 → Int32 → Int32 → PoS → Prop) (post : PoS → Prop) (v1 : Int32) (v2 : Int32) (v3 : Int32) (v4 : Int32) (u : PoS) : Prop := k26 v1 v2 v3 (v4 + 1) u
def wl_X7_boundDay_26 (k85 : Int32 → Int32 → Int32 → PoS → Prop) (post : PoS → Prop) : Nat → Int32 → Int32 → Int32 → Int32 → PoS → Prop
  | 0, _, _, _, _, _ => False
  | n + 1, v1, v2, v3, v4, u => (((gI u 38 6) ≤ v4 → k85 v1 v2 v3 u) ∧ (¬ (gI u 38 6) ≤ v4 → ((6 ≤ v1 → k85 v1 v2 v3 u) ∧ (¬ 6 ≤ v1 → ((v4 = v2 → wj_X7_boundDay_79 (wl_X7_boundDay_26 k85 post n) post v1 v2 v3 v4 u) ∧ (¬ v4 = v2 → wp_X7_costOf v4 (v1 + 1) u (fun (r1 : Int32) (u2 : PoS) => vp_in (((v1 + 1) * 5) + v4) 35 ∧ ∀ x3 : Int32, x3 = (r1 + (gI u2 42 (Int32.toNatClampNeg (((v1 + 1) * 5) + v4)))) → ∀ x4 : Int32, x4 = (imin v3 x3) → wj_X7_boundDay_79 (wl_X7_boundDay_26 k85 post n) post v1 v2 x4 v4 u2)))))))
def wj_X7_boundDay_85 (k2 : Int32 → Int32 → PoS → Prop) (post : PoS → Prop) (v1 : Int32) (v2 : Int32) (v3 : Int32) (u : PoS) : Prop := vp_in ((v1 * 5) + v2) 35 ∧ ∀ z9 : PoS, z9 = pI u 42 (Int32.toNatClampNeg ((v1 * 5) + v2)) v3 → k2 v1 (v2 + 1) z9
def wj_X7_boundDay_22 (k2 : Int32 → Int32 → PoS → Prop) (post : PoS → Prop) (v1 : Int32) (v2 : Int32) (s0 : Int32) (u : PoS) : Prop := (∃ n26, wl_X7_boundDay_26 (fun (v18 : Int32) (v28 : Int32) (v38 : Int32) (u8 : PoS) => wj_X7_boundDay_85 k2 post v18 v28 v38 u8) post n26 v1 v2 s0 0 u)
def wl_X7_boundDay_2 (post : PoS → Prop) : Nat → Int32 → Int32 → PoS → Prop
  | 0, _, _, _ => False
  | n + 1, v1, v2, u => (((gI u 38 6) ≤ v2 → post u) ∧ (¬ (gI u 38 6) ≤ v2 → ((¬ v1 = 6 → wj_X7_boundDay_22 (wl_X7_boundDay_2 post n) post v1 v2 1000000 u) ∧ (v1 = 6 → wj_X7_boundDay_22 (wl_X7_boundDay_2 post n) post v1 v2 0 u))))
def wp_X7_boundDay (a0 : Int32) (u : PoS) (post : PoS → Prop) : Prop := (∃ n2, wl_X7_boundDay_2 post n2 a0 0 u)
set_option maxHeartbeats 4000000 in
set_option maxRecDepth 100000 in
theorem tj_X7_boundDay_79 {p : Program} {l : Launch} {e : Env} {s : State} {m : MethodId} {args : Array Value} {below : List Frame} {meth : Method} {c : Code} {V : VEn} {k26 : Int32 → Int32 → Int32 → Int32 → PoS → Prop} {post : PoS → Prop} (C : CxS p s m args meth c V cX7_boundDay 6 RX7 none) (hk26 : ∀ (v1 : Int32) (v2 : Int32) (v3 : Int32) (v4 : Int32) (u : PoS), k26 v1 v2 v3 v4 u → AtS p l e (Rm 1) s m args below meth c V 6 0 0 (QV V below args s post) 26 [(0, .ref (eA V 38)), (1, .int v1), (2, .int v2), (3, .int v3), (4, .int v4)] [] u) (v1 : Int32) (v2 : Int32) (v3 : Int32) (v4 : Int32) (u : PoS) (h : wj_X7_boundDay_79 k26 post v1 v2 v3 v4 u) : AtS p l e (Rm 1) s m args below meth c V 6 0 0 (QV V below args s post) 79 [(0, .ref (eA V 38)), (1, .int v1), (2, .int v2), (3, .int v3), (4, .int v4)] [] u := by
  rw [wj_X7_boundDay_79] at h
  refine a_iinc C (v4 + 1) 4 [(4, .int (v4 + 1)), (0, .ref (eA V 38)), (1, .int v1), (2, .int v2), (3, .int v3)] dX7_boundDay_79 rfl (congrArg (fun z => v4 + z) (show Int32.ofInt 1 = 1 by decide)) (by decide) rfl ?_
  refine a_goto C 26 dX7_boundDay_82 (by decide) ?_
  refine a_sub [1, 2, 3, 4, 0] rfl ?_
  exact hk26 _ _ _ _ _ h
set_option maxHeartbeats 4000000 in
set_option maxRecDepth 100000 in
theorem tl_X7_boundDay_26 {p : Program} {l : Launch} {e : Env} {s : State} {m : MethodId} {args : Array Value} {below : List Frame} {meth : Method} {c : Code} {V : VEn} {k85 : Int32 → Int32 → Int32 → PoS → Prop} {post : PoS → Prop} (C : CxS p s m args meth c V cX7_boundDay 6 RX7 none) (hk85 : ∀ (v1 : Int32) (v2 : Int32) (v3 : Int32) (u : PoS), k85 v1 v2 v3 u → AtS p l e (Rm 1) s m args below meth c V 6 0 0 (QV V below args s post) 85 [(0, .ref (eA V 38)), (1, .int v1), (2, .int v2), (3, .int v3)] [] u) : ∀ (n : Nat) (v1 : Int32) (v2 : Int32) (v3 : Int32) (v4 : Int32) (u : PoS), wl_X7_boundDay_26 k85 post n v1 v2 v3 v4 u → AtS p l e (Rm 1) s m args below meth c V 6 0 0 (QV V below args s post) 26 [(0, .ref (eA V 38)), (1, .int v1), (2, .int v2), (3, .int v3), (4, .int v4)] [] u := by
  intro n
  induction n with
  | zero => intro v1 v2 v3 v4 u h; exact h.elim
  | succ n ih =>
    intro v1 v2 v3 v4 u h
    rw [wl_X7_boundDay_26] at h
    refine a_iload C 4 dX7_boundDay_26 rfl ?_
    refine a_aload_n C 0 dX7_boundDay_28 rfl rfl ?_
    refine a_geti C 6 dX7_boundDay_29 (by decide) rfl rfl rfl ib_7 (by decide) bw_201 ?_
    refine a_icmp_ge C 85 dX7_boundDay_32 (by decide) (fun c7 => ?_) (fun c7 => ?_)
    · have h := h.1 c7
      refine a_sub [0, 1, 2, 3] rfl ?_
      exact hk85 _ _ _ _ h
    · have h := h.2 c7
      refine a_iload_n C 1 dX7_boundDay_35 rfl rfl ?_
      refine a_bipush C 6 dX7_boundDay_36 (by decide) ?_
      refine a_icmp_ge C 85 dX7_boundDay_38 (by decide) (fun c6 => ?_) (fun c6 => ?_)
      · have h := h.1 c6
        refine a_sub [0, 1, 2, 3] rfl ?_
        exact hk85 _ _ _ _ h
      · have h := h.2 c6
        refine a_iload C 4 dX7_boundDay_41 rfl ?_
        refine a_iload_n C 2 dX7_boundDay_43 rfl rfl ?_
        refine a_icmp_eq C 79 dX7_boundDay_44 (by decide) (fun c5 => ?_) (fun c5 => ?_)
        · have h := h.1 c5
          refine tj_X7_boundDay_79 C ih _ _ _ _ _ h
        · have h := h.2 c5
          refine a_aload_n C 0 dX7_boundDay_47 rfl rfl ?_
          refine a_iload C 4 dX7_boundDay_48 rfl ?_
          refine a_iload_n C 1 dX7_boundDay_50 rfl rfl ?_
          refine a_iconst C 1 dX7_boundDay_51 (by decide) ?_
          refine a_iadd C dX7_boundDay_52 ?_
          refine a_callVi C dX7_boundDay_53 (m_X7_costOf l V h) bw_924 bw_926 bw_34 bw_115 bw_927 (by decide) rfl rfl np_X7_costOf rfl rfl (by decide) (Nat.le_of_ble_eq_true rfl) ⟨Nat.zero_le _, Nat.zero_le _⟩ (fun r1 u2 h => ?_)
          refine a_aload_n C 0 dX7_boundDay_56 rfl rfl ?_
          refine a_getr C 4 (r := 42) dX7_boundDay_57 (by decide) rfl rfl rfl ib_7 (by decide) bw_199 ?_
          refine a_iload_n C 1 dX7_boundDay_60 rfl rfl ?_
          refine a_iconst C 1 dX7_boundDay_61 (by decide) ?_
          refine a_iadd C dX7_boundDay_62 ?_
          refine a_iconst C 5 dX7_boundDay_63 (by decide) ?_
          refine a_imul C dX7_boundDay_64 ?_
          refine a_iload C 4 dX7_boundDay_65 rfl ?_
          refine a_iadd C dX7_boundDay_67 ?_
          refine b_iald C (Int32.toNatClampNeg (((v1 + 1) * 5) + v4)) dX7_boundDay_68 (by decide) rfl h.1 rfl ?_
          have h := h.2
          refine a_iadd C dX7_boundDay_69 ?_
          refine a_topi (fun x3 ex3 => ?_)
          have h := h x3 ex3
          refine a_istore C [(5, .int x3), (0, .ref (eA V 38)), (1, .int v1), (2, .int v2), (3, .int v3), (4, .int v4)] dX7_boundDay_70 (by decide) rfl ?_
          refine a_iload_n C 4 dX7_boundDay_72 rfl rfl ?_
          refine a_iload C 0 dX7_boundDay_73 rfl ?_
          refine b_mmin C dX7_boundDay_75 bw_928 bw_441 bw_121 bw_442 (by decide) (Nat.le_of_ble_eq_true rfl) ⟨Nat.zero_le _, Nat.zero_le _⟩ ?_
          refine a_topi (fun x4 ex4 => ?_)
          have h := h x4 ex4
          refine a_istore_n C [(3, .int x4), (5, .int x3), (0, .ref (eA V 38)), (1, .int v1), (2, .int v2), (4, .int v4)] dX7_boundDay_78 rfl (by decide) rfl ?_
          refine a_sub [2, 3, 4, 0, 5] rfl ?_
          refine tj_X7_boundDay_79 C ih _ _ _ _ _ h
set_option maxHeartbeats 4000000 in
set_option maxRecDepth 100000 in
theorem tj_X7_boundDay_85 {p : Program} {l : Launch} {e : Env} {s : State} {m : MethodId} {args : Array Value} {below : List Frame} {meth : Method} {c : Code} {V : VEn} {k2 : Int32 → Int32 → PoS → Prop} {post : PoS → Prop} (C : CxS p s m args meth c V cX7_boundDay 6 RX7 none) (hk2 : ∀ (v1 : Int32) (v2 : Int32) (u : PoS), k2 v1 v2 u → AtS p l e (Rm 1) s m args below meth c V 6 0 0 (QV V below args s post) 2 [(0, .ref (eA V 38)), (1, .int v1), (2, .int v2)] [] u) (v1 : Int32) (v2 : Int32) (v3 : Int32) (u : PoS) (h : wj_X7_boundDay_85 k2 post v1 v2 v3 u) : AtS p l e (Rm 1) s m args below meth c V 6 0 0 (QV V below args s post) 85 [(0, .ref (eA V 38)), (1, .int v1), (2, .int v2), (3, .int v3)] [] u := by
  rw [wj_X7_boundDay_85] at h
  refine a_aload_n C 0 dX7_boundDay_85 rfl rfl ?_
  refine a_getr C 4 (r := 42) dX7_boundDay_86 (by decide) rfl rfl rfl ib_7 (by decide) bw_199 ?_
  refine a_iload_n C 1 dX7_boundDay_89 rfl rfl ?_
  refine a_iconst C 5 dX7_boundDay_90 (by decide) ?_
  refine a_imul C dX7_boundDay_91 ?_
  refine a_iload_n C 2 dX7_boundDay_92 rfl rfl ?_
  refine a_iadd C dX7_boundDay_93 ?_
  refine a_iload_n C 3 dX7_boundDay_94 rfl rfl ?_
  refine b_iast C (Int32.toNatClampNeg ((v1 * 5) + v2)) dX7_boundDay_95 (by decide) rfl h.1 rfl ?_
  have h := h.2
  refine a_topu (fun z9 ez9 => ?_)
  have h := h z9 ez9
  refine a_iinc C (v2 + 1) 2 [(2, .int (v2 + 1)), (0, .ref (eA V 38)), (1, .int v1), (3, .int v3)] dX7_boundDay_96 rfl (congrArg (fun z => v2 + z) (show Int32.ofInt 1 = 1 by decide)) (by decide) rfl ?_
  refine a_goto C 2 dX7_boundDay_99 (by decide) ?_
  refine a_sub [1, 2, 0] rfl ?_
  exact hk2 _ _ _ h
set_option maxHeartbeats 4000000 in
set_option maxRecDepth 100000 in
theorem tj_X7_boundDay_22 {p : Program} {l : Launch} {e : Env} {s : State} {m : MethodId} {args : Array Value} {below : List Frame} {meth : Method} {c : Code} {V : VEn} {k2 : Int32 → Int32 → PoS → Prop} {post : PoS → Prop} (C : CxS p s m args meth c V cX7_boundDay 6 RX7 none) (hk2 : ∀ (v1 : Int32) (v2 : Int32) (u : PoS), k2 v1 v2 u → AtS p l e (Rm 1) s m args below meth c V 6 0 0 (QV V below args s post) 2 [(0, .ref (eA V 38)), (1, .int v1), (2, .int v2)] [] u) (v1 : Int32) (v2 : Int32) (s0 : Int32) (u : PoS) (h : wj_X7_boundDay_22 k2 post v1 v2 s0 u) : AtS p l e (Rm 1) s m args below meth c V 6 0 0 (QV V below args s post) 22 [(0, .ref (eA V 38)), (1, .int v1), (2, .int v2)] [.int s0] u := by
  rw [wj_X7_boundDay_22] at h
  refine a_istore_n C [(3, .int s0), (0, .ref (eA V 38)), (1, .int v1), (2, .int v2)] dX7_boundDay_22 rfl (by decide) rfl ?_
  refine a_iconst C 0 dX7_boundDay_23 (by decide) ?_
  refine a_istore C [(4, .int 0), (3, .int s0), (0, .ref (eA V 38)), (1, .int v1), (2, .int v2)] dX7_boundDay_24 (by decide) rfl ?_
  refine a_sub [2, 3, 4, 1, 0] rfl ?_
  obtain ⟨n26, h⟩ := h
  refine tl_X7_boundDay_26 C (fun v18 v28 v38 u8 h => ?_) n26 _ _ _ _ _ h
  refine tj_X7_boundDay_85 C hk2 _ _ _ _ h
set_option maxHeartbeats 4000000 in
set_option maxRecDepth 100000 in
theorem tl_X7_boundDay_2 {p : Program} {l : Launch} {e : Env} {s : State} {m : MethodId} {args : Array Value} {below : List Frame} {meth : Method} {c : Code} {V : VEn} {post : PoS → Prop} (C : CxS p s m args meth c V cX7_boundDay 6 RX7 none) : ∀ (n : Nat) (v1 : Int32) (v2 : Int32) (u : PoS), wl_X7_boundDay_2 post n v1 v2 u → AtS p l e (Rm 1) s m args below meth c V 6 0 0 (QV V below args s post) 2 [(0, .ref (eA V 38)), (1, .int v1), (2, .int v2)] [] u := by
  intro n
  induction n with
  | zero => intro v1 v2 u h; exact h.elim
  | succ n ih =>
    intro v1 v2 u h
    rw [wl_X7_boundDay_2] at h
    refine a_iload_n C 2 dX7_boundDay_2 rfl rfl ?_
    refine a_aload_n C 0 dX7_boundDay_3 rfl rfl ?_
    refine a_geti C 6 dX7_boundDay_4 (by decide) rfl rfl rfl ib_7 (by decide) bw_201 ?_
    refine a_icmp_ge C 102 dX7_boundDay_7 (by decide) (fun c11 => ?_) (fun c11 => ?_)
    · have h := h.1 c11
      exact a_vret C dX7_boundDay_102 h
    · have h := h.2 c11
      refine a_iload_n C 1 dX7_boundDay_10 rfl rfl ?_
      refine a_bipush C 6 dX7_boundDay_11 (by decide) ?_
      refine a_icmp_ne C 20 dX7_boundDay_13 (by decide) (fun c10 => ?_) (fun c10 => ?_)
      · have h := h.1 c10
        refine a_ldc C dX7_boundDay_20 bw_192 ?_
        refine tj_X7_boundDay_22 C ih _ _ _ _ h
      · have h := h.2 c10
        refine a_iconst C 0 dX7_boundDay_16 (by decide) ?_
        refine a_goto C 22 dX7_boundDay_17 (by decide) ?_
        refine tj_X7_boundDay_22 C ih _ _ _ _ h
theorem np_X7_boundDay : yX7_boundDay.cls ≠ "java/lang/invoke/MethodHandle" ∧ yX7_boundDay.cls ≠ "java/lang/invoke/VarHandle" ∧ (parseMethodDescriptor yX7_boundDay.desc).map (fun d => d.parameters.length) = some 1 := by decide +kernel
set_option maxHeartbeats 4000000 in
set_option maxRecDepth 100000 in
theorem m_X7_boundDay (l : Launch) (V : VEn) {a0 : Int32} {u : PoS} {post : PoS → Prop} (h : wp_X7_boundDay a0 u post) : KV l V yX7_boundDay cX7_boundDay 6 1 [.ref (eA V 38), .int a0] u post := by
  refine KV_of (by decide) (Nat.le_of_ble_eq_true rfl) (lv := [(0, .ref (eA V 38)), (1, .int a0)]) rfl ?_
  intro p e s m args below meth c C
  rw [wp_X7_boundDay] at h
  refine a_iconst C 0 dX7_boundDay_0 (by decide) ?_
  refine a_istore_n C [(2, .int 0), (0, .ref (eA V 38)), (1, .int a0)] dX7_boundDay_1 rfl (by decide) rfl ?_
  refine a_sub [1, 2, 0] rfl ?_
  obtain ⟨n2, h⟩ := h
  refine tl_X7_boundDay_2 C n2 _ _ _ h

theorem np_X7_fill : yX7_fill.cls ≠ "java/lang/invoke/MethodHandle" ∧ yX7_fill.cls ≠ "java/lang/invoke/VarHandle" ∧ (parseMethodDescriptor yX7_fill.desc).map (fun d => d.parameters.length) = some 3 := by decide +kernel
/-! RainOnTheOne$Roster.fill(III)V -/
def wj_X7_fill_144 (rc_X7_fill : Int32 → Int32 → Int32 → PoS → (PoS → Prop) → Prop) (k30 : Int32 → Int32 → Int32 → Int32 → PoS → Prop) (post : PoS → Prop) (v1 : Int32) (v2 : Int32) (v3 : Int32) (v4 : Int32) (u : PoS) : Prop := k30 v1 v2 v3 (v4 + 1) u
def wj_X7_fill_75 (rc_X7_fill : Int32 → Int32 → Int32 → PoS → (PoS → Prop) → Prop) (k30 : Int32 → Int32 → Int32 → Int32 → PoS → Prop) (post : PoS → Prop) (v1 : Int32) (v2 : Int32) (v3 : Int32) (v4 : Int32) (v5 : Int32) (s0 : Int32) (u : PoS) : Prop := ((s0 = 0 → wj_X7_fill_144 rc_X7_fill k30 post v1 v2 v3 v4 u) ∧ (¬ s0 = 0 → vp_in ((v1 * 5) + v4) 35 ∧ (((gI u 38 0) ≤ (v5 + (gI u 42 (Int32.toNatClampNeg ((v1 * 5) + v4)))) → wj_X7_fill_144 rc_X7_fill k30 post v1 v2 v3 v4 u) ∧ (¬ (gI u 38 0) ≤ (v5 + (gI u 42 (Int32.toNatClampNeg ((v1 * 5) + v4)))) → vp_in v1 7 ∧ ∀ z4 : PoS, z4 = pI u 40 (Int32.toNatClampNeg v1) v4 → vp_in v4 5 ∧ vp_in v4 5 ∧ ∀ z5 : PoS, z5 = pI z4 41 (Int32.toNatClampNeg v4) ((gI z4 41 (Int32.toNatClampNeg v4)) + 1) → rc_X7_fill (v1 + 1) v4 v5 z5 (fun (u7 : PoS) => vp_in v4 5 ∧ vp_in v4 5 ∧ ∀ z8 : PoS, z8 = pI u7 41 (Int32.toNatClampNeg v4) ((gI u7 41 (Int32.toNatClampNeg v4)) - 1) → wj_X7_fill_144 rc_X7_fill k30 post v1 v2 v3 v4 z8)))))
def wj_X7_fill_74 (rc_X7_fill : Int32 → Int32 → Int32 → PoS → (PoS → Prop) → Prop) (k30 : Int32 → Int32 → Int32 → Int32 → PoS → Prop) (post : PoS → Prop) (v1 : Int32) (v2 : Int32) (v3 : Int32) (v4 : Int32) (v5 : Int32) (u : PoS) : Prop := wj_X7_fill_75 rc_X7_fill k30 post v1 v2 v3 v4 v5 0 u
def wl_X7_fill_30 (rc_X7_fill : Int32 → Int32 → Int32 → PoS → (PoS → Prop) → Prop) (post : PoS → Prop) : Nat → Int32 → Int32 → Int32 → Int32 → PoS → Prop
  | 0, _, _, _, _, _ => False
  | n + 1, v1, v2, v3, v4, u => (((gI u 38 6) ≤ v4 → post u) ∧ (¬ (gI u 38 6) ≤ v4 → wp_X7_costOf v4 v1 u (fun (r1 : Int32) (u2 : PoS) => ∀ x3 : Int32, x3 = (v3 + r1) → ((v4 = v2 → wj_X7_fill_74 rc_X7_fill (wl_X7_fill_30 rc_X7_fill post n) post v1 v2 v3 v4 x3 u2) ∧ (¬ v4 = v2 → vp_in v4 5 ∧ (((gI u2 38 7) ≤ (gI u2 41 (Int32.toNatClampNeg v4)) → wj_X7_fill_74 rc_X7_fill (wl_X7_fill_30 rc_X7_fill post n) post v1 v2 v3 v4 x3 u2) ∧ (¬ (gI u2 38 7) ≤ (gI u2 41 (Int32.toNatClampNeg v4)) → wj_X7_fill_75 rc_X7_fill (wl_X7_fill_30 rc_X7_fill post n) post v1 v2 v3 v4 x3 1 u2)))))))
def wb_X7_fill (rc_X7_fill : Int32 → Int32 → Int32 → PoS → (PoS → Prop) → Prop) (a0 : Int32) (a1 : Int32) (a2 : Int32) (u : PoS) (post : PoS → Prop) : Prop := ((a0 < 7 → (∃ n30, wl_X7_fill_30 rc_X7_fill post n30 a0 a1 a2 0 u)) ∧ (¬ a0 < 7 → ∀ z14 : PoS, z14 = pI u 38 0 a2 → (¬ (0 : Int32) < 0 ∧ ¬ (0 : Int32) < 0 ∧ ¬ (7 : Int32) < 0 ∧ Int32.toNatClampNeg 0 + Int32.toNatClampNeg 7 ≤ 7 ∧ Int32.toNatClampNeg 0 + Int32.toNatClampNeg 7 ≤ 7) ∧ ∀ z15 : PoS, z15 = cI z14 40 39 (Int32.toNatClampNeg 0) (Int32.toNatClampNeg 0) (Int32.toNatClampNeg 7) → post z15))
set_option maxHeartbeats 4000000 in
set_option maxRecDepth 100000 in
theorem tj_X7_fill_144 {p : Program} {l : Launch} {e : Env} {s : State} {m : MethodId} {args : Array Value} {below : List Frame} {meth : Method} {c : Code} {V : VEn} {D : Nat} {rc_X7_fill : Int32 → Int32 → Int32 → PoS → (PoS → Prop) → Prop} {k30 : Int32 → Int32 → Int32 → Int32 → PoS → Prop} {post : PoS → Prop} (C : CxS p s m args meth c V cX7_fill 7 RX7 none) (hD : 1 ≤ D) (hrc_X7_fill : ∀ (a0 : Int32) (a1 : Int32) (a2 : Int32) (u : PoS) (post : PoS → Prop), rc_X7_fill a0 a1 a2 u post → KV l V yX7_fill cX7_fill 7 D [.ref (eA V 38), .int a0, .int a1, .int a2] u post) (hk30 : ∀ (v1 : Int32) (v2 : Int32) (v3 : Int32) (v4 : Int32) (u : PoS), k30 v1 v2 v3 v4 u → AtS p l e (Rm (D + 1)) s m args below meth c V 7 0 0 (QV V below args s post) 30 [(0, .ref (eA V 38)), (1, .int v1), (2, .int v2), (3, .int v3), (4, .int v4)] [] u) (v1 : Int32) (v2 : Int32) (v3 : Int32) (v4 : Int32) (u : PoS) (h : wj_X7_fill_144 rc_X7_fill k30 post v1 v2 v3 v4 u) : AtS p l e (Rm (D + 1)) s m args below meth c V 7 0 0 (QV V below args s post) 144 [(0, .ref (eA V 38)), (1, .int v1), (2, .int v2), (3, .int v3), (4, .int v4)] [] u := by
  rw [wj_X7_fill_144] at h
  refine a_iinc C (v4 + 1) 4 [(4, .int (v4 + 1)), (0, .ref (eA V 38)), (1, .int v1), (2, .int v2), (3, .int v3)] dX7_fill_144 rfl (congrArg (fun z => v4 + z) (show Int32.ofInt 1 = 1 by decide)) (by decide) rfl ?_
  refine a_goto C 30 dX7_fill_147 (by decide) ?_
  refine a_sub [1, 2, 3, 4, 0] rfl ?_
  exact hk30 _ _ _ _ _ h
set_option maxHeartbeats 4000000 in
set_option maxRecDepth 100000 in
theorem tj_X7_fill_75 {p : Program} {l : Launch} {e : Env} {s : State} {m : MethodId} {args : Array Value} {below : List Frame} {meth : Method} {c : Code} {V : VEn} {D : Nat} {rc_X7_fill : Int32 → Int32 → Int32 → PoS → (PoS → Prop) → Prop} {k30 : Int32 → Int32 → Int32 → Int32 → PoS → Prop} {post : PoS → Prop} (C : CxS p s m args meth c V cX7_fill 7 RX7 none) (hD : 1 ≤ D) (hrc_X7_fill : ∀ (a0 : Int32) (a1 : Int32) (a2 : Int32) (u : PoS) (post : PoS → Prop), rc_X7_fill a0 a1 a2 u post → KV l V yX7_fill cX7_fill 7 D [.ref (eA V 38), .int a0, .int a1, .int a2] u post) (hk30 : ∀ (v1 : Int32) (v2 : Int32) (v3 : Int32) (v4 : Int32) (u : PoS), k30 v1 v2 v3 v4 u → AtS p l e (Rm (D + 1)) s m args below meth c V 7 0 0 (QV V below args s post) 30 [(0, .ref (eA V 38)), (1, .int v1), (2, .int v2), (3, .int v3), (4, .int v4)] [] u) (v1 : Int32) (v2 : Int32) (v3 : Int32) (v4 : Int32) (v5 : Int32) (s0 : Int32) (u : PoS) (h : wj_X7_fill_75 rc_X7_fill k30 post v1 v2 v3 v4 v5 s0 u) : AtS p l e (Rm (D + 1)) s m args below meth c V 7 0 0 (QV V below args s post) 75 [(0, .ref (eA V 38)), (1, .int v1), (2, .int v2), (3, .int v3), (4, .int v4), (5, .int v5)] [.int s0] u := by
  rw [wj_X7_fill_75] at h
  refine a_istore C [(6, .int s0), (0, .ref (eA V 38)), (1, .int v1), (2, .int v2), (3, .int v3), (4, .int v4), (5, .int v5)] dX7_fill_75 (by decide) rfl ?_
  refine a_iload C 0 dX7_fill_77 rfl ?_
  refine a_if_eq C 144 dX7_fill_79 (by decide) (fun c10 => ?_) (fun c10 => ?_)
  · have h := h.1 c10
    refine a_sub [1, 2, 3, 4, 5] rfl ?_
    refine tj_X7_fill_144 C hD hrc_X7_fill hk30 _ _ _ _ _ h
  · have h := h.2 c10
    refine a_iload C 6 dX7_fill_82 rfl ?_
    refine a_aload_n C 1 dX7_fill_84 rfl rfl ?_
    refine a_getr C 4 (r := 42) dX7_fill_85 (by decide) rfl rfl rfl ib_7 (by decide) bw_199 ?_
    refine a_iload_n C 2 dX7_fill_88 rfl rfl ?_
    refine a_iconst C 5 dX7_fill_89 (by decide) ?_
    refine a_imul C dX7_fill_90 ?_
    refine a_iload C 5 dX7_fill_91 rfl ?_
    refine a_iadd C dX7_fill_93 ?_
    refine b_iald C (Int32.toNatClampNeg ((v1 * 5) + v4)) dX7_fill_94 (by decide) rfl h.1 rfl ?_
    have h := h.2
    refine a_iadd C dX7_fill_95 ?_
    refine a_aload_n C 1 dX7_fill_96 rfl rfl ?_
    refine a_geti C 0 dX7_fill_97 (by decide) rfl rfl rfl ib_7 (by decide) bw_193 ?_
    refine a_icmp_ge C 144 dX7_fill_100 (by decide) (fun c9 => ?_) (fun c9 => ?_)
    · have h := h.1 c9
      refine a_sub [1, 2, 3, 4, 5] rfl ?_
      refine tj_X7_fill_144 C hD hrc_X7_fill hk30 _ _ _ _ _ h
    · have h := h.2 c9
      refine a_aload_n C 1 dX7_fill_103 rfl rfl ?_
      refine a_getr C 2 (r := 40) dX7_fill_104 (by decide) rfl rfl rfl ib_7 (by decide) bw_197 ?_
      refine a_iload_n C 2 dX7_fill_107 rfl rfl ?_
      refine a_iload C 5 dX7_fill_108 rfl ?_
      refine b_iast C (Int32.toNatClampNeg v1) dX7_fill_110 (by decide) rfl h.1 rfl ?_
      have h := h.2
      refine a_topu (fun z4 ez4 => ?_)
      have h := h z4 ez4
      refine a_aload_n C 1 dX7_fill_111 rfl rfl ?_
      refine a_getr C 3 (r := 41) dX7_fill_112 (by decide) rfl rfl rfl ib_7 (by decide) bw_198 ?_
      refine a_iload C 5 dX7_fill_115 rfl ?_
      refine a_dup2 C dX7_fill_117 rfl rfl ?_
      refine b_iald C (Int32.toNatClampNeg v4) dX7_fill_118 (by decide) rfl h.1 rfl ?_
      have h := h.2
      refine a_iconst C 1 dX7_fill_119 (by decide) ?_
      refine a_iadd C dX7_fill_120 ?_
      refine b_iast C (Int32.toNatClampNeg v4) dX7_fill_121 (by decide) rfl h.1 rfl ?_
      have h := h.2
      refine a_topu (fun z5 ez5 => ?_)
      have h := h z5 ez5
      refine a_aload_n C 1 dX7_fill_122 rfl rfl ?_
      refine a_iload_n C 2 dX7_fill_123 rfl rfl ?_
      refine a_iconst C 1 dX7_fill_124 (by decide) ?_
      refine a_iadd C dX7_fill_125 ?_
      refine a_iload C 5 dX7_fill_126 rfl ?_
      refine a_iload C 6 dX7_fill_128 rfl ?_
      refine a_callVv C dX7_fill_130 (hrc_X7_fill _ _ _ _ _ h) bw_929 bw_931 bw_35 bw_115 bw_932 (by decide) rfl rfl np_X7_fill rfl rfl (rm_ok (by omega) (by decide)) (Nat.le_of_ble_eq_true rfl) ⟨Nat.zero_le _, Nat.zero_le _⟩ (fun u7 h => ?_)
      refine a_aload_n C 1 dX7_fill_133 rfl rfl ?_
      refine a_getr C 3 (r := 41) dX7_fill_134 (by decide) rfl rfl rfl ib_7 (by decide) bw_198 ?_
      refine a_iload C 5 dX7_fill_137 rfl ?_
      refine a_dup2 C dX7_fill_139 rfl rfl ?_
      refine b_iald C (Int32.toNatClampNeg v4) dX7_fill_140 (by decide) rfl h.1 rfl ?_
      have h := h.2
      refine a_iconst C 1 dX7_fill_141 (by decide) ?_
      refine a_isub C dX7_fill_142 ?_
      refine b_iast C (Int32.toNatClampNeg v4) dX7_fill_143 (by decide) rfl h.1 rfl ?_
      have h := h.2
      refine a_topu (fun z8 ez8 => ?_)
      have h := h z8 ez8
      refine a_sub [1, 2, 3, 4, 5] rfl ?_
      refine tj_X7_fill_144 C hD hrc_X7_fill hk30 _ _ _ _ _ h
set_option maxHeartbeats 4000000 in
set_option maxRecDepth 100000 in
theorem tj_X7_fill_74 {p : Program} {l : Launch} {e : Env} {s : State} {m : MethodId} {args : Array Value} {below : List Frame} {meth : Method} {c : Code} {V : VEn} {D : Nat} {rc_X7_fill : Int32 → Int32 → Int32 → PoS → (PoS → Prop) → Prop} {k30 : Int32 → Int32 → Int32 → Int32 → PoS → Prop} {post : PoS → Prop} (C : CxS p s m args meth c V cX7_fill 7 RX7 none) (hD : 1 ≤ D) (hrc_X7_fill : ∀ (a0 : Int32) (a1 : Int32) (a2 : Int32) (u : PoS) (post : PoS → Prop), rc_X7_fill a0 a1 a2 u post → KV l V yX7_fill cX7_fill 7 D [.ref (eA V 38), .int a0, .int a1, .int a2] u post) (hk30 : ∀ (v1 : Int32) (v2 : Int32) (v3 : Int32) (v4 : Int32) (u : PoS), k30 v1 v2 v3 v4 u → AtS p l e (Rm (D + 1)) s m args below meth c V 7 0 0 (QV V below args s post) 30 [(0, .ref (eA V 38)), (1, .int v1), (2, .int v2), (3, .int v3), (4, .int v4)] [] u) (v1 : Int32) (v2 : Int32) (v3 : Int32) (v4 : Int32) (v5 : Int32) (u : PoS) (h : wj_X7_fill_74 rc_X7_fill k30 post v1 v2 v3 v4 v5 u) : AtS p l e (Rm (D + 1)) s m args below meth c V 7 0 0 (QV V below args s post) 74 [(0, .ref (eA V 38)), (1, .int v1), (2, .int v2), (3, .int v3), (4, .int v4), (5, .int v5)] [] u := by
  rw [wj_X7_fill_74] at h
  refine a_iconst C 0 dX7_fill_74 (by decide) ?_
  refine tj_X7_fill_75 C hD hrc_X7_fill hk30 _ _ _ _ _ _ _ h
set_option maxHeartbeats 4000000 in
set_option maxRecDepth 100000 in
theorem tl_X7_fill_30 {p : Program} {l : Launch} {e : Env} {s : State} {m : MethodId} {args : Array Value} {below : List Frame} {meth : Method} {c : Code} {V : VEn} {D : Nat} {rc_X7_fill : Int32 → Int32 → Int32 → PoS → (PoS → Prop) → Prop} {post : PoS → Prop} (C : CxS p s m args meth c V cX7_fill 7 RX7 none) (hD : 1 ≤ D) (hrc_X7_fill : ∀ (a0 : Int32) (a1 : Int32) (a2 : Int32) (u : PoS) (post : PoS → Prop), rc_X7_fill a0 a1 a2 u post → KV l V yX7_fill cX7_fill 7 D [.ref (eA V 38), .int a0, .int a1, .int a2] u post) : ∀ (n : Nat) (v1 : Int32) (v2 : Int32) (v3 : Int32) (v4 : Int32) (u : PoS), wl_X7_fill_30 rc_X7_fill post n v1 v2 v3 v4 u → AtS p l e (Rm (D + 1)) s m args below meth c V 7 0 0 (QV V below args s post) 30 [(0, .ref (eA V 38)), (1, .int v1), (2, .int v2), (3, .int v3), (4, .int v4)] [] u := by
  intro n
  induction n with
  | zero => intro v1 v2 v3 v4 u h; exact h.elim
  | succ n ih =>
    intro v1 v2 v3 v4 u h
    rw [wl_X7_fill_30] at h
    refine a_iload C 4 dX7_fill_30 rfl ?_
    refine a_aload_n C 0 dX7_fill_32 rfl rfl ?_
    refine a_geti C 6 dX7_fill_33 (by decide) rfl rfl rfl ib_7 (by decide) bw_201 ?_
    refine a_icmp_ge C 150 dX7_fill_36 (by decide) (fun c13 => ?_) (fun c13 => ?_)
    · have h := h.1 c13
      exact a_vret C dX7_fill_150 h
    · have h := h.2 c13
      refine a_iload_n C 3 dX7_fill_39 rfl rfl ?_
      refine a_aload_n C 0 dX7_fill_40 rfl rfl ?_
      refine a_iload C 4 dX7_fill_41 rfl ?_
      refine a_iload_n C 1 dX7_fill_43 rfl rfl ?_
      refine a_callVi C dX7_fill_44 (m_X7_costOf l V h) bw_924 bw_926 bw_34 bw_115 bw_927 (by decide) rfl rfl np_X7_costOf rfl rfl (rm_ok (by omega) (by decide)) (Nat.le_of_ble_eq_true rfl) ⟨Nat.zero_le _, Nat.zero_le _⟩ (fun r1 u2 h => ?_)
      refine a_iadd C dX7_fill_47 ?_
      refine a_topi (fun x3 ex3 => ?_)
      have h := h x3 ex3
      refine a_istore C [(5, .int x3), (0, .ref (eA V 38)), (1, .int v1), (2, .int v2), (3, .int v3), (4, .int v4)] dX7_fill_48 (by decide) rfl ?_
      refine a_iload C 5 dX7_fill_50 rfl ?_
      refine a_iload_n C 3 dX7_fill_52 rfl rfl ?_
      refine a_icmp_eq C 74 dX7_fill_53 (by decide) (fun c12 => ?_) (fun c12 => ?_)
      · have h := h.1 c12
        refine a_sub [1, 2, 3, 4, 5, 0] rfl ?_
        refine tj_X7_fill_74 C hD hrc_X7_fill ih _ _ _ _ _ _ h
      · have h := h.2 c12
        refine a_aload_n C 1 dX7_fill_56 rfl rfl ?_
        refine a_getr C 3 (r := 41) dX7_fill_57 (by decide) rfl rfl rfl ib_7 (by decide) bw_198 ?_
        refine a_iload C 5 dX7_fill_60 rfl ?_
        refine b_iald C (Int32.toNatClampNeg v4) dX7_fill_62 (by decide) rfl h.1 rfl ?_
        have h := h.2
        refine a_aload_n C 1 dX7_fill_63 rfl rfl ?_
        refine a_geti C 7 dX7_fill_64 (by decide) rfl rfl rfl ib_7 (by decide) bw_202 ?_
        refine a_icmp_ge C 74 dX7_fill_67 (by decide) (fun c11 => ?_) (fun c11 => ?_)
        · have h := h.1 c11
          refine a_sub [1, 2, 3, 4, 5, 0] rfl ?_
          refine tj_X7_fill_74 C hD hrc_X7_fill ih _ _ _ _ _ _ h
        · have h := h.2 c11
          refine a_iconst C 1 dX7_fill_70 (by decide) ?_
          refine a_goto C 75 dX7_fill_71 (by decide) ?_
          refine a_sub [1, 2, 3, 4, 5, 0] rfl ?_
          refine tj_X7_fill_75 C hD hrc_X7_fill ih _ _ _ _ _ _ _ h
set_option maxHeartbeats 4000000 in
set_option maxRecDepth 100000 in
theorem mb_X7_fill (l : Launch) (V : VEn) {D : Nat} {rc_X7_fill : Int32 → Int32 → Int32 → PoS → (PoS → Prop) → Prop} (hD : 1 ≤ D) (hrc_X7_fill : ∀ (a0 : Int32) (a1 : Int32) (a2 : Int32) (u : PoS) (post : PoS → Prop), rc_X7_fill a0 a1 a2 u post → KV l V yX7_fill cX7_fill 7 D [.ref (eA V 38), .int a0, .int a1, .int a2] u post) {a0 : Int32} {a1 : Int32} {a2 : Int32} {u : PoS} {post : PoS → Prop} (h : wb_X7_fill rc_X7_fill a0 a1 a2 u post) : KV l V yX7_fill cX7_fill 7 (D + 1) [.ref (eA V 38), .int a0, .int a1, .int a2] u post := by
  refine KV_of (by decide) (Nat.le_of_ble_eq_true rfl) (lv := [(0, .ref (eA V 38)), (1, .int a0), (2, .int a1), (3, .int a2)]) rfl ?_
  intro p e s m args below meth c C
  rw [wb_X7_fill] at h
  refine a_iload_n C 1 dX7_fill_0 rfl rfl ?_
  refine a_bipush C 7 dX7_fill_1 (by decide) ?_
  refine a_icmp_lt C 27 dX7_fill_3 (by decide) (fun c16 => ?_) (fun c16 => ?_)
  · have h := h.1 c16
    refine a_iconst C 0 dX7_fill_27 (by decide) ?_
    refine a_istore C [(4, .int 0), (0, .ref (eA V 38)), (1, .int a0), (2, .int a1), (3, .int a2)] dX7_fill_28 (by decide) rfl ?_
    refine a_sub [1, 2, 3, 4, 0] rfl ?_
    obtain ⟨n30, h⟩ := h
    refine tl_X7_fill_30 C hD hrc_X7_fill n30 _ _ _ _ _ h
  · have h := h.2 c16
    refine a_aload_n C 0 dX7_fill_6 rfl rfl ?_
    refine a_iload_n C 3 dX7_fill_7 rfl rfl ?_
    refine a_puti C (ty := .int) 0 dX7_fill_8 (by decide) rfl rfl rfl ib_7 (by decide) bw_193 tyX7 tyX7_ok nmX7 rfl (by decide +kernel) rfl rfl ?_
    refine a_topu (fun z14 ez14 => ?_)
    have h := h z14 ez14
    refine a_aload_n C 0 dX7_fill_11 rfl rfl ?_
    refine a_getr C 2 (r := 40) dX7_fill_12 (by decide) rfl rfl rfl ib_7 (by decide) bw_197 ?_
    refine a_iconst C 0 dX7_fill_15 (by decide) ?_
    refine a_aload_n C 0 dX7_fill_16 rfl rfl ?_
    refine a_getr C 1 (r := 39) dX7_fill_17 (by decide) rfl rfl rfl ib_7 (by decide) bw_195 ?_
    refine a_iconst C 0 dX7_fill_20 (by decide) ?_
    refine a_bipush C 7 dX7_fill_21 (by decide) ?_
    obtain ⟨⟨q1, q2, q3, q4, q5⟩, h⟩ := h
    refine a_copy C dX7_fill_23 bw_933 bw_348 bw_347 bw_122 (by decide) (by decide) rfl rfl q1 q2 q3 q4 q5 (rm_f (by omega)) (rm_c (by omega)) ?_
    refine a_topu (fun z15 ez15 => ?_)
    have h := h z15 ez15
    exact a_vret C dX7_fill_26 h

def wR_fill : Nat → (Int32 → Int32 → Int32 → PoS → (PoS → Prop) → Prop)
  | 0 => (fun _ _ _ _ _ => False)
  | q + 1 => (wb_X7_fill (wR_fill q))
def wp_X7_fill (q : Nat) (a0 : Int32) (a1 : Int32) (a2 : Int32) (u : PoS) (post : PoS → Prop) : Prop := (wR_fill q) a0 a1 a2 u post
theorem mR_fill (l : Launch) (V : VEn) : ∀ q : Nat, (∀ (a0 : Int32) (a1 : Int32) (a2 : Int32) (u : PoS) (post : PoS → Prop), (wR_fill q) a0 a1 a2 u post → KV l V yX7_fill cX7_fill 7 (1 + 1 * q) [.ref (eA V 38), .int a0, .int a1, .int a2] u post) := by
  intro q
  induction q with
  | zero => exact fun _ _ _ _ _ h => h.elim
  | succ q ih =>
    rw [show 1 + 1 * (q + 1) = 1 + 1 * q + 1 by omega]
    exact fun _ _ _ _ _ h => mb_X7_fill l V (D := 1 + 1 * q) (by omega) ih h
theorem m_X7_fill (l : Launch) (V : VEn) (q : Nat) (a0 : Int32) (a1 : Int32) (a2 : Int32) (u : PoS) (post : PoS → Prop) (h : wp_X7_fill q a0 a1 a2 u post) : KV l V yX7_fill cX7_fill 7 (1 + 1 * q) [.ref (eA V 38), .int a0, .int a1, .int a2] u post := (mR_fill l V q) a0 a1 a2 u post h

/-! RainOnTheOne$Roster.make([II)Z -/
def wl_X7_make_26 (k44 : PoS → Prop) (post : Int32 → PoS → Prop) : Nat → Int32 → PoS → Prop
  | 0, _, _ => False
  | n + 1, v3, u => ((5 ≤ v3 → k44  u) ∧ (¬ 5 ≤ v3 → vp_in v3 5 ∧ ∀ z5 : PoS, z5 = pI u 41 (Int32.toNatClampNeg v3) 0 → wl_X7_make_26 k44 post n (v3 + 1) z5))
def wl_X7_make_47 (k62 : PoS → Prop) (post : Int32 → PoS → Prop) : Nat → Int32 → PoS → Prop
  | 0, _, _ => False
  | n + 1, v3, u => ((v3 < 0 → k62  u) ∧ (¬ v3 < 0 → wp_X7_boundDay v3 u (fun (u9 : PoS) => wl_X7_make_47 k62 post n (v3 + (-1)) u9)))
def wp_X7_make (a1 : Int32) (u : PoS) (post : Int32 → PoS → Prop) : Prop := ∀ z1 : PoS, z1 = pR u 38 5 3 → ∀ z2 : PoS, z2 = pI z1 38 6 (gI z1 3 84) → ∀ z3 : PoS, z3 = pI z2 38 7 a1 → ∀ z4 : PoS, z4 = pI z3 38 0 1000000 → (∃ n26, wl_X7_make_26 (fun (u7 : PoS) => (∃ n47, wl_X7_make_47 (fun (u11 : PoS) => wp_X7_fill 10 0 (-1) 0 u11 (fun (u13 : PoS) => ((1000000 ≤ (gI u13 38 0) → post 0 u13) ∧ (¬ 1000000 ≤ (gI u13 38 0) → post 1 u13)))) post n47 6 u7)) post n26 0 z4)
set_option maxHeartbeats 4000000 in
set_option maxRecDepth 100000 in
theorem tl_X7_make_26 {p : Program} {l : Launch} {e : Env} {s : State} {m : MethodId} {args : Array Value} {below : List Frame} {meth : Method} {c : Code} {V : VEn} {k44 : PoS → Prop} {post : Int32 → PoS → Prop} (C : CxS p s m args meth c V cX7_make 4 RX7 (some .boolean)) (hk44 : ∀ (u : PoS), k44  u → AtS p l e (Rm 12) s m args below meth c V 4 0 0 (QI V below args s post) 44 [(0, .ref (eA V 38))] [] u) : ∀ (n : Nat) (v3 : Int32) (u : PoS), wl_X7_make_26 k44 post n v3 u → AtS p l e (Rm 12) s m args below meth c V 4 0 0 (QI V below args s post) 26 [(0, .ref (eA V 38)), (3, .int v3)] [] u := by
  intro n
  induction n with
  | zero => intro v3 u h; exact h.elim
  | succ n ih =>
    intro v3 u h
    rw [wl_X7_make_26] at h
    refine a_iload_n C 1 dX7_make_26 rfl rfl ?_
    refine a_iconst C 5 dX7_make_27 (by decide) ?_
    refine a_icmp_ge C 44 dX7_make_28 (by decide) (fun c6 => ?_) (fun c6 => ?_)
    · have h := h.1 c6
      refine a_sub [0] rfl ?_
      exact hk44 _ h
    · have h := h.2 c6
      refine a_aload_n C 0 dX7_make_31 rfl rfl ?_
      refine a_getr C 3 (r := 41) dX7_make_32 (by decide) rfl rfl rfl ib_7 (by decide) bw_198 ?_
      refine a_iload_n C 1 dX7_make_35 rfl rfl ?_
      refine a_iconst C 0 dX7_make_36 (by decide) ?_
      refine b_iast C (Int32.toNatClampNeg v3) dX7_make_37 (by decide) rfl h.1 rfl ?_
      have h := h.2
      refine a_topu (fun z5 ez5 => ?_)
      have h := h z5 ez5
      refine a_iinc C (v3 + 1) 1 [(3, .int (v3 + 1)), (0, .ref (eA V 38))] dX7_make_38 rfl (congrArg (fun z => v3 + z) (show Int32.ofInt 1 = 1 by decide)) (by decide) rfl ?_
      refine a_goto C 26 dX7_make_41 (by decide) ?_
      refine a_sub [1, 0] rfl ?_
      exact ih _ _ h
set_option maxHeartbeats 4000000 in
set_option maxRecDepth 100000 in
theorem tl_X7_make_47 {p : Program} {l : Launch} {e : Env} {s : State} {m : MethodId} {args : Array Value} {below : List Frame} {meth : Method} {c : Code} {V : VEn} {k62 : PoS → Prop} {post : Int32 → PoS → Prop} (C : CxS p s m args meth c V cX7_make 4 RX7 (some .boolean)) (hk62 : ∀ (u : PoS), k62  u → AtS p l e (Rm 12) s m args below meth c V 4 0 0 (QI V below args s post) 62 [(0, .ref (eA V 38))] [] u) : ∀ (n : Nat) (v3 : Int32) (u : PoS), wl_X7_make_47 k62 post n v3 u → AtS p l e (Rm 12) s m args below meth c V 4 0 0 (QI V below args s post) 47 [(0, .ref (eA V 38)), (3, .int v3)] [] u := by
  intro n
  induction n with
  | zero => intro v3 u h; exact h.elim
  | succ n ih =>
    intro v3 u h
    rw [wl_X7_make_47] at h
    refine a_iload_n C 1 dX7_make_47 rfl rfl ?_
    refine a_if_lt C 62 dX7_make_48 (by decide) (fun c10 => ?_) (fun c10 => ?_)
    · have h := h.1 c10
      refine a_sub [0] rfl ?_
      exact hk62 _ h
    · have h := h.2 c10
      refine a_aload_n C 0 dX7_make_51 rfl rfl ?_
      refine a_iload_n C 1 dX7_make_52 rfl rfl ?_
      refine a_callVv C dX7_make_53 (m_X7_boundDay l V h) bw_920 bw_922 bw_33 bw_115 bw_923 (by decide) rfl rfl np_X7_boundDay rfl rfl (by decide) (Nat.le_of_ble_eq_true rfl) ⟨Nat.zero_le _, Nat.zero_le _⟩ (fun u9 h => ?_)
      refine a_iinc C (v3 + (-1)) 1 [(3, .int (v3 + (-1))), (0, .ref (eA V 38))] dX7_make_56 rfl (congrArg (fun z => v3 + z) (show Int32.ofInt (-1) = (-1) by decide)) (by decide) rfl ?_
      refine a_goto C 47 dX7_make_59 (by decide) ?_
      refine a_sub [1, 0] rfl ?_
      exact ih _ _ h
theorem np_X7_make : yX7_make.cls ≠ "java/lang/invoke/MethodHandle" ∧ yX7_make.cls ≠ "java/lang/invoke/VarHandle" ∧ (parseMethodDescriptor yX7_make.desc).map (fun d => d.parameters.length) = some 2 := by decide +kernel
set_option maxHeartbeats 4000000 in
set_option maxRecDepth 100000 in
theorem m_X7_make (l : Launch) (V : VEn) {a1 : Int32} {u : PoS} {post : Int32 → PoS → Prop} (h : wp_X7_make a1 u post) : KI l V yX7_make cX7_make 4 .boolean 12 [.ref (eA V 38), .ref (eA V 3), .int a1] u post := by
  refine KI_of (by decide) (Nat.le_of_ble_eq_true rfl) (lv := [(0, .ref (eA V 38)), (1, .ref (eA V 3)), (2, .int a1)]) rfl ?_
  intro p e s m args below meth c C
  rw [wp_X7_make] at h
  refine a_aload_n C 0 dX7_make_0 rfl rfl ?_
  refine a_aload_n C 1 dX7_make_1 rfl rfl ?_
  refine a_putd C (ty := (.array .int)) (v := 3) 5 dX7_make_2 (by decide) rfl rfl rfl ib_7 (by decide) bw_200 tyX7 tyX7_ok nmX7 rfl (by decide +kernel) rfl rfl ?_
  refine a_topu (fun z1 ez1 => ?_)
  have h := h z1 ez1
  refine a_aload_n C 0 dX7_make_5 rfl rfl ?_
  refine a_aload_n C 1 dX7_make_6 rfl rfl ?_
  refine a_bipush C 84 dX7_make_7 (by decide) ?_
  refine b_iald C 84 dX7_make_9 (by decide) rfl (vp_lit (by decide)) (by decide) ?_
  refine a_puti C (ty := .int) 6 dX7_make_10 (by decide) rfl rfl rfl ib_7 (by decide) bw_201 tyX7 tyX7_ok nmX7 rfl (by decide +kernel) rfl rfl ?_
  refine a_topu (fun z2 ez2 => ?_)
  have h := h z2 ez2
  refine a_aload_n C 0 dX7_make_13 rfl rfl ?_
  refine a_iload_n C 2 dX7_make_14 rfl rfl ?_
  refine a_puti C (ty := .int) 7 dX7_make_15 (by decide) rfl rfl rfl ib_7 (by decide) bw_202 tyX7 tyX7_ok nmX7 rfl (by decide +kernel) rfl rfl ?_
  refine a_topu (fun z3 ez3 => ?_)
  have h := h z3 ez3
  refine a_aload_n C 0 dX7_make_18 rfl rfl ?_
  refine a_ldc C dX7_make_19 bw_192 ?_
  refine a_puti C (ty := .int) 0 dX7_make_21 (by decide) rfl rfl rfl ib_7 (by decide) bw_193 tyX7 tyX7_ok nmX7 rfl (by decide +kernel) rfl rfl ?_
  refine a_topu (fun z4 ez4 => ?_)
  have h := h z4 ez4
  refine a_iconst C 0 dX7_make_24 (by decide) ?_
  refine a_istore_n C [(3, .int 0), (0, .ref (eA V 38)), (1, .ref (eA V 3)), (2, .int a1)] dX7_make_25 rfl (by decide) rfl ?_
  refine a_sub [1, 0] rfl ?_
  obtain ⟨n26, h⟩ := h
  refine tl_X7_make_26 C (fun u7 h => ?_) n26 _ _ h
  refine a_bipush C 6 dX7_make_44 (by decide) ?_
  refine a_istore_n C [(3, .int 6), (0, .ref (eA V 38))] dX7_make_46 rfl (by decide) rfl ?_
  refine a_sub [1, 0] rfl ?_
  obtain ⟨n47, h⟩ := h
  refine tl_X7_make_47 C (fun u11 h => ?_) n47 _ _ h
  refine a_aload_n C 0 dX7_make_62 rfl rfl ?_
  refine a_iconst C 0 dX7_make_63 (by decide) ?_
  refine a_iconst C (-1) dX7_make_64 (by decide) ?_
  refine a_iconst C 0 dX7_make_65 (by decide) ?_
  refine a_callVv C dX7_make_66 (m_X7_fill l V 10 _ _ _ _ _ h) bw_929 bw_931 bw_35 bw_115 bw_932 (by decide) rfl rfl np_X7_fill rfl rfl (by decide) (Nat.le_of_ble_eq_true rfl) ⟨Nat.zero_le _, Nat.zero_le _⟩ (fun u13 h => ?_)
  refine a_aload_n C 0 dX7_make_69 rfl rfl ?_
  refine a_geti C 0 dX7_make_70 (by decide) rfl rfl rfl ib_7 (by decide) bw_193 ?_
  refine a_ldc C dX7_make_73 bw_192 ?_
  refine a_icmp_ge C 82 dX7_make_75 (by decide) (fun c14 => ?_) (fun c14 => ?_)
  · have h := h.1 c14
    refine a_iconst C 0 dX7_make_82 (by decide) ?_
    exact a_zret C rfl dX7_make_83 h
  · have h := h.2 c14
    refine a_iconst C 1 dX7_make_78 (by decide) ?_
    refine a_goto C 83 dX7_make_79 (by decide) ?_
    exact a_zret C rfl dX7_make_83 h

/-! RainOnTheOne$Sky.open()I -/
def wp_X8_open (b : Nat) (u : PoS) (post : Int32 → PoS → Prop) : Prop := vp_in 85 (rowLen b) ∧ post (1073741823 &&& ((gI u (3 + b) 85) ^^^ (-1))) u
theorem np_X8_open : yX8_open.cls ≠ "java/lang/invoke/MethodHandle" ∧ yX8_open.cls ≠ "java/lang/invoke/VarHandle" ∧ (parseMethodDescriptor yX8_open.desc).map (fun d => d.parameters.length) = some 0 := by decide +kernel
set_option maxHeartbeats 4000000 in
set_option maxRecDepth 100000 in
theorem m_X8_open (l : Launch) (V : VEn) {b : Nat} (hb : b < 2) {u : PoS} {post : Int32 → PoS → Prop} (h : wp_X8_open b u post) : KI l V yX8_open cX8_open 1 .int 0 [.ref (eA V (1 + b))] u post := by
  refine KI_of (by decide) (Nat.le_of_ble_eq_true rfl) (lv := [(0, .ref (eA V (1 + b)))]) rfl ?_
  intro p e s m args below meth c C
  rw [wp_X8_open] at h
  refine a_ldc C dX8_open_0 bw_684 ?_
  refine a_aload_n C 0 dX8_open_2 rfl rfl ?_
  refine a_getr C 0 (r := (3 + b)) dX8_open_3 (by have := hb; omega) (sk_obj hb) rfl rfl ib_8 (by decide) bw_335 ?_
  refine a_bipush C 85 dX8_open_6 (by decide) ?_
  refine b_iald C 85 dX8_open_8 (by have := hb; omega) (lay_row hb) h.1 (by decide) ?_
  have h := h.2
  refine a_iconst C (-1) dX8_open_9 (by decide) ?_
  refine a_ixor C dX8_open_10 ?_
  refine a_iand C dX8_open_11 ?_
  exact a_iret C dX8_open_12 h

/-! RainOnTheOne$Sky.isOpen(I)Z -/
def wp_X8_isOpen (b : Nat) (a0 : Int32) (u : PoS) (post : Int32 → PoS → Prop) : Prop := wp_X11_isCell a0 u (fun (r1 : Int32) (u2 : PoS) => ((r1 = 0 → post 0 u2) ∧ (¬ r1 = 0 → vp_in 85 (rowLen b) ∧ ((¬ ((ushr (gI u2 (3 + b) 85) a0) &&& 1) = 0 → post 0 u2) ∧ (((ushr (gI u2 (3 + b) 85) a0) &&& 1) = 0 → post 1 u2)))))
theorem np_X8_isOpen : yX8_isOpen.cls ≠ "java/lang/invoke/MethodHandle" ∧ yX8_isOpen.cls ≠ "java/lang/invoke/VarHandle" ∧ (parseMethodDescriptor yX8_isOpen.desc).map (fun d => d.parameters.length) = some 1 := by decide +kernel
set_option maxHeartbeats 4000000 in
set_option maxRecDepth 100000 in
theorem m_X8_isOpen (l : Launch) (V : VEn) {b : Nat} (hb : b < 2) {a0 : Int32} {u : PoS} {post : Int32 → PoS → Prop} (h : wp_X8_isOpen b a0 u post) : KI l V yX8_isOpen cX8_isOpen 2 .boolean 1 [.ref (eA V (1 + b)), .int a0] u post := by
  refine KI_of (by decide) (Nat.le_of_ble_eq_true rfl) (lv := [(0, .ref (eA V (1 + b))), (1, .int a0)]) rfl ?_
  intro p e s m args below meth c C
  rw [wp_X8_isOpen] at h
  refine a_iload_n C 1 dX8_isOpen_0 rfl rfl ?_
  refine a_callNi C dX8_isOpen_1 (m_X11_isCell l V h) C.2.2.2.2.2.2.2.2.2.1.1 bw_398 bw_112 bw_399 np_X11_isCell rfl rfl (by decide) (Nat.le_of_ble_eq_true rfl) ⟨Nat.zero_le _, Nat.zero_le _⟩ (fun r1 u2 h => ?_)
  refine a_if_eq C 25 dX8_isOpen_4 (by decide) (fun c4 => ?_) (fun c4 => ?_)
  · have h := h.1 c4
    refine a_iconst C 0 dX8_isOpen_25 (by decide) ?_
    exact a_zret C rfl dX8_isOpen_26 h
  · have h := h.2 c4
    refine a_aload_n C 0 dX8_isOpen_7 rfl rfl ?_
    refine a_getr C 0 (r := (3 + b)) dX8_isOpen_8 (by have := hb; omega) (sk_obj hb) rfl rfl ib_8 (by decide) bw_335 ?_
    refine a_bipush C 85 dX8_isOpen_11 (by decide) ?_
    refine b_iald C 85 dX8_isOpen_13 (by have := hb; omega) (lay_row hb) h.1 (by decide) ?_
    have h := h.2
    refine a_iload_n C 1 dX8_isOpen_14 rfl rfl ?_
    refine b_iushr C dX8_isOpen_15 ?_
    refine a_iconst C 1 dX8_isOpen_16 (by decide) ?_
    refine a_iand C dX8_isOpen_17 ?_
    refine a_if_ne C 25 dX8_isOpen_18 (by decide) (fun c3 => ?_) (fun c3 => ?_)
    · have h := h.1 c3
      refine a_iconst C 0 dX8_isOpen_25 (by decide) ?_
      exact a_zret C rfl dX8_isOpen_26 h
    · have h := h.2 c3
      refine a_iconst C 1 dX8_isOpen_21 (by decide) ?_
      refine a_goto C 26 dX8_isOpen_22 (by decide) ?_
      exact a_zret C rfl dX8_isOpen_26 h

/-! RainOnTheOne$Sky.peopleIn(I)I -/
def wj_X8_peopleIn_33 (b : Nat) (k4 : Int32 → Int32 → Int32 → PoS → Prop) (post : Int32 → PoS → Prop) (v1 : Int32) (v2 : Int32) (v3 : Int32) (u : PoS) : Prop := k4 v1 v2 (v3 + 1) u
def wl_X8_peopleIn_4 (b : Nat) (post : Int32 → PoS → Prop) : Nat → Int32 → Int32 → Int32 → PoS → Prop
  | 0, _, _, _, _ => False
  | n + 1, v1, v2, v3, u => vp_in 84 (rowLen b) ∧ (((gI u (3 + b) 84) ≤ v3 → post v2 u) ∧ (¬ (gI u (3 + b) 84) ≤ v3 → vp_in (0 + v3) (rowLen b) ∧ ((¬ (gI u (3 + b) (Int32.toNatClampNeg (0 + v3))) = v1 → wj_X8_peopleIn_33 b (wl_X8_peopleIn_4 b post n) post v1 v2 v3 u) ∧ ((gI u (3 + b) (Int32.toNatClampNeg (0 + v3))) = v1 → ∀ x1 : Int32, x1 = (v2 ||| (1 <<< (v3 &&& 31))) → wj_X8_peopleIn_33 b (wl_X8_peopleIn_4 b post n) post v1 x1 v3 u))))
def wp_X8_peopleIn (b : Nat) (a0 : Int32) (u : PoS) (post : Int32 → PoS → Prop) : Prop := (∃ n4, wl_X8_peopleIn_4 b post n4 a0 0 0 u)
set_option maxHeartbeats 4000000 in
set_option maxRecDepth 100000 in
theorem tj_X8_peopleIn_33 {p : Program} {l : Launch} {e : Env} {s : State} {m : MethodId} {args : Array Value} {below : List Frame} {meth : Method} {c : Code} {V : VEn} {b : Nat} {k4 : Int32 → Int32 → Int32 → PoS → Prop} {post : Int32 → PoS → Prop} (C : CxS p s m args meth c V cX8_peopleIn 4 RX8 (some .int)) (hb : b < 2) (hk4 : ∀ (v1 : Int32) (v2 : Int32) (v3 : Int32) (u : PoS), k4 v1 v2 v3 u → AtS p l e (Rm 0) s m args below meth c V 4 0 0 (QI V below args s post) 4 [(0, .ref (eA V (1 + b))), (1, .int v1), (2, .int v2), (3, .int v3)] [] u) (v1 : Int32) (v2 : Int32) (v3 : Int32) (u : PoS) (h : wj_X8_peopleIn_33 b k4 post v1 v2 v3 u) : AtS p l e (Rm 0) s m args below meth c V 4 0 0 (QI V below args s post) 33 [(0, .ref (eA V (1 + b))), (1, .int v1), (2, .int v2), (3, .int v3)] [] u := by
  rw [wj_X8_peopleIn_33] at h
  refine a_iinc C (v3 + 1) 3 [(3, .int (v3 + 1)), (0, .ref (eA V (1 + b))), (1, .int v1), (2, .int v2)] dX8_peopleIn_33 rfl (congrArg (fun z => v3 + z) (show Int32.ofInt 1 = 1 by decide)) (by decide) rfl ?_
  refine a_goto C 4 dX8_peopleIn_36 (by decide) ?_
  refine a_sub [1, 2, 3, 0] rfl ?_
  exact hk4 _ _ _ _ h
set_option maxHeartbeats 4000000 in
set_option maxRecDepth 100000 in
theorem tl_X8_peopleIn_4 {p : Program} {l : Launch} {e : Env} {s : State} {m : MethodId} {args : Array Value} {below : List Frame} {meth : Method} {c : Code} {V : VEn} {b : Nat} {post : Int32 → PoS → Prop} (C : CxS p s m args meth c V cX8_peopleIn 4 RX8 (some .int)) (hb : b < 2) : ∀ (n : Nat) (v1 : Int32) (v2 : Int32) (v3 : Int32) (u : PoS), wl_X8_peopleIn_4 b post n v1 v2 v3 u → AtS p l e (Rm 0) s m args below meth c V 4 0 0 (QI V below args s post) 4 [(0, .ref (eA V (1 + b))), (1, .int v1), (2, .int v2), (3, .int v3)] [] u := by
  intro n
  induction n with
  | zero => intro v1 v2 v3 u h; exact h.elim
  | succ n ih =>
    intro v1 v2 v3 u h
    rw [wl_X8_peopleIn_4] at h
    refine a_iload_n C 3 dX8_peopleIn_4 rfl rfl ?_
    refine a_aload_n C 0 dX8_peopleIn_5 rfl rfl ?_
    refine a_getr C 0 (r := (3 + b)) dX8_peopleIn_6 (by have := hb; omega) (sk_obj hb) rfl rfl ib_8 (by decide) bw_335 ?_
    refine a_bipush C 84 dX8_peopleIn_9 (by decide) ?_
    refine b_iald C 84 dX8_peopleIn_11 (by have := hb; omega) (lay_row hb) h.1 (by decide) ?_
    have h := h.2
    refine a_icmp_ge C 39 dX8_peopleIn_12 (by decide) (fun c3 => ?_) (fun c3 => ?_)
    · have h := h.1 c3
      refine a_iload_n C 2 dX8_peopleIn_39 rfl rfl ?_
      exact a_iret C dX8_peopleIn_40 h
    · have h := h.2 c3
      refine a_aload_n C 0 dX8_peopleIn_15 rfl rfl ?_
      refine a_getr C 0 (r := (3 + b)) dX8_peopleIn_16 (by have := hb; omega) (sk_obj hb) rfl rfl ib_8 (by decide) bw_335 ?_
      refine a_iconst C 0 dX8_peopleIn_19 (by decide) ?_
      refine a_iload_n C 3 dX8_peopleIn_20 rfl rfl ?_
      refine a_iadd C dX8_peopleIn_21 ?_
      refine b_iald C (Int32.toNatClampNeg (0 + v3)) dX8_peopleIn_22 (by have := hb; omega) (lay_row hb) h.1 rfl ?_
      have h := h.2
      refine a_iload_n C 1 dX8_peopleIn_23 rfl rfl ?_
      refine a_icmp_ne C 33 dX8_peopleIn_24 (by decide) (fun c2 => ?_) (fun c2 => ?_)
      · have h := h.1 c2
        refine tj_X8_peopleIn_33 C hb ih _ _ _ _ h
      · have h := h.2 c2
        refine a_iload_n C 2 dX8_peopleIn_27 rfl rfl ?_
        refine a_iconst C 1 dX8_peopleIn_28 (by decide) ?_
        refine a_iload_n C 3 dX8_peopleIn_29 rfl rfl ?_
        refine a_ishl C dX8_peopleIn_30 ?_
        refine a_ior C dX8_peopleIn_31 ?_
        refine a_topi (fun x1 ex1 => ?_)
        have h := h x1 ex1
        refine a_istore_n C [(2, .int x1), (0, .ref (eA V (1 + b))), (1, .int v1), (3, .int v3)] dX8_peopleIn_32 rfl (by decide) rfl ?_
        refine a_sub [1, 2, 0, 3] rfl ?_
        refine tj_X8_peopleIn_33 C hb ih _ _ _ _ h
theorem np_X8_peopleIn : yX8_peopleIn.cls ≠ "java/lang/invoke/MethodHandle" ∧ yX8_peopleIn.cls ≠ "java/lang/invoke/VarHandle" ∧ (parseMethodDescriptor yX8_peopleIn.desc).map (fun d => d.parameters.length) = some 1 := by decide +kernel
set_option maxHeartbeats 4000000 in
set_option maxRecDepth 100000 in
theorem m_X8_peopleIn (l : Launch) (V : VEn) {b : Nat} (hb : b < 2) {a0 : Int32} {u : PoS} {post : Int32 → PoS → Prop} (h : wp_X8_peopleIn b a0 u post) : KI l V yX8_peopleIn cX8_peopleIn 4 .int 0 [.ref (eA V (1 + b)), .int a0] u post := by
  refine KI_of (by decide) (Nat.le_of_ble_eq_true rfl) (lv := [(0, .ref (eA V (1 + b))), (1, .int a0)]) rfl ?_
  intro p e s m args below meth c C
  rw [wp_X8_peopleIn] at h
  refine a_iconst C 0 dX8_peopleIn_0 (by decide) ?_
  refine a_istore_n C [(2, .int 0), (0, .ref (eA V (1 + b))), (1, .int a0)] dX8_peopleIn_1 rfl (by decide) rfl ?_
  refine a_iconst C 0 dX8_peopleIn_2 (by decide) ?_
  refine a_istore_n C [(3, .int 0), (2, .int 0), (0, .ref (eA V (1 + b))), (1, .int a0)] dX8_peopleIn_3 rfl (by decide) rfl ?_
  refine a_sub [2, 3, 1, 0] rfl ?_
  obtain ⟨n4, h⟩ := h
  refine tl_X8_peopleIn_4 C hb n4 _ _ _ _ h

/-! RainOnTheOne$Sky.canWalk(II)Z -/
def wp_X8_canWalk (b : Nat) (a0 : Int32) (a1 : Int32) (u : PoS) (post : Int32 → PoS → Prop) : Prop := wp_X8_isOpen b a1 u (fun (r1 : Int32) (u2 : PoS) => ((r1 = 0 → post 0 u2) ∧ (¬ r1 = 0 → vp_in (0 + a0) (rowLen b) ∧ wp_X1_beside (1 <<< ((gI u2 (3 + b) (Int32.toNatClampNeg (0 + a0))) &&& 31)) u2 (fun (r3 : Int32) (u4 : PoS) => wp_X1_has r3 a1 u4 (fun (r5 : Int32) (u6 : PoS) => ((r5 = 0 → post 0 u6) ∧ (¬ r5 = 0 → post 1 u6)))))))
theorem np_X8_canWalk : yX8_canWalk.cls ≠ "java/lang/invoke/MethodHandle" ∧ yX8_canWalk.cls ≠ "java/lang/invoke/VarHandle" ∧ (parseMethodDescriptor yX8_canWalk.desc).map (fun d => d.parameters.length) = some 2 := by decide +kernel
set_option maxHeartbeats 4000000 in
set_option maxRecDepth 100000 in
theorem m_X8_canWalk (l : Launch) (V : VEn) {b : Nat} (hb : b < 2) {a0 : Int32} {a1 : Int32} {u : PoS} {post : Int32 → PoS → Prop} (h : wp_X8_canWalk b a0 a1 u post) : KI l V yX8_canWalk cX8_canWalk 3 .boolean 2 [.ref (eA V (1 + b)), .int a0, .int a1] u post := by
  refine KI_of (by decide) (Nat.le_of_ble_eq_true rfl) (lv := [(0, .ref (eA V (1 + b))), (1, .int a0), (2, .int a1)]) rfl ?_
  intro p e s m args below meth c C
  rw [wp_X8_canWalk] at h
  refine a_aload_n C 0 dX8_canWalk_0 rfl rfl ?_
  refine a_iload_n C 2 dX8_canWalk_1 rfl rfl ?_
  refine a_callVi C dX8_canWalk_2 (m_X8_isOpen l V hb h) bw_634 bw_394 bw_395 bw_120 bw_396 (by have := hb; omega) (sk_obj hb) rfl np_X8_isOpen rfl rfl (by decide) (Nat.le_of_ble_eq_true rfl) ⟨Nat.zero_le _, Nat.zero_le _⟩ (fun r1 u2 h => ?_)
  refine a_if_eq C 32 dX8_canWalk_5 (by decide) (fun c8 => ?_) (fun c8 => ?_)
  · have h := h.1 c8
    refine a_iconst C 0 dX8_canWalk_32 (by decide) ?_
    exact a_zret C rfl dX8_canWalk_33 h
  · have h := h.2 c8
    refine a_iconst C 1 dX8_canWalk_8 (by decide) ?_
    refine a_aload_n C 0 dX8_canWalk_9 rfl rfl ?_
    refine a_getr C 0 (r := (3 + b)) dX8_canWalk_10 (by have := hb; omega) (sk_obj hb) rfl rfl ib_8 (by decide) bw_335 ?_
    refine a_iconst C 0 dX8_canWalk_13 (by decide) ?_
    refine a_iload_n C 1 dX8_canWalk_14 rfl rfl ?_
    refine a_iadd C dX8_canWalk_15 ?_
    refine b_iald C (Int32.toNatClampNeg (0 + a0)) dX8_canWalk_16 (by have := hb; omega) (lay_row hb) h.1 rfl ?_
    have h := h.2
    refine a_ishl C dX8_canWalk_17 ?_
    refine a_callSi C dX8_canWalk_18 (m_X1_beside l V h) bw_635 bw_636 bw_129 bw_637 np_X1_beside rfl rfl (by decide) (Nat.le_of_ble_eq_true rfl) ⟨Nat.zero_le _, Nat.zero_le _⟩ (fun r3 u4 h => ?_)
    refine a_iload_n C 2 dX8_canWalk_21 rfl rfl ?_
    refine a_callSi C dX8_canWalk_22 (m_X1_has l V h) bw_641 bw_642 bw_129 bw_643 np_X1_has rfl rfl (by decide) (Nat.le_of_ble_eq_true rfl) ⟨Nat.zero_le _, Nat.zero_le _⟩ (fun r5 u6 h => ?_)
    refine a_if_eq C 32 dX8_canWalk_25 (by decide) (fun c7 => ?_) (fun c7 => ?_)
    · have h := h.1 c7
      refine a_iconst C 0 dX8_canWalk_32 (by decide) ?_
      exact a_zret C rfl dX8_canWalk_33 h
    · have h := h.2 c7
      refine a_iconst C 1 dX8_canWalk_28 (by decide) ?_
      refine a_goto C 33 dX8_canWalk_29 (by decide) ?_
      exact a_zret C rfl dX8_canWalk_33 h

/-! RainOnTheOne$Sky.canPass()Z -/
def wp_X8_canPass (b : Nat) (u : PoS) (post : Int32 → PoS → Prop) : Prop := vp_in 51 (rowLen b) ∧ ((9999 ≤ (gI u (3 + b) 51) → post 0 u) ∧ (¬ 9999 ≤ (gI u (3 + b) 51) → post 1 u))
theorem np_X8_canPass : yX8_canPass.cls ≠ "java/lang/invoke/MethodHandle" ∧ yX8_canPass.cls ≠ "java/lang/invoke/VarHandle" ∧ (parseMethodDescriptor yX8_canPass.desc).map (fun d => d.parameters.length) = some 0 := by decide +kernel
set_option maxHeartbeats 4000000 in
set_option maxRecDepth 100000 in
theorem m_X8_canPass (l : Launch) (V : VEn) {b : Nat} (hb : b < 2) {u : PoS} {post : Int32 → PoS → Prop} (h : wp_X8_canPass b u post) : KI l V yX8_canPass cX8_canPass 1 .boolean 0 [.ref (eA V (1 + b))] u post := by
  refine KI_of (by decide) (Nat.le_of_ble_eq_true rfl) (lv := [(0, .ref (eA V (1 + b)))]) rfl ?_
  intro p e s m args below meth c C
  rw [wp_X8_canPass] at h
  refine a_aload_n C 0 dX8_canPass_0 rfl rfl ?_
  refine a_getr C 0 (r := (3 + b)) dX8_canPass_1 (by have := hb; omega) (sk_obj hb) rfl rfl ib_8 (by decide) bw_335 ?_
  refine a_bipush C 51 dX8_canPass_4 (by decide) ?_
  refine b_iald C 51 dX8_canPass_6 (by have := hb; omega) (lay_row hb) h.1 (by decide) ?_
  have h := h.2
  refine a_sipush C 9999 dX8_canPass_7 (by decide) ?_
  refine a_icmp_ge C 17 dX8_canPass_10 (by decide) (fun c1 => ?_) (fun c1 => ?_)
  · have h := h.1 c1
    refine a_iconst C 0 dX8_canPass_17 (by decide) ?_
    exact a_zret C rfl dX8_canPass_18 h
  · have h := h.2 c1
    refine a_iconst C 1 dX8_canPass_13 (by decide) ?_
    refine a_goto C 18 dX8_canPass_14 (by decide) ?_
    exact a_zret C rfl dX8_canPass_18 h

/-! RainOnTheOne$Sky.nextX()I -/
def wp_X8_nextX (b : Nat) (u : PoS) (post : Int32 → PoS → Prop) : Prop := vp_in 52 (rowLen b) ∧ ∀ x1 : Int32, x1 = (gI u (3 + b) 52) → vp_in 52 (rowLen b) ∧ ∀ z2 : PoS, z2 = pI u (3 + b) 52 (irem ((x1 * 487) + 373) 30671) → post x1 z2
theorem np_X8_nextX : yX8_nextX.cls ≠ "java/lang/invoke/MethodHandle" ∧ yX8_nextX.cls ≠ "java/lang/invoke/VarHandle" ∧ (parseMethodDescriptor yX8_nextX.desc).map (fun d => d.parameters.length) = some 0 := by decide +kernel
set_option maxHeartbeats 4000000 in
set_option maxRecDepth 100000 in
theorem m_X8_nextX (l : Launch) (V : VEn) {b : Nat} (hb : b < 2) {u : PoS} {post : Int32 → PoS → Prop} (h : wp_X8_nextX b u post) : KI l V yX8_nextX cX8_nextX 2 .int 0 [.ref (eA V (1 + b))] u post := by
  refine KI_of (by decide) (Nat.le_of_ble_eq_true rfl) (lv := [(0, .ref (eA V (1 + b)))]) rfl ?_
  intro p e s m args below meth c C
  rw [wp_X8_nextX] at h
  refine a_aload_n C 0 dX8_nextX_0 rfl rfl ?_
  refine a_getr C 0 (r := (3 + b)) dX8_nextX_1 (by have := hb; omega) (sk_obj hb) rfl rfl ib_8 (by decide) bw_335 ?_
  refine a_bipush C 52 dX8_nextX_4 (by decide) ?_
  refine b_iald C 52 dX8_nextX_6 (by have := hb; omega) (lay_row hb) h.1 (by decide) ?_
  have h := h.2
  refine a_topi (fun x1 ex1 => ?_)
  have h := h x1 ex1
  refine a_istore_n C [(1, .int x1), (0, .ref (eA V (1 + b)))] dX8_nextX_7 rfl (by decide) rfl ?_
  refine a_aload_n C 1 dX8_nextX_8 rfl rfl ?_
  refine a_getr C 0 (r := (3 + b)) dX8_nextX_9 (by have := hb; omega) (sk_obj hb) rfl rfl ib_8 (by decide) bw_335 ?_
  refine a_bipush C 52 dX8_nextX_12 (by decide) ?_
  refine a_iload_n C 0 dX8_nextX_14 rfl rfl ?_
  refine a_sipush C 487 dX8_nextX_15 (by decide) ?_
  refine a_imul C dX8_nextX_18 ?_
  refine a_sipush C 373 dX8_nextX_19 (by decide) ?_
  refine a_iadd C dX8_nextX_22 ?_
  refine a_sipush C 30671 dX8_nextX_23 (by decide) ?_
  refine b_irem C dX8_nextX_26 (by decide) ?_
  refine b_iast C 52 dX8_nextX_27 (by have := hb; omega) (lay_row hb) h.1 (by decide) ?_
  have h := h.2
  refine a_topu (fun z2 ez2 => ?_)
  have h := h z2 ez2
  refine a_iload_n C 0 dX8_nextX_28 rfl rfl ?_
  exact a_iret C dX8_nextX_29 h

/-! RainOnTheOne$Sky.stepsTo(I)I -/
def wp_X8_stepsTo (b : Nat) (a0 : Int32) (u : PoS) (post : Int32 → PoS → Prop) : Prop := vp_in 50 (rowLen b) ∧ vp_in (0 + a0) (rowLen b) ∧ wp_X8_open b u (fun (r1 : Int32) (u2 : PoS) => wp_X1_stepsBetween (gI u (3 + b) 50) (gI u (3 + b) (Int32.toNatClampNeg (0 + a0))) r1 u2 (fun (r3 : Int32) (u4 : PoS) => post r3 u4))
theorem np_X8_stepsTo : yX8_stepsTo.cls ≠ "java/lang/invoke/MethodHandle" ∧ yX8_stepsTo.cls ≠ "java/lang/invoke/VarHandle" ∧ (parseMethodDescriptor yX8_stepsTo.desc).map (fun d => d.parameters.length) = some 1 := by decide +kernel
set_option maxHeartbeats 4000000 in
set_option maxRecDepth 100000 in
theorem m_X8_stepsTo (l : Launch) (V : VEn) {b : Nat} (hb : b < 2) {a0 : Int32} {u : PoS} {post : Int32 → PoS → Prop} (h : wp_X8_stepsTo b a0 u post) : KI l V yX8_stepsTo cX8_stepsTo 2 .int 2 [.ref (eA V (1 + b)), .int a0] u post := by
  refine KI_of (by decide) (Nat.le_of_ble_eq_true rfl) (lv := [(0, .ref (eA V (1 + b))), (1, .int a0)]) rfl ?_
  intro p e s m args below meth c C
  rw [wp_X8_stepsTo] at h
  refine a_aload_n C 0 dX8_stepsTo_0 rfl rfl ?_
  refine a_getr C 0 (r := (3 + b)) dX8_stepsTo_1 (by have := hb; omega) (sk_obj hb) rfl rfl ib_8 (by decide) bw_335 ?_
  refine a_bipush C 50 dX8_stepsTo_4 (by decide) ?_
  refine b_iald C 50 dX8_stepsTo_6 (by have := hb; omega) (lay_row hb) h.1 (by decide) ?_
  have h := h.2
  refine a_aload_n C 0 dX8_stepsTo_7 rfl rfl ?_
  refine a_getr C 0 (r := (3 + b)) dX8_stepsTo_8 (by have := hb; omega) (sk_obj hb) rfl rfl ib_8 (by decide) bw_335 ?_
  refine a_iconst C 0 dX8_stepsTo_11 (by decide) ?_
  refine a_iload_n C 1 dX8_stepsTo_12 rfl rfl ?_
  refine a_iadd C dX8_stepsTo_13 ?_
  refine b_iald C (Int32.toNatClampNeg (0 + a0)) dX8_stepsTo_14 (by have := hb; omega) (lay_row hb) h.1 rfl ?_
  have h := h.2
  refine a_aload_n C 0 dX8_stepsTo_15 rfl rfl ?_
  refine a_callVi C dX8_stepsTo_16 (m_X8_open l V hb h) bw_680 bw_681 bw_682 bw_120 bw_683 (by have := hb; omega) (sk_obj hb) rfl np_X8_open rfl rfl (by decide) (Nat.le_of_ble_eq_true rfl) ⟨Nat.zero_le _, Nat.zero_le _⟩ (fun r1 u2 h => ?_)
  refine a_callSi C dX8_stepsTo_19 (m_X1_stepsBetween l V h) bw_685 bw_686 bw_129 bw_687 np_X1_stepsBetween rfl rfl (by decide) (Nat.le_of_ble_eq_true rfl) ⟨Nat.zero_le _, Nat.zero_le _⟩ (fun r3 u4 h => ?_)
  exact a_iret C dX8_stepsTo_22 h

/-! RainOnTheOne$Sky.wantsBy(III)I -/
def wj_X8_wantsBy_11 (b : Nat) (post : Int32 → PoS → Prop) (v1 : Int32) (v2 : Int32) (s0 : Int32) (u : PoS) : Prop := ((v1 = (-1) → post (99 - s0) u) ∧ (¬ v1 = (-1) → vp_in v1 4 ∧ ((¬ (gI u (7 + (Int32.toNatClampNeg v1)) 6) = (-1) → vp_in v1 4 ∧ vp_in v1 4 ∧ wp_X2_says (Int32.toNatClampNeg v1) b (gI u (7 + (Int32.toNatClampNeg v1)) 6) v2 s0 u (fun (r4 : Int32) (u5 : PoS) => post (imax (-999) (imin 999 r4)) u5)) ∧ ((gI u (7 + (Int32.toNatClampNeg v1)) 6) = (-1) → post (99 - s0) u))))
def wp_X8_wantsBy (b : Nat) (a0 : Int32) (a1 : Int32) (a2 : Int32) (u : PoS) (post : Int32 → PoS → Prop) : Prop := ((¬ a2 = (-1) → wj_X8_wantsBy_11 b post a0 a1 a2 u) ∧ (a2 = (-1) → wj_X8_wantsBy_11 b post a0 a1 99 u))
set_option maxHeartbeats 4000000 in
set_option maxRecDepth 100000 in
theorem tj_X8_wantsBy_11 {p : Program} {l : Launch} {e : Env} {s : State} {m : MethodId} {args : Array Value} {below : List Frame} {meth : Method} {c : Code} {V : VEn} {b : Nat} {post : Int32 → PoS → Prop} (C : CxS p s m args meth c V cX8_wantsBy 6 RX8 (some .int)) (hb : b < 2) (v1 : Int32) (v2 : Int32) (s0 : Int32) (u : PoS) (h : wj_X8_wantsBy_11 b post v1 v2 s0 u) : AtS p l e (Rm 2) s m args below meth c V 6 0 0 (QI V below args s post) 11 [(0, .ref (eA V (1 + b))), (1, .int v1), (2, .int v2)] [.int s0] u := by
  rw [wj_X8_wantsBy_11] at h
  refine a_istore C [(4, .int s0), (0, .ref (eA V (1 + b))), (1, .int v1), (2, .int v2)] dX8_wantsBy_11 (by decide) rfl ?_
  refine a_iload_n C 2 dX8_wantsBy_13 rfl rfl ?_
  refine a_iconst C (-1) dX8_wantsBy_14 (by decide) ?_
  refine a_icmp_eq C 31 dX8_wantsBy_15 (by decide) (fun c7 => ?_) (fun c7 => ?_)
  · have h := h.1 c7
    refine a_bipush C 99 dX8_wantsBy_31 (by decide) ?_
    refine a_iload C 0 dX8_wantsBy_33 rfl ?_
    refine a_isub C dX8_wantsBy_35 ?_
    exact a_iret C dX8_wantsBy_36 h
  · have h := h.2 c7
    refine a_aload_n C 1 dX8_wantsBy_18 rfl rfl ?_
    refine a_getr C 1 (r := 6) dX8_wantsBy_19 (by have := hb; omega) (sk_obj hb) rfl rfl ib_8 (by decide) bw_337 ?_
    refine a_iload_n C 2 dX8_wantsBy_22 rfl rfl ?_
    obtain ⟨hi1, h⟩ := h
    refine a_aald C dX8_wantsBy_23 hi1 ?_
    refine a_geti C 6 dX8_wantsBy_24 (by have := (vp4 hi1); omega) (lw_obj (vp4 hi1)) rfl rfl ib_3 (by decide) bw_252 ?_
    refine a_iconst C (-1) dX8_wantsBy_27 (by decide) ?_
    refine a_icmp_ne C 37 dX8_wantsBy_28 (by decide) (fun c6 => ?_) (fun c6 => ?_)
    · have h := h.1 c6
      refine a_aload_n C 1 dX8_wantsBy_37 rfl rfl ?_
      refine a_getr C 2 (r := 46) dX8_wantsBy_38 (by have := hb; omega) (sk_obj hb) rfl rfl ib_8 (by decide) bw_338 ?_
      refine a_aload_n C 1 dX8_wantsBy_41 rfl rfl ?_
      refine a_getr C 1 (r := 6) dX8_wantsBy_42 (by have := hb; omega) (sk_obj hb) rfl rfl ib_8 (by decide) bw_337 ?_
      refine a_iload_n C 2 dX8_wantsBy_45 rfl rfl ?_
      obtain ⟨hi2, h⟩ := h
      refine a_aald C dX8_wantsBy_46 hi2 ?_
      refine a_aload_n C 1 dX8_wantsBy_47 rfl rfl ?_
      refine a_getr C 1 (r := 6) dX8_wantsBy_48 (by have := hb; omega) (sk_obj hb) rfl rfl ib_8 (by decide) bw_337 ?_
      refine a_iload_n C 2 dX8_wantsBy_51 rfl rfl ?_
      obtain ⟨hi3, h⟩ := h
      refine a_aald C dX8_wantsBy_52 hi3 ?_
      refine a_geti C 6 dX8_wantsBy_53 (by have := (vp4 hi3); omega) (lw_obj (vp4 hi3)) rfl rfl ib_3 (by decide) bw_252 ?_
      refine a_aload_n C 1 dX8_wantsBy_56 rfl rfl ?_
      refine a_getr C 0 (r := (3 + b)) dX8_wantsBy_57 (by have := hb; omega) (sk_obj hb) rfl rfl ib_8 (by decide) bw_335 ?_
      refine a_iload_n C 3 dX8_wantsBy_60 rfl rfl ?_
      refine a_iload C 0 dX8_wantsBy_61 rfl ?_
      refine a_callVi C dX8_wantsBy_63 (m_X2_says l V (vp4 hi2) hb h) bw_694 bw_695 bw_696 bw_118 bw_697 (by decide) rfl rfl np_X2_says rfl rfl (by decide) (Nat.le_of_ble_eq_true rfl) ⟨Nat.zero_le _, Nat.zero_le _⟩ (fun r4 u5 h => ?_)
      refine a_istore C [(5, .int r4), (4, .int s0), (0, .ref (eA V (1 + b))), (1, .int v1), (2, .int v2)] dX8_wantsBy_66 (by decide) rfl ?_
      refine a_sipush C (-999) dX8_wantsBy_68 (by decide) ?_
      refine a_sipush C 999 dX8_wantsBy_71 (by decide) ?_
      refine a_iload C 0 dX8_wantsBy_74 rfl ?_
      refine b_mmin C dX8_wantsBy_76 bw_715 bw_441 bw_121 bw_442 (by decide) (Nat.le_of_ble_eq_true rfl) ⟨Nat.zero_le _, Nat.zero_le _⟩ ?_
      refine b_mmax C dX8_wantsBy_79 bw_332 bw_333 bw_121 bw_334 (by decide) (Nat.le_of_ble_eq_true rfl) ⟨Nat.zero_le _, Nat.zero_le _⟩ ?_
      exact a_iret C dX8_wantsBy_82 h
    · have h := h.2 c6
      refine a_bipush C 99 dX8_wantsBy_31 (by decide) ?_
      refine a_iload C 0 dX8_wantsBy_33 rfl ?_
      refine a_isub C dX8_wantsBy_35 ?_
      exact a_iret C dX8_wantsBy_36 h
theorem np_X8_wantsBy : yX8_wantsBy.cls ≠ "java/lang/invoke/MethodHandle" ∧ yX8_wantsBy.cls ≠ "java/lang/invoke/VarHandle" ∧ (parseMethodDescriptor yX8_wantsBy.desc).map (fun d => d.parameters.length) = some 3 := by decide +kernel
set_option maxHeartbeats 4000000 in
set_option maxRecDepth 100000 in
theorem m_X8_wantsBy (l : Launch) (V : VEn) {b : Nat} (hb : b < 2) {a0 : Int32} {a1 : Int32} {a2 : Int32} {u : PoS} {post : Int32 → PoS → Prop} (h : wp_X8_wantsBy b a0 a1 a2 u post) : KI l V yX8_wantsBy cX8_wantsBy 6 .int 2 [.ref (eA V (1 + b)), .int a0, .int a1, .int a2] u post := by
  refine KI_of (by decide) (Nat.le_of_ble_eq_true rfl) (lv := [(0, .ref (eA V (1 + b))), (1, .int a0), (2, .int a1), (3, .int a2)]) rfl ?_
  intro p e s m args below meth c C
  rw [wp_X8_wantsBy] at h
  refine a_iload_n C 3 dX8_wantsBy_0 rfl rfl ?_
  refine a_iconst C (-1) dX8_wantsBy_1 (by decide) ?_
  refine a_icmp_ne C 10 dX8_wantsBy_2 (by decide) (fun c8 => ?_) (fun c8 => ?_)
  · have h := h.1 c8
    refine a_iload_n C 3 dX8_wantsBy_10 rfl rfl ?_
    refine a_sub [0, 1, 2] rfl ?_
    refine tj_X8_wantsBy_11 C hb _ _ _ _ h
  · have h := h.2 c8
    refine a_bipush C 99 dX8_wantsBy_5 (by decide) ?_
    refine a_goto C 11 dX8_wantsBy_7 (by decide) ?_
    refine a_sub [0, 1, 2] rfl ?_
    refine tj_X8_wantsBy_11 C hb _ _ _ _ h

/-! RainOnTheOne$Sky.poursOn(I)I -/
def wp_X8_poursOn (b : Nat) (a0 : Int32) (u : PoS) (post : Int32 → PoS → Prop) : Prop := vp_in 116 (rowLen b) ∧ ∀ x1 : Int32, x1 = (gI u (3 + b) 116) → ((x1 = (-1) → post 3 u) ∧ (¬ x1 = (-1) → vp_in x1 4 ∧ ((¬ (gI u (7 + (Int32.toNatClampNeg x1)) 7) = (-1) → vp_in x1 4 ∧ vp_in x1 4 ∧ wp_X2_says (Int32.toNatClampNeg x1) b (gI u (7 + (Int32.toNatClampNeg x1)) 7) a0 99 u (fun (r5 : Int32) (u6 : PoS) => post (imax 0 (imin 9 r5)) u6)) ∧ ((gI u (7 + (Int32.toNatClampNeg x1)) 7) = (-1) → post 3 u))))
theorem np_X8_poursOn : yX8_poursOn.cls ≠ "java/lang/invoke/MethodHandle" ∧ yX8_poursOn.cls ≠ "java/lang/invoke/VarHandle" ∧ (parseMethodDescriptor yX8_poursOn.desc).map (fun d => d.parameters.length) = some 1 := by decide +kernel
set_option maxHeartbeats 4000000 in
set_option maxRecDepth 100000 in
theorem m_X8_poursOn (l : Launch) (V : VEn) {b : Nat} (hb : b < 2) {a0 : Int32} {u : PoS} {post : Int32 → PoS → Prop} (h : wp_X8_poursOn b a0 u post) : KI l V yX8_poursOn cX8_poursOn 4 .int 2 [.ref (eA V (1 + b)), .int a0] u post := by
  refine KI_of (by decide) (Nat.le_of_ble_eq_true rfl) (lv := [(0, .ref (eA V (1 + b))), (1, .int a0)]) rfl ?_
  intro p e s m args below meth c C
  rw [wp_X8_poursOn] at h
  refine a_aload_n C 0 dX8_poursOn_0 rfl rfl ?_
  refine a_getr C 0 (r := (3 + b)) dX8_poursOn_1 (by have := hb; omega) (sk_obj hb) rfl rfl ib_8 (by decide) bw_335 ?_
  refine a_bipush C 116 dX8_poursOn_4 (by decide) ?_
  refine b_iald C 116 dX8_poursOn_6 (by have := hb; omega) (lay_row hb) h.1 (by decide) ?_
  have h := h.2
  refine a_topi (fun x1 ex1 => ?_)
  have h := h x1 ex1
  refine a_istore_n C [(2, .int x1), (0, .ref (eA V (1 + b))), (1, .int a0)] dX8_poursOn_7 rfl (by decide) rfl ?_
  refine a_iload_n C 0 dX8_poursOn_8 rfl rfl ?_
  refine a_iconst C (-1) dX8_poursOn_9 (by decide) ?_
  refine a_icmp_eq C 26 dX8_poursOn_10 (by decide) (fun c8 => ?_) (fun c8 => ?_)
  · have h := h.1 c8
    refine a_iconst C 3 dX8_poursOn_26 (by decide) ?_
    exact a_iret C dX8_poursOn_27 h
  · have h := h.2 c8
    refine a_aload_n C 1 dX8_poursOn_13 rfl rfl ?_
    refine a_getr C 1 (r := 6) dX8_poursOn_14 (by have := hb; omega) (sk_obj hb) rfl rfl ib_8 (by decide) bw_337 ?_
    refine a_iload_n C 0 dX8_poursOn_17 rfl rfl ?_
    obtain ⟨hi2, h⟩ := h
    refine a_aald C dX8_poursOn_18 hi2 ?_
    refine a_geti C 7 dX8_poursOn_19 (by have := (vp4 hi2); omega) (lw_obj (vp4 hi2)) rfl rfl ib_3 (by decide) bw_255 ?_
    refine a_iconst C (-1) dX8_poursOn_22 (by decide) ?_
    refine a_icmp_ne C 28 dX8_poursOn_23 (by decide) (fun c7 => ?_) (fun c7 => ?_)
    · have h := h.1 c7
      refine a_aload_n C 1 dX8_poursOn_28 rfl rfl ?_
      refine a_getr C 2 (r := 46) dX8_poursOn_29 (by have := hb; omega) (sk_obj hb) rfl rfl ib_8 (by decide) bw_338 ?_
      refine a_aload_n C 1 dX8_poursOn_32 rfl rfl ?_
      refine a_getr C 1 (r := 6) dX8_poursOn_33 (by have := hb; omega) (sk_obj hb) rfl rfl ib_8 (by decide) bw_337 ?_
      refine a_iload_n C 0 dX8_poursOn_36 rfl rfl ?_
      obtain ⟨hi3, h⟩ := h
      refine a_aald C dX8_poursOn_37 hi3 ?_
      refine a_aload_n C 1 dX8_poursOn_38 rfl rfl ?_
      refine a_getr C 1 (r := 6) dX8_poursOn_39 (by have := hb; omega) (sk_obj hb) rfl rfl ib_8 (by decide) bw_337 ?_
      refine a_iload_n C 0 dX8_poursOn_42 rfl rfl ?_
      obtain ⟨hi4, h⟩ := h
      refine a_aald C dX8_poursOn_43 hi4 ?_
      refine a_geti C 7 dX8_poursOn_44 (by have := (vp4 hi4); omega) (lw_obj (vp4 hi4)) rfl rfl ib_3 (by decide) bw_255 ?_
      refine a_aload_n C 1 dX8_poursOn_47 rfl rfl ?_
      refine a_getr C 0 (r := (3 + b)) dX8_poursOn_48 (by have := hb; omega) (sk_obj hb) rfl rfl ib_8 (by decide) bw_335 ?_
      refine a_iload_n C 2 dX8_poursOn_51 rfl rfl ?_
      refine a_bipush C 99 dX8_poursOn_52 (by decide) ?_
      refine a_callVi C dX8_poursOn_54 (m_X2_says l V (vp4 hi3) hb h) bw_694 bw_695 bw_696 bw_118 bw_697 (by decide) rfl rfl np_X2_says rfl rfl (by decide) (Nat.le_of_ble_eq_true rfl) ⟨Nat.zero_le _, Nat.zero_le _⟩ (fun r5 u6 h => ?_)
      refine a_istore_n C [(3, .int r5), (2, .int x1), (0, .ref (eA V (1 + b))), (1, .int a0)] dX8_poursOn_57 rfl (by decide) rfl ?_
      refine a_iconst C 0 dX8_poursOn_58 (by decide) ?_
      refine a_bipush C 9 dX8_poursOn_59 (by decide) ?_
      refine a_iload_n C 0 dX8_poursOn_61 rfl rfl ?_
      refine b_mmin C dX8_poursOn_62 bw_715 bw_441 bw_121 bw_442 (by decide) (Nat.le_of_ble_eq_true rfl) ⟨Nat.zero_le _, Nat.zero_le _⟩ ?_
      refine b_mmax C dX8_poursOn_65 bw_332 bw_333 bw_121 bw_334 (by decide) (Nat.le_of_ble_eq_true rfl) ⟨Nat.zero_le _, Nat.zero_le _⟩ ?_
      exact a_iret C dX8_poursOn_68 h
    · have h := h.2 c7
      refine a_iconst C 3 dX8_poursOn_26 (by decide) ?_
      exact a_iret C dX8_poursOn_27 h

/-! RainOnTheOne$Sky.goal()I -/
def wj_X8_goal_99 (b : Nat) (k12 : Int32 → Int32 → Int32 → Int32 → PoS → Prop) (post : Int32 → PoS → Prop) (v1 : Int32) (v2 : Int32) (v3 : Int32) (v4 : Int32) (u : PoS) : Prop := k12 v1 v2 v3 (v4 + 1) u
def wj_X8_goal_93 (b : Nat) (k12 : Int32 → Int32 → Int32 → Int32 → PoS → Prop) (post : Int32 → PoS → Prop) (v3 : Int32) (v4 : Int32) (v6 : Int32) (u : PoS) : Prop := wj_X8_goal_99 b k12 post v4 v6 v3 v4 u
def wl_X8_goal_12 (b : Nat) (post : Int32 → PoS → Prop) : Nat → Int32 → Int32 → Int32 → Int32 → PoS → Prop
  | 0, _, _, _, _, _ => False
  | n + 1, v1, v2, v3, v4, u => vp_in 84 (rowLen b) ∧ (((gI u (3 + b) 84) ≤ v4 → post v1 u) ∧ (¬ (gI u (3 + b) 84) ≤ v4 → vp_in 50 (rowLen b) ∧ vp_in (0 + v4) (rowLen b) ∧ wp_X1_stepsBetween (gI u (3 + b) 50) (gI u (3 + b) (Int32.toNatClampNeg (0 + v4))) v3 u (fun (r3 : Int32) (u4 : PoS) => vp_in (5 + v4) (rowLen b) ∧ ((¬ (gI u4 (3 + b) (Int32.toNatClampNeg (5 + v4))) = 1 → wj_X8_goal_99 b (wl_X8_goal_12 b post n) post v1 v2 v3 v4 u4) ∧ ((gI u4 (3 + b) (Int32.toNatClampNeg (5 + v4))) = 1 → ((r3 = (-1) → wj_X8_goal_99 b (wl_X8_goal_12 b post n) post v1 v2 v3 v4 u4) ∧ (¬ r3 = (-1) → vp_in 116 (rowLen b) ∧ wp_X8_wantsBy b (gI u4 (3 + b) 116) v4 r3 u4 (fun (r5 : Int32) (u6 : PoS) => ((v1 = (-1) → wj_X8_goal_93 b (wl_X8_goal_12 b post n) post v3 v4 r5 u6) ∧ (¬ v1 = (-1) → ((r5 ≤ v2 → wj_X8_goal_99 b (wl_X8_goal_12 b post n) post v1 v2 v3 v4 u6) ∧ (¬ r5 ≤ v2 → wj_X8_goal_93 b (wl_X8_goal_12 b post n) post v3 v4 r5 u6))))))))))))
def wp_X8_goal (b : Nat) (u : PoS) (post : Int32 → PoS → Prop) : Prop := wp_X8_open b u (fun (r1 : Int32) (u2 : PoS) => (∃ n12, wl_X8_goal_12 b post n12 (-1) 0 r1 0 u2))
set_option maxHeartbeats 4000000 in
set_option maxRecDepth 100000 in
theorem tj_X8_goal_99 {p : Program} {l : Launch} {e : Env} {s : State} {m : MethodId} {args : Array Value} {below : List Frame} {meth : Method} {c : Code} {V : VEn} {b : Nat} {k12 : Int32 → Int32 → Int32 → Int32 → PoS → Prop} {post : Int32 → PoS → Prop} (C : CxS p s m args meth c V cX8_goal 7 RX8 (some .int)) (hb : b < 2) (hk12 : ∀ (v1 : Int32) (v2 : Int32) (v3 : Int32) (v4 : Int32) (u : PoS), k12 v1 v2 v3 v4 u → AtS p l e (Rm 3) s m args below meth c V 7 0 0 (QI V below args s post) 12 [(0, .ref (eA V (1 + b))), (1, .int v1), (2, .int v2), (3, .int v3), (4, .int v4)] [] u) (v1 : Int32) (v2 : Int32) (v3 : Int32) (v4 : Int32) (u : PoS) (h : wj_X8_goal_99 b k12 post v1 v2 v3 v4 u) : AtS p l e (Rm 3) s m args below meth c V 7 0 0 (QI V below args s post) 99 [(0, .ref (eA V (1 + b))), (1, .int v1), (2, .int v2), (3, .int v3), (4, .int v4)] [] u := by
  rw [wj_X8_goal_99] at h
  refine a_iinc C (v4 + 1) 4 [(4, .int (v4 + 1)), (0, .ref (eA V (1 + b))), (1, .int v1), (2, .int v2), (3, .int v3)] dX8_goal_99 rfl (congrArg (fun z => v4 + z) (show Int32.ofInt 1 = 1 by decide)) (by decide) rfl ?_
  refine a_goto C 12 dX8_goal_102 (by decide) ?_
  refine a_sub [1, 2, 3, 4, 0] rfl ?_
  exact hk12 _ _ _ _ _ h
set_option maxHeartbeats 4000000 in
set_option maxRecDepth 100000 in
theorem tj_X8_goal_93 {p : Program} {l : Launch} {e : Env} {s : State} {m : MethodId} {args : Array Value} {below : List Frame} {meth : Method} {c : Code} {V : VEn} {b : Nat} {k12 : Int32 → Int32 → Int32 → Int32 → PoS → Prop} {post : Int32 → PoS → Prop} (C : CxS p s m args meth c V cX8_goal 7 RX8 (some .int)) (hb : b < 2) (hk12 : ∀ (v1 : Int32) (v2 : Int32) (v3 : Int32) (v4 : Int32) (u : PoS), k12 v1 v2 v3 v4 u → AtS p l e (Rm 3) s m args below meth c V 7 0 0 (QI V below args s post) 12 [(0, .ref (eA V (1 + b))), (1, .int v1), (2, .int v2), (3, .int v3), (4, .int v4)] [] u) (v3 : Int32) (v4 : Int32) (v6 : Int32) (u : PoS) (h : wj_X8_goal_93 b k12 post v3 v4 v6 u) : AtS p l e (Rm 3) s m args below meth c V 7 0 0 (QI V below args s post) 93 [(0, .ref (eA V (1 + b))), (3, .int v3), (4, .int v4), (6, .int v6)] [] u := by
  rw [wj_X8_goal_93] at h
  refine a_iload C 3 dX8_goal_93 rfl ?_
  refine a_istore_n C [(2, .int v6), (0, .ref (eA V (1 + b))), (3, .int v3), (4, .int v4), (6, .int v6)] dX8_goal_95 rfl (by decide) rfl ?_
  refine a_iload C 3 dX8_goal_96 rfl ?_
  refine a_istore_n C [(1, .int v4), (2, .int v6), (0, .ref (eA V (1 + b))), (3, .int v3), (4, .int v4), (6, .int v6)] dX8_goal_98 rfl (by decide) rfl ?_
  refine a_sub [2, 0, 1, 3, 4] rfl ?_
  refine tj_X8_goal_99 C hb hk12 _ _ _ _ _ h
set_option maxHeartbeats 4000000 in
set_option maxRecDepth 100000 in
theorem tl_X8_goal_12 {p : Program} {l : Launch} {e : Env} {s : State} {m : MethodId} {args : Array Value} {below : List Frame} {meth : Method} {c : Code} {V : VEn} {b : Nat} {post : Int32 → PoS → Prop} (C : CxS p s m args meth c V cX8_goal 7 RX8 (some .int)) (hb : b < 2) : ∀ (n : Nat) (v1 : Int32) (v2 : Int32) (v3 : Int32) (v4 : Int32) (u : PoS), wl_X8_goal_12 b post n v1 v2 v3 v4 u → AtS p l e (Rm 3) s m args below meth c V 7 0 0 (QI V below args s post) 12 [(0, .ref (eA V (1 + b))), (1, .int v1), (2, .int v2), (3, .int v3), (4, .int v4)] [] u := by
  intro n
  induction n with
  | zero => intro v1 v2 v3 v4 u h; exact h.elim
  | succ n ih =>
    intro v1 v2 v3 v4 u h
    rw [wl_X8_goal_12] at h
    refine a_iload C 4 dX8_goal_12 rfl ?_
    refine a_aload_n C 0 dX8_goal_14 rfl rfl ?_
    refine a_getr C 0 (r := (3 + b)) dX8_goal_15 (by have := hb; omega) (sk_obj hb) rfl rfl ib_8 (by decide) bw_335 ?_
    refine a_bipush C 84 dX8_goal_18 (by decide) ?_
    refine b_iald C 84 dX8_goal_20 (by have := hb; omega) (lay_row hb) h.1 (by decide) ?_
    have h := h.2
    refine a_icmp_ge C 105 dX8_goal_21 (by decide) (fun c11 => ?_) (fun c11 => ?_)
    · have h := h.1 c11
      refine a_iload_n C 1 dX8_goal_105 rfl rfl ?_
      exact a_iret C dX8_goal_106 h
    · have h := h.2 c11
      refine a_aload_n C 0 dX8_goal_24 rfl rfl ?_
      refine a_getr C 0 (r := (3 + b)) dX8_goal_25 (by have := hb; omega) (sk_obj hb) rfl rfl ib_8 (by decide) bw_335 ?_
      refine a_bipush C 50 dX8_goal_28 (by decide) ?_
      refine b_iald C 50 dX8_goal_30 (by have := hb; omega) (lay_row hb) h.1 (by decide) ?_
      have h := h.2
      refine a_aload_n C 0 dX8_goal_31 rfl rfl ?_
      refine a_getr C 0 (r := (3 + b)) dX8_goal_32 (by have := hb; omega) (sk_obj hb) rfl rfl ib_8 (by decide) bw_335 ?_
      refine a_iconst C 0 dX8_goal_35 (by decide) ?_
      refine a_iload C 4 dX8_goal_36 rfl ?_
      refine a_iadd C dX8_goal_38 ?_
      refine b_iald C (Int32.toNatClampNeg (0 + v4)) dX8_goal_39 (by have := hb; omega) (lay_row hb) h.1 rfl ?_
      have h := h.2
      refine a_iload_n C 3 dX8_goal_40 rfl rfl ?_
      refine a_callSi C dX8_goal_41 (m_X1_stepsBetween l V h) bw_685 bw_686 bw_129 bw_687 np_X1_stepsBetween rfl rfl (by decide) (Nat.le_of_ble_eq_true rfl) ⟨Nat.zero_le _, Nat.zero_le _⟩ (fun r3 u4 h => ?_)
      refine a_istore C [(5, .int r3), (0, .ref (eA V (1 + b))), (1, .int v1), (2, .int v2), (3, .int v3), (4, .int v4)] dX8_goal_44 (by decide) rfl ?_
      refine a_aload_n C 1 dX8_goal_46 rfl rfl ?_
      refine a_getr C 0 (r := (3 + b)) dX8_goal_47 (by have := hb; omega) (sk_obj hb) rfl rfl ib_8 (by decide) bw_335 ?_
      refine a_iconst C 5 dX8_goal_50 (by decide) ?_
      refine a_iload C 5 dX8_goal_51 rfl ?_
      refine a_iadd C dX8_goal_53 ?_
      refine b_iald C (Int32.toNatClampNeg (5 + v4)) dX8_goal_54 (by have := hb; omega) (lay_row hb) h.1 rfl ?_
      have h := h.2
      refine a_iconst C 1 dX8_goal_55 (by decide) ?_
      refine a_icmp_ne C 99 dX8_goal_56 (by decide) (fun c10 => ?_) (fun c10 => ?_)
      · have h := h.1 c10
        refine a_sub [1, 2, 3, 4, 5] rfl ?_
        refine tj_X8_goal_99 C hb ih _ _ _ _ _ h
      · have h := h.2 c10
        refine a_iload C 0 dX8_goal_59 rfl ?_
        refine a_iconst C (-1) dX8_goal_61 (by decide) ?_
        refine a_icmp_eq C 99 dX8_goal_62 (by decide) (fun c9 => ?_) (fun c9 => ?_)
        · have h := h.1 c9
          refine a_sub [1, 2, 3, 4, 5] rfl ?_
          refine tj_X8_goal_99 C hb ih _ _ _ _ _ h
        · have h := h.2 c9
          refine a_aload_n C 1 dX8_goal_65 rfl rfl ?_
          refine a_aload_n C 1 dX8_goal_66 rfl rfl ?_
          refine a_getr C 0 (r := (3 + b)) dX8_goal_67 (by have := hb; omega) (sk_obj hb) rfl rfl ib_8 (by decide) bw_335 ?_
          refine a_bipush C 116 dX8_goal_70 (by decide) ?_
          refine b_iald C 116 dX8_goal_72 (by have := hb; omega) (lay_row hb) h.1 (by decide) ?_
          have h := h.2
          refine a_iload C 5 dX8_goal_73 rfl ?_
          refine a_iload C 0 dX8_goal_75 rfl ?_
          refine a_callVi C dX8_goal_77 (m_X8_wantsBy l V hb h) bw_690 bw_691 bw_692 bw_120 bw_693 (by have := hb; omega) (sk_obj hb) rfl np_X8_wantsBy rfl rfl (by decide) (Nat.le_of_ble_eq_true rfl) ⟨Nat.zero_le _, Nat.zero_le _⟩ (fun r5 u6 h => ?_)
          refine a_istore C [(6, .int r5), (5, .int r3), (0, .ref (eA V (1 + b))), (1, .int v1), (2, .int v2), (3, .int v3), (4, .int v4)] dX8_goal_80 (by decide) rfl ?_
          refine a_iload_n C 3 dX8_goal_82 rfl rfl ?_
          refine a_iconst C (-1) dX8_goal_83 (by decide) ?_
          refine a_icmp_eq C 93 dX8_goal_84 (by decide) (fun c8 => ?_) (fun c8 => ?_)
          · have h := h.1 c8
            refine a_sub [2, 5, 6, 0] rfl ?_
            refine tj_X8_goal_93 C hb ih _ _ _ _ h
          · have h := h.2 c8
            refine a_iload C 0 dX8_goal_87 rfl ?_
            refine a_iload_n C 4 dX8_goal_89 rfl rfl ?_
            refine a_icmp_le C 99 dX8_goal_90 (by decide) (fun c7 => ?_) (fun c7 => ?_)
            · have h := h.1 c7
              refine a_sub [2, 3, 4, 5, 6] rfl ?_
              refine tj_X8_goal_99 C hb ih _ _ _ _ _ h
            · have h := h.2 c7
              refine a_sub [2, 5, 6, 0] rfl ?_
              refine tj_X8_goal_93 C hb ih _ _ _ _ h
theorem np_X8_goal : yX8_goal.cls ≠ "java/lang/invoke/MethodHandle" ∧ yX8_goal.cls ≠ "java/lang/invoke/VarHandle" ∧ (parseMethodDescriptor yX8_goal.desc).map (fun d => d.parameters.length) = some 0 := by decide +kernel
set_option maxHeartbeats 4000000 in
set_option maxRecDepth 100000 in
theorem m_X8_goal (l : Launch) (V : VEn) {b : Nat} (hb : b < 2) {u : PoS} {post : Int32 → PoS → Prop} (h : wp_X8_goal b u post) : KI l V yX8_goal cX8_goal 7 .int 3 [.ref (eA V (1 + b))] u post := by
  refine KI_of (by decide) (Nat.le_of_ble_eq_true rfl) (lv := [(0, .ref (eA V (1 + b)))]) rfl ?_
  intro p e s m args below meth c C
  rw [wp_X8_goal] at h
  refine a_iconst C (-1) dX8_goal_0 (by decide) ?_
  refine a_istore_n C [(1, .int (-1)), (0, .ref (eA V (1 + b)))] dX8_goal_1 rfl (by decide) rfl ?_
  refine a_iconst C 0 dX8_goal_2 (by decide) ?_
  refine a_istore_n C [(2, .int 0), (1, .int (-1)), (0, .ref (eA V (1 + b)))] dX8_goal_3 rfl (by decide) rfl ?_
  refine a_aload_n C 2 dX8_goal_4 rfl rfl ?_
  refine a_callVi C dX8_goal_5 (m_X8_open l V hb h) bw_680 bw_681 bw_682 bw_120 bw_683 (by have := hb; omega) (sk_obj hb) rfl np_X8_open rfl rfl (by decide) (Nat.le_of_ble_eq_true rfl) ⟨Nat.zero_le _, Nat.zero_le _⟩ (fun r1 u2 h => ?_)
  refine a_istore_n C [(3, .int r1), (2, .int 0), (1, .int (-1)), (0, .ref (eA V (1 + b)))] dX8_goal_8 rfl (by decide) rfl ?_
  refine a_iconst C 0 dX8_goal_9 (by decide) ?_
  refine a_istore C [(4, .int 0), (3, .int r1), (2, .int 0), (1, .int (-1)), (0, .ref (eA V (1 + b)))] dX8_goal_10 (by decide) rfl ?_
  refine a_sub [4, 3, 2, 1, 0] rfl ?_
  obtain ⟨n12, h⟩ := h
  refine tl_X8_goal_12 C hb n12 _ _ _ _ _ h

/-! RainOnTheOne$Sky.rainOn(I)V -/
def wj_X8_rainOn_132 (b : Nat) (post : PoS → Prop) (v1 : Int32) (v2 : Int32) (v3 : Int32) (u : PoS) : Prop := vp_in 53 (rowLen b) ∧ vp_in 51 (rowLen b) ∧ wp_X5_written (gI u (3 + b) 51) v1 v2 v3 u (fun (r8 : Int32) (u9 : PoS) => vp_in (54 + (gI u (3 + b) 53)) (rowLen b) ∧ ∀ z10 : PoS, z10 = pI u9 (3 + b) (Int32.toNatClampNeg (54 + (gI u (3 + b) 53))) r8 → vp_in 53 (rowLen b) ∧ vp_in 53 (rowLen b) ∧ ∀ z11 : PoS, z11 = pI z10 (3 + b) 53 ((gI z10 (3 + b) 53) + 1) → post z11)
def wp_X8_rainOn (b : Nat) (a0 : Int32) (u : PoS) (post : PoS → Prop) : Prop := vp_in (0 + a0) (rowLen b) ∧ ∀ x1 : Int32, x1 = (gI u (3 + b) (Int32.toNatClampNeg (0 + a0))) → wp_X8_poursOn b a0 u (fun (r2 : Int32) (u3 : PoS) => vp_in (20 + x1) (rowLen b) ∧ ∀ x4 : Int32, x4 = (imin r2 (99 - (gI u3 (3 + b) (Int32.toNatClampNeg (20 + x1))))) → vp_in (20 + x1) (rowLen b) ∧ vp_in (20 + x1) (rowLen b) ∧ ∀ z5 : PoS, z5 = pI u3 (3 + b) (Int32.toNatClampNeg (20 + x1)) ((gI u3 (3 + b) (Int32.toNatClampNeg (20 + x1))) + x4) → vp_in (10 + a0) (rowLen b) ∧ vp_in (10 + a0) (rowLen b) ∧ ∀ z6 : PoS, z6 = pI z5 (3 + b) (Int32.toNatClampNeg (10 + a0)) (imin 99 ((gI z5 (3 + b) (Int32.toNatClampNeg (10 + a0))) + 3)) → vp_in (15 + a0) (rowLen b) ∧ vp_in (15 + a0) (rowLen b) ∧ ∀ z7 : PoS, z7 = pI z6 (3 + b) (Int32.toNatClampNeg (15 + a0)) (imin 999 ((gI z6 (3 + b) (Int32.toNatClampNeg (15 + a0))) + 1)) → vp_in 53 (rowLen b) ∧ (((gI z7 (3 + b) 53) < 30 → wj_X8_rainOn_132 b post a0 x1 x4 z7) ∧ (¬ (gI z7 (3 + b) 53) < 30 → (¬ (55 : Int32) < 0 ∧ ¬ (54 : Int32) < 0 ∧ ¬ (29 : Int32) < 0 ∧ Int32.toNatClampNeg 55 + Int32.toNatClampNeg 29 ≤ rowLen b ∧ Int32.toNatClampNeg 54 + Int32.toNatClampNeg 29 ≤ rowLen b) ∧ ∀ z12 : PoS, z12 = cI z7 (3 + b) (3 + b) (Int32.toNatClampNeg 55) (Int32.toNatClampNeg 54) (Int32.toNatClampNeg 29) → vp_in 53 (rowLen b) ∧ ∀ z13 : PoS, z13 = pI z12 (3 + b) 53 29 → wj_X8_rainOn_132 b post a0 x1 x4 z13)))
set_option maxHeartbeats 4000000 in
set_option maxRecDepth 100000 in
theorem tj_X8_rainOn_132 {p : Program} {l : Launch} {e : Env} {s : State} {m : MethodId} {args : Array Value} {below : List Frame} {meth : Method} {c : Code} {V : VEn} {b : Nat} {post : PoS → Prop} (C : CxS p s m args meth c V cX8_rainOn 4 RX8 none) (hb : b < 2) (v1 : Int32) (v2 : Int32) (v3 : Int32) (u : PoS) (h : wj_X8_rainOn_132 b post v1 v2 v3 u) : AtS p l e (Rm 3) s m args below meth c V 4 0 0 (QV V below args s post) 132 [(0, .ref (eA V (1 + b))), (1, .int v1), (2, .int v2), (3, .int v3)] [] u := by
  rw [wj_X8_rainOn_132] at h
  refine a_aload_n C 0 dX8_rainOn_132 rfl rfl ?_
  refine a_getr C 0 (r := (3 + b)) dX8_rainOn_133 (by have := hb; omega) (sk_obj hb) rfl rfl ib_8 (by decide) bw_335 ?_
  refine a_bipush C 54 dX8_rainOn_136 (by decide) ?_
  refine a_aload_n C 0 dX8_rainOn_138 rfl rfl ?_
  refine a_getr C 0 (r := (3 + b)) dX8_rainOn_139 (by have := hb; omega) (sk_obj hb) rfl rfl ib_8 (by decide) bw_335 ?_
  refine a_bipush C 53 dX8_rainOn_142 (by decide) ?_
  refine b_iald C 53 dX8_rainOn_144 (by have := hb; omega) (lay_row hb) h.1 (by decide) ?_
  have h := h.2
  refine a_iadd C dX8_rainOn_145 ?_
  refine a_aload_n C 0 dX8_rainOn_146 rfl rfl ?_
  refine a_getr C 0 (r := (3 + b)) dX8_rainOn_147 (by have := hb; omega) (sk_obj hb) rfl rfl ib_8 (by decide) bw_335 ?_
  refine a_bipush C 51 dX8_rainOn_150 (by decide) ?_
  refine b_iald C 51 dX8_rainOn_152 (by have := hb; omega) (lay_row hb) h.1 (by decide) ?_
  have h := h.2
  refine a_iload_n C 1 dX8_rainOn_153 rfl rfl ?_
  refine a_iload_n C 2 dX8_rainOn_154 rfl rfl ?_
  refine a_iload_n C 3 dX8_rainOn_155 rfl rfl ?_
  refine a_callSi C dX8_rainOn_156 (m_X5_written l V h) bw_729 bw_730 bw_130 bw_731 np_X5_written rfl rfl (by decide) (Nat.le_of_ble_eq_true rfl) ⟨Nat.zero_le _, Nat.zero_le _⟩ (fun r8 u9 h => ?_)
  refine b_iast C (Int32.toNatClampNeg (54 + (gI u (3 + b) 53))) dX8_rainOn_159 (by have := hb; omega) (lay_row hb) h.1 rfl ?_
  have h := h.2
  refine a_topu (fun z10 ez10 => ?_)
  have h := h z10 ez10
  refine a_aload_n C 0 dX8_rainOn_160 rfl rfl ?_
  refine a_getr C 0 (r := (3 + b)) dX8_rainOn_161 (by have := hb; omega) (sk_obj hb) rfl rfl ib_8 (by decide) bw_335 ?_
  refine a_bipush C 53 dX8_rainOn_164 (by decide) ?_
  refine a_dup2 C dX8_rainOn_166 rfl rfl ?_
  refine b_iald C 53 dX8_rainOn_167 (by have := hb; omega) (lay_row hb) h.1 (by decide) ?_
  have h := h.2
  refine a_iconst C 1 dX8_rainOn_168 (by decide) ?_
  refine a_iadd C dX8_rainOn_169 ?_
  refine b_iast C 53 dX8_rainOn_170 (by have := hb; omega) (lay_row hb) h.1 (by decide) ?_
  have h := h.2
  refine a_topu (fun z11 ez11 => ?_)
  have h := h z11 ez11
  exact a_vret C dX8_rainOn_171 h
theorem np_X8_rainOn : yX8_rainOn.cls ≠ "java/lang/invoke/MethodHandle" ∧ yX8_rainOn.cls ≠ "java/lang/invoke/VarHandle" ∧ (parseMethodDescriptor yX8_rainOn.desc).map (fun d => d.parameters.length) = some 1 := by decide +kernel
set_option maxHeartbeats 4000000 in
set_option maxRecDepth 100000 in
theorem m_X8_rainOn (l : Launch) (V : VEn) {b : Nat} (hb : b < 2) {a0 : Int32} {u : PoS} {post : PoS → Prop} (h : wp_X8_rainOn b a0 u post) : KV l V yX8_rainOn cX8_rainOn 4 3 [.ref (eA V (1 + b)), .int a0] u post := by
  refine KV_of (by decide) (Nat.le_of_ble_eq_true rfl) (lv := [(0, .ref (eA V (1 + b))), (1, .int a0)]) rfl ?_
  intro p e s m args below meth c C
  rw [wp_X8_rainOn] at h
  refine a_aload_n C 0 dX8_rainOn_0 rfl rfl ?_
  refine a_getr C 0 (r := (3 + b)) dX8_rainOn_1 (by have := hb; omega) (sk_obj hb) rfl rfl ib_8 (by decide) bw_335 ?_
  refine a_iconst C 0 dX8_rainOn_4 (by decide) ?_
  refine a_iload_n C 1 dX8_rainOn_5 rfl rfl ?_
  refine a_iadd C dX8_rainOn_6 ?_
  refine b_iald C (Int32.toNatClampNeg (0 + a0)) dX8_rainOn_7 (by have := hb; omega) (lay_row hb) h.1 rfl ?_
  have h := h.2
  refine a_topi (fun x1 ex1 => ?_)
  have h := h x1 ex1
  refine a_istore_n C [(2, .int x1), (0, .ref (eA V (1 + b))), (1, .int a0)] dX8_rainOn_8 rfl (by decide) rfl ?_
  refine a_aload_n C 1 dX8_rainOn_9 rfl rfl ?_
  refine a_iload_n C 2 dX8_rainOn_10 rfl rfl ?_
  refine a_callVi C dX8_rainOn_11 (m_X8_poursOn l V hb h) bw_724 bw_725 bw_726 bw_120 bw_727 (by have := hb; omega) (sk_obj hb) rfl np_X8_poursOn rfl rfl (by decide) (Nat.le_of_ble_eq_true rfl) ⟨Nat.zero_le _, Nat.zero_le _⟩ (fun r2 u3 h => ?_)
  refine a_bipush C 99 dX8_rainOn_14 (by decide) ?_
  refine a_aload_n C 1 dX8_rainOn_16 rfl rfl ?_
  refine a_getr C 0 (r := (3 + b)) dX8_rainOn_17 (by have := hb; omega) (sk_obj hb) rfl rfl ib_8 (by decide) bw_335 ?_
  refine a_bipush C 20 dX8_rainOn_20 (by decide) ?_
  refine a_iload_n C 0 dX8_rainOn_22 rfl rfl ?_
  refine a_iadd C dX8_rainOn_23 ?_
  refine b_iald C (Int32.toNatClampNeg (20 + x1)) dX8_rainOn_24 (by have := hb; omega) (lay_row hb) h.1 rfl ?_
  have h := h.2
  refine a_isub C dX8_rainOn_25 ?_
  refine b_mmin C dX8_rainOn_26 bw_715 bw_441 bw_121 bw_442 (by decide) (Nat.le_of_ble_eq_true rfl) ⟨Nat.zero_le _, Nat.zero_le _⟩ ?_
  refine a_topi (fun x4 ex4 => ?_)
  have h := h x4 ex4
  refine a_istore_n C [(3, .int x4), (2, .int x1), (0, .ref (eA V (1 + b))), (1, .int a0)] dX8_rainOn_29 rfl (by decide) rfl ?_
  refine a_aload_n C 2 dX8_rainOn_30 rfl rfl ?_
  refine a_getr C 0 (r := (3 + b)) dX8_rainOn_31 (by have := hb; omega) (sk_obj hb) rfl rfl ib_8 (by decide) bw_335 ?_
  refine a_bipush C 20 dX8_rainOn_34 (by decide) ?_
  refine a_iload_n C 1 dX8_rainOn_36 rfl rfl ?_
  refine a_iadd C dX8_rainOn_37 ?_
  refine a_dup2 C dX8_rainOn_38 rfl rfl ?_
  refine b_iald C (Int32.toNatClampNeg (20 + x1)) dX8_rainOn_39 (by have := hb; omega) (lay_row hb) h.1 rfl ?_
  have h := h.2
  refine a_iload_n C 0 dX8_rainOn_40 rfl rfl ?_
  refine a_iadd C dX8_rainOn_41 ?_
  refine b_iast C (Int32.toNatClampNeg (20 + x1)) dX8_rainOn_42 (by have := hb; omega) (lay_row hb) h.1 rfl ?_
  have h := h.2
  refine a_topu (fun z5 ez5 => ?_)
  have h := h z5 ez5
  refine a_aload_n C 2 dX8_rainOn_43 rfl rfl ?_
  refine a_getr C 0 (r := (3 + b)) dX8_rainOn_44 (by have := hb; omega) (sk_obj hb) rfl rfl ib_8 (by decide) bw_335 ?_
  refine a_bipush C 10 dX8_rainOn_47 (by decide) ?_
  refine a_iload_n C 3 dX8_rainOn_49 rfl rfl ?_
  refine a_iadd C dX8_rainOn_50 ?_
  refine a_bipush C 99 dX8_rainOn_51 (by decide) ?_
  refine a_aload_n C 2 dX8_rainOn_53 rfl rfl ?_
  refine a_getr C 0 (r := (3 + b)) dX8_rainOn_54 (by have := hb; omega) (sk_obj hb) rfl rfl ib_8 (by decide) bw_335 ?_
  refine a_bipush C 10 dX8_rainOn_57 (by decide) ?_
  refine a_iload_n C 3 dX8_rainOn_59 rfl rfl ?_
  refine a_iadd C dX8_rainOn_60 ?_
  refine b_iald C (Int32.toNatClampNeg (10 + a0)) dX8_rainOn_61 (by have := hb; omega) (lay_row hb) h.1 rfl ?_
  have h := h.2
  refine a_iconst C 3 dX8_rainOn_62 (by decide) ?_
  refine a_iadd C dX8_rainOn_63 ?_
  refine b_mmin C dX8_rainOn_64 bw_715 bw_441 bw_121 bw_442 (by decide) (Nat.le_of_ble_eq_true rfl) ⟨Nat.zero_le _, Nat.zero_le _⟩ ?_
  refine b_iast C (Int32.toNatClampNeg (10 + a0)) dX8_rainOn_67 (by have := hb; omega) (lay_row hb) h.1 rfl ?_
  have h := h.2
  refine a_topu (fun z6 ez6 => ?_)
  have h := h z6 ez6
  refine a_aload_n C 2 dX8_rainOn_68 rfl rfl ?_
  refine a_getr C 0 (r := (3 + b)) dX8_rainOn_69 (by have := hb; omega) (sk_obj hb) rfl rfl ib_8 (by decide) bw_335 ?_
  refine a_bipush C 15 dX8_rainOn_72 (by decide) ?_
  refine a_iload_n C 3 dX8_rainOn_74 rfl rfl ?_
  refine a_iadd C dX8_rainOn_75 ?_
  refine a_sipush C 999 dX8_rainOn_76 (by decide) ?_
  refine a_aload_n C 2 dX8_rainOn_79 rfl rfl ?_
  refine a_getr C 0 (r := (3 + b)) dX8_rainOn_80 (by have := hb; omega) (sk_obj hb) rfl rfl ib_8 (by decide) bw_335 ?_
  refine a_bipush C 15 dX8_rainOn_83 (by decide) ?_
  refine a_iload_n C 3 dX8_rainOn_85 rfl rfl ?_
  refine a_iadd C dX8_rainOn_86 ?_
  refine b_iald C (Int32.toNatClampNeg (15 + a0)) dX8_rainOn_87 (by have := hb; omega) (lay_row hb) h.1 rfl ?_
  have h := h.2
  refine a_iconst C 1 dX8_rainOn_88 (by decide) ?_
  refine a_iadd C dX8_rainOn_89 ?_
  refine b_mmin C dX8_rainOn_90 bw_715 bw_441 bw_121 bw_442 (by decide) (Nat.le_of_ble_eq_true rfl) ⟨Nat.zero_le _, Nat.zero_le _⟩ ?_
  refine b_iast C (Int32.toNatClampNeg (15 + a0)) dX8_rainOn_93 (by have := hb; omega) (lay_row hb) h.1 rfl ?_
  have h := h.2
  refine a_topu (fun z7 ez7 => ?_)
  have h := h z7 ez7
  refine a_aload_n C 2 dX8_rainOn_94 rfl rfl ?_
  refine a_getr C 0 (r := (3 + b)) dX8_rainOn_95 (by have := hb; omega) (sk_obj hb) rfl rfl ib_8 (by decide) bw_335 ?_
  refine a_bipush C 53 dX8_rainOn_98 (by decide) ?_
  refine b_iald C 53 dX8_rainOn_100 (by have := hb; omega) (lay_row hb) h.1 (by decide) ?_
  have h := h.2
  refine a_bipush C 30 dX8_rainOn_101 (by decide) ?_
  refine a_icmp_lt C 132 dX8_rainOn_103 (by decide) (fun c14 => ?_) (fun c14 => ?_)
  · have h := h.1 c14
    refine a_sub [2, 3, 1, 0] rfl ?_
    refine tj_X8_rainOn_132 C hb _ _ _ _ h
  · have h := h.2 c14
    refine a_aload_n C 2 dX8_rainOn_106 rfl rfl ?_
    refine a_getr C 0 (r := (3 + b)) dX8_rainOn_107 (by have := hb; omega) (sk_obj hb) rfl rfl ib_8 (by decide) bw_335 ?_
    refine a_bipush C 55 dX8_rainOn_110 (by decide) ?_
    refine a_aload_n C 2 dX8_rainOn_112 rfl rfl ?_
    refine a_getr C 0 (r := (3 + b)) dX8_rainOn_113 (by have := hb; omega) (sk_obj hb) rfl rfl ib_8 (by decide) bw_335 ?_
    refine a_bipush C 54 dX8_rainOn_116 (by decide) ?_
    refine a_bipush C 29 dX8_rainOn_118 (by decide) ?_
    obtain ⟨⟨q1, q2, q3, q4, q5⟩, h⟩ := h
    refine a_copy C dX8_rainOn_120 bw_728 bw_348 bw_347 bw_122 (by have := hb; omega) (by have := hb; omega) (lay_row hb) (lay_row hb) q1 q2 q3 q4 q5 (by decide) (Nat.le_of_ble_eq_true rfl) ?_
    refine a_topu (fun z12 ez12 => ?_)
    have h := h z12 ez12
    refine a_aload_n C 2 dX8_rainOn_123 rfl rfl ?_
    refine a_getr C 0 (r := (3 + b)) dX8_rainOn_124 (by have := hb; omega) (sk_obj hb) rfl rfl ib_8 (by decide) bw_335 ?_
    refine a_bipush C 53 dX8_rainOn_127 (by decide) ?_
    refine a_bipush C 29 dX8_rainOn_129 (by decide) ?_
    refine b_iast C 53 dX8_rainOn_131 (by have := hb; omega) (lay_row hb) h.1 (by decide) ?_
    have h := h.2
    refine a_topu (fun z13 ez13 => ?_)
    have h := h z13 ez13
    refine a_sub [2, 3, 1, 0] rfl ?_
    refine tj_X8_rainOn_132 C hb _ _ _ _ h

/-! RainOnTheOne$Sky.passOne()I -/
def wj_X8_passOne_157 (b : Nat) (k117 : Int32 → Int32 → PoS → Prop) (post : Int32 → PoS → Prop) (v2 : Int32) (v3 : Int32) (u : PoS) : Prop := k117 v2 (v3 + 1) u
def wl_X8_passOne_117 (b : Nat) (k163 : Int32 → PoS → Prop) (post : Int32 → PoS → Prop) : Nat → Int32 → Int32 → PoS → Prop
  | 0, _, _, _ => False
  | n + 1, v2, v3, u => vp_in 84 (rowLen b) ∧ (((gI u (3 + b) 84) ≤ v3 → k163 v2 u) ∧ (¬ (gI u (3 + b) 84) ≤ v3 → ((v3 = v2 → wj_X8_passOne_157 b (wl_X8_passOne_117 b k163 post n) post v2 v3 u) ∧ (¬ v3 = v2 → vp_in (10 + v3) (rowLen b) ∧ vp_in (10 + v3) (rowLen b) ∧ ∀ z8 : PoS, z8 = pI u (3 + b) (Int32.toNatClampNeg (10 + v3)) (imax 0 ((gI u (3 + b) (Int32.toNatClampNeg (10 + v3))) - 1)) → wj_X8_passOne_157 b (wl_X8_passOne_117 b k163 post n) post v2 v3 z8))))
def wj_X8_passOne_115 (b : Nat) (post : Int32 → PoS → Prop) (v2 : Int32) (u : PoS) : Prop := (∃ n117, wl_X8_passOne_117 b (fun (v211 : Int32) (u11 : PoS) => vp_in 51 (rowLen b) ∧ vp_in 51 (rowLen b) ∧ ∀ z12 : PoS, z12 = pI u11 (3 + b) 51 ((gI u11 (3 + b) 51) + 1) → post v211 z12) post n117 v2 0 u)
def wj_X8_passOne_54 (b : Nat) (post : Int32 → PoS → Prop) (v2 : Int32) (s0 : Int32) (s1 : Int32) (u : PoS) : Prop := vp_in s1 (rowLen b) ∧ ∀ z22 : PoS, z22 = pI u (3 + b) (Int32.toNatClampNeg s1) s0 → wj_X8_passOne_115 b post v2 z22
def wp_X8_passOne (b : Nat) (u : PoS) (post : Int32 → PoS → Prop) : Prop := wp_X8_goal b u (fun (r1 : Int32) (u2 : PoS) => ((¬ r1 = (-1) → vp_in (0 + r1) (rowLen b) ∧ vp_in 50 (rowLen b) ∧ ((¬ (gI u2 (3 + b) (Int32.toNatClampNeg (0 + r1))) = (gI u2 (3 + b) 50) → vp_in 50 (rowLen b) ∧ vp_in (0 + r1) (rowLen b) ∧ wp_X8_open b u2 (fun (r3 : Int32) (u4 : PoS) => wp_X1_nextOn (gI u2 (3 + b) 50) (gI u2 (3 + b) (Int32.toNatClampNeg (0 + r1))) r3 u4 (fun (r5 : Int32) (u6 : PoS) => vp_in 50 (rowLen b) ∧ ∀ z7 : PoS, z7 = pI u6 (3 + b) 50 r5 → wj_X8_passOne_115 b post (-1) z7))) ∧ ((gI u2 (3 + b) (Int32.toNatClampNeg (0 + r1))) = (gI u2 (3 + b) 50) → wp_X8_rainOn b r1 u2 (fun (u14 : PoS) => wj_X8_passOne_115 b post r1 u14)))) ∧ (r1 = (-1) → vp_in 50 (rowLen b) ∧ wp_X8_nextX b u2 (fun (r16 : Int32) (u17 : PoS) => wp_X1_toSide (gI u2 (3 + b) 50) (irem r16 4) u17 (fun (r18 : Int32) (u19 : PoS) => wp_X8_isOpen b r18 u19 (fun (r20 : Int32) (u21 : PoS) => ((r20 = 0 → vp_in 50 (rowLen b) ∧ wj_X8_passOne_54 b post (-1) (gI u21 (3 + b) 50) 50 u21) ∧ (¬ r20 = 0 → wj_X8_passOne_54 b post (-1) r18 50 u21))))))))
set_option maxHeartbeats 4000000 in
set_option maxRecDepth 100000 in
theorem tj_X8_passOne_157 {p : Program} {l : Launch} {e : Env} {s : State} {m : MethodId} {args : Array Value} {below : List Frame} {meth : Method} {c : Code} {V : VEn} {b : Nat} {k117 : Int32 → Int32 → PoS → Prop} {post : Int32 → PoS → Prop} (C : CxS p s m args meth c V cX8_passOne 4 RX8 (some .int)) (hb : b < 2) (hk117 : ∀ (v2 : Int32) (v3 : Int32) (u : PoS), k117 v2 v3 u → AtS p l e (Rm 4) s m args below meth c V 4 0 0 (QI V below args s post) 117 [(0, .ref (eA V (1 + b))), (2, .int v2), (3, .int v3)] [] u) (v2 : Int32) (v3 : Int32) (u : PoS) (h : wj_X8_passOne_157 b k117 post v2 v3 u) : AtS p l e (Rm 4) s m args below meth c V 4 0 0 (QI V below args s post) 157 [(0, .ref (eA V (1 + b))), (2, .int v2), (3, .int v3)] [] u := by
  rw [wj_X8_passOne_157] at h
  refine a_iinc C (v3 + 1) 2 [(3, .int (v3 + 1)), (0, .ref (eA V (1 + b))), (2, .int v2)] dX8_passOne_157 rfl (congrArg (fun z => v3 + z) (show Int32.ofInt 1 = 1 by decide)) (by decide) rfl ?_
  refine a_goto C 117 dX8_passOne_160 (by decide) ?_
  refine a_sub [1, 2, 0] rfl ?_
  exact hk117 _ _ _ h
set_option maxHeartbeats 4000000 in
set_option maxRecDepth 100000 in
theorem tl_X8_passOne_117 {p : Program} {l : Launch} {e : Env} {s : State} {m : MethodId} {args : Array Value} {below : List Frame} {meth : Method} {c : Code} {V : VEn} {b : Nat} {k163 : Int32 → PoS → Prop} {post : Int32 → PoS → Prop} (C : CxS p s m args meth c V cX8_passOne 4 RX8 (some .int)) (hb : b < 2) (hk163 : ∀ (v2 : Int32) (u : PoS), k163 v2 u → AtS p l e (Rm 4) s m args below meth c V 4 0 0 (QI V below args s post) 163 [(0, .ref (eA V (1 + b))), (2, .int v2)] [] u) : ∀ (n : Nat) (v2 : Int32) (v3 : Int32) (u : PoS), wl_X8_passOne_117 b k163 post n v2 v3 u → AtS p l e (Rm 4) s m args below meth c V 4 0 0 (QI V below args s post) 117 [(0, .ref (eA V (1 + b))), (2, .int v2), (3, .int v3)] [] u := by
  intro n
  induction n with
  | zero => intro v2 v3 u h; exact h.elim
  | succ n ih =>
    intro v2 v3 u h
    rw [wl_X8_passOne_117] at h
    refine a_iload_n C 2 dX8_passOne_117 rfl rfl ?_
    refine a_aload_n C 0 dX8_passOne_118 rfl rfl ?_
    refine a_getr C 0 (r := (3 + b)) dX8_passOne_119 (by have := hb; omega) (sk_obj hb) rfl rfl ib_8 (by decide) bw_335 ?_
    refine a_bipush C 84 dX8_passOne_122 (by decide) ?_
    refine b_iald C 84 dX8_passOne_124 (by have := hb; omega) (lay_row hb) h.1 (by decide) ?_
    have h := h.2
    refine a_icmp_ge C 163 dX8_passOne_125 (by decide) (fun c10 => ?_) (fun c10 => ?_)
    · have h := h.1 c10
      refine a_sub [0, 1] rfl ?_
      exact hk163 _ _ h
    · have h := h.2 c10
      refine a_iload_n C 2 dX8_passOne_128 rfl rfl ?_
      refine a_iload_n C 1 dX8_passOne_129 rfl rfl ?_
      refine a_icmp_eq C 157 dX8_passOne_130 (by decide) (fun c9 => ?_) (fun c9 => ?_)
      · have h := h.1 c9
        refine tj_X8_passOne_157 C hb ih _ _ _ h
      · have h := h.2 c9
        refine a_aload_n C 0 dX8_passOne_133 rfl rfl ?_
        refine a_getr C 0 (r := (3 + b)) dX8_passOne_134 (by have := hb; omega) (sk_obj hb) rfl rfl ib_8 (by decide) bw_335 ?_
        refine a_bipush C 10 dX8_passOne_137 (by decide) ?_
        refine a_iload_n C 2 dX8_passOne_139 rfl rfl ?_
        refine a_iadd C dX8_passOne_140 ?_
        refine a_iconst C 0 dX8_passOne_141 (by decide) ?_
        refine a_aload_n C 0 dX8_passOne_142 rfl rfl ?_
        refine a_getr C 0 (r := (3 + b)) dX8_passOne_143 (by have := hb; omega) (sk_obj hb) rfl rfl ib_8 (by decide) bw_335 ?_
        refine a_bipush C 10 dX8_passOne_146 (by decide) ?_
        refine a_iload_n C 2 dX8_passOne_148 rfl rfl ?_
        refine a_iadd C dX8_passOne_149 ?_
        refine b_iald C (Int32.toNatClampNeg (10 + v3)) dX8_passOne_150 (by have := hb; omega) (lay_row hb) h.1 rfl ?_
        have h := h.2
        refine a_iconst C 1 dX8_passOne_151 (by decide) ?_
        refine a_isub C dX8_passOne_152 ?_
        refine b_mmax C dX8_passOne_153 bw_332 bw_333 bw_121 bw_334 (by decide) (Nat.le_of_ble_eq_true rfl) ⟨Nat.zero_le _, Nat.zero_le _⟩ ?_
        refine b_iast C (Int32.toNatClampNeg (10 + v3)) dX8_passOne_156 (by have := hb; omega) (lay_row hb) h.1 rfl ?_
        have h := h.2
        refine a_topu (fun z8 ez8 => ?_)
        have h := h z8 ez8
        refine tj_X8_passOne_157 C hb ih _ _ _ h
set_option maxHeartbeats 4000000 in
set_option maxRecDepth 100000 in
theorem tj_X8_passOne_115 {p : Program} {l : Launch} {e : Env} {s : State} {m : MethodId} {args : Array Value} {below : List Frame} {meth : Method} {c : Code} {V : VEn} {b : Nat} {post : Int32 → PoS → Prop} (C : CxS p s m args meth c V cX8_passOne 4 RX8 (some .int)) (hb : b < 2) (v2 : Int32) (u : PoS) (h : wj_X8_passOne_115 b post v2 u) : AtS p l e (Rm 4) s m args below meth c V 4 0 0 (QI V below args s post) 115 [(0, .ref (eA V (1 + b))), (2, .int v2)] [] u := by
  rw [wj_X8_passOne_115] at h
  refine a_iconst C 0 dX8_passOne_115 (by decide) ?_
  refine a_istore_n C [(3, .int 0), (0, .ref (eA V (1 + b))), (2, .int v2)] dX8_passOne_116 rfl (by decide) rfl ?_
  refine a_sub [1, 2, 0] rfl ?_
  obtain ⟨n117, h⟩ := h
  refine tl_X8_passOne_117 C hb (fun v211 u11 h => ?_) n117 _ _ _ h
  refine a_aload_n C 0 dX8_passOne_163 rfl rfl ?_
  refine a_getr C 0 (r := (3 + b)) dX8_passOne_164 (by have := hb; omega) (sk_obj hb) rfl rfl ib_8 (by decide) bw_335 ?_
  refine a_bipush C 51 dX8_passOne_167 (by decide) ?_
  refine a_dup2 C dX8_passOne_169 rfl rfl ?_
  refine b_iald C 51 dX8_passOne_170 (by have := hb; omega) (lay_row hb) h.1 (by decide) ?_
  have h := h.2
  refine a_iconst C 1 dX8_passOne_171 (by decide) ?_
  refine a_iadd C dX8_passOne_172 ?_
  refine b_iast C 51 dX8_passOne_173 (by have := hb; omega) (lay_row hb) h.1 (by decide) ?_
  have h := h.2
  refine a_topu (fun z12 ez12 => ?_)
  have h := h z12 ez12
  refine a_iload_n C 1 dX8_passOne_174 rfl rfl ?_
  exact a_iret C dX8_passOne_175 h
set_option maxHeartbeats 4000000 in
set_option maxRecDepth 100000 in
theorem tj_X8_passOne_54 {p : Program} {l : Launch} {e : Env} {s : State} {m : MethodId} {args : Array Value} {below : List Frame} {meth : Method} {c : Code} {V : VEn} {b : Nat} {post : Int32 → PoS → Prop} (C : CxS p s m args meth c V cX8_passOne 4 RX8 (some .int)) (hb : b < 2) (v2 : Int32) (s0 : Int32) (s1 : Int32) (u : PoS) (h : wj_X8_passOne_54 b post v2 s0 s1 u) : AtS p l e (Rm 4) s m args below meth c V 4 0 0 (QI V below args s post) 54 [(0, .ref (eA V (1 + b))), (2, .int v2)] [.int s0, .int s1, .ref (eA V (3 + b))] u := by
  rw [wj_X8_passOne_54] at h
  refine b_iast C (Int32.toNatClampNeg s1) dX8_passOne_54 (by have := hb; omega) (lay_row hb) h.1 rfl ?_
  have h := h.2
  refine a_topu (fun z22 ez22 => ?_)
  have h := h z22 ez22
  refine a_goto C 115 dX8_passOne_55 (by decide) ?_
  refine tj_X8_passOne_115 C hb _ _ h
theorem np_X8_passOne : yX8_passOne.cls ≠ "java/lang/invoke/MethodHandle" ∧ yX8_passOne.cls ≠ "java/lang/invoke/VarHandle" ∧ (parseMethodDescriptor yX8_passOne.desc).map (fun d => d.parameters.length) = some 0 := by decide +kernel
set_option maxHeartbeats 4000000 in
set_option maxRecDepth 100000 in
theorem m_X8_passOne (l : Launch) (V : VEn) {b : Nat} (hb : b < 2) {u : PoS} {post : Int32 → PoS → Prop} (h : wp_X8_passOne b u post) : KI l V yX8_passOne cX8_passOne 4 .int 4 [.ref (eA V (1 + b))] u post := by
  refine KI_of (by decide) (Nat.le_of_ble_eq_true rfl) (lv := [(0, .ref (eA V (1 + b)))]) rfl ?_
  intro p e s m args below meth c C
  rw [wp_X8_passOne] at h
  refine a_aload_n C 0 dX8_passOne_0 rfl rfl ?_
  refine a_callVi C dX8_passOne_1 (m_X8_goal l V hb h) bw_676 bw_677 bw_678 bw_120 bw_679 (by have := hb; omega) (sk_obj hb) rfl np_X8_goal rfl rfl (by decide) (Nat.le_of_ble_eq_true rfl) ⟨Nat.zero_le _, Nat.zero_le _⟩ (fun r1 u2 h => ?_)
  refine a_istore_n C [(1, .int r1), (0, .ref (eA V (1 + b)))] dX8_passOne_4 rfl (by decide) rfl ?_
  refine a_iconst C (-1) dX8_passOne_5 (by decide) ?_
  refine a_istore_n C [(2, .int (-1)), (1, .int r1), (0, .ref (eA V (1 + b)))] dX8_passOne_6 rfl (by decide) rfl ?_
  refine a_iload_n C 1 dX8_passOne_7 rfl rfl ?_
  refine a_iconst C (-1) dX8_passOne_8 (by decide) ?_
  refine a_icmp_ne C 58 dX8_passOne_9 (by decide) (fun c24 => ?_) (fun c24 => ?_)
  · have h := h.1 c24
    refine a_aload_n C 2 dX8_passOne_58 rfl rfl ?_
    refine a_getr C 0 (r := (3 + b)) dX8_passOne_59 (by have := hb; omega) (sk_obj hb) rfl rfl ib_8 (by decide) bw_335 ?_
    refine a_iconst C 0 dX8_passOne_62 (by decide) ?_
    refine a_iload_n C 1 dX8_passOne_63 rfl rfl ?_
    refine a_iadd C dX8_passOne_64 ?_
    refine b_iald C (Int32.toNatClampNeg (0 + r1)) dX8_passOne_65 (by have := hb; omega) (lay_row hb) h.1 rfl ?_
    have h := h.2
    refine a_aload_n C 2 dX8_passOne_66 rfl rfl ?_
    refine a_getr C 0 (r := (3 + b)) dX8_passOne_67 (by have := hb; omega) (sk_obj hb) rfl rfl ib_8 (by decide) bw_335 ?_
    refine a_bipush C 50 dX8_passOne_70 (by decide) ?_
    refine b_iald C 50 dX8_passOne_72 (by have := hb; omega) (lay_row hb) h.1 (by decide) ?_
    have h := h.2
    refine a_icmp_ne C 86 dX8_passOne_73 (by decide) (fun c15 => ?_) (fun c15 => ?_)
    · have h := h.1 c15
      refine a_aload_n C 2 dX8_passOne_86 rfl rfl ?_
      refine a_getr C 0 (r := (3 + b)) dX8_passOne_87 (by have := hb; omega) (sk_obj hb) rfl rfl ib_8 (by decide) bw_335 ?_
      refine a_bipush C 50 dX8_passOne_90 (by decide) ?_
      refine a_aload_n C 2 dX8_passOne_92 rfl rfl ?_
      refine a_getr C 0 (r := (3 + b)) dX8_passOne_93 (by have := hb; omega) (sk_obj hb) rfl rfl ib_8 (by decide) bw_335 ?_
      refine a_bipush C 50 dX8_passOne_96 (by decide) ?_
      refine b_iald C 50 dX8_passOne_98 (by have := hb; omega) (lay_row hb) h.1 (by decide) ?_
      have h := h.2
      refine a_aload_n C 2 dX8_passOne_99 rfl rfl ?_
      refine a_getr C 0 (r := (3 + b)) dX8_passOne_100 (by have := hb; omega) (sk_obj hb) rfl rfl ib_8 (by decide) bw_335 ?_
      refine a_iconst C 0 dX8_passOne_103 (by decide) ?_
      refine a_iload_n C 1 dX8_passOne_104 rfl rfl ?_
      refine a_iadd C dX8_passOne_105 ?_
      refine b_iald C (Int32.toNatClampNeg (0 + r1)) dX8_passOne_106 (by have := hb; omega) (lay_row hb) h.1 rfl ?_
      have h := h.2
      refine a_aload_n C 2 dX8_passOne_107 rfl rfl ?_
      refine a_callVi C dX8_passOne_108 (m_X8_open l V hb h) bw_680 bw_681 bw_682 bw_120 bw_683 (by have := hb; omega) (sk_obj hb) rfl np_X8_open rfl rfl (by decide) (Nat.le_of_ble_eq_true rfl) ⟨Nat.zero_le _, Nat.zero_le _⟩ (fun r3 u4 h => ?_)
      refine a_callSi C dX8_passOne_111 (m_X1_nextOn l V h) bw_732 bw_733 bw_129 bw_734 np_X1_nextOn rfl rfl (by decide) (Nat.le_of_ble_eq_true rfl) ⟨Nat.zero_le _, Nat.zero_le _⟩ (fun r5 u6 h => ?_)
      refine b_iast C 50 dX8_passOne_114 (by have := hb; omega) (lay_row hb) h.1 (by decide) ?_
      have h := h.2
      refine a_topu (fun z7 ez7 => ?_)
      have h := h z7 ez7
      refine a_sub [2, 0] rfl ?_
      refine tj_X8_passOne_115 C hb _ _ h
    · have h := h.2 c15
      refine a_aload_n C 2 dX8_passOne_76 rfl rfl ?_
      refine a_iload_n C 1 dX8_passOne_77 rfl rfl ?_
      refine a_callVv C dX8_passOne_78 (m_X8_rainOn l V hb h) bw_720 bw_722 bw_24 bw_120 bw_723 (by have := hb; omega) (sk_obj hb) rfl np_X8_rainOn rfl rfl (by decide) (Nat.le_of_ble_eq_true rfl) ⟨Nat.zero_le _, Nat.zero_le _⟩ (fun u14 h => ?_)
      refine a_iload_n C 1 dX8_passOne_81 rfl rfl ?_
      refine a_istore_n C [(2, .int r1), (1, .int r1), (0, .ref (eA V (1 + b)))] dX8_passOne_82 rfl (by decide) rfl ?_
      refine a_goto C 115 dX8_passOne_83 (by decide) ?_
      refine a_sub [2, 0] rfl ?_
      refine tj_X8_passOne_115 C hb _ _ h
  · have h := h.2 c24
    refine a_aload_n C 2 dX8_passOne_12 rfl rfl ?_
    refine a_getr C 0 (r := (3 + b)) dX8_passOne_13 (by have := hb; omega) (sk_obj hb) rfl rfl ib_8 (by decide) bw_335 ?_
    refine a_bipush C 50 dX8_passOne_16 (by decide) ?_
    refine b_iald C 50 dX8_passOne_18 (by have := hb; omega) (lay_row hb) h.1 (by decide) ?_
    have h := h.2
    refine a_aload_n C 2 dX8_passOne_19 rfl rfl ?_
    refine a_callVi C dX8_passOne_20 (m_X8_nextX l V hb h) bw_716 bw_657 bw_658 bw_120 bw_659 (by have := hb; omega) (sk_obj hb) rfl np_X8_nextX rfl rfl (by decide) (Nat.le_of_ble_eq_true rfl) ⟨Nat.zero_le _, Nat.zero_le _⟩ (fun r16 u17 h => ?_)
    refine a_iconst C 4 dX8_passOne_23 (by decide) ?_
    refine b_irem C dX8_passOne_24 (by decide) ?_
    refine a_callSi C dX8_passOne_25 (m_X1_toSide l V h) bw_717 bw_718 bw_129 bw_719 np_X1_toSide rfl rfl (by decide) (Nat.le_of_ble_eq_true rfl) ⟨Nat.zero_le _, Nat.zero_le _⟩ (fun r18 u19 h => ?_)
    refine a_istore_n C [(3, .int r18), (2, .int (-1)), (1, .int r1), (0, .ref (eA V (1 + b)))] dX8_passOne_28 rfl (by decide) rfl ?_
    refine a_aload_n C 3 dX8_passOne_29 rfl rfl ?_
    refine a_getr C 0 (r := (3 + b)) dX8_passOne_30 (by have := hb; omega) (sk_obj hb) rfl rfl ib_8 (by decide) bw_335 ?_
    refine a_bipush C 50 dX8_passOne_33 (by decide) ?_
    refine a_aload_n C 3 dX8_passOne_35 rfl rfl ?_
    refine a_iload_n C 0 dX8_passOne_36 rfl rfl ?_
    refine a_callVi C dX8_passOne_37 (m_X8_isOpen l V hb h) bw_634 bw_394 bw_395 bw_120 bw_396 (by have := hb; omega) (sk_obj hb) rfl np_X8_isOpen rfl rfl (by decide) (Nat.le_of_ble_eq_true rfl) ⟨Nat.zero_le _, Nat.zero_le _⟩ (fun r20 u21 h => ?_)
    refine a_if_eq C 47 dX8_passOne_40 (by decide) (fun c23 => ?_) (fun c23 => ?_)
    · have h := h.1 c23
      refine a_aload_n C 3 dX8_passOne_47 rfl rfl ?_
      refine a_getr C 0 (r := (3 + b)) dX8_passOne_48 (by have := hb; omega) (sk_obj hb) rfl rfl ib_8 (by decide) bw_335 ?_
      refine a_bipush C 50 dX8_passOne_51 (by decide) ?_
      refine b_iald C 50 dX8_passOne_53 (by have := hb; omega) (lay_row hb) h.1 (by decide) ?_
      have h := h.2
      refine a_sub [3, 1] rfl ?_
      refine tj_X8_passOne_54 C hb _ _ _ _ h
    · have h := h.2 c23
      refine a_iload_n C 0 dX8_passOne_43 rfl rfl ?_
      refine a_goto C 54 dX8_passOne_44 (by decide) ?_
      refine a_sub [3, 1] rfl ?_
      refine tj_X8_passOne_54 C hb _ _ _ _ h

/-! RainOnTheOne$Sky.liveOn(I)V -/
def wj_X8_liveOn_65 (b : Nat) (post : PoS → Prop) (s0 : Int32) (s1 : Int32) (u : PoS) : Prop := vp_in s1 (rowLen b) ∧ ∀ z10 : PoS, z10 = pI u (3 + b) (Int32.toNatClampNeg s1) s0 → post z10
def wp_X8_liveOn (b : Nat) (a0 : Int32) (u : PoS) (post : PoS → Prop) : Prop := vp_in 84 (rowLen b) ∧ ∀ x1 : Int32, x1 = (gI u (3 + b) 84) → ∀ x2 : Int32, x2 = (irem a0 6) → ((x2 < 3 → ((0 < x1 → ¬ x1 = 0 ∧ ∀ x3 : Int32, x3 = (irem a0 x1) → ((¬ x2 = 2 → vp_in (0 + x3) (rowLen b) ∧ wp_X1_toSide (gI u (3 + b) (Int32.toNatClampNeg (0 + x3))) (irem (a0 / 6) 4) u (fun (r4 : Int32) (u5 : PoS) => wp_X8_isOpen b r4 u5 (fun (r6 : Int32) (u7 : PoS) => ((r6 = 0 → post u7) ∧ (¬ r6 = 0 → vp_in (0 + x3) (rowLen b) ∧ ∀ z8 : PoS, z8 = pI u7 (3 + b) (Int32.toNatClampNeg (0 + x3)) r4 → post z8))))) ∧ (x2 = 2 → (((irem a0 4) ≤ 0 → wj_X8_liveOn_65 b post 0 (5 + x3) u) ∧ (¬ (irem a0 4) ≤ 0 → wj_X8_liveOn_65 b post 1 (5 + x3) u))))) ∧ (¬ 0 < x1 → post u))) ∧ (¬ x2 < 3 → wp_X8_canPass b u (fun (r14 : Int32) (u15 : PoS) => ((r14 = 0 → post u15) ∧ (¬ r14 = 0 → wp_X8_passOne b u15 (fun (r16 : Int32) (u17 : PoS) => post u17))))))
set_option maxHeartbeats 4000000 in
set_option maxRecDepth 100000 in
theorem tj_X8_liveOn_65 {p : Program} {l : Launch} {e : Env} {s : State} {m : MethodId} {args : Array Value} {below : List Frame} {meth : Method} {c : Code} {V : VEn} {b : Nat} {post : PoS → Prop} (C : CxS p s m args meth c V cX8_liveOn 6 RX8 none) (hb : b < 2) (s0 : Int32) (s1 : Int32) (u : PoS) (h : wj_X8_liveOn_65 b post s0 s1 u) : AtS p l e (Rm 5) s m args below meth c V 6 0 0 (QV V below args s post) 65 [] [.int s0, .int s1, .ref (eA V (3 + b))] u := by
  rw [wj_X8_liveOn_65] at h
  refine b_iast C (Int32.toNatClampNeg s1) dX8_liveOn_65 (by have := hb; omega) (lay_row hb) h.1 rfl ?_
  have h := h.2
  refine a_topu (fun z10 ez10 => ?_)
  have h := h z10 ez10
  exact a_vret C dX8_liveOn_66 h
theorem np_X8_liveOn : yX8_liveOn.cls ≠ "java/lang/invoke/MethodHandle" ∧ yX8_liveOn.cls ≠ "java/lang/invoke/VarHandle" ∧ (parseMethodDescriptor yX8_liveOn.desc).map (fun d => d.parameters.length) = some 1 := by decide +kernel
set_option maxHeartbeats 4000000 in
set_option maxRecDepth 100000 in
theorem m_X8_liveOn (l : Launch) (V : VEn) {b : Nat} (hb : b < 2) {a0 : Int32} {u : PoS} {post : PoS → Prop} (h : wp_X8_liveOn b a0 u post) : KV l V yX8_liveOn cX8_liveOn 6 5 [.ref (eA V (1 + b)), .int a0] u post := by
  refine KV_of (by decide) (Nat.le_of_ble_eq_true rfl) (lv := [(0, .ref (eA V (1 + b))), (1, .int a0)]) rfl ?_
  intro p e s m args below meth c C
  rw [wp_X8_liveOn] at h
  refine a_aload_n C 0 dX8_liveOn_0 rfl rfl ?_
  refine a_getr C 0 (r := (3 + b)) dX8_liveOn_1 (by have := hb; omega) (sk_obj hb) rfl rfl ib_8 (by decide) bw_335 ?_
  refine a_bipush C 84 dX8_liveOn_4 (by decide) ?_
  refine b_iald C 84 dX8_liveOn_6 (by have := hb; omega) (lay_row hb) h.1 (by decide) ?_
  have h := h.2
  refine a_topi (fun x1 ex1 => ?_)
  have h := h x1 ex1
  refine a_istore_n C [(2, .int x1), (0, .ref (eA V (1 + b))), (1, .int a0)] dX8_liveOn_7 rfl (by decide) rfl ?_
  refine a_iload_n C 2 dX8_liveOn_8 rfl rfl ?_
  refine a_bipush C 6 dX8_liveOn_9 (by decide) ?_
  refine b_irem C dX8_liveOn_11 (by decide) ?_
  refine a_topi (fun x2 ex2 => ?_)
  have h := h x2 ex2
  refine a_istore_n C [(3, .int x2), (2, .int x1), (0, .ref (eA V (1 + b))), (1, .int a0)] dX8_liveOn_12 rfl (by decide) rfl ?_
  refine a_iload_n C 0 dX8_liveOn_13 rfl rfl ?_
  refine a_iconst C 3 dX8_liveOn_14 (by decide) ?_
  refine a_icmp_lt C 31 dX8_liveOn_15 (by decide) (fun c19 => ?_) (fun c19 => ?_)
  · have h := h.1 c19
    refine a_iload_n C 1 dX8_liveOn_31 rfl rfl ?_
    refine a_if_gt C 36 dX8_liveOn_32 (by decide) (fun c13 => ?_) (fun c13 => ?_)
    · have h := h.1 c13
      refine a_iload_n C 3 dX8_liveOn_36 rfl rfl ?_
      refine a_iload_n C 1 dX8_liveOn_37 rfl rfl ?_
      refine b_irem C dX8_liveOn_38 h.1 ?_
      have h := h.2
      refine a_topi (fun x3 ex3 => ?_)
      have h := h x3 ex3
      refine a_istore C [(4, .int x3), (3, .int x2), (2, .int x1), (0, .ref (eA V (1 + b))), (1, .int a0)] dX8_liveOn_39 (by decide) rfl ?_
      refine a_iload_n C 1 dX8_liveOn_41 rfl rfl ?_
      refine a_iconst C 2 dX8_liveOn_42 (by decide) ?_
      refine a_icmp_ne C 67 dX8_liveOn_43 (by decide) (fun c12 => ?_) (fun c12 => ?_)
      · have h := h.1 c12
        refine a_aload_n C 3 dX8_liveOn_67 rfl rfl ?_
        refine a_getr C 0 (r := (3 + b)) dX8_liveOn_68 (by have := hb; omega) (sk_obj hb) rfl rfl ib_8 (by decide) bw_335 ?_
        refine a_iconst C 0 dX8_liveOn_71 (by decide) ?_
        refine a_iload C 0 dX8_liveOn_72 rfl ?_
        refine a_iadd C dX8_liveOn_74 ?_
        refine b_iald C (Int32.toNatClampNeg (0 + x3)) dX8_liveOn_75 (by have := hb; omega) (lay_row hb) h.1 rfl ?_
        have h := h.2
        refine a_iload_n C 4 dX8_liveOn_76 rfl rfl ?_
        refine a_bipush C 6 dX8_liveOn_77 (by decide) ?_
        refine a_idiv C dX8_liveOn_79 (by decide) ?_
        refine a_iconst C 4 dX8_liveOn_80 (by decide) ?_
        refine b_irem C dX8_liveOn_81 (by decide) ?_
        refine a_callSi C dX8_liveOn_82 (m_X1_toSide l V h) bw_717 bw_718 bw_129 bw_719 np_X1_toSide rfl rfl (by decide) (Nat.le_of_ble_eq_true rfl) ⟨Nat.zero_le _, Nat.zero_le _⟩ (fun r4 u5 h => ?_)
        refine a_istore C [(5, .int r4), (4, .int x3), (3, .int x2), (2, .int x1), (0, .ref (eA V (1 + b))), (1, .int a0)] dX8_liveOn_85 (by decide) rfl ?_
        refine a_aload_n C 4 dX8_liveOn_87 rfl rfl ?_
        refine a_iload C 0 dX8_liveOn_88 rfl ?_
        refine a_callVi C dX8_liveOn_90 (m_X8_isOpen l V hb h) bw_634 bw_394 bw_395 bw_120 bw_396 (by have := hb; omega) (sk_obj hb) rfl np_X8_isOpen rfl rfl (by decide) (Nat.le_of_ble_eq_true rfl) ⟨Nat.zero_le _, Nat.zero_le _⟩ (fun r6 u7 h => ?_)
        refine a_if_eq C 107 dX8_liveOn_93 (by decide) (fun c9 => ?_) (fun c9 => ?_)
        · have h := h.1 c9
          exact a_vret C dX8_liveOn_107 h
        · have h := h.2 c9
          refine a_aload_n C 4 dX8_liveOn_96 rfl rfl ?_
          refine a_getr C 0 (r := (3 + b)) dX8_liveOn_97 (by have := hb; omega) (sk_obj hb) rfl rfl ib_8 (by decide) bw_335 ?_
          refine a_iconst C 0 dX8_liveOn_100 (by decide) ?_
          refine a_iload C 1 dX8_liveOn_101 rfl ?_
          refine a_iadd C dX8_liveOn_103 ?_
          refine a_iload C 0 dX8_liveOn_104 rfl ?_
          refine b_iast C (Int32.toNatClampNeg (0 + x3)) dX8_liveOn_106 (by have := hb; omega) (lay_row hb) h.1 rfl ?_
          have h := h.2
          refine a_topu (fun z8 ez8 => ?_)
          have h := h z8 ez8
          exact a_vret C dX8_liveOn_107 h
      · have h := h.2 c12
        refine a_aload_n C 3 dX8_liveOn_46 rfl rfl ?_
        refine a_getr C 0 (r := (3 + b)) dX8_liveOn_47 (by have := hb; omega) (sk_obj hb) rfl rfl ib_8 (by decide) bw_335 ?_
        refine a_iconst C 5 dX8_liveOn_50 (by decide) ?_
        refine a_iload C 0 dX8_liveOn_51 rfl ?_
        refine a_iadd C dX8_liveOn_53 ?_
        refine a_iload_n C 4 dX8_liveOn_54 rfl rfl ?_
        refine a_iconst C 4 dX8_liveOn_55 (by decide) ?_
        refine b_irem C dX8_liveOn_56 (by decide) ?_
        refine a_if_le C 64 dX8_liveOn_57 (by decide) (fun c11 => ?_) (fun c11 => ?_)
        · have h := h.1 c11
          refine a_iconst C 0 dX8_liveOn_64 (by decide) ?_
          refine a_sub [] rfl ?_
          refine tj_X8_liveOn_65 C hb _ _ _ h
        · have h := h.2 c11
          refine a_iconst C 1 dX8_liveOn_60 (by decide) ?_
          refine a_goto C 65 dX8_liveOn_61 (by decide) ?_
          refine a_sub [] rfl ?_
          refine tj_X8_liveOn_65 C hb _ _ _ h
    · have h := h.2 c13
      exact a_vret C dX8_liveOn_35 h
  · have h := h.2 c19
    refine a_aload_n C 2 dX8_liveOn_18 rfl rfl ?_
    refine a_callVi C dX8_liveOn_19 (m_X8_canPass l V hb h) bw_766 bw_669 bw_670 bw_120 bw_671 (by have := hb; omega) (sk_obj hb) rfl np_X8_canPass rfl rfl (by decide) (Nat.le_of_ble_eq_true rfl) ⟨Nat.zero_le _, Nat.zero_le _⟩ (fun r14 u15 h => ?_)
    refine a_if_eq C 30 dX8_liveOn_22 (by decide) (fun c18 => ?_) (fun c18 => ?_)
    · have h := h.1 c18
      exact a_vret C dX8_liveOn_30 h
    · have h := h.2 c18
      refine a_aload_n C 2 dX8_liveOn_25 rfl rfl ?_
      refine a_callVi C dX8_liveOn_26 (m_X8_passOne l V hb h) bw_767 bw_673 bw_674 bw_120 bw_675 (by have := hb; omega) (sk_obj hb) rfl np_X8_passOne rfl rfl (by decide) (Nat.le_of_ble_eq_true rfl) ⟨Nat.zero_le _, Nat.zero_le _⟩ (fun r16 u17 h => ?_)
      refine a_pop C dX8_liveOn_29 rfl ?_
      exact a_vret C dX8_liveOn_30 h

theorem np_X10_extend : yX10_extend.cls ≠ "java/lang/invoke/MethodHandle" ∧ yX10_extend.cls ≠ "java/lang/invoke/VarHandle" ∧ (parseMethodDescriptor yX10_extend.desc).map (fun d => d.parameters.length) = some 4 := by decide +kernel
/-! RainOnTheOne$Tour.extend(IIII)V -/
def wj_X10_extend_9 (rc_X10_extend : Int32 → Int32 → Int32 → Int32 → PoS → (PoS → Prop) → Prop) (post : PoS → Prop) (v4 : Int32) (u : PoS) : Prop := ∀ z1 : PoS, z1 = pI u 35 0 v4 → (¬ (0 : Int32) < 0 ∧ ¬ (0 : Int32) < 0 ∧ ¬ (5 : Int32) < 0 ∧ Int32.toNatClampNeg 0 + Int32.toNatClampNeg 5 ≤ 5 ∧ Int32.toNatClampNeg 0 + Int32.toNatClampNeg 5 ≤ 5) ∧ ∀ z2 : PoS, z2 = cI z1 37 36 (Int32.toNatClampNeg 0) (Int32.toNatClampNeg 0) (Int32.toNatClampNeg 5) → post z2
def wj_X10_extend_118 (rc_X10_extend : Int32 → Int32 → Int32 → Int32 → PoS → (PoS → Prop) → Prop) (k33 : Int32 → Int32 → Int32 → Int32 → Int32 → PoS → Prop) (post : PoS → Prop) (v1 : Int32) (v2 : Int32) (v3 : Int32) (v4 : Int32) (v5 : Int32) (u : PoS) : Prop := k33 v1 v2 v3 v4 (v5 + 1) u
def wl_X10_extend_33 (rc_X10_extend : Int32 → Int32 → Int32 → Int32 → PoS → (PoS → Prop) → Prop) (post : PoS → Prop) : Nat → Int32 → Int32 → Int32 → Int32 → Int32 → PoS → Prop
  | 0, _, _, _, _, _, _ => False
  | n + 1, v1, v2, v3, v4, v5, u => ((30 ≤ v5 → post u) ∧ (¬ 30 ≤ v5 → wp_X1_has v3 v5 u (fun (r3 : Int32) (u4 : PoS) => ((r3 = 0 → wj_X10_extend_118 rc_X10_extend (wl_X10_extend_33 rc_X10_extend post n) post v1 v2 v3 v4 v5 u4) ∧ (¬ r3 = 0 → wp_X1_stepsBetween v2 v5 (gI u4 35 4) u4 (fun (r5 : Int32) (u6 : PoS) => ((r5 = (-1) → wj_X10_extend_118 rc_X10_extend (wl_X10_extend_33 rc_X10_extend post n) post v1 v2 v3 v4 v5 u6) ∧ (¬ r5 = (-1) → (((gI u6 35 0) ≤ ((((v4 + r5) + (gI u6 35 3)) - v1) - 1) → wj_X10_extend_118 rc_X10_extend (wl_X10_extend_33 rc_X10_extend post n) post v1 v2 v3 v4 v5 u6) ∧ (¬ (gI u6 35 0) ≤ ((((v4 + r5) + (gI u6 35 3)) - v1) - 1) → vp_in v1 5 ∧ ∀ z7 : PoS, z7 = pI u6 37 (Int32.toNatClampNeg v1) v5 → rc_X10_extend (v1 + 1) v5 (v3 &&& ((1 <<< (v5 &&& 31)) ^^^ (-1))) (v4 + r5) z7 (fun (u9 : PoS) => wj_X10_extend_118 rc_X10_extend (wl_X10_extend_33 rc_X10_extend post n) post v1 v2 v3 v4 v5 u9)))))))))))
def wb_X10_extend (rc_X10_extend : Int32 → Int32 → Int32 → Int32 → PoS → (PoS → Prop) → Prop) (a0 : Int32) (a1 : Int32) (a2 : Int32) (a3 : Int32) (u : PoS) (post : PoS → Prop) : Prop := ((a2 = 0 → wj_X10_extend_9 rc_X10_extend post a3 u) ∧ (¬ a2 = 0 → ((a0 < 5 → (∃ n33, wl_X10_extend_33 rc_X10_extend post n33 a0 a1 a2 a3 0 u)) ∧ (¬ a0 < 5 → wj_X10_extend_9 rc_X10_extend post a3 u))))
set_option maxHeartbeats 4000000 in
set_option maxRecDepth 100000 in
theorem tj_X10_extend_9 {p : Program} {l : Launch} {e : Env} {s : State} {m : MethodId} {args : Array Value} {below : List Frame} {meth : Method} {c : Code} {V : VEn} {D : Nat} {rc_X10_extend : Int32 → Int32 → Int32 → Int32 → PoS → (PoS → Prop) → Prop} {post : PoS → Prop} (C : CxS p s m args meth c V cX10_extend 7 RX10 none) (hD : 1 ≤ D) (hrc_X10_extend : ∀ (a0 : Int32) (a1 : Int32) (a2 : Int32) (a3 : Int32) (u : PoS) (post : PoS → Prop), rc_X10_extend a0 a1 a2 a3 u post → KV l V yX10_extend cX10_extend 7 D [.ref (eA V 35), .int a0, .int a1, .int a2, .int a3] u post) (v4 : Int32) (u : PoS) (h : wj_X10_extend_9 rc_X10_extend post v4 u) : AtS p l e (Rm (D + 1)) s m args below meth c V 7 0 0 (QV V below args s post) 9 [(0, .ref (eA V 35)), (4, .int v4)] [] u := by
  rw [wj_X10_extend_9] at h
  refine a_aload_n C 0 dX10_extend_9 rfl rfl ?_
  refine a_iload C 1 dX10_extend_10 rfl ?_
  refine a_puti C (ty := .int) 0 dX10_extend_12 (by decide) rfl rfl rfl ib_10 (by decide) bw_168 tyX10 tyX10_ok nmX10 rfl (by decide +kernel) rfl rfl ?_
  refine a_topu (fun z1 ez1 => ?_)
  have h := h z1 ez1
  refine a_aload_n C 0 dX10_extend_15 rfl rfl ?_
  refine a_getr C 2 (r := 37) dX10_extend_16 (by decide) rfl rfl rfl ib_10 (by decide) bw_172 ?_
  refine a_iconst C 0 dX10_extend_19 (by decide) ?_
  refine a_aload_n C 0 dX10_extend_20 rfl rfl ?_
  refine a_getr C 1 (r := 36) dX10_extend_21 (by decide) rfl rfl rfl ib_10 (by decide) bw_170 ?_
  refine a_iconst C 0 dX10_extend_24 (by decide) ?_
  refine a_iconst C 5 dX10_extend_25 (by decide) ?_
  obtain ⟨⟨q1, q2, q3, q4, q5⟩, h⟩ := h
  refine a_copy C dX10_extend_26 bw_873 bw_348 bw_347 bw_122 (by decide) (by decide) rfl rfl q1 q2 q3 q4 q5 (rm_f (by omega)) (rm_c (by omega)) ?_
  refine a_topu (fun z2 ez2 => ?_)
  have h := h z2 ez2
  exact a_vret C dX10_extend_29 h
set_option maxHeartbeats 4000000 in
set_option maxRecDepth 100000 in
theorem tj_X10_extend_118 {p : Program} {l : Launch} {e : Env} {s : State} {m : MethodId} {args : Array Value} {below : List Frame} {meth : Method} {c : Code} {V : VEn} {D : Nat} {rc_X10_extend : Int32 → Int32 → Int32 → Int32 → PoS → (PoS → Prop) → Prop} {k33 : Int32 → Int32 → Int32 → Int32 → Int32 → PoS → Prop} {post : PoS → Prop} (C : CxS p s m args meth c V cX10_extend 7 RX10 none) (hD : 1 ≤ D) (hrc_X10_extend : ∀ (a0 : Int32) (a1 : Int32) (a2 : Int32) (a3 : Int32) (u : PoS) (post : PoS → Prop), rc_X10_extend a0 a1 a2 a3 u post → KV l V yX10_extend cX10_extend 7 D [.ref (eA V 35), .int a0, .int a1, .int a2, .int a3] u post) (hk33 : ∀ (v1 : Int32) (v2 : Int32) (v3 : Int32) (v4 : Int32) (v5 : Int32) (u : PoS), k33 v1 v2 v3 v4 v5 u → AtS p l e (Rm (D + 1)) s m args below meth c V 7 0 0 (QV V below args s post) 33 [(0, .ref (eA V 35)), (1, .int v1), (2, .int v2), (3, .int v3), (4, .int v4), (5, .int v5)] [] u) (v1 : Int32) (v2 : Int32) (v3 : Int32) (v4 : Int32) (v5 : Int32) (u : PoS) (h : wj_X10_extend_118 rc_X10_extend k33 post v1 v2 v3 v4 v5 u) : AtS p l e (Rm (D + 1)) s m args below meth c V 7 0 0 (QV V below args s post) 118 [(0, .ref (eA V 35)), (1, .int v1), (2, .int v2), (3, .int v3), (4, .int v4), (5, .int v5)] [] u := by
  rw [wj_X10_extend_118] at h
  refine a_iinc C (v5 + 1) 5 [(5, .int (v5 + 1)), (0, .ref (eA V 35)), (1, .int v1), (2, .int v2), (3, .int v3), (4, .int v4)] dX10_extend_118 rfl (congrArg (fun z => v5 + z) (show Int32.ofInt 1 = 1 by decide)) (by decide) rfl ?_
  refine a_goto C 33 dX10_extend_121 (by decide) ?_
  refine a_sub [1, 2, 3, 4, 5, 0] rfl ?_
  exact hk33 _ _ _ _ _ _ h
set_option maxHeartbeats 4000000 in
set_option maxRecDepth 100000 in
theorem tl_X10_extend_33 {p : Program} {l : Launch} {e : Env} {s : State} {m : MethodId} {args : Array Value} {below : List Frame} {meth : Method} {c : Code} {V : VEn} {D : Nat} {rc_X10_extend : Int32 → Int32 → Int32 → Int32 → PoS → (PoS → Prop) → Prop} {post : PoS → Prop} (C : CxS p s m args meth c V cX10_extend 7 RX10 none) (hD : 1 ≤ D) (hrc_X10_extend : ∀ (a0 : Int32) (a1 : Int32) (a2 : Int32) (a3 : Int32) (u : PoS) (post : PoS → Prop), rc_X10_extend a0 a1 a2 a3 u post → KV l V yX10_extend cX10_extend 7 D [.ref (eA V 35), .int a0, .int a1, .int a2, .int a3] u post) : ∀ (n : Nat) (v1 : Int32) (v2 : Int32) (v3 : Int32) (v4 : Int32) (v5 : Int32) (u : PoS), wl_X10_extend_33 rc_X10_extend post n v1 v2 v3 v4 v5 u → AtS p l e (Rm (D + 1)) s m args below meth c V 7 0 0 (QV V below args s post) 33 [(0, .ref (eA V 35)), (1, .int v1), (2, .int v2), (3, .int v3), (4, .int v4), (5, .int v5)] [] u := by
  intro n
  induction n with
  | zero => intro v1 v2 v3 v4 v5 u h; exact h.elim
  | succ n ih =>
    intro v1 v2 v3 v4 v5 u h
    rw [wl_X10_extend_33] at h
    refine a_iload C 5 dX10_extend_33 rfl ?_
    refine a_bipush C 30 dX10_extend_35 (by decide) ?_
    refine a_icmp_ge C 124 dX10_extend_37 (by decide) (fun c13 => ?_) (fun c13 => ?_)
    · have h := h.1 c13
      exact a_vret C dX10_extend_124 h
    · have h := h.2 c13
      refine a_iload_n C 3 dX10_extend_40 rfl rfl ?_
      refine a_iload C 5 dX10_extend_41 rfl ?_
      refine a_callSi C dX10_extend_43 (m_X1_has l V h) bw_874 bw_642 bw_129 bw_643 np_X1_has rfl rfl (rm_ok (by omega) (by decide)) (Nat.le_of_ble_eq_true rfl) ⟨Nat.zero_le _, Nat.zero_le _⟩ (fun r3 u4 h => ?_)
      refine a_if_eq C 118 dX10_extend_46 (by decide) (fun c12 => ?_) (fun c12 => ?_)
      · have h := h.1 c12
        refine tj_X10_extend_118 C hD hrc_X10_extend ih _ _ _ _ _ _ h
      · have h := h.2 c12
        refine a_iload_n C 2 dX10_extend_49 rfl rfl ?_
        refine a_iload C 5 dX10_extend_50 rfl ?_
        refine a_aload_n C 0 dX10_extend_52 rfl rfl ?_
        refine a_geti C 4 dX10_extend_53 (by decide) rfl rfl rfl ib_10 (by decide) bw_174 ?_
        refine a_callSi C dX10_extend_56 (m_X1_stepsBetween l V h) bw_875 bw_686 bw_129 bw_687 np_X1_stepsBetween rfl rfl (rm_ok (by omega) (by decide)) (Nat.le_of_ble_eq_true rfl) ⟨Nat.zero_le _, Nat.zero_le _⟩ (fun r5 u6 h => ?_)
        refine a_istore C [(6, .int r5), (0, .ref (eA V 35)), (1, .int v1), (2, .int v2), (3, .int v3), (4, .int v4), (5, .int v5)] dX10_extend_59 (by decide) rfl ?_
        refine a_iload C 0 dX10_extend_61 rfl ?_
        refine a_iconst C (-1) dX10_extend_63 (by decide) ?_
        refine a_icmp_eq C 118 dX10_extend_64 (by decide) (fun c11 => ?_) (fun c11 => ?_)
        · have h := h.1 c11
          refine a_sub [1, 2, 3, 4, 5, 6] rfl ?_
          refine tj_X10_extend_118 C hD hrc_X10_extend ih _ _ _ _ _ _ h
        · have h := h.2 c11
          refine a_iload C 5 dX10_extend_67 rfl ?_
          refine a_iload C 0 dX10_extend_69 rfl ?_
          refine a_iadd C dX10_extend_71 ?_
          refine a_aload_n C 1 dX10_extend_72 rfl rfl ?_
          refine a_geti C 3 dX10_extend_73 (by decide) rfl rfl rfl ib_10 (by decide) bw_173 ?_
          refine a_iadd C dX10_extend_76 ?_
          refine a_iload_n C 2 dX10_extend_77 rfl rfl ?_
          refine a_isub C dX10_extend_78 ?_
          refine a_iconst C 1 dX10_extend_79 (by decide) ?_
          refine a_isub C dX10_extend_80 ?_
          refine a_aload_n C 1 dX10_extend_81 rfl rfl ?_
          refine a_geti C 0 dX10_extend_82 (by decide) rfl rfl rfl ib_10 (by decide) bw_168 ?_
          refine a_icmp_ge C 118 dX10_extend_85 (by decide) (fun c10 => ?_) (fun c10 => ?_)
          · have h := h.1 c10
            refine a_sub [1, 2, 3, 4, 5, 6] rfl ?_
            refine tj_X10_extend_118 C hD hrc_X10_extend ih _ _ _ _ _ _ h
          · have h := h.2 c10
            refine a_aload_n C 1 dX10_extend_88 rfl rfl ?_
            refine a_getr C 2 (r := 37) dX10_extend_89 (by decide) rfl rfl rfl ib_10 (by decide) bw_172 ?_
            refine a_iload_n C 2 dX10_extend_92 rfl rfl ?_
            refine a_iload C 6 dX10_extend_93 rfl ?_
            refine b_iast C (Int32.toNatClampNeg v1) dX10_extend_95 (by decide) rfl h.1 rfl ?_
            have h := h.2
            refine a_topu (fun z7 ez7 => ?_)
            have h := h z7 ez7
            refine a_aload_n C 1 dX10_extend_96 rfl rfl ?_
            refine a_iload_n C 2 dX10_extend_97 rfl rfl ?_
            refine a_iconst C 1 dX10_extend_98 (by decide) ?_
            refine a_iadd C dX10_extend_99 ?_
            refine a_iload C 6 dX10_extend_100 rfl ?_
            refine a_iload_n C 4 dX10_extend_102 rfl rfl ?_
            refine a_iconst C 1 dX10_extend_103 (by decide) ?_
            refine a_iload C 6 dX10_extend_104 rfl ?_
            refine a_ishl C dX10_extend_106 ?_
            refine a_iconst C (-1) dX10_extend_107 (by decide) ?_
            refine a_ixor C dX10_extend_108 ?_
            refine a_iand C dX10_extend_109 ?_
            refine a_iload C 5 dX10_extend_110 rfl ?_
            refine a_iload C 0 dX10_extend_112 rfl ?_
            refine a_iadd C dX10_extend_114 ?_
            refine a_callVv C dX10_extend_115 (hrc_X10_extend _ _ _ _ _ _ h) bw_869 bw_871 bw_30 bw_114 bw_872 (by decide) rfl rfl np_X10_extend rfl rfl (rm_ok (by omega) (by decide)) (Nat.le_of_ble_eq_true rfl) ⟨Nat.zero_le _, Nat.zero_le _⟩ (fun u9 h => ?_)
            refine a_sub [1, 2, 3, 4, 5, 6] rfl ?_
            refine tj_X10_extend_118 C hD hrc_X10_extend ih _ _ _ _ _ _ h
set_option maxHeartbeats 4000000 in
set_option maxRecDepth 100000 in
theorem mb_X10_extend (l : Launch) (V : VEn) {D : Nat} {rc_X10_extend : Int32 → Int32 → Int32 → Int32 → PoS → (PoS → Prop) → Prop} (hD : 1 ≤ D) (hrc_X10_extend : ∀ (a0 : Int32) (a1 : Int32) (a2 : Int32) (a3 : Int32) (u : PoS) (post : PoS → Prop), rc_X10_extend a0 a1 a2 a3 u post → KV l V yX10_extend cX10_extend 7 D [.ref (eA V 35), .int a0, .int a1, .int a2, .int a3] u post) {a0 : Int32} {a1 : Int32} {a2 : Int32} {a3 : Int32} {u : PoS} {post : PoS → Prop} (h : wb_X10_extend rc_X10_extend a0 a1 a2 a3 u post) : KV l V yX10_extend cX10_extend 7 (D + 1) [.ref (eA V 35), .int a0, .int a1, .int a2, .int a3] u post := by
  refine KV_of (by decide) (Nat.le_of_ble_eq_true rfl) (lv := [(0, .ref (eA V 35)), (1, .int a0), (2, .int a1), (3, .int a2), (4, .int a3)]) rfl ?_
  intro p e s m args below meth c C
  rw [wb_X10_extend] at h
  refine a_iload_n C 3 dX10_extend_0 rfl rfl ?_
  refine a_if_eq C 9 dX10_extend_1 (by decide) (fun c15 => ?_) (fun c15 => ?_)
  · have h := h.1 c15
    refine a_sub [0, 4] rfl ?_
    refine tj_X10_extend_9 C hD hrc_X10_extend _ _ h
  · have h := h.2 c15
    refine a_iload_n C 1 dX10_extend_4 rfl rfl ?_
    refine a_iconst C 5 dX10_extend_5 (by decide) ?_
    refine a_icmp_lt C 30 dX10_extend_6 (by decide) (fun c14 => ?_) (fun c14 => ?_)
    · have h := h.1 c14
      refine a_iconst C 0 dX10_extend_30 (by decide) ?_
      refine a_istore C [(5, .int 0), (0, .ref (eA V 35)), (1, .int a0), (2, .int a1), (3, .int a2), (4, .int a3)] dX10_extend_31 (by decide) rfl ?_
      refine a_sub [1, 2, 3, 4, 5, 0] rfl ?_
      obtain ⟨n33, h⟩ := h
      refine tl_X10_extend_33 C hD hrc_X10_extend n33 _ _ _ _ _ _ h
    · have h := h.2 c14
      refine a_sub [0, 4] rfl ?_
      refine tj_X10_extend_9 C hD hrc_X10_extend _ _ h

def wR_extend : Nat → (Int32 → Int32 → Int32 → Int32 → PoS → (PoS → Prop) → Prop)
  | 0 => (fun _ _ _ _ _ _ => False)
  | q + 1 => (wb_X10_extend (wR_extend q))
def wp_X10_extend (q : Nat) (a0 : Int32) (a1 : Int32) (a2 : Int32) (a3 : Int32) (u : PoS) (post : PoS → Prop) : Prop := (wR_extend q) a0 a1 a2 a3 u post
theorem mR_extend (l : Launch) (V : VEn) : ∀ q : Nat, (∀ (a0 : Int32) (a1 : Int32) (a2 : Int32) (a3 : Int32) (u : PoS) (post : PoS → Prop), (wR_extend q) a0 a1 a2 a3 u post → KV l V yX10_extend cX10_extend 7 (1 + 1 * q) [.ref (eA V 35), .int a0, .int a1, .int a2, .int a3] u post) := by
  intro q
  induction q with
  | zero => exact fun _ _ _ _ _ _ h => h.elim
  | succ q ih =>
    rw [show 1 + 1 * (q + 1) = 1 + 1 * q + 1 by omega]
    exact fun _ _ _ _ _ _ h => mb_X10_extend l V (D := 1 + 1 * q) (by omega) ih h
theorem m_X10_extend (l : Launch) (V : VEn) (q : Nat) (a0 : Int32) (a1 : Int32) (a2 : Int32) (a3 : Int32) (u : PoS) (post : PoS → Prop) (h : wp_X10_extend q a0 a1 a2 a3 u post) : KV l V yX10_extend cX10_extend 7 (1 + 1 * q) [.ref (eA V 35), .int a0, .int a1, .int a2, .int a3] u post := (mR_extend l V q) a0 a1 a2 a3 u post h
