theorem np_X0_init : yX0_init.cls ≠ "java/lang/invoke/MethodHandle" ∧ yX0_init.cls ≠ "java/lang/invoke/VarHandle" ∧ (parseMethodDescriptor yX0_init.desc).map (fun d => d.parameters.length) = some 0 := by decide +kernel
set_option maxHeartbeats 4000000 in
set_option maxRecDepth 100000 in
theorem k_X0_init (l : Launch) (G : va_G) (h0 : Nat) : KC l G yX0_init cX0_init 1 1 2 60 [.ref h0] (fun _ => True) [(h0, .inr (0, [.int 0, .int 0, .null, .null]))] (fun u => [(h0, .inr (0, [.int (-1), .int (-1), .ref (u.1 0), .ref (u.1 1)])), ((u.1 0), .inl ((u.2 0), 30, .inl (fun _ => 0))), ((u.1 1), .inl ((u.2 1), 30, .inl (fun _ => 0)))]) (fun u => [((u.2 0), .int), ((u.2 1), .int)]) := by
  refine KC_of (lv := [(0, .ref h0)]) (by decide) (Nat.le_of_ble_eq_true rfl) rfl ?_
  intro p e s m args below meth c C hr hlocks hnm hX
  refine c_aload_n C 0 dX0_init_0 rfl rfl ?_
  refine c_obj C dX0_init_1 bw_145 bw_138 cw_139 (by decide) (Nat.le_of_ble_eq_true rfl) ?_
  refine c_aload_n C 0 dX0_init_4 rfl rfl ?_
  refine c_iconst C (-1) dX0_init_5 (by decide) ?_
  refine c_put C (ty := .int) 0 0 [(h0, .inr (0, [.int (-1), .int 0, .null, .null]))] dX0_init_6 rfl rfl ib_0 (by decide) bw_146 tyX0 tyX0_ok nmX0 (by decide +kernel) rfl rfl (Nat.le_of_ble_eq_true rfl) rfl rfl ?_
  refine c_aload_n C 0 dX0_init_9 rfl rfl ?_
  refine c_iconst C (-1) dX0_init_10 (by decide) ?_
  refine c_put C (ty := .int) 0 1 [(h0, .inr (0, [.int (-1), .int (-1), .null, .null]))] dX0_init_11 rfl rfl ib_0 (by decide) bw_148 tyX0 tyX0_ok nmX0 (by decide +kernel) rfl rfl (Nat.le_of_ble_eq_true rfl) rfl rfl ?_
  refine c_aload_n C 0 dX0_init_14 rfl rfl ?_
  refine c_bipush C 30 dX0_init_15 (by decide) ?_
  refine c_newa C (30, .inl (fun _ => 0)) (fun q cA => [(h0, .inr (0, [.int (-1), .int (-1), .null, .null])), (q, .inl (cA, 30, .inl (fun _ => 0)))]) (fun cA => [(cA, .int)]) dX0_init_17 rfl cw_161 (fun _ => rfl) (by decide) (by decide) (by decide) (by decide) (by decide) (fun _ _ => rfl) (fun _ => rfl) (fun q1 c1 => ?_)
  refine c_putF C (ty := (.array .int)) 0 2 [(h0, .inr (0, [.int (-1), .int (-1), .ref q1, .null])), (q1, .inl (c1, 30, .inl (fun _ => 0)))] dX0_init_19 rfl rfl ib_0 (by decide) bw_150 tyX0 tyX0_ok nmX0 (by decide +kernel) rfl rfl (Nat.le_of_ble_eq_true rfl) rfl rfl hnm rfl ?_
  refine c_aload_n C 0 dX0_init_22 rfl rfl ?_
  refine c_bipush C 30 dX0_init_23 (by decide) ?_
  refine c_newa C (30, .inl (fun _ => 0)) (fun q cA => [(h0, .inr (0, [.int (-1), .int (-1), .ref q1, .null])), (q1, .inl (c1, 30, .inl (fun _ => 0))), (q, .inl (cA, 30, .inl (fun _ => 0)))]) (fun cA => [(c1, .int), (cA, .int)]) dX0_init_25 rfl cw_161 (fun _ => rfl) (by decide) (by decide) (by decide) (by decide) (by decide) (fun _ _ => rfl) (fun _ => rfl) (fun q2 c2 => ?_)
  refine c_putF C (ty := (.array .int)) 0 3 [(h0, .inr (0, [.int (-1), .int (-1), .ref q1, .ref q2])), (q1, .inl (c1, 30, .inl (fun _ => 0))), (q2, .inl (c2, 30, .inl (fun _ => 0)))] dX0_init_27 rfl rfl ib_0 (by decide) bw_151 tyX0 tyX0_ok nmX0 (by decide +kernel) rfl rfl (Nat.le_of_ble_eq_true rfl) rfl rfl hnm rfl ?_
  exact c_vret C hr hlocks (fun i => [q1, q2].getD i 0, fun i => [c1, c2].getD i c1) dX0_init_30 rfl rfl

theorem np_X10_init : yX10_init.cls ≠ "java/lang/invoke/MethodHandle" ∧ yX10_init.cls ≠ "java/lang/invoke/VarHandle" ∧ (parseMethodDescriptor yX10_init.desc).map (fun d => d.parameters.length) = some 0 := by decide +kernel
set_option maxHeartbeats 4000000 in
set_option maxRecDepth 100000 in
theorem k_X10_init (l : Launch) (G : va_G) (h0 : Nat) : KC l G yX10_init cX10_init 1 1 2 10 [.ref h0] (fun _ => True) [(h0, .inr (7, [.int 0, .null, .null, .int 0, .int 0]))] (fun u => [(h0, .inr (7, [.int (-1), .ref (u.1 0), .ref (u.1 1), .int 0, .int 0])), ((u.1 0), .inl ((u.2 0), 5, .inl (fun _ => 0))), ((u.1 1), .inl ((u.2 1), 5, .inl (fun _ => 0)))]) (fun u => [((u.2 0), .int), ((u.2 1), .int)]) := by
  refine KC_of (lv := [(0, .ref h0)]) (by decide) (Nat.le_of_ble_eq_true rfl) rfl ?_
  intro p e s m args below meth c C hr hlocks hnm hX
  refine c_aload_n C 0 dX10_init_0 rfl rfl ?_
  refine c_obj C dX10_init_1 bw_167 bw_138 cw_139 (by decide) (Nat.le_of_ble_eq_true rfl) ?_
  refine c_aload_n C 0 dX10_init_4 rfl rfl ?_
  refine c_iconst C (-1) dX10_init_5 (by decide) ?_
  refine c_put C (ty := .int) 0 0 [(h0, .inr (7, [.int (-1), .null, .null, .int 0, .int 0]))] dX10_init_6 rfl rfl ib_10 (by decide) bw_168 tyX10 tyX10_ok nmX10 (by decide +kernel) rfl rfl (Nat.le_of_ble_eq_true rfl) rfl rfl ?_
  refine c_aload_n C 0 dX10_init_9 rfl rfl ?_
  refine c_iconst C 5 dX10_init_10 (by decide) ?_
  refine c_newa C (5, .inl (fun _ => 0)) (fun q cA => [(h0, .inr (7, [.int (-1), .null, .null, .int 0, .int 0])), (q, .inl (cA, 5, .inl (fun _ => 0)))]) (fun cA => [(cA, .int)]) dX10_init_11 rfl cw_161 (fun _ => rfl) (by decide) (by decide) (by decide) (by decide) (by decide) (fun _ _ => rfl) (fun _ => rfl) (fun q1 c1 => ?_)
  refine c_putF C (ty := (.array .int)) 0 1 [(h0, .inr (7, [.int (-1), .ref q1, .null, .int 0, .int 0])), (q1, .inl (c1, 5, .inl (fun _ => 0)))] dX10_init_13 rfl rfl ib_10 (by decide) bw_170 tyX10 tyX10_ok nmX10 (by decide +kernel) rfl rfl (Nat.le_of_ble_eq_true rfl) rfl rfl hnm rfl ?_
  refine c_aload_n C 0 dX10_init_16 rfl rfl ?_
  refine c_iconst C 5 dX10_init_17 (by decide) ?_
  refine c_newa C (5, .inl (fun _ => 0)) (fun q cA => [(h0, .inr (7, [.int (-1), .ref q1, .null, .int 0, .int 0])), (q1, .inl (c1, 5, .inl (fun _ => 0))), (q, .inl (cA, 5, .inl (fun _ => 0)))]) (fun cA => [(c1, .int), (cA, .int)]) dX10_init_18 rfl cw_161 (fun _ => rfl) (by decide) (by decide) (by decide) (by decide) (by decide) (fun _ _ => rfl) (fun _ => rfl) (fun q2 c2 => ?_)
  refine c_putF C (ty := (.array .int)) 0 2 [(h0, .inr (7, [.int (-1), .ref q1, .ref q2, .int 0, .int 0])), (q1, .inl (c1, 5, .inl (fun _ => 0))), (q2, .inl (c2, 5, .inl (fun _ => 0)))] dX10_init_20 rfl rfl ib_10 (by decide) bw_172 tyX10 tyX10_ok nmX10 (by decide +kernel) rfl rfl (Nat.le_of_ble_eq_true rfl) rfl rfl hnm rfl ?_
  refine c_aload_n C 0 dX10_init_23 rfl rfl ?_
  refine c_iconst C 0 dX10_init_24 (by decide) ?_
  refine c_put C (ty := .int) 0 3 [(h0, .inr (7, [.int (-1), .ref q1, .ref q2, .int 0, .int 0])), (q1, .inl (c1, 5, .inl (fun _ => 0))), (q2, .inl (c2, 5, .inl (fun _ => 0)))] dX10_init_25 rfl rfl ib_10 (by decide) bw_173 tyX10 tyX10_ok nmX10 (by decide +kernel) rfl rfl (Nat.le_of_ble_eq_true rfl) rfl rfl ?_
  refine c_aload_n C 0 dX10_init_28 rfl rfl ?_
  refine c_iconst C 0 dX10_init_29 (by decide) ?_
  refine c_put C (ty := .int) 0 4 [(h0, .inr (7, [.int (-1), .ref q1, .ref q2, .int 0, .int 0])), (q1, .inl (c1, 5, .inl (fun _ => 0))), (q2, .inl (c2, 5, .inl (fun _ => 0)))] dX10_init_30 rfl rfl ib_10 (by decide) bw_174 tyX10 tyX10_ok nmX10 (by decide +kernel) rfl rfl (Nat.le_of_ble_eq_true rfl) rfl rfl ?_
  exact c_vret C hr hlocks (fun i => [q1, q2].getD i 0, fun i => [c1, c2].getD i c1) dX10_init_33 rfl rfl

theorem np_X7_init : yX7_init.cls ≠ "java/lang/invoke/MethodHandle" ∧ yX7_init.cls ≠ "java/lang/invoke/VarHandle" ∧ (parseMethodDescriptor yX7_init.desc).map (fun d => d.parameters.length) = some 0 := by decide +kernel
set_option maxHeartbeats 4000000 in
set_option maxRecDepth 100000 in
theorem k_X7_init (l : Launch) (G : va_G) (h0 : Nat) : KC l G yX7_init cX7_init 1 1 5 54 [.ref h0] (fun _ => True) [(h0, .inr (5, [.int 0, .null, .null, .null, .null, .null, .int 0, .int 0]))] (fun u => [(h0, .inr (5, [.int 1000000, .ref (u.1 0), .ref (u.1 1), .ref (u.1 2), .ref (u.1 3), .ref (u.1 4), .int 0, .int 0])), ((u.1 0), .inl ((u.2 0), 7, .inl (fun _ => 0))), ((u.1 1), .inl ((u.2 1), 7, .inl (fun _ => 0))), ((u.1 2), .inl ((u.2 2), 5, .inl (fun _ => 0))), ((u.1 3), .inl ((u.2 3), 35, .inl (fun _ => 0))), ((u.1 4), .inl ((u.2 4), 0, .inl (fun _ => 0)))]) (fun u => [((u.2 0), .int), ((u.2 1), .int), ((u.2 2), .int), ((u.2 3), .int), ((u.2 4), .int)]) := by
  refine KC_of (lv := [(0, .ref h0)]) (by decide) (Nat.le_of_ble_eq_true rfl) rfl ?_
  intro p e s m args below meth c C hr hlocks hnm hX
  refine c_aload_n C 0 dX7_init_0 rfl rfl ?_
  refine c_obj C dX7_init_1 bw_191 bw_138 cw_139 (by decide) (Nat.le_of_ble_eq_true rfl) ?_
  refine c_aload_n C 0 dX7_init_4 rfl rfl ?_
  refine c_ldc C dX7_init_5 bw_192 ?_
  refine c_put C (ty := .int) 0 0 [(h0, .inr (5, [.int 1000000, .null, .null, .null, .null, .null, .int 0, .int 0]))] dX7_init_7 rfl rfl ib_7 (by decide) bw_193 tyX7 tyX7_ok nmX7 (by decide +kernel) rfl rfl (Nat.le_of_ble_eq_true rfl) rfl rfl ?_
  refine c_aload_n C 0 dX7_init_10 rfl rfl ?_
  refine c_bipush C 7 dX7_init_11 (by decide) ?_
  refine c_newa C (7, .inl (fun _ => 0)) (fun q cA => [(h0, .inr (5, [.int 1000000, .null, .null, .null, .null, .null, .int 0, .int 0])), (q, .inl (cA, 7, .inl (fun _ => 0)))]) (fun cA => [(cA, .int)]) dX7_init_13 rfl cw_161 (fun _ => rfl) (by decide) (by decide) (by decide) (by decide) (by decide) (fun _ _ => rfl) (fun _ => rfl) (fun q1 c1 => ?_)
  refine c_putF C (ty := (.array .int)) 0 1 [(h0, .inr (5, [.int 1000000, .ref q1, .null, .null, .null, .null, .int 0, .int 0])), (q1, .inl (c1, 7, .inl (fun _ => 0)))] dX7_init_15 rfl rfl ib_7 (by decide) bw_195 tyX7 tyX7_ok nmX7 (by decide +kernel) rfl rfl (Nat.le_of_ble_eq_true rfl) rfl rfl hnm rfl ?_
  refine c_aload_n C 0 dX7_init_18 rfl rfl ?_
  refine c_bipush C 7 dX7_init_19 (by decide) ?_
  refine c_newa C (7, .inl (fun _ => 0)) (fun q cA => [(h0, .inr (5, [.int 1000000, .ref q1, .null, .null, .null, .null, .int 0, .int 0])), (q1, .inl (c1, 7, .inl (fun _ => 0))), (q, .inl (cA, 7, .inl (fun _ => 0)))]) (fun cA => [(c1, .int), (cA, .int)]) dX7_init_21 rfl cw_161 (fun _ => rfl) (by decide) (by decide) (by decide) (by decide) (by decide) (fun _ _ => rfl) (fun _ => rfl) (fun q2 c2 => ?_)
  refine c_putF C (ty := (.array .int)) 0 2 [(h0, .inr (5, [.int 1000000, .ref q1, .ref q2, .null, .null, .null, .int 0, .int 0])), (q1, .inl (c1, 7, .inl (fun _ => 0))), (q2, .inl (c2, 7, .inl (fun _ => 0)))] dX7_init_23 rfl rfl ib_7 (by decide) bw_197 tyX7 tyX7_ok nmX7 (by decide +kernel) rfl rfl (Nat.le_of_ble_eq_true rfl) rfl rfl hnm rfl ?_
  refine c_aload_n C 0 dX7_init_26 rfl rfl ?_
  refine c_iconst C 5 dX7_init_27 (by decide) ?_
  refine c_newa C (5, .inl (fun _ => 0)) (fun q cA => [(h0, .inr (5, [.int 1000000, .ref q1, .ref q2, .null, .null, .null, .int 0, .int 0])), (q1, .inl (c1, 7, .inl (fun _ => 0))), (q2, .inl (c2, 7, .inl (fun _ => 0))), (q, .inl (cA, 5, .inl (fun _ => 0)))]) (fun cA => [(c1, .int), (c2, .int), (cA, .int)]) dX7_init_28 rfl cw_161 (fun _ => rfl) (by decide) (by decide) (by decide) (by decide) (by decide) (fun _ _ => rfl) (fun _ => rfl) (fun q3 c3 => ?_)
  refine c_putF C (ty := (.array .int)) 0 3 [(h0, .inr (5, [.int 1000000, .ref q1, .ref q2, .ref q3, .null, .null, .int 0, .int 0])), (q1, .inl (c1, 7, .inl (fun _ => 0))), (q2, .inl (c2, 7, .inl (fun _ => 0))), (q3, .inl (c3, 5, .inl (fun _ => 0)))] dX7_init_30 rfl rfl ib_7 (by decide) bw_198 tyX7 tyX7_ok nmX7 (by decide +kernel) rfl rfl (Nat.le_of_ble_eq_true rfl) rfl rfl hnm rfl ?_
  refine c_aload_n C 0 dX7_init_33 rfl rfl ?_
  refine c_bipush C 35 dX7_init_34 (by decide) ?_
  refine c_newa C (35, .inl (fun _ => 0)) (fun q cA => [(h0, .inr (5, [.int 1000000, .ref q1, .ref q2, .ref q3, .null, .null, .int 0, .int 0])), (q1, .inl (c1, 7, .inl (fun _ => 0))), (q2, .inl (c2, 7, .inl (fun _ => 0))), (q3, .inl (c3, 5, .inl (fun _ => 0))), (q, .inl (cA, 35, .inl (fun _ => 0)))]) (fun cA => [(c1, .int), (c2, .int), (c3, .int), (cA, .int)]) dX7_init_36 rfl cw_161 (fun _ => rfl) (by decide) (by decide) (by decide) (by decide) (by decide) (fun _ _ => rfl) (fun _ => rfl) (fun q4 c4 => ?_)
  refine c_putF C (ty := (.array .int)) 0 4 [(h0, .inr (5, [.int 1000000, .ref q1, .ref q2, .ref q3, .ref q4, .null, .int 0, .int 0])), (q1, .inl (c1, 7, .inl (fun _ => 0))), (q2, .inl (c2, 7, .inl (fun _ => 0))), (q3, .inl (c3, 5, .inl (fun _ => 0))), (q4, .inl (c4, 35, .inl (fun _ => 0)))] dX7_init_38 rfl rfl ib_7 (by decide) bw_199 tyX7 tyX7_ok nmX7 (by decide +kernel) rfl rfl (Nat.le_of_ble_eq_true rfl) rfl rfl hnm rfl ?_
  refine c_aload_n C 0 dX7_init_41 rfl rfl ?_
  refine c_iconst C 0 dX7_init_42 (by decide) ?_
  refine c_newa C (0, .inl (fun _ => 0)) (fun q cA => [(h0, .inr (5, [.int 1000000, .ref q1, .ref q2, .ref q3, .ref q4, .null, .int 0, .int 0])), (q1, .inl (c1, 7, .inl (fun _ => 0))), (q2, .inl (c2, 7, .inl (fun _ => 0))), (q3, .inl (c3, 5, .inl (fun _ => 0))), (q4, .inl (c4, 35, .inl (fun _ => 0))), (q, .inl (cA, 0, .inl (fun _ => 0)))]) (fun cA => [(c1, .int), (c2, .int), (c3, .int), (c4, .int), (cA, .int)]) dX7_init_43 rfl cw_161 (fun _ => rfl) (by decide) (by decide) (by decide) (by decide) (by decide) (fun _ _ => rfl) (fun _ => rfl) (fun q5 c5 => ?_)
  refine c_put C (ty := (.array .int)) 0 5 [(h0, .inr (5, [.int 1000000, .ref q1, .ref q2, .ref q3, .ref q4, .ref q5, .int 0, .int 0])), (q1, .inl (c1, 7, .inl (fun _ => 0))), (q2, .inl (c2, 7, .inl (fun _ => 0))), (q3, .inl (c3, 5, .inl (fun _ => 0))), (q4, .inl (c4, 35, .inl (fun _ => 0))), (q5, .inl (c5, 0, .inl (fun _ => 0)))] dX7_init_45 rfl rfl ib_7 (by decide) bw_200 tyX7 tyX7_ok nmX7 (by decide +kernel) rfl rfl (Nat.le_of_ble_eq_true rfl) rfl rfl ?_
  refine c_aload_n C 0 dX7_init_48 rfl rfl ?_
  refine c_iconst C 0 dX7_init_49 (by decide) ?_
  refine c_put C (ty := .int) 0 6 [(h0, .inr (5, [.int 1000000, .ref q1, .ref q2, .ref q3, .ref q4, .ref q5, .int 0, .int 0])), (q1, .inl (c1, 7, .inl (fun _ => 0))), (q2, .inl (c2, 7, .inl (fun _ => 0))), (q3, .inl (c3, 5, .inl (fun _ => 0))), (q4, .inl (c4, 35, .inl (fun _ => 0))), (q5, .inl (c5, 0, .inl (fun _ => 0)))] dX7_init_50 rfl rfl ib_7 (by decide) bw_201 tyX7 tyX7_ok nmX7 (by decide +kernel) rfl rfl (Nat.le_of_ble_eq_true rfl) rfl rfl ?_
  refine c_aload_n C 0 dX7_init_53 rfl rfl ?_
  refine c_iconst C 0 dX7_init_54 (by decide) ?_
  refine c_put C (ty := .int) 0 7 [(h0, .inr (5, [.int 1000000, .ref q1, .ref q2, .ref q3, .ref q4, .ref q5, .int 0, .int 0])), (q1, .inl (c1, 7, .inl (fun _ => 0))), (q2, .inl (c2, 7, .inl (fun _ => 0))), (q3, .inl (c3, 5, .inl (fun _ => 0))), (q4, .inl (c4, 35, .inl (fun _ => 0))), (q5, .inl (c5, 0, .inl (fun _ => 0)))] dX7_init_55 rfl rfl ib_7 (by decide) bw_202 tyX7 tyX7_ok nmX7 (by decide +kernel) rfl rfl (Nat.le_of_ble_eq_true rfl) rfl rfl ?_
  exact c_vret C hr hlocks (fun i => [q1, q2, q3, q4, q5].getD i 0, fun i => [c1, c2, c3, c4, c5].getD i c1) dX7_init_58 rfl rfl

theorem np_X4_init : yX4_init.cls ≠ "java/lang/invoke/MethodHandle" ∧ yX4_init.cls ≠ "java/lang/invoke/VarHandle" ∧ (parseMethodDescriptor yX4_init.desc).map (fun d => d.parameters.length) = some 0 := by decide +kernel
set_option maxHeartbeats 4000000 in
set_option maxRecDepth 100000 in
theorem k_X4_init (l : Launch) (G : va_G) (h0 : Nat) : KC l G yX4_init cX4_init 1 1 1 30 [.ref h0] (fun _ => True) [(h0, .inr (3, [.null]))] (fun u => [(h0, .inr (3, [.ref (u.1 0)])), ((u.1 0), .inl ((u.2 0), 30, .inl (fun _ => 0)))]) (fun u => [((u.2 0), .int)]) := by
  refine KC_of (lv := [(0, .ref h0)]) (by decide) (Nat.le_of_ble_eq_true rfl) rfl ?_
  intro p e s m args below meth c C hr hlocks hnm hX
  refine c_aload_n C 0 dX4_init_0 rfl rfl ?_
  refine c_obj C dX4_init_1 bw_225 bw_138 cw_139 (by decide) (Nat.le_of_ble_eq_true rfl) ?_
  refine c_aload_n C 0 dX4_init_4 rfl rfl ?_
  refine c_bipush C 30 dX4_init_5 (by decide) ?_
  refine c_newa C (30, .inl (fun _ => 0)) (fun q cA => [(h0, .inr (3, [.null])), (q, .inl (cA, 30, .inl (fun _ => 0)))]) (fun cA => [(cA, .int)]) dX4_init_7 rfl cw_161 (fun _ => rfl) (by decide) (by decide) (by decide) (by decide) (by decide) (fun _ _ => rfl) (fun _ => rfl) (fun q1 c1 => ?_)
  refine c_putF C (ty := (.array .int)) 0 0 [(h0, .inr (3, [.ref q1])), (q1, .inl (c1, 30, .inl (fun _ => 0)))] dX4_init_9 rfl rfl ib_4 (by decide) bw_226 tyX4 tyX4_ok nmX4 (by decide +kernel) rfl rfl (Nat.le_of_ble_eq_true rfl) rfl rfl hnm rfl ?_
  exact c_vret C hr hlocks (fun i => [q1].getD i 0, fun i => [c1].getD i c1) dX4_init_12 rfl rfl

theorem np_X3_init : yX3_init.cls ≠ "java/lang/invoke/MethodHandle" ∧ yX3_init.cls ≠ "java/lang/invoke/VarHandle" ∧ (parseMethodDescriptor yX3_init.desc).map (fun d => d.parameters.length) = some 0 := by decide +kernel
set_option maxHeartbeats 4000000 in
set_option maxRecDepth 100000 in
theorem k_X3_init (l : Launch) (G : va_G) (h0 : Nat) : KC l G yX3_init cX3_init 1 1 4 372 [.ref h0] (fun _ => True) [(h0, .inr (2, [.null, .null, .null, .null, .int 0, .int 0, .int 0, .int 0]))] (fun u => [(h0, .inr (2, [.ref (u.1 0), .ref (u.1 1), .ref (u.1 2), .ref (u.1 3), .int 0, .int 0, .int (-1), .int (-1)])), ((u.1 0), .inl ((u.2 0), 24, .inl (fun _ => 0))), ((u.1 1), .inl ((u.2 1), 24, .inl (fun _ => 0))), ((u.1 2), .inl ((u.2 2), 24, .inl (fun _ => 0))), ((u.1 3), .inl ((u.2 3), 300, .inl (fun _ => 0)))]) (fun u => [((u.2 0), .int), ((u.2 1), .int), ((u.2 2), .int), ((u.2 3), .int)]) := by
  refine KC_of (lv := [(0, .ref h0)]) (by decide) (Nat.le_of_ble_eq_true rfl) rfl ?_
  intro p e s m args below meth c C hr hlocks hnm hX
  refine c_aload_n C 0 dX3_init_0 rfl rfl ?_
  refine c_obj C dX3_init_1 bw_236 bw_138 cw_139 (by decide) (Nat.le_of_ble_eq_true rfl) ?_
  refine c_aload_n C 0 dX3_init_4 rfl rfl ?_
  refine c_bipush C 24 dX3_init_5 (by decide) ?_
  refine c_newa C (24, .inl (fun _ => 0)) (fun q cA => [(h0, .inr (2, [.null, .null, .null, .null, .int 0, .int 0, .int 0, .int 0])), (q, .inl (cA, 24, .inl (fun _ => 0)))]) (fun cA => [(cA, .int)]) dX3_init_7 rfl cw_161 (fun _ => rfl) (by decide) (by decide) (by decide) (by decide) (by decide) (fun _ _ => rfl) (fun _ => rfl) (fun q1 c1 => ?_)
  refine c_putF C (ty := (.array .int)) 0 0 [(h0, .inr (2, [.ref q1, .null, .null, .null, .int 0, .int 0, .int 0, .int 0])), (q1, .inl (c1, 24, .inl (fun _ => 0)))] dX3_init_9 rfl rfl ib_3 (by decide) bw_237 tyX3 tyX3_ok nmX3 (by decide +kernel) rfl rfl (Nat.le_of_ble_eq_true rfl) rfl rfl hnm rfl ?_
  refine c_aload_n C 0 dX3_init_12 rfl rfl ?_
  refine c_bipush C 24 dX3_init_13 (by decide) ?_
  refine c_newa C (24, .inl (fun _ => 0)) (fun q cA => [(h0, .inr (2, [.ref q1, .null, .null, .null, .int 0, .int 0, .int 0, .int 0])), (q1, .inl (c1, 24, .inl (fun _ => 0))), (q, .inl (cA, 24, .inl (fun _ => 0)))]) (fun cA => [(c1, .int), (cA, .int)]) dX3_init_15 rfl cw_161 (fun _ => rfl) (by decide) (by decide) (by decide) (by decide) (by decide) (fun _ _ => rfl) (fun _ => rfl) (fun q2 c2 => ?_)
  refine c_putF C (ty := (.array .int)) 0 1 [(h0, .inr (2, [.ref q1, .ref q2, .null, .null, .int 0, .int 0, .int 0, .int 0])), (q1, .inl (c1, 24, .inl (fun _ => 0))), (q2, .inl (c2, 24, .inl (fun _ => 0)))] dX3_init_17 rfl rfl ib_3 (by decide) bw_239 tyX3 tyX3_ok nmX3 (by decide +kernel) rfl rfl (Nat.le_of_ble_eq_true rfl) rfl rfl hnm rfl ?_
  refine c_aload_n C 0 dX3_init_20 rfl rfl ?_
  refine c_bipush C 24 dX3_init_21 (by decide) ?_
  refine c_newa C (24, .inl (fun _ => 0)) (fun q cA => [(h0, .inr (2, [.ref q1, .ref q2, .null, .null, .int 0, .int 0, .int 0, .int 0])), (q1, .inl (c1, 24, .inl (fun _ => 0))), (q2, .inl (c2, 24, .inl (fun _ => 0))), (q, .inl (cA, 24, .inl (fun _ => 0)))]) (fun cA => [(c1, .int), (c2, .int), (cA, .int)]) dX3_init_23 rfl cw_161 (fun _ => rfl) (by decide) (by decide) (by decide) (by decide) (by decide) (fun _ _ => rfl) (fun _ => rfl) (fun q3 c3 => ?_)
  refine c_putF C (ty := (.array .int)) 0 2 [(h0, .inr (2, [.ref q1, .ref q2, .ref q3, .null, .int 0, .int 0, .int 0, .int 0])), (q1, .inl (c1, 24, .inl (fun _ => 0))), (q2, .inl (c2, 24, .inl (fun _ => 0))), (q3, .inl (c3, 24, .inl (fun _ => 0)))] dX3_init_25 rfl rfl ib_3 (by decide) bw_241 tyX3 tyX3_ok nmX3 (by decide +kernel) rfl rfl (Nat.le_of_ble_eq_true rfl) rfl rfl hnm rfl ?_
  refine c_aload_n C 0 dX3_init_28 rfl rfl ?_
  refine c_sipush C 300 dX3_init_29 (by decide) ?_
  refine c_newa C (300, .inl (fun _ => 0)) (fun q cA => [(h0, .inr (2, [.ref q1, .ref q2, .ref q3, .null, .int 0, .int 0, .int 0, .int 0])), (q1, .inl (c1, 24, .inl (fun _ => 0))), (q2, .inl (c2, 24, .inl (fun _ => 0))), (q3, .inl (c3, 24, .inl (fun _ => 0))), (q, .inl (cA, 300, .inl (fun _ => 0)))]) (fun cA => [(c1, .int), (c2, .int), (c3, .int), (cA, .int)]) dX3_init_32 rfl cw_161 (fun _ => rfl) (by decide) (by decide) (by decide) (by decide) (by decide) (fun _ _ => rfl) (fun _ => rfl) (fun q4 c4 => ?_)
  refine c_putF C (ty := (.array .int)) 0 3 [(h0, .inr (2, [.ref q1, .ref q2, .ref q3, .ref q4, .int 0, .int 0, .int 0, .int 0])), (q1, .inl (c1, 24, .inl (fun _ => 0))), (q2, .inl (c2, 24, .inl (fun _ => 0))), (q3, .inl (c3, 24, .inl (fun _ => 0))), (q4, .inl (c4, 300, .inl (fun _ => 0)))] dX3_init_34 rfl rfl ib_3 (by decide) bw_243 tyX3 tyX3_ok nmX3 (by decide +kernel) rfl rfl (Nat.le_of_ble_eq_true rfl) rfl rfl hnm rfl ?_
  refine c_aload_n C 0 dX3_init_37 rfl rfl ?_
  refine c_iconst C 0 dX3_init_38 (by decide) ?_
  refine c_put C (ty := .int) 0 4 [(h0, .inr (2, [.ref q1, .ref q2, .ref q3, .ref q4, .int 0, .int 0, .int 0, .int 0])), (q1, .inl (c1, 24, .inl (fun _ => 0))), (q2, .inl (c2, 24, .inl (fun _ => 0))), (q3, .inl (c3, 24, .inl (fun _ => 0))), (q4, .inl (c4, 300, .inl (fun _ => 0)))] dX3_init_39 rfl rfl ib_3 (by decide) bw_245 tyX3 tyX3_ok nmX3 (by decide +kernel) rfl rfl (Nat.le_of_ble_eq_true rfl) rfl rfl ?_
  refine c_aload_n C 0 dX3_init_42 rfl rfl ?_
  refine c_iconst C 0 dX3_init_43 (by decide) ?_
  refine c_put C (ty := .int) 0 5 [(h0, .inr (2, [.ref q1, .ref q2, .ref q3, .ref q4, .int 0, .int 0, .int 0, .int 0])), (q1, .inl (c1, 24, .inl (fun _ => 0))), (q2, .inl (c2, 24, .inl (fun _ => 0))), (q3, .inl (c3, 24, .inl (fun _ => 0))), (q4, .inl (c4, 300, .inl (fun _ => 0)))] dX3_init_44 rfl rfl ib_3 (by decide) bw_248 tyX3 tyX3_ok nmX3 (by decide +kernel) rfl rfl (Nat.le_of_ble_eq_true rfl) rfl rfl ?_
  refine c_aload_n C 0 dX3_init_47 rfl rfl ?_
  refine c_iconst C (-1) dX3_init_48 (by decide) ?_
  refine c_put C (ty := .int) 0 6 [(h0, .inr (2, [.ref q1, .ref q2, .ref q3, .ref q4, .int 0, .int 0, .int (-1), .int 0])), (q1, .inl (c1, 24, .inl (fun _ => 0))), (q2, .inl (c2, 24, .inl (fun _ => 0))), (q3, .inl (c3, 24, .inl (fun _ => 0))), (q4, .inl (c4, 300, .inl (fun _ => 0)))] dX3_init_49 rfl rfl ib_3 (by decide) bw_251 tyX3 tyX3_ok nmX3 (by decide +kernel) rfl rfl (Nat.le_of_ble_eq_true rfl) rfl rfl ?_
  refine c_aload_n C 0 dX3_init_52 rfl rfl ?_
  refine c_iconst C (-1) dX3_init_53 (by decide) ?_
  refine c_put C (ty := .int) 0 7 [(h0, .inr (2, [.ref q1, .ref q2, .ref q3, .ref q4, .int 0, .int 0, .int (-1), .int (-1)])), (q1, .inl (c1, 24, .inl (fun _ => 0))), (q2, .inl (c2, 24, .inl (fun _ => 0))), (q3, .inl (c3, 24, .inl (fun _ => 0))), (q4, .inl (c4, 300, .inl (fun _ => 0)))] dX3_init_54 rfl rfl ib_3 (by decide) bw_254 tyX3 tyX3_ok nmX3 (by decide +kernel) rfl rfl (Nat.le_of_ble_eq_true rfl) rfl rfl ?_
  exact c_vret C hr hlocks (fun i => [q1, q2, q3, q4].getD i 0, fun i => [c1, c2, c3, c4].getD i c1) dX3_init_57 rfl rfl

theorem np_X2_init : yX2_init.cls ≠ "java/lang/invoke/MethodHandle" ∧ yX2_init.cls ≠ "java/lang/invoke/VarHandle" ∧ (parseMethodDescriptor yX2_init.desc).map (fun d => d.parameters.length) = some 0 := by decide +kernel
set_option maxHeartbeats 4000000 in
set_option maxRecDepth 100000 in
theorem k_X2_init (l : Launch) (G : va_G) (h0 : Nat) : KC l G yX2_init cX2_init 1 1 1 64 [.ref h0] (fun _ => True) [(h0, .inr (1, [.null]))] (fun u => [(h0, .inr (1, [.ref (u.1 0)])), ((u.1 0), .inl ((u.2 0), 64, .inl (fun _ => 0)))]) (fun u => [((u.2 0), .int)]) := by
  refine KC_of (lv := [(0, .ref h0)]) (by decide) (Nat.le_of_ble_eq_true rfl) rfl ?_
  intro p e s m args below meth c C hr hlocks hnm hX
  refine c_aload_n C 0 dX2_init_0 rfl rfl ?_
  refine c_obj C dX2_init_1 bw_279 bw_138 cw_139 (by decide) (Nat.le_of_ble_eq_true rfl) ?_
  refine c_aload_n C 0 dX2_init_4 rfl rfl ?_
  refine c_bipush C 64 dX2_init_5 (by decide) ?_
  refine c_newa C (64, .inl (fun _ => 0)) (fun q cA => [(h0, .inr (1, [.null])), (q, .inl (cA, 64, .inl (fun _ => 0)))]) (fun cA => [(cA, .int)]) dX2_init_7 rfl cw_161 (fun _ => rfl) (by decide) (by decide) (by decide) (by decide) (by decide) (fun _ _ => rfl) (fun _ => rfl) (fun q1 c1 => ?_)
  refine c_putF C (ty := (.array .int)) 0 0 [(h0, .inr (1, [.ref q1])), (q1, .inl (c1, 64, .inl (fun _ => 0)))] dX2_init_9 rfl rfl ib_2 (by decide) bw_280 tyX2 tyX2_ok nmX2 (by decide +kernel) rfl rfl (Nat.le_of_ble_eq_true rfl) rfl rfl hnm rfl ?_
  exact c_vret C hr hlocks (fun i => [q1].getD i 0, fun i => [c1].getD i c1) dX2_init_12 rfl rfl

theorem np_X6_init : yX6_init.cls ≠ "java/lang/invoke/MethodHandle" ∧ yX6_init.cls ≠ "java/lang/invoke/VarHandle" ∧ (parseMethodDescriptor yX6_init.desc).map (fun d => d.parameters.length) = some 1 := by decide +kernel
set_option maxHeartbeats 4000000 in
set_option maxRecDepth 100000 in
theorem k_X6_init (l : Launch) (G : va_G) (h0 : Nat) (w1 : Nat) : KC l G yX6_init cX6_init 2 1 3 903 [.ref h0, .ref w1] (fun _ => True) [(h0, .inr (4, [.int 0, .int 0, .null, .null, .null, .int 0, .int 0, .int 0, .null, .int 0, .int 0]))] (fun u => [(h0, .inr (4, [.int 0, .int (-1), .ref (u.1 0), .ref (u.1 1), .ref (u.1 2), .int 0, .int 0, .int 43, .ref w1, .int 0, .int 0])), ((u.1 0), .inl ((u.2 0), 301, .inl (fun _ => 0))), ((u.1 1), .inl ((u.2 1), 301, .inl (fun _ => 0))), ((u.1 2), .inl ((u.2 2), 301, .inl (fun _ => 0)))]) (fun u => [((u.2 0), .int), ((u.2 1), .int), ((u.2 2), .int)]) := by
  refine KC_of (lv := [(0, .ref h0), (1, .ref w1)]) (by decide) (Nat.le_of_ble_eq_true rfl) rfl ?_
  intro p e s m args below meth c C hr hlocks hnm hX
  refine c_aload_n C 0 dX6_init_0 rfl rfl ?_
  refine c_obj C dX6_init_1 bw_289 bw_138 cw_139 (by decide) (Nat.le_of_ble_eq_true rfl) ?_
  refine c_aload_n C 0 dX6_init_4 rfl rfl ?_
  refine c_iconst C 0 dX6_init_5 (by decide) ?_
  refine c_put C (ty := .int) 0 0 [(h0, .inr (4, [.int 0, .int 0, .null, .null, .null, .int 0, .int 0, .int 0, .null, .int 0, .int 0]))] dX6_init_6 rfl rfl ib_6 (by decide) bw_290 tyX6 tyX6_ok nmX6 (by decide +kernel) rfl rfl (Nat.le_of_ble_eq_true rfl) rfl rfl ?_
  refine c_aload_n C 0 dX6_init_9 rfl rfl ?_
  refine c_iconst C (-1) dX6_init_10 (by decide) ?_
  refine c_put C (ty := .int) 0 1 [(h0, .inr (4, [.int 0, .int (-1), .null, .null, .null, .int 0, .int 0, .int 0, .null, .int 0, .int 0]))] dX6_init_11 rfl rfl ib_6 (by decide) bw_292 tyX6 tyX6_ok nmX6 (by decide +kernel) rfl rfl (Nat.le_of_ble_eq_true rfl) rfl rfl ?_
  refine c_aload_n C 0 dX6_init_14 rfl rfl ?_
  refine c_sipush C 301 dX6_init_15 (by decide) ?_
  refine c_newa C (301, .inl (fun _ => 0)) (fun q cA => [(h0, .inr (4, [.int 0, .int (-1), .null, .null, .null, .int 0, .int 0, .int 0, .null, .int 0, .int 0])), (q, .inl (cA, 301, .inl (fun _ => 0)))]) (fun cA => [(cA, .int)]) dX6_init_18 rfl cw_161 (fun _ => rfl) (by decide) (by decide) (by decide) (by decide) (by decide) (fun _ _ => rfl) (fun _ => rfl) (fun q1 c1 => ?_)
  refine c_putF C (ty := (.array .int)) 0 2 [(h0, .inr (4, [.int 0, .int (-1), .ref q1, .null, .null, .int 0, .int 0, .int 0, .null, .int 0, .int 0])), (q1, .inl (c1, 301, .inl (fun _ => 0)))] dX6_init_20 rfl rfl ib_6 (by decide) bw_294 tyX6 tyX6_ok nmX6 (by decide +kernel) rfl rfl (Nat.le_of_ble_eq_true rfl) rfl rfl hnm rfl ?_
  refine c_aload_n C 0 dX6_init_23 rfl rfl ?_
  refine c_sipush C 301 dX6_init_24 (by decide) ?_
  refine c_newa C (301, .inl (fun _ => 0)) (fun q cA => [(h0, .inr (4, [.int 0, .int (-1), .ref q1, .null, .null, .int 0, .int 0, .int 0, .null, .int 0, .int 0])), (q1, .inl (c1, 301, .inl (fun _ => 0))), (q, .inl (cA, 301, .inl (fun _ => 0)))]) (fun cA => [(c1, .int), (cA, .int)]) dX6_init_27 rfl cw_161 (fun _ => rfl) (by decide) (by decide) (by decide) (by decide) (by decide) (fun _ _ => rfl) (fun _ => rfl) (fun q2 c2 => ?_)
  refine c_putF C (ty := (.array .int)) 0 3 [(h0, .inr (4, [.int 0, .int (-1), .ref q1, .ref q2, .null, .int 0, .int 0, .int 0, .null, .int 0, .int 0])), (q1, .inl (c1, 301, .inl (fun _ => 0))), (q2, .inl (c2, 301, .inl (fun _ => 0)))] dX6_init_29 rfl rfl ib_6 (by decide) bw_295 tyX6 tyX6_ok nmX6 (by decide +kernel) rfl rfl (Nat.le_of_ble_eq_true rfl) rfl rfl hnm rfl ?_
  refine c_aload_n C 0 dX6_init_32 rfl rfl ?_
  refine c_sipush C 301 dX6_init_33 (by decide) ?_
  refine c_newa C (301, .inl (fun _ => 0)) (fun q cA => [(h0, .inr (4, [.int 0, .int (-1), .ref q1, .ref q2, .null, .int 0, .int 0, .int 0, .null, .int 0, .int 0])), (q1, .inl (c1, 301, .inl (fun _ => 0))), (q2, .inl (c2, 301, .inl (fun _ => 0))), (q, .inl (cA, 301, .inl (fun _ => 0)))]) (fun cA => [(c1, .int), (c2, .int), (cA, .int)]) dX6_init_36 rfl cw_161 (fun _ => rfl) (by decide) (by decide) (by decide) (by decide) (by decide) (fun _ _ => rfl) (fun _ => rfl) (fun q3 c3 => ?_)
  refine c_putF C (ty := (.array .int)) 0 4 [(h0, .inr (4, [.int 0, .int (-1), .ref q1, .ref q2, .ref q3, .int 0, .int 0, .int 0, .null, .int 0, .int 0])), (q1, .inl (c1, 301, .inl (fun _ => 0))), (q2, .inl (c2, 301, .inl (fun _ => 0))), (q3, .inl (c3, 301, .inl (fun _ => 0)))] dX6_init_38 rfl rfl ib_6 (by decide) bw_296 tyX6 tyX6_ok nmX6 (by decide +kernel) rfl rfl (Nat.le_of_ble_eq_true rfl) rfl rfl hnm rfl ?_
  refine c_aload_n C 0 dX6_init_41 rfl rfl ?_
  refine c_iconst C 0 dX6_init_42 (by decide) ?_
  refine c_put C (ty := .int) 0 5 [(h0, .inr (4, [.int 0, .int (-1), .ref q1, .ref q2, .ref q3, .int 0, .int 0, .int 0, .null, .int 0, .int 0])), (q1, .inl (c1, 301, .inl (fun _ => 0))), (q2, .inl (c2, 301, .inl (fun _ => 0))), (q3, .inl (c3, 301, .inl (fun _ => 0)))] dX6_init_43 rfl rfl ib_6 (by decide) bw_297 tyX6 tyX6_ok nmX6 (by decide +kernel) rfl rfl (Nat.le_of_ble_eq_true rfl) rfl rfl ?_
  refine c_aload_n C 0 dX6_init_46 rfl rfl ?_
  refine c_iconst C 0 dX6_init_47 (by decide) ?_
  refine c_put C (ty := .int) 0 6 [(h0, .inr (4, [.int 0, .int (-1), .ref q1, .ref q2, .ref q3, .int 0, .int 0, .int 0, .null, .int 0, .int 0])), (q1, .inl (c1, 301, .inl (fun _ => 0))), (q2, .inl (c2, 301, .inl (fun _ => 0))), (q3, .inl (c3, 301, .inl (fun _ => 0)))] dX6_init_48 rfl rfl ib_6 (by decide) bw_298 tyX6 tyX6_ok nmX6 (by decide +kernel) rfl rfl (Nat.le_of_ble_eq_true rfl) rfl rfl ?_
  refine c_aload_n C 0 dX6_init_51 rfl rfl ?_
  refine c_bipush C 43 dX6_init_52 (by decide) ?_
  refine c_put C (ty := .int) 0 7 [(h0, .inr (4, [.int 0, .int (-1), .ref q1, .ref q2, .ref q3, .int 0, .int 0, .int 43, .null, .int 0, .int 0])), (q1, .inl (c1, 301, .inl (fun _ => 0))), (q2, .inl (c2, 301, .inl (fun _ => 0))), (q3, .inl (c3, 301, .inl (fun _ => 0)))] dX6_init_54 rfl rfl ib_6 (by decide) bw_299 tyX6 tyX6_ok nmX6 (by decide +kernel) rfl rfl (Nat.le_of_ble_eq_true rfl) rfl rfl ?_
  refine c_aload_n C 0 dX6_init_57 rfl rfl ?_
  refine c_iconst C 0 dX6_init_58 (by decide) ?_
  refine c_put C (ty := .int) 0 9 [(h0, .inr (4, [.int 0, .int (-1), .ref q1, .ref q2, .ref q3, .int 0, .int 0, .int 43, .null, .int 0, .int 0])), (q1, .inl (c1, 301, .inl (fun _ => 0))), (q2, .inl (c2, 301, .inl (fun _ => 0))), (q3, .inl (c3, 301, .inl (fun _ => 0)))] dX6_init_59 rfl rfl ib_6 (by decide) bw_301 tyX6 tyX6_ok nmX6 (by decide +kernel) rfl rfl (Nat.le_of_ble_eq_true rfl) rfl rfl ?_
  refine c_aload_n C 0 dX6_init_62 rfl rfl ?_
  refine c_iconst C 0 dX6_init_63 (by decide) ?_
  refine c_put C (ty := .boolean) 0 10 [(h0, .inr (4, [.int 0, .int (-1), .ref q1, .ref q2, .ref q3, .int 0, .int 0, .int 43, .null, .int 0, .int 0])), (q1, .inl (c1, 301, .inl (fun _ => 0))), (q2, .inl (c2, 301, .inl (fun _ => 0))), (q3, .inl (c3, 301, .inl (fun _ => 0)))] dX6_init_64 rfl rfl ib_6 (by decide) bw_302 tyX6 tyX6_ok nmX6 (by decide +kernel) rfl rfl (Nat.le_of_ble_eq_true rfl) rfl rfl ?_
  refine c_aload_n C 0 dX6_init_67 rfl rfl ?_
  refine c_aload_n C 1 dX6_init_68 rfl rfl ?_
  refine c_put C (ty := (.object "RainOnTheOne$Law")) 0 8 [(h0, .inr (4, [.int 0, .int (-1), .ref q1, .ref q2, .ref q3, .int 0, .int 0, .int 43, .ref w1, .int 0, .int 0])), (q1, .inl (c1, 301, .inl (fun _ => 0))), (q2, .inl (c2, 301, .inl (fun _ => 0))), (q3, .inl (c3, 301, .inl (fun _ => 0)))] dX6_init_69 rfl rfl ib_6 (by decide) bw_300 tyX6 tyX6_ok nmX6 (by decide +kernel) rfl rfl (Nat.le_of_ble_eq_true rfl) rfl rfl ?_
  exact c_vret C hr hlocks (fun i => [q1, q2, q3].getD i 0, fun i => [c1, c2, c3].getD i c1) dX6_init_72 rfl rfl

theorem np_X8_init : yX8_init.cls ≠ "java/lang/invoke/MethodHandle" ∧ yX8_init.cls ≠ "java/lang/invoke/VarHandle" ∧ (parseMethodDescriptor yX8_init.desc).map (fun d => d.parameters.length) = some 3 := by decide +kernel
set_option maxHeartbeats 4000000 in
set_option maxRecDepth 100000 in
theorem k_X8_initA (l : Launch) (G : va_G) (h0 : Nat) (w2 : Nat) (w3 : Nat) : KC l G yX8_init cX8_init 4 1 1 2735 [.ref h0, .int 2735, .ref w2, .ref w3] (fun _ => True) [(h0, .inr (6, [.null, .null, .null]))] (fun u => [(h0, .inr (6, [.ref (u.1 0), .ref w2, .ref w3])), ((u.1 0), .inl ((u.2 0), 2735, .inl (fun _ => 0)))]) (fun u => [((u.2 0), .int)]) := by
  refine KC_of (lv := [(0, .ref h0), (1, .int 2735), (2, .ref w2), (3, .ref w3)]) (by decide) (Nat.le_of_ble_eq_true rfl) rfl ?_
  intro p e s m args below meth c C hr hlocks hnm hX
  refine c_aload_n C 0 dX8_init_0 rfl rfl ?_
  refine c_obj C dX8_init_1 bw_331 bw_138 cw_139 (by decide) (Nat.le_of_ble_eq_true rfl) ?_
  refine c_aload_n C 0 dX8_init_4 rfl rfl ?_
  refine c_iload_n C 1 dX8_init_5 rfl rfl ?_
  refine c_bipush C 117 dX8_init_6 (by decide) ?_
  refine c_mmax C 2735 dX8_init_8 bw_332 bw_333 bw_121 bw_334 (by decide) (Nat.le_of_ble_eq_true rfl) (by decide) (by decide) ?_
  refine c_newa C (2735, .inl (fun _ => 0)) (fun q cA => [(h0, .inr (6, [.null, .null, .null])), (q, .inl (cA, 2735, .inl (fun _ => 0)))]) (fun cA => [(cA, .int)]) dX8_init_11 rfl cw_161 (fun _ => rfl) (by decide) (by decide) (by decide) (by decide) (by decide) (fun _ _ => rfl) (fun _ => rfl) (fun q1 c1 => ?_)
  refine c_putF C (ty := (.array .int)) 0 0 [(h0, .inr (6, [.ref q1, .null, .null])), (q1, .inl (c1, 2735, .inl (fun _ => 0)))] dX8_init_13 rfl rfl ib_8 (by decide) bw_335 tyX8 tyX8_ok nmX8 (by decide +kernel) rfl rfl (Nat.le_of_ble_eq_true rfl) rfl rfl hnm rfl ?_
  refine c_aload_n C 0 dX8_init_16 rfl rfl ?_
  refine c_aload_n C 2 dX8_init_17 rfl rfl ?_
  refine c_putF C (ty := (.array (.object "RainOnTheOne$Law"))) 0 1 [(h0, .inr (6, [.ref q1, .ref w2, .null])), (q1, .inl (c1, 2735, .inl (fun _ => 0)))] dX8_init_18 rfl rfl ib_8 (by decide) bw_337 tyX8 tyX8_ok nmX8 (by decide +kernel) rfl rfl (Nat.le_of_ble_eq_true rfl) rfl rfl hnm rfl ?_
  refine c_aload_n C 0 dX8_init_21 rfl rfl ?_
  refine c_aload_n C 3 dX8_init_22 rfl rfl ?_
  refine c_putF C (ty := (.object "RainOnTheOne$Judge")) 0 2 [(h0, .inr (6, [.ref q1, .ref w2, .ref w3])), (q1, .inl (c1, 2735, .inl (fun _ => 0)))] dX8_init_23 rfl rfl ib_8 (by decide) bw_338 tyX8 tyX8_ok nmX8 (by decide +kernel) rfl rfl (Nat.le_of_ble_eq_true rfl) rfl rfl hnm rfl ?_
  exact c_vret C hr hlocks (fun i => [q1].getD i 0, fun i => [c1].getD i c1) dX8_init_26 rfl rfl

set_option maxHeartbeats 4000000 in
set_option maxRecDepth 100000 in
theorem k_X8_initB (l : Launch) (G : va_G) (h0 : Nat) (w2 : Nat) (w3 : Nat) : KC l G yX8_init cX8_init 4 1 1 117 [.ref h0, .int 117, .ref w2, .ref w3] (fun _ => True) [(h0, .inr (6, [.null, .null, .null]))] (fun u => [(h0, .inr (6, [.ref (u.1 0), .ref w2, .ref w3])), ((u.1 0), .inl ((u.2 0), 117, .inl (fun _ => 0)))]) (fun u => [((u.2 0), .int)]) := by
  refine KC_of (lv := [(0, .ref h0), (1, .int 117), (2, .ref w2), (3, .ref w3)]) (by decide) (Nat.le_of_ble_eq_true rfl) rfl ?_
  intro p e s m args below meth c C hr hlocks hnm hX
  refine c_aload_n C 0 dX8_init_0 rfl rfl ?_
  refine c_obj C dX8_init_1 bw_331 bw_138 cw_139 (by decide) (Nat.le_of_ble_eq_true rfl) ?_
  refine c_aload_n C 0 dX8_init_4 rfl rfl ?_
  refine c_iload_n C 1 dX8_init_5 rfl rfl ?_
  refine c_bipush C 117 dX8_init_6 (by decide) ?_
  refine c_mmax C 117 dX8_init_8 bw_332 bw_333 bw_121 bw_334 (by decide) (Nat.le_of_ble_eq_true rfl) (by decide) (by decide) ?_
  refine c_newa C (117, .inl (fun _ => 0)) (fun q cA => [(h0, .inr (6, [.null, .null, .null])), (q, .inl (cA, 117, .inl (fun _ => 0)))]) (fun cA => [(cA, .int)]) dX8_init_11 rfl cw_161 (fun _ => rfl) (by decide) (by decide) (by decide) (by decide) (by decide) (fun _ _ => rfl) (fun _ => rfl) (fun q1 c1 => ?_)
  refine c_putF C (ty := (.array .int)) 0 0 [(h0, .inr (6, [.ref q1, .null, .null])), (q1, .inl (c1, 117, .inl (fun _ => 0)))] dX8_init_13 rfl rfl ib_8 (by decide) bw_335 tyX8 tyX8_ok nmX8 (by decide +kernel) rfl rfl (Nat.le_of_ble_eq_true rfl) rfl rfl hnm rfl ?_
  refine c_aload_n C 0 dX8_init_16 rfl rfl ?_
  refine c_aload_n C 2 dX8_init_17 rfl rfl ?_
  refine c_putF C (ty := (.array (.object "RainOnTheOne$Law"))) 0 1 [(h0, .inr (6, [.ref q1, .ref w2, .null])), (q1, .inl (c1, 117, .inl (fun _ => 0)))] dX8_init_18 rfl rfl ib_8 (by decide) bw_337 tyX8 tyX8_ok nmX8 (by decide +kernel) rfl rfl (Nat.le_of_ble_eq_true rfl) rfl rfl hnm rfl ?_
  refine c_aload_n C 0 dX8_init_21 rfl rfl ?_
  refine c_aload_n C 3 dX8_init_22 rfl rfl ?_
  refine c_putF C (ty := (.object "RainOnTheOne$Judge")) 0 2 [(h0, .inr (6, [.ref q1, .ref w2, .ref w3])), (q1, .inl (c1, 117, .inl (fun _ => 0)))] dX8_init_23 rfl rfl ib_8 (by decide) bw_338 tyX8 tyX8_ok nmX8 (by decide +kernel) rfl rfl (Nat.le_of_ble_eq_true rfl) rfl rfl hnm rfl ?_
  exact c_vret C hr hlocks (fun i => [q1].getD i 0, fun i => [c1].getD i c1) dX8_init_26 rfl rfl
