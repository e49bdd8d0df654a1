/-! THE TWO TEXTS of the class (Token.WORDS, Token.SIGNS): String.length and String.charAt on them, walked over the JDK's own code -/
def jsC (i k : Nat) : Int32 := (jsByt.getD i []).getD k 0
theorem js_len : ∀ i, i < 2 → jsLen.getD i 0 < 2 ^ 31 := by decide
theorem js_255 : ∀ i, i < 2 → ∀ k, k < jsLen.getD i 0 → (jsC i k &&& 255 = jsC i k) := by decide +kernel
section STRS
variable {p : Program} {l : Launch} {e : Env} {R : Room} {s : State} {m : MethodId} {args : Array Value} {below : List Frame} {meth : Method} {c : Code} {V : VEn} {nL nc ns : Nat} {Q : State → Prop} {cc : ByteArray} {own : String} {ret : Option FieldType} {pc : Nat} {lv : List (Nat × Value)} {rest : List Value} {u : PoS}
theorem s_sk (C : CxS p s m args meth c V cc nL own ret) : SK V (AX V s.heap.size) s := C.2.2.2.2.2.2.2.2.2.2
theorem s_ldc0 (C : CxS p s m args meth c V cc nL "RainOnTheOne$Reader" ret) (hd : decode cc pc = .ok (.ldc 93, 2)) (kk : AtS p l e R s m args below meth c V nL nc ns Q (pc + 2) lv (.ref (eK V 0) :: rest) u) : AtS p l e R s m args below meth c V nL nc ns Q pc lv rest u := fun H locs ls hl hP hS => va_ldcS C.1 C.2.1 C.2.2.2.1 (s_sk C).1 hd (kk H locs ls hl hP hS)
theorem s_ldc1 (C : CxS p s m args meth c V cc nL "RainOnTheOne$Reader" ret) (hd : decode cc pc = .ok (.ldc 105, 2)) (kk : AtS p l e R s m args below meth c V nL nc ns Q (pc + 2) lv (.ref (eK V 1) :: rest) u) : AtS p l e R s m args below meth c V nL nc ns Q pc lv rest u := fun H locs ls hl hP hS => va_ldcS C.1 C.2.1 C.2.2.2.1 (s_sk C).2.1 hd (kk H locs ls hl hP hS)
theorem s_compact (C : CxS p s m args meth c V cc nL RJ0 ret) (hd : decode cc pc = .ok (.getstatic 38, 3)) (kk : AtS p l e R s m args below meth c V nL nc ns Q (pc + 3) lv (.int 1 :: rest) u) : AtS p l e R s m args below meth c V nL nc ns Q pc lv rest u := fun H locs ls hl hP hS => va_gets C.1 C.2.1 (s_sk C).2.2.2.1 hS C.2.2.2.1 (C.2.2.2.2.1 _ bw_475) (fun _ h => h) hd (kk H locs ls hl hP hS)
theorem s_value (C : CxS p s m args meth c V cc nL RJ0 ret) {i : Nat} (hi : i < 2) (hd : decode cc pc = .ok (.getfield 9, 3)) (kk : AtS p l e R s m args below meth c V nL nc ns Q (pc + 3) lv (.ref (eV V i) :: rest) u) : AtS p l e R s m args below meth c V nL nc ns Q pc lv (.ref (eK V i) :: rest) u := fun H locs ls hl hP hS => vk_getf C.1 C.2.1 (((s_sk C).2.2.1.1 i hi).2.2.1) hS C.2.2.2.1 (C.2.2.2.2.1 _ bw_1713) (fun _ h => h) hd (kk H locs ls hl hP hS)
theorem s_coder (C : CxS p s m args meth c V cc nL RJ0 ret) {i : Nat} (hi : i < 2) (hd : decode cc pc = .ok (.getfield 15, 3)) (kk : AtS p l e R s m args below meth c V nL nc ns Q (pc + 3) lv (.int 0 :: rest) u) : AtS p l e R s m args below meth c V nL nc ns Q pc lv (.ref (eK V i) :: rest) u := fun H locs ls hl hP hS => vk_getf C.1 C.2.1 (((s_sk C).2.2.1.1 i hi).2.1) hS C.2.2.2.1 (C.2.2.2.2.1 _ bw_1714) (fun _ h => h) hd (kk H locs ls hl hP hS)
theorem s_len (C : CxS p s m args meth c V cc nL own ret) {i : Nat} (hi : i < 2) (hd : decode cc pc = .ok (.arraylength, 1)) (kk : AtS p l e R s m args below meth c V nL nc ns Q (pc + 1) lv (.int (nI (jsLen.getD i 0)) :: rest) u) : AtS p l e R s m args below meth c V nL nc ns Q pc lv (.ref (eV V i) :: rest) u := fun H locs ls hl hP hS => va_tlen C.1 C.2.1 (((s_sk C).2.2.1.1 i hi).2.2.2) hS rfl hd (kk H locs ls hl hP hS)
theorem s_bald (C : CxS p s m args meth c V cc nL own ret) {i : Nat} (hi : i < 2) {k : Int32} (hk : vp_in k (jsLen.getD i 0)) (hd : decode cc pc = .ok (.baload, 1)) (kk : AtS p l e R s m args below meth c V nL nc ns Q (pc + 1) lv (.int (jsC i k.toNatClampNeg) :: rest) u) : AtS p l e R s m args below meth c V nL nc ns Q pc lv (.int k :: .ref (eV V i) :: rest) u := fun H locs ls hl hP hS => va_tb C.1 C.2.1 (((s_sk C).2.2.1.1 i hi).2.2.2) hS hk rfl hd (kk H locs ls hl hP hS)
theorem s_fmt (C : CxS p s m args meth c V cc nL RJ0 ret) (hd : decode cc pc = .ok (.getstatic 1053, 3)) (kk : ∀ w : Value, w.category = 1 → AtS p l e R s m args below meth c V nL nc ns Q (pc + 3) lv (w :: rest) u) : AtS p l e R s m args below meth c V nL nc ns Q pc lv rest u := by
  intro H locs ls hl hP hS
  rcases (s_sk C).2.2.2.2 with h | ⟨t, h⟩
  · exact va_gets C.1 C.2.1 h hS C.2.2.2.1 (C.2.2.2.2.1 _ bw_491) (fun _ h => h) hd (kk _ rfl H locs ls hl hP hS)
  · exact va_gets C.1 C.2.1 h hS C.2.2.2.1 (C.2.2.2.2.1 _ bw_491) (fun _ h => h) hd (kk _ rfl H locs ls hl hP hS)
theorem a_nret {ty : FieldType} (C : CxS p s m args meth c V cc nL own (some ty)) {post : Int32 → PoS → Prop} {v : Int32} (hn : narrow ty (.int v) = .int v) (hd : decode cc pc = .ok (.ireturn, 1)) (h : post v u) : AtS p l e R s m args below meth c V nL 0 0 (QI V below args s post) pc lv [.int v] u := fun H locs ls hlv hP hS => W.zret C.1 C.2.1 C.2.2.2.2.2.1 hn (fun t ht hW => ⟨⟨v, u, rfl, h, by show va_P (eG V) vwCl (WV V u) t.heap; rw [ht]; exact hP⟩, hS.F ht⟩) hS.2.2 hd C.2.2.2.2.2.2.1
theorem a_callTi (C : CxS p s m args meth c V cc nL own ret) {y : MethodName} {cb : ByteArray} {n n' d index i : Nat} {r : FieldType} {As st0 : List Value} {post : Int32 → PoS → Prop} (hi : i < 2) (hy0 : y.cls = "java/lang/String") (hd : decode cc pc = .ok (.invokevirtual index, 3)) (hM : KI l V y cb n' r d (.ref (eK V i) :: As) u post) (w1 : Cond.methodLink own index y ∈ BW) (w2 : Cond.instanceMethod y ∈ BW) (w2' : Cond.selects "java/lang/String" y y ∈ BW) (w3 : Cond.initialized y.cls ∈ BW) (w4 : Cond.code y cb n' (some r) ∈ BW) (hy : y.cls ≠ "java/lang/invoke/MethodHandle" ∧ y.cls ≠ "java/lang/invoke/VarHandle" ∧ (parseMethodDescriptor y.desc).map (fun d => d.parameters.length) = some n) (hlen : As.length = n) (hst : st0 = As.reverse ++ .ref (eK V i) :: rest) (hR : d + 1 ≤ R.frames ∧ 8 + (n' + 11) + 64 * d ≤ R.locals) (hrest : (rest.map fun v => v.category).sum ≤ 8) (hcs : nc ≤ R.cells ∧ ns ≤ R.slots) (kk : ∀ (rv : Int32) (u' : PoS), post rv u' → AtS p l e R s m args below meth c V nL nc ns Q (pc + 3) lv (.int rv :: rest) u') : AtS p l e R s m args below meth c V nL nc ns Q pc lv (st0) u := fun H locs ls hlv hP hS => va_calli (va_runV ⟨C.1, C.2.1, C.2.2.1, C.2.2.2.1, C.2.2.2.2.1⟩ (hM H.size) ⟨callB_of n C.2.2.2.2.1 (bw_good w4) rfl rfl rfl (C.2.2.2.2.1 _ w3) (C.2.2.2.2.1 _ w1) hy hR, C.2.2.2.2.1 _ w2, C.2.2.2.2.1 _ w2'⟩ ⟨pre_blind, vk_recv (s_sk C).2.2.1 hi hS, fun U hU hW => ⟨rfl, by rw [hU], by rw [hU]; exact hP, ek_call C.2.2.2.2.2.2.2 hS hU hW⟩⟩ rfl hlen hlv.1 hst (lv_room hrest) hd hcs) hS (fun q _ h => ax_le hS.1 q h) (fun q h => ax_le hS.1 q h) (fun rv u' t H1 locs1 ht _ hp hB _ _ hS1 => kk rv u' hp H1 locs1 ls hlv (by rw [← ht]; exact hB) hS1)
end STRS
theorem np_coder : yJ0_coder_7d493.cls ≠ "java/lang/invoke/MethodHandle" ∧ yJ0_coder_7d493.cls ≠ "java/lang/invoke/VarHandle" ∧ (parseMethodDescriptor yJ0_coder_7d493.desc).map (fun d => d.parameters.length) = some 0 := by decide +kernel
theorem np_isLatin1 : yJ0_isLatin1_aae02.cls ≠ "java/lang/invoke/MethodHandle" ∧ yJ0_isLatin1_aae02.cls ≠ "java/lang/invoke/VarHandle" ∧ (parseMethodDescriptor yJ0_isLatin1_aae02.desc).map (fun d => d.parameters.length) = some 0 := by decide +kernel
theorem np_checkIndex : yJ0_checkIndex_df160.cls ≠ "java/lang/invoke/MethodHandle" ∧ yJ0_checkIndex_df160.cls ≠ "java/lang/invoke/VarHandle" ∧ (parseMethodDescriptor yJ0_checkIndex_df160.desc).map (fun d => d.parameters.length) = some 2 := by decide +kernel
theorem np_preIndex : yJ3_checkIndex_8e157.cls ≠ "java/lang/invoke/MethodHandle" ∧ yJ3_checkIndex_8e157.cls ≠ "java/lang/invoke/VarHandle" ∧ (parseMethodDescriptor yJ3_checkIndex_8e157.desc).map (fun d => d.parameters.length) = some 3 := by decide +kernel
theorem np_latinAt : yJ1_charAt_3b067.cls ≠ "java/lang/invoke/MethodHandle" ∧ yJ1_charAt_3b067.cls ≠ "java/lang/invoke/VarHandle" ∧ (parseMethodDescriptor yJ1_charAt_3b067.desc).map (fun d => d.parameters.length) = some 2 := by decide +kernel
theorem np_length : yJ0_length_8abf5.cls ≠ "java/lang/invoke/MethodHandle" ∧ yJ0_length_8abf5.cls ≠ "java/lang/invoke/VarHandle" ∧ (parseMethodDescriptor yJ0_length_8abf5.desc).map (fun d => d.parameters.length) = some 0 := by decide +kernel
theorem np_charAt : yJ0_charAt_5068e.cls ≠ "java/lang/invoke/MethodHandle" ∧ yJ0_charAt_5068e.cls ≠ "java/lang/invoke/VarHandle" ∧ (parseMethodDescriptor yJ0_charAt_5068e.desc).map (fun d => d.parameters.length) = some 1 := by decide +kernel
theorem m_coder (l : Launch) (V : VEn) {i : Nat} (hi : i < 2) {u : PoS} {post : Int32 → PoS → Prop} (h : post 0 u) : KI l V yJ0_coder_7d493 cJ0_coder_7d493 1 .byte 0 [.ref (eK V i)] u post := by
  refine KI_of (by decide) (Nat.le_of_ble_eq_true rfl) (lv := [(0, .ref (eK V i))]) rfl ?_
  intro p e s m args below meth c C
  refine s_compact C dJ0_coder_7d493_0 ?_
  refine a_if_eq C 13 dJ0_coder_7d493_3 (by decide) (fun q => absurd q (by decide)) (fun _ => ?_)
  refine a_aload_n C 0 dJ0_coder_7d493_6 rfl rfl ?_
  refine s_coder C hi dJ0_coder_7d493_7 ?_
  refine a_goto C 14 dJ0_coder_7d493_10 (by decide) ?_
  exact a_nret C rfl dJ0_coder_7d493_14 h
theorem m_isLatin1 (l : Launch) (V : VEn) {i : Nat} (hi : i < 2) {u : PoS} {post : Int32 → PoS → Prop} (h : post 1 u) : KI l V yJ0_isLatin1_aae02 cJ0_isLatin1_aae02 1 .boolean 0 [.ref (eK V i)] u post := by
  refine KI_of (by decide) (Nat.le_of_ble_eq_true rfl) (lv := [(0, .ref (eK V i))]) rfl ?_
  intro p e s m args below meth c C
  refine s_compact C dJ0_isLatin1_aae02_0 ?_
  refine a_if_eq C 17 dJ0_isLatin1_aae02_3 (by decide) (fun q => absurd q (by decide)) (fun _ => ?_)
  refine a_aload_n C 0 dJ0_isLatin1_aae02_6 rfl rfl ?_
  refine s_coder C hi dJ0_isLatin1_aae02_7 ?_
  refine a_if_ne C 17 dJ0_isLatin1_aae02_10 (by decide) (fun q => absurd rfl q) (fun _ => ?_)
  refine a_iconst C 1 dJ0_isLatin1_aae02_13 (by decide) ?_
  refine a_goto C 18 dJ0_isLatin1_aae02_14 (by decide) ?_
  exact a_nret C rfl dJ0_isLatin1_aae02_18 h
theorem m_length (l : Launch) (V : VEn) {i : Nat} (hi : i < 2) {u : PoS} {post : Int32 → PoS → Prop} (h : post (nI (jsLen.getD i 0)) u) : KI l V yJ0_length_8abf5 cJ0_length_8abf5 1 .int 1 [.ref (eK V i)] u post := by
  refine KI_of (by decide) (Nat.le_of_ble_eq_true rfl) (lv := [(0, .ref (eK V i))]) rfl ?_
  intro p e s m args below meth c C
  refine a_aload_n C 0 dJ0_length_8abf5_0 rfl rfl ?_
  refine s_value C hi dJ0_length_8abf5_1 ?_
  refine s_len C hi dJ0_length_8abf5_4 ?_
  refine a_aload_n C 0 dJ0_length_8abf5_5 rfl rfl ?_
  refine a_callTi C hi rfl dJ0_length_8abf5_6 (m_coder l V hi (post := fun r v => r = 0 ∧ v = u) ⟨rfl, rfl⟩) bw_471 bw_472 bw_473 bw_124 bw_474 np_coder rfl rfl (by decide) (Nat.le_of_ble_eq_true rfl) ⟨Nat.zero_le _, Nat.zero_le _⟩ (fun r v q => ?_)
  obtain ⟨rfl, rfl⟩ := q
  refine a_ishr C dJ0_length_8abf5_9 ?_
  rw [sb_shr0]
  exact a_iret C dJ0_length_8abf5_10 h
theorem m_preIndex (l : Launch) (V : VEn) {k n : Int32} {w : Value} (hw : w.category = 1) (h0 : ¬ k < 0) (h1 : k < n) {u : PoS} {post : Int32 → PoS → Prop} (h : post k u) : KI l V yJ3_checkIndex_8e157 cJ3_checkIndex_8e157 3 .int 0 [.int k, .int n, w] u post := by
  refine KI_of (lv := [(0, .int k), (1, .int n), (2, w)]) (by decide) ?_ (by simp [lv_args, Value.category]) ?_
  · cases w <;> first | exact Nat.le_of_ble_eq_true rfl | simp [Value.category] at hw
  intro p e s m args below meth c C
  refine a_iload_n C 0 dJ3_checkIndex_8e157_0 rfl rfl ?_
  refine a_if_lt C 9 dJ3_checkIndex_8e157_1 (by decide) (fun q => absurd q h0) (fun _ => ?_)
  refine a_iload_n C 0 dJ3_checkIndex_8e157_4 rfl rfl ?_
  refine a_iload_n C 1 dJ3_checkIndex_8e157_5 rfl rfl ?_
  refine a_icmp_lt C 16 dJ3_checkIndex_8e157_6 (by decide) (fun _ => ?_) (fun q => absurd h1 q)
  refine a_iload_n C 0 dJ3_checkIndex_8e157_16 rfl rfl ?_
  exact a_iret C dJ3_checkIndex_8e157_17 h
theorem m_checkIndex (l : Launch) (V : VEn) {k n : Int32} (h0 : ¬ k < 0) (h1 : k < n) {u : PoS} {post : PoS → Prop} (h : post u) : KV l V yJ0_checkIndex_df160 cJ0_checkIndex_df160 2 1 [.int k, .int n] u post := by
  refine KV_of (by decide) (Nat.le_of_ble_eq_true rfl) (lv := [(0, .int k), (1, .int n)]) rfl ?_
  intro p e s m args below meth c C
  refine a_iload_n C 0 dJ0_checkIndex_df160_0 rfl rfl ?_
  refine a_iload_n C 1 dJ0_checkIndex_df160_1 rfl rfl ?_
  refine s_fmt C dJ0_checkIndex_df160_2 (fun w hw => ?_)
  refine a_callSi C dJ0_checkIndex_df160_5 (m_preIndex l V hw h0 h1 (post := fun _ v => v = u) rfl) bw_493 bw_494 bw_126 bw_495 np_preIndex rfl rfl (by decide) (Nat.le_of_ble_eq_true rfl) ⟨Nat.zero_le _, Nat.zero_le _⟩ (fun r v q => ?_)
  subst q
  refine a_pop C dJ0_checkIndex_df160_8 rfl ?_
  exact a_vret C dJ0_checkIndex_df160_9 h
theorem js_in {k : Int32} {n : Nat} (h : vp_in k n) (hn : n < 2 ^ 31) : ¬ k < 0 ∧ k < nI n := by
  obtain ⟨j, hj, rfl⟩ := vp_in_of h hn
  exact ⟨nI_pos (by omega), nI_lt hj hn⟩
theorem m_latinAt (l : Launch) (V : VEn) {i : Nat} (hi : i < 2) {k : Int32} (hk : vp_in k (jsLen.getD i 0)) {u : PoS} {post : Int32 → PoS → Prop} (h : post (jsC i k.toNatClampNeg) u) : KI l V yJ1_charAt_3b067 cJ1_charAt_3b067 2 .char 2 [.ref (eV V i), .int k] u post := by
  refine KI_of (by decide) (Nat.le_of_ble_eq_true rfl) (lv := [(0, .ref (eV V i)), (1, .int k)]) rfl ?_
  intro p e s m args below meth c C
  have hb := js_in hk (js_len i hi)
  refine a_iload_n C 1 dJ1_charAt_3b067_0 rfl rfl ?_
  refine a_aload_n C 0 dJ1_charAt_3b067_1 rfl rfl ?_
  refine s_len C hi dJ1_charAt_3b067_2 ?_
  refine a_callSv C dJ1_charAt_3b067_3 (m_checkIndex l V hb.1 hb.2 (post := fun v => v = u) rfl) bw_488 bw_489 bw_124 bw_490 np_checkIndex rfl rfl (by decide) (Nat.le_of_ble_eq_true rfl) ⟨Nat.zero_le _, Nat.zero_le _⟩ (fun v q => ?_)
  subst q
  refine a_aload_n C 0 dJ1_charAt_3b067_6 rfl rfl ?_
  refine a_iload_n C 1 dJ1_charAt_3b067_7 rfl rfl ?_
  refine s_bald C hi hk dJ1_charAt_3b067_8 ?_
  refine a_sipush C 255 dJ1_charAt_3b067_9 (by decide) ?_
  refine a_iand C dJ1_charAt_3b067_12 ?_
  refine a_i2c C dJ1_charAt_3b067_13 ?_
  rw [sc_c2, js_255 i hi _ (Nat.not_le.mp fun q => hk (Or.inr q))]
  refine a_nret C ?_ dJ1_charAt_3b067_14 h
  rw [← js_255 i hi _ (Nat.not_le.mp fun q => hk (Or.inr q))]
  exact sc_nar _
theorem m_charAt (l : Launch) (V : VEn) {i : Nat} (hi : i < 2) {k : Int32} (hk : vp_in k (jsLen.getD i 0)) {u : PoS} {post : Int32 → PoS → Prop} (h : post (jsC i k.toNatClampNeg) u) : KI l V yJ0_charAt_5068e cJ0_charAt_5068e 2 .char 3 [.ref (eK V i), .int k] u post := by
  refine KI_of (by decide) (Nat.le_of_ble_eq_true rfl) (lv := [(0, .ref (eK V i)), (1, .int k)]) rfl ?_
  intro p e s m args below meth c C
  refine a_aload_n C 0 dJ0_charAt_5068e_0 rfl rfl ?_
  refine a_callTi C hi rfl dJ0_charAt_5068e_1 (m_isLatin1 l V hi (post := fun r v => r = 1 ∧ v = u) ⟨rfl, rfl⟩) bw_481 bw_482 bw_483 bw_124 bw_484 np_isLatin1 rfl rfl (by decide) (Nat.le_of_ble_eq_true rfl) ⟨Nat.zero_le _, Nat.zero_le _⟩ (fun r v q => ?_)
  obtain ⟨rfl, rfl⟩ := q
  refine a_if_eq C 16 dJ0_charAt_5068e_4 (by decide) (fun q => absurd q (by decide)) (fun _ => ?_)
  refine a_aload_n C 0 dJ0_charAt_5068e_7 rfl rfl ?_
  refine s_value C hi dJ0_charAt_5068e_8 ?_
  refine a_iload_n C 1 dJ0_charAt_5068e_11 rfl rfl ?_
  refine a_callSi C dJ0_charAt_5068e_12 (m_latinAt l V hi hk (post := fun r w => r = jsC i k.toNatClampNeg ∧ w = v) ⟨rfl, rfl⟩) bw_485 bw_486 bw_125 bw_487 np_latinAt rfl rfl (by decide) (Nat.le_of_ble_eq_true rfl) ⟨Nat.zero_le _, Nat.zero_le _⟩ (fun r w q => ?_)
  obtain ⟨rfl, rfl⟩ := q
  refine a_nret C ?_ dJ0_charAt_5068e_15 h
  rw [← js_255 i hi _ (Nat.not_le.mp fun q => hk (Or.inr q))]
  exact sc_nar _
