def wj_L_law_1626 (L : Nat) (xs : Nat → Int32) (k18 : Int32 → PoS → Prop) (post : Int32 → PoS → Prop) (v3 : Int32) (u : PoS) : Prop := k18 (v3 + 6) u
def wj_L_law_269 (L : Nat) (xs : Nat → Int32) (k18 : Int32 → PoS → Prop) (post : Int32 → PoS → Prop) (v3 : Int32) (s0 : Int32) (s1 : Int32) (s3 : Int32) (u : PoS) : Prop := wp_X12_person s1 s0 u (fun (r3 : Int32) (u4 : PoS) => ((s3 = r3 → wj_L_law_1626 L xs k18 post v3 u4) ∧ (¬ s3 = r3 → post 0 u4)))
def wj_L_law_247 (L : Nat) (xs : Nat → Int32) (k18 : Int32 → PoS → Prop) (post : Int32 → PoS → Prop) (v3 : Int32) (s0 : Int32) (s1 : Int32) (u : PoS) : Prop := wp_X11_person s1 s0 u (fun (r1 : Int32) (u2 : PoS) => vp_in (v3 + 1) L ∧ vp_in (v3 + 2) L ∧ (((xs (Int32.toNatClampNeg (v3 + 2))) = 0 → wj_L_law_269 L xs k18 post v3 0 (xs (Int32.toNatClampNeg (v3 + 1))) r1 u2) ∧ (¬ (xs (Int32.toNatClampNeg (v3 + 2))) = 0 → wj_L_law_269 L xs k18 post v3 1 (xs (Int32.toNatClampNeg (v3 + 1))) r1 u2)))
def wj_L_law_351 (L : Nat) (xs : Nat → Int32) (k18 : Int32 → PoS → Prop) (post : Int32 → PoS → Prop) (v3 : Int32) (s0 : Int32) (s1 : Int32) (s3 : Int32) (u : PoS) : Prop := wp_X12_shed s1 s0 u (fun (r15 : Int32) (u16 : PoS) => ((s3 = r15 → wj_L_law_1626 L xs k18 post v3 u16) ∧ (¬ s3 = r15 → post 0 u16)))
def wj_L_law_329 (L : Nat) (xs : Nat → Int32) (k18 : Int32 → PoS → Prop) (post : Int32 → PoS → Prop) (v3 : Int32) (s0 : Int32) (s1 : Int32) (u : PoS) : Prop := wp_X11_shed s1 s0 u (fun (r13 : Int32) (u14 : PoS) => vp_in (v3 + 1) L ∧ vp_in (v3 + 2) L ∧ (((xs (Int32.toNatClampNeg (v3 + 2))) = 0 → wj_L_law_351 L xs k18 post v3 0 (xs (Int32.toNatClampNeg (v3 + 1))) r13 u14) ∧ (¬ (xs (Int32.toNatClampNeg (v3 + 2))) = 0 → wj_L_law_351 L xs k18 post v3 1 (xs (Int32.toNatClampNeg (v3 + 1))) r13 u14)))
def wj_L_law_578 (L : Nat) (xs : Nat → Int32) (k18 : Int32 → PoS → Prop) (post : Int32 → PoS → Prop) (v3 : Int32) (s0 : Int32) (s1 : Int32) (s3 : Int32) (u : PoS) : Prop := wp_X12_hat s1 s0 u (fun (r52 : Int32) (u53 : PoS) => ((s3 = r52 → wj_L_law_1626 L xs k18 post v3 u53) ∧ (¬ s3 = r52 → post 0 u53)))
def wj_L_law_556 (L : Nat) (xs : Nat → Int32) (k18 : Int32 → PoS → Prop) (post : Int32 → PoS → Prop) (v3 : Int32) (s0 : Int32) (s1 : Int32) (u : PoS) : Prop := wp_X11_hat s1 s0 u (fun (r50 : Int32) (u51 : PoS) => vp_in (v3 + 1) L ∧ vp_in (v3 + 2) L ∧ (((xs (Int32.toNatClampNeg (v3 + 2))) = 0 → wj_L_law_578 L xs k18 post v3 0 (xs (Int32.toNatClampNeg (v3 + 1))) r50 u51) ∧ (¬ (xs (Int32.toNatClampNeg (v3 + 2))) = 0 → wj_L_law_578 L xs k18 post v3 1 (xs (Int32.toNatClampNeg (v3 + 1))) r50 u51)))
def wj_L_law_1313 (L : Nat) (xs : Nat → Int32) (k18 : Int32 → PoS → Prop) (post : Int32 → PoS → Prop) (v3 : Int32) (s0 : Int32) (s2 : Int32) (u : PoS) : Prop := wp_X12_from s0 u (fun (r169 : Int32) (u170 : PoS) => ((s2 = r169 → wj_L_law_1626 L xs k18 post v3 u170) ∧ (¬ s2 = r169 → post 0 u170)))
def wj_L_law_1296 (L : Nat) (xs : Nat → Int32) (k18 : Int32 → PoS → Prop) (post : Int32 → PoS → Prop) (v3 : Int32) (s0 : Int32) (u : PoS) : Prop := wp_X11_from s0 u (fun (r167 : Int32) (u168 : PoS) => vp_in (v3 + 1) L ∧ (((xs (Int32.toNatClampNeg (v3 + 1))) = 0 → wj_L_law_1313 L xs k18 post v3 0 r167 u168) ∧ (¬ (xs (Int32.toNatClampNeg (v3 + 1))) = 0 → wj_L_law_1313 L xs k18 post v3 1 r167 u168)))
def wj_L_law_1372 (L : Nat) (xs : Nat → Int32) (k18 : Int32 → PoS → Prop) (post : Int32 → PoS → Prop) (v3 : Int32) (s0 : Int32) (s1 : Int32) (s2 : Int32) (s4 : Int64) (u : PoS) : Prop := wp_X12_likely s2 s1 s0 u (fun (r176 : Int64) (u177 : PoS) => (((lg_cmp s4 r176) = 0 → wj_L_law_1626 L xs k18 post v3 u177) ∧ (¬ (lg_cmp s4 r176) = 0 → post 0 u177)))
def wj_L_law_1345 (L : Nat) (xs : Nat → Int32) (k18 : Int32 → PoS → Prop) (post : Int32 → PoS → Prop) (v3 : Int32) (s0 : Int32) (s1 : Int32) (s2 : Int32) (u : PoS) : Prop := wp_X11_likely s2 s1 s0 u (fun (r174 : Int64) (u175 : PoS) => vp_in (v3 + 1) L ∧ vp_in (v3 + 2) L ∧ vp_in (v3 + 3) L ∧ (((xs (Int32.toNatClampNeg (v3 + 3))) = 0 → wj_L_law_1372 L xs k18 post v3 0 (xs (Int32.toNatClampNeg (v3 + 2))) (xs (Int32.toNatClampNeg (v3 + 1))) r174 u175) ∧ (¬ (xs (Int32.toNatClampNeg (v3 + 3))) = 0 → wj_L_law_1372 L xs k18 post v3 1 (xs (Int32.toNatClampNeg (v3 + 2))) (xs (Int32.toNatClampNeg (v3 + 1))) r174 u175)))
def wj_L_law_1412 (L : Nat) (xs : Nat → Int32) (k18 : Int32 → PoS → Prop) (post : Int32 → PoS → Prop) (v3 : Int32) (s0 : Int32) (s2 : Int32) (u : PoS) : Prop := wp_X12_days s0 u (fun (r183 : Int32) (u184 : PoS) => ((s2 = r183 → wj_L_law_1626 L xs k18 post v3 u184) ∧ (¬ s2 = r183 → post 0 u184)))
def wj_L_law_1395 (L : Nat) (xs : Nat → Int32) (k18 : Int32 → PoS → Prop) (post : Int32 → PoS → Prop) (v3 : Int32) (s0 : Int32) (u : PoS) : Prop := wp_X11_days s0 u (fun (r181 : Int32) (u182 : PoS) => vp_in (v3 + 1) L ∧ (((xs (Int32.toNatClampNeg (v3 + 1))) = 0 → wj_L_law_1412 L xs k18 post v3 0 r181 u182) ∧ (¬ (xs (Int32.toNatClampNeg (v3 + 1))) = 0 → wj_L_law_1412 L xs k18 post v3 1 r181 u182)))
def wj_L_law_1497 (L : Nat) (xs : Nat → Int32) (k18 : Int32 → PoS → Prop) (post : Int32 → PoS → Prop) (v3 : Int32) (s0 : Int32) (s2 : Int32) (u : PoS) : Prop := wp_X12_thirsty s0 u (fun (r200 : Int32) (u201 : PoS) => ((s2 = r200 → wj_L_law_1626 L xs k18 post v3 u201) ∧ (¬ s2 = r200 → post 0 u201)))
def wj_L_law_1480 (L : Nat) (xs : Nat → Int32) (k18 : Int32 → PoS → Prop) (post : Int32 → PoS → Prop) (v3 : Int32) (s0 : Int32) (u : PoS) : Prop := wp_X11_thirsty s0 u (fun (r198 : Int32) (u199 : PoS) => vp_in (v3 + 1) L ∧ (((xs (Int32.toNatClampNeg (v3 + 1))) = 0 → wj_L_law_1497 L xs k18 post v3 0 r198 u199) ∧ (¬ (xs (Int32.toNatClampNeg (v3 + 1))) = 0 → wj_L_law_1497 L xs k18 post v3 1 r198 u199)))
def wl_L_law_18 (L : Nat) (xs : Nat → Int32) (post : Int32 → PoS → Prop) : Nat → Int32 → PoS → Prop
  | 0, _, _ => False
  | n + 1, v3, u => ((((nI L) - 6) < v3 → post 1 u) ∧ (¬ ((nI L) - 6) < v3 → vp_in v3 L ∧ ((((xs (Int32.toNatClampNeg v3)) &&& 63) = 0 → vp_in (v3 + 1) L ∧ vp_in (v3 + 2) L ∧ (((xs (Int32.toNatClampNeg (v3 + 2))) = 0 → wj_L_law_247 L xs (wl_L_law_18 L xs post n) post v3 0 (xs (Int32.toNatClampNeg (v3 + 1))) u) ∧ (¬ (xs (Int32.toNatClampNeg (v3 + 2))) = 0 → wj_L_law_247 L xs (wl_L_law_18 L xs post n) post v3 1 (xs (Int32.toNatClampNeg (v3 + 1))) u))) ∧ (((xs (Int32.toNatClampNeg v3)) &&& 63) = 1 → vp_in (v3 + 1) L ∧ vp_in (v3 + 2) L ∧ wp_X11_field (xs (Int32.toNatClampNeg (v3 + 1))) (xs (Int32.toNatClampNeg (v3 + 2))) u (fun (r8 : Int32) (u9 : PoS) => vp_in (v3 + 1) L ∧ vp_in (v3 + 2) L ∧ wp_X12_field (xs (Int32.toNatClampNeg (v3 + 1))) (xs (Int32.toNatClampNeg (v3 + 2))) u9 (fun (r10 : Int32) (u11 : PoS) => ((r8 = r10 → wj_L_law_1626 L xs (wl_L_law_18 L xs post n) post v3 u11) ∧ (¬ r8 = r10 → post 0 u11))))) ∧ (((xs (Int32.toNatClampNeg v3)) &&& 63) = 2 → vp_in (v3 + 1) L ∧ vp_in (v3 + 2) L ∧ (((xs (Int32.toNatClampNeg (v3 + 2))) = 0 → wj_L_law_329 L xs (wl_L_law_18 L xs post n) post v3 0 (xs (Int32.toNatClampNeg (v3 + 1))) u) ∧ (¬ (xs (Int32.toNatClampNeg (v3 + 2))) = 0 → wj_L_law_329 L xs (wl_L_law_18 L xs post n) post v3 1 (xs (Int32.toNatClampNeg (v3 + 1))) u))) ∧ (((xs (Int32.toNatClampNeg v3)) &&& 63) = 3 → vp_in (v3 + 1) L ∧ vp_in (v3 + 2) L ∧ vp_in (v3 + 3) L ∧ vp_in (v3 + 4) L ∧ vp_in (v3 + 5) L ∧ wp_X11_feed (xs (Int32.toNatClampNeg (v3 + 1))) (xs (Int32.toNatClampNeg (v3 + 2))) (xs (Int32.toNatClampNeg (v3 + 3))) (xs (Int32.toNatClampNeg (v3 + 4))) (xs (Int32.toNatClampNeg (v3 + 5))) u (fun (r20 : Int32) (u21 : PoS) => vp_in (v3 + 1) L ∧ vp_in (v3 + 2) L ∧ vp_in (v3 + 3) L ∧ vp_in (v3 + 4) L ∧ vp_in (v3 + 5) L ∧ wp_X12_feed (xs (Int32.toNatClampNeg (v3 + 1))) (xs (Int32.toNatClampNeg (v3 + 2))) (xs (Int32.toNatClampNeg (v3 + 3))) (xs (Int32.toNatClampNeg (v3 + 4))) (xs (Int32.toNatClampNeg (v3 + 5))) u21 (fun (r22 : Int32) (u23 : PoS) => ((r20 = r22 → wj_L_law_1626 L xs (wl_L_law_18 L xs post n) post v3 u23) ∧ (¬ r20 = r22 → post 0 u23))))) ∧ (((xs (Int32.toNatClampNeg v3)) &&& 63) = 4 → vp_in (v3 + 1) L ∧ wp_X11_end (xs (Int32.toNatClampNeg (v3 + 1))) u (fun (r25 : Int32) (u26 : PoS) => vp_in (v3 + 1) L ∧ wp_X12_end (xs (Int32.toNatClampNeg (v3 + 1))) u26 (fun (r27 : Int32) (u28 : PoS) => ((r25 = r27 → wj_L_law_1626 L xs (wl_L_law_18 L xs post n) post v3 u28) ∧ (¬ r25 = r27 → post 0 u28))))) ∧ (((xs (Int32.toNatClampNeg v3)) &&& 63) = 5 → wp_X11_text u (fun (r30 : Int32) (u31 : PoS) => wp_X12_text u31 (fun (r32 : Int32) (u33 : PoS) => ((r30 = r32 → wj_L_law_1626 L xs (wl_L_law_18 L xs post n) post v3 u33) ∧ (¬ r30 = r32 → post 0 u33))))) ∧ (((xs (Int32.toNatClampNeg v3)) &&& 63) = 6 → vp_in (v3 + 1) L ∧ wp_X11_fault (xs (Int32.toNatClampNeg (v3 + 1))) u (fun (r35 : Int32) (u36 : PoS) => vp_in (v3 + 1) L ∧ wp_X12_fault (xs (Int32.toNatClampNeg (v3 + 1))) u36 (fun (r37 : Int32) (u38 : PoS) => ((r35 = r37 → wj_L_law_1626 L xs (wl_L_law_18 L xs post n) post v3 u38) ∧ (¬ r35 = r37 → post 0 u38))))) ∧ (((xs (Int32.toNatClampNeg v3)) &&& 63) = 7 → vp_in (v3 + 1) L ∧ wp_X11_by (xs (Int32.toNatClampNeg (v3 + 1))) u (fun (r40 : Int32) (u41 : PoS) => vp_in (v3 + 1) L ∧ wp_X12_by (xs (Int32.toNatClampNeg (v3 + 1))) u41 (fun (r42 : Int32) (u43 : PoS) => ((r40 = r42 → wj_L_law_1626 L xs (wl_L_law_18 L xs post n) post v3 u43) ∧ (¬ r40 = r42 → post 0 u43))))) ∧ (((xs (Int32.toNatClampNeg v3)) &&& 63) = 8 → vp_in (v3 + 1) L ∧ vp_in (v3 + 2) L ∧ wp_X11_walk (xs (Int32.toNatClampNeg (v3 + 1))) (xs (Int32.toNatClampNeg (v3 + 2))) u (fun (r45 : Int32) (u46 : PoS) => vp_in (v3 + 1) L ∧ vp_in (v3 + 2) L ∧ wp_X12_walk (xs (Int32.toNatClampNeg (v3 + 1))) (xs (Int32.toNatClampNeg (v3 + 2))) u46 (fun (r47 : Int32) (u48 : PoS) => ((r45 = r47 → wj_L_law_1626 L xs (wl_L_law_18 L xs post n) post v3 u48) ∧ (¬ r45 = r47 → post 0 u48))))) ∧ (((xs (Int32.toNatClampNeg v3)) &&& 63) = 9 → vp_in (v3 + 1) L ∧ vp_in (v3 + 2) L ∧ (((xs (Int32.toNatClampNeg (v3 + 2))) = 0 → wj_L_law_556 L xs (wl_L_law_18 L xs post n) post v3 0 (xs (Int32.toNatClampNeg (v3 + 1))) u) ∧ (¬ (xs (Int32.toNatClampNeg (v3 + 2))) = 0 → wj_L_law_556 L xs (wl_L_law_18 L xs post n) post v3 1 (xs (Int32.toNatClampNeg (v3 + 1))) u))) ∧ (((xs (Int32.toNatClampNeg v3)) &&& 63) = 10 → wp_X11_draw u (fun (r57 : Int32) (u58 : PoS) => wp_X12_draw u58 (fun (r59 : Int32) (u60 : PoS) => ((r57 = r59 → wj_L_law_1626 L xs (wl_L_law_18 L xs post n) post v3 u60) ∧ (¬ r57 = r59 → post 0 u60))))) ∧ (((xs (Int32.toNatClampNeg v3)) &&& 63) = 11 → vp_in (v3 + 1) L ∧ wp_X11_minute (xs (Int32.toNatClampNeg (v3 + 1))) u (fun (r62 : Int32) (u63 : PoS) => vp_in (v3 + 1) L ∧ wp_X12_minute (xs (Int32.toNatClampNeg (v3 + 1))) u63 (fun (r64 : Int32) (u65 : PoS) => ((r62 = r64 → wj_L_law_1626 L xs (wl_L_law_18 L xs post n) post v3 u65) ∧ (¬ r62 = r64 → post 0 u65))))) ∧ (((xs (Int32.toNatClampNeg v3)) &&& 63) = 12 → vp_in (v3 + 1) L ∧ wp_X11_played (xs (Int32.toNatClampNeg (v3 + 1))) u (fun (r67 : Int32) (u68 : PoS) => vp_in (v3 + 1) L ∧ wp_X12_played (xs (Int32.toNatClampNeg (v3 + 1))) u68 (fun (r69 : Int32) (u70 : PoS) => ((r67 = r69 → wj_L_law_1626 L xs (wl_L_law_18 L xs post n) post v3 u70) ∧ (¬ r67 = r69 → post 0 u70))))) ∧ (((xs (Int32.toNatClampNeg v3)) &&& 63) = 13 → vp_in (v3 + 1) L ∧ vp_in (v3 + 2) L ∧ wp_X11_years (xs (Int32.toNatClampNeg (v3 + 1))) (xs (Int32.toNatClampNeg (v3 + 2))) u (fun (r72 : Int32) (u73 : PoS) => vp_in (v3 + 1) L ∧ vp_in (v3 + 2) L ∧ wp_X12_years (xs (Int32.toNatClampNeg (v3 + 1))) (xs (Int32.toNatClampNeg (v3 + 2))) u73 (fun (r74 : Int32) (u75 : PoS) => ((r72 = r74 → wj_L_law_1626 L xs (wl_L_law_18 L xs post n) post v3 u75) ∧ (¬ r72 = r74 → post 0 u75))))) ∧ (((xs (Int32.toNatClampNeg v3)) &&& 63) = 14 → wp_X11_undo u (fun (r77 : Int32) (u78 : PoS) => wp_X12_undo u78 (fun (r79 : Int32) (u80 : PoS) => ((r77 = r79 → wj_L_law_1626 L xs (wl_L_law_18 L xs post n) post v3 u80) ∧ (¬ r77 = r79 → post 0 u80))))) ∧ (((xs (Int32.toNatClampNeg v3)) &&& 63) = 15 → vp_in (v3 + 1) L ∧ vp_in (v3 + 2) L ∧ wp_X11_of (xs (Int32.toNatClampNeg (v3 + 1))) (xs (Int32.toNatClampNeg (v3 + 2))) u (fun (r82 : Int32) (u83 : PoS) => vp_in (v3 + 1) L ∧ vp_in (v3 + 2) L ∧ wp_X12_of (xs (Int32.toNatClampNeg (v3 + 1))) (xs (Int32.toNatClampNeg (v3 + 2))) u83 (fun (r84 : Int32) (u85 : PoS) => ((r82 = r84 → wj_L_law_1626 L xs (wl_L_law_18 L xs post n) post v3 u85) ∧ (¬ r82 = r84 → post 0 u85))))) ∧ (((xs (Int32.toNatClampNeg v3)) &&& 63) = 16 → vp_in (v3 + 1) L ∧ vp_in (v3 + 2) L ∧ wp_X11_ofCell (xs (Int32.toNatClampNeg (v3 + 1))) (xs (Int32.toNatClampNeg (v3 + 2))) u (fun (r87 : Int32) (u88 : PoS) => vp_in (v3 + 1) L ∧ vp_in (v3 + 2) L ∧ wp_X12_ofCell (xs (Int32.toNatClampNeg (v3 + 1))) (xs (Int32.toNatClampNeg (v3 + 2))) u88 (fun (r89 : Int32) (u90 : PoS) => ((r87 = r89 → wj_L_law_1626 L xs (wl_L_law_18 L xs post n) post v3 u90) ∧ (¬ r87 = r89 → post 0 u90))))) ∧ (((xs (Int32.toNatClampNeg v3)) &&& 63) = 17 → vp_in (v3 + 1) L ∧ wp_X11_is (xs (Int32.toNatClampNeg (v3 + 1))) u (fun (r92 : Int32) (u93 : PoS) => vp_in (v3 + 1) L ∧ wp_X12_is (xs (Int32.toNatClampNeg (v3 + 1))) u93 (fun (r94 : Int32) (u95 : PoS) => ((r92 = r94 → wj_L_law_1626 L xs (wl_L_law_18 L xs post n) post v3 u95) ∧ (¬ r92 = r94 → post 0 u95))))) ∧ (((xs (Int32.toNatClampNeg v3)) &&& 63) = 18 → vp_in (v3 + 1) L ∧ vp_in (v3 + 2) L ∧ wp_X11_book (xs (Int32.toNatClampNeg (v3 + 1))) (xs (Int32.toNatClampNeg (v3 + 2))) u (fun (r97 : Int32) (u98 : PoS) => vp_in (v3 + 1) L ∧ vp_in (v3 + 2) L ∧ wp_X12_book (xs (Int32.toNatClampNeg (v3 + 1))) (xs (Int32.toNatClampNeg (v3 + 2))) u98 (fun (r99 : Int32) (u100 : PoS) => ((r97 = r99 → wj_L_law_1626 L xs (wl_L_law_18 L xs post n) post v3 u100) ∧ (¬ r97 = r99 → post 0 u100))))) ∧ (((xs (Int32.toNatClampNeg v3)) &&& 63) = 19 → vp_in (v3 + 1) L ∧ vp_in (v3 + 2) L ∧ vp_in (v3 + 3) L ∧ wp_X11_foretold (xs (Int32.toNatClampNeg (v3 + 1))) (xs (Int32.toNatClampNeg (v3 + 2))) (xs (Int32.toNatClampNeg (v3 + 3))) u (fun (r102 : Int32) (u103 : PoS) => vp_in (v3 + 1) L ∧ vp_in (v3 + 2) L ∧ vp_in (v3 + 3) L ∧ wp_X12_foretold (xs (Int32.toNatClampNeg (v3 + 1))) (xs (Int32.toNatClampNeg (v3 + 2))) (xs (Int32.toNatClampNeg (v3 + 3))) u103 (fun (r104 : Int32) (u105 : PoS) => ((r102 = r104 → wj_L_law_1626 L xs (wl_L_law_18 L xs post n) post v3 u105) ∧ (¬ r102 = r104 → post 0 u105))))) ∧ (((xs (Int32.toNatClampNeg v3)) &&& 63) = 20 → vp_in (v3 + 1) L ∧ wp_X11_when (xs (Int32.toNatClampNeg (v3 + 1))) u (fun (r107 : Int32) (u108 : PoS) => vp_in (v3 + 1) L ∧ wp_X12_when (xs (Int32.toNatClampNeg (v3 + 1))) u108 (fun (r109 : Int32) (u110 : PoS) => ((r107 = r109 → wj_L_law_1626 L xs (wl_L_law_18 L xs post n) post v3 u110) ∧ (¬ r107 = r109 → post 0 u110))))) ∧ (((xs (Int32.toNatClampNeg v3)) &&& 63) = 21 → vp_in (v3 + 1) L ∧ vp_in (v3 + 2) L ∧ wp_X11_steps (xs (Int32.toNatClampNeg (v3 + 1))) (xs (Int32.toNatClampNeg (v3 + 2))) u (fun (r112 : Int32) (u113 : PoS) => vp_in (v3 + 1) L ∧ vp_in (v3 + 2) L ∧ wp_X12_steps (xs (Int32.toNatClampNeg (v3 + 1))) (xs (Int32.toNatClampNeg (v3 + 2))) u113 (fun (r114 : Int32) (u115 : PoS) => ((r112 = r114 → wj_L_law_1626 L xs (wl_L_law_18 L xs post n) post v3 u115) ∧ (¬ r112 = r114 → post 0 u115))))) ∧ (((xs (Int32.toNatClampNeg v3)) &&& 63) = 22 → vp_in (v3 + 1) L ∧ vp_in (v3 + 2) L ∧ vp_in (v3 + 3) L ∧ wp_X11_way (xs (Int32.toNatClampNeg (v3 + 1))) (xs (Int32.toNatClampNeg (v3 + 2))) (xs (Int32.toNatClampNeg (v3 + 3))) u (fun (r117 : Int32) (u118 : PoS) => vp_in (v3 + 1) L ∧ vp_in (v3 + 2) L ∧ vp_in (v3 + 3) L ∧ wp_X12_way (xs (Int32.toNatClampNeg (v3 + 1))) (xs (Int32.toNatClampNeg (v3 + 2))) (xs (Int32.toNatClampNeg (v3 + 3))) u118 (fun (r119 : Int32) (u120 : PoS) => ((r117 = r119 → wj_L_law_1626 L xs (wl_L_law_18 L xs post n) post v3 u120) ∧ (¬ r117 = r119 → post 0 u120))))) ∧ (((xs (Int32.toNatClampNeg v3)) &&& 63) = 23 → vp_in (v3 + 1) L ∧ vp_in (v3 + 2) L ∧ vp_in (v3 + 3) L ∧ wp_X11_caught (xs (Int32.toNatClampNeg (v3 + 1))) (xs (Int32.toNatClampNeg (v3 + 2))) (xs (Int32.toNatClampNeg (v3 + 3))) u (fun (r122 : Int32) (u123 : PoS) => vp_in (v3 + 1) L ∧ vp_in (v3 + 2) L ∧ vp_in (v3 + 3) L ∧ wp_X12_caught (xs (Int32.toNatClampNeg (v3 + 1))) (xs (Int32.toNatClampNeg (v3 + 2))) (xs (Int32.toNatClampNeg (v3 + 3))) u123 (fun (r124 : Int32) (u125 : PoS) => ((r122 = r124 → wj_L_law_1626 L xs (wl_L_law_18 L xs post n) post v3 u125) ∧ (¬ r122 = r124 → post 0 u125))))) ∧ (((xs (Int32.toNatClampNeg v3)) &&& 63) = 24 → vp_in (v3 + 1) L ∧ vp_in (v3 + 2) L ∧ vp_in (v3 + 3) L ∧ wp_X11_flee (xs (Int32.toNatClampNeg (v3 + 1))) (xs (Int32.toNatClampNeg (v3 + 2))) (xs (Int32.toNatClampNeg (v3 + 3))) u (fun (r127 : Int32) (u128 : PoS) => vp_in (v3 + 1) L ∧ vp_in (v3 + 2) L ∧ vp_in (v3 + 3) L ∧ wp_X12_flee (xs (Int32.toNatClampNeg (v3 + 1))) (xs (Int32.toNatClampNeg (v3 + 2))) (xs (Int32.toNatClampNeg (v3 + 3))) u128 (fun (r129 : Int32) (u130 : PoS) => ((r127 = r129 → wj_L_law_1626 L xs (wl_L_law_18 L xs post n) post v3 u130) ∧ (¬ r127 = r129 → post 0 u130))))) ∧ (((xs (Int32.toNatClampNeg v3)) &&& 63) = 25 → vp_in (v3 + 1) L ∧ vp_in (v3 + 2) L ∧ vp_in (v3 + 3) L ∧ wp_X11_tour (xs (Int32.toNatClampNeg (v3 + 1))) (xs (Int32.toNatClampNeg (v3 + 2))) (xs (Int32.toNatClampNeg (v3 + 3))) u (fun (r132 : Int32) (u133 : PoS) => vp_in (v3 + 1) L ∧ vp_in (v3 + 2) L ∧ vp_in (v3 + 3) L ∧ wp_X12_tour (xs (Int32.toNatClampNeg (v3 + 1))) (xs (Int32.toNatClampNeg (v3 + 2))) (xs (Int32.toNatClampNeg (v3 + 3))) u133 (fun (r134 : Int32) (u135 : PoS) => ((r132 = r134 → wj_L_law_1626 L xs (wl_L_law_18 L xs post n) post v3 u135) ∧ (¬ r132 = r134 → post 0 u135))))) ∧ (((xs (Int32.toNatClampNeg v3)) &&& 63) = 26 → vp_in (v3 + 1) L ∧ vp_in (v3 + 2) L ∧ wp_X11_cut (xs (Int32.toNatClampNeg (v3 + 1))) (xs (Int32.toNatClampNeg (v3 + 2))) u (fun (r137 : Int32) (u138 : PoS) => vp_in (v3 + 1) L ∧ vp_in (v3 + 2) L ∧ wp_X12_cut (xs (Int32.toNatClampNeg (v3 + 1))) (xs (Int32.toNatClampNeg (v3 + 2))) u138 (fun (r139 : Int32) (u140 : PoS) => ((r137 = r139 → wj_L_law_1626 L xs (wl_L_law_18 L xs post n) post v3 u140) ∧ (¬ r137 = r139 → post 0 u140))))) ∧ (((xs (Int32.toNatClampNeg v3)) &&& 63) = 27 → wp_X11_narrows u (fun (r142 : Int32) (u143 : PoS) => wp_X12_narrows u143 (fun (r144 : Int32) (u145 : PoS) => ((r142 = r144 → wj_L_law_1626 L xs (wl_L_law_18 L xs post n) post v3 u145) ∧ (¬ r142 = r144 → post 0 u145))))) ∧ (((xs (Int32.toNatClampNeg v3)) &&& 63) = 28 → vp_in (v3 + 1) L ∧ vp_in (v3 + 2) L ∧ vp_in (v3 + 3) L ∧ wp_X11_cost (xs (Int32.toNatClampNeg (v3 + 1))) (xs (Int32.toNatClampNeg (v3 + 2))) (xs (Int32.toNatClampNeg (v3 + 3))) u (fun (r147 : Int32) (u148 : PoS) => vp_in (v3 + 1) L ∧ vp_in (v3 + 2) L ∧ vp_in (v3 + 3) L ∧ wp_X12_cost (xs (Int32.toNatClampNeg (v3 + 1))) (xs (Int32.toNatClampNeg (v3 + 2))) (xs (Int32.toNatClampNeg (v3 + 3))) u148 (fun (r149 : Int32) (u150 : PoS) => ((r147 = r149 → wj_L_law_1626 L xs (wl_L_law_18 L xs post n) post v3 u150) ∧ (¬ r147 = r149 → post 0 u150))))) ∧ (((xs (Int32.toNatClampNeg v3)) &&& 63) = 29 → vp_in (v3 + 1) L ∧ vp_in (v3 + 2) L ∧ wp_X11_roster (xs (Int32.toNatClampNeg (v3 + 1))) (xs (Int32.toNatClampNeg (v3 + 2))) u (fun (r152 : Int32) (u153 : PoS) => vp_in (v3 + 1) L ∧ vp_in (v3 + 2) L ∧ wp_X12_roster (xs (Int32.toNatClampNeg (v3 + 1))) (xs (Int32.toNatClampNeg (v3 + 2))) u153 (fun (r154 : Int32) (u155 : PoS) => ((r152 = r154 → wj_L_law_1626 L xs (wl_L_law_18 L xs post n) post v3 u155) ∧ (¬ r152 = r154 → post 0 u155))))) ∧ (((xs (Int32.toNatClampNeg v3)) &&& 63) = 30 → vp_in (v3 + 1) L ∧ vp_in (v3 + 2) L ∧ vp_in (v3 + 3) L ∧ wp_X11_swap (xs (Int32.toNatClampNeg (v3 + 1))) (xs (Int32.toNatClampNeg (v3 + 2))) (xs (Int32.toNatClampNeg (v3 + 3))) u (fun (r157 : Int32) (u158 : PoS) => vp_in (v3 + 1) L ∧ vp_in (v3 + 2) L ∧ vp_in (v3 + 3) L ∧ wp_X12_swap (xs (Int32.toNatClampNeg (v3 + 1))) (xs (Int32.toNatClampNeg (v3 + 2))) (xs (Int32.toNatClampNeg (v3 + 3))) u158 (fun (r159 : Int32) (u160 : PoS) => ((r157 = r159 → wj_L_law_1626 L xs (wl_L_law_18 L xs post n) post v3 u160) ∧ (¬ r157 = r159 → post 0 u160))))) ∧ (((xs (Int32.toNatClampNeg v3)) &&& 63) = 31 → vp_in (v3 + 1) L ∧ vp_in (v3 + 2) L ∧ wp_X11_seen (xs (Int32.toNatClampNeg (v3 + 1))) (xs (Int32.toNatClampNeg (v3 + 2))) u (fun (r162 : Int32) (u163 : PoS) => vp_in (v3 + 1) L ∧ vp_in (v3 + 2) L ∧ wp_X12_seen (xs (Int32.toNatClampNeg (v3 + 1))) (xs (Int32.toNatClampNeg (v3 + 2))) u163 (fun (r164 : Int32) (u165 : PoS) => ((r162 = r164 → wj_L_law_1626 L xs (wl_L_law_18 L xs post n) post v3 u165) ∧ (¬ r162 = r164 → post 0 u165))))) ∧ (((xs (Int32.toNatClampNeg v3)) &&& 63) = 32 → vp_in (v3 + 1) L ∧ (((xs (Int32.toNatClampNeg (v3 + 1))) = 0 → wj_L_law_1296 L xs (wl_L_law_18 L xs post n) post v3 0 u) ∧ (¬ (xs (Int32.toNatClampNeg (v3 + 1))) = 0 → wj_L_law_1296 L xs (wl_L_law_18 L xs post n) post v3 1 u))) ∧ (((xs (Int32.toNatClampNeg v3)) &&& 63) = 33 → vp_in (v3 + 1) L ∧ vp_in (v3 + 2) L ∧ vp_in (v3 + 3) L ∧ (((xs (Int32.toNatClampNeg (v3 + 3))) = 0 → wj_L_law_1345 L xs (wl_L_law_18 L xs post n) post v3 0 (xs (Int32.toNatClampNeg (v3 + 2))) (xs (Int32.toNatClampNeg (v3 + 1))) u) ∧ (¬ (xs (Int32.toNatClampNeg (v3 + 3))) = 0 → wj_L_law_1345 L xs (wl_L_law_18 L xs post n) post v3 1 (xs (Int32.toNatClampNeg (v3 + 2))) (xs (Int32.toNatClampNeg (v3 + 1))) u))) ∧ (((xs (Int32.toNatClampNeg v3)) &&& 63) = 34 → vp_in (v3 + 1) L ∧ (((xs (Int32.toNatClampNeg (v3 + 1))) = 0 → wj_L_law_1395 L xs (wl_L_law_18 L xs post n) post v3 0 u) ∧ (¬ (xs (Int32.toNatClampNeg (v3 + 1))) = 0 → wj_L_law_1395 L xs (wl_L_law_18 L xs post n) post v3 1 u))) ∧ (((xs (Int32.toNatClampNeg v3)) &&& 63) = 35 → vp_in (v3 + 1) L ∧ vp_in (v3 + 2) L ∧ wp_X11_said (xs (Int32.toNatClampNeg (v3 + 1))) (xs (Int32.toNatClampNeg (v3 + 2))) u (fun (r188 : Int32) (u189 : PoS) => vp_in (v3 + 1) L ∧ vp_in (v3 + 2) L ∧ wp_X12_said (xs (Int32.toNatClampNeg (v3 + 1))) (xs (Int32.toNatClampNeg (v3 + 2))) u189 (fun (r190 : Int32) (u191 : PoS) => ((r188 = r190 → wj_L_law_1626 L xs (wl_L_law_18 L xs post n) post v3 u191) ∧ (¬ r188 = r190 → post 0 u191))))) ∧ (((xs (Int32.toNatClampNeg v3)) &&& 63) = 36 → wp_X11_whose u (fun (r193 : Int32) (u194 : PoS) => wp_X12_whose u194 (fun (r195 : Int32) (u196 : PoS) => ((r193 = r195 → wj_L_law_1626 L xs (wl_L_law_18 L xs post n) post v3 u196) ∧ (¬ r193 = r195 → post 0 u196))))) ∧ (((xs (Int32.toNatClampNeg v3)) &&& 63) = 37 → vp_in (v3 + 1) L ∧ (((xs (Int32.toNatClampNeg (v3 + 1))) = 0 → wj_L_law_1480 L xs (wl_L_law_18 L xs post n) post v3 0 u) ∧ (¬ (xs (Int32.toNatClampNeg (v3 + 1))) = 0 → wj_L_law_1480 L xs (wl_L_law_18 L xs post n) post v3 1 u))) ∧ (((xs (Int32.toNatClampNeg v3)) &&& 63) = 38 → wp_X11_driest u (fun (r205 : Int32) (u206 : PoS) => wp_X12_driest u206 (fun (r207 : Int32) (u208 : PoS) => ((r205 = r207 → wj_L_law_1626 L xs (wl_L_law_18 L xs post n) post v3 u208) ∧ (¬ r205 = r207 → post 0 u208))))) ∧ (((xs (Int32.toNatClampNeg v3)) &&& 63) = 39 → wp_X11_wettest u (fun (r210 : Int32) (u211 : PoS) => wp_X12_wettest u211 (fun (r212 : Int32) (u213 : PoS) => ((r210 = r212 → wj_L_law_1626 L xs (wl_L_law_18 L xs post n) post v3 u213) ∧ (¬ r210 = r212 → post 0 u213))))) ∧ (((xs (Int32.toNatClampNeg v3)) &&& 63) = 40 → vp_in (v3 + 1) L ∧ wp_X11_near (xs (Int32.toNatClampNeg (v3 + 1))) u (fun (r215 : Int32) (u216 : PoS) => vp_in (v3 + 1) L ∧ wp_X12_near (xs (Int32.toNatClampNeg (v3 + 1))) u216 (fun (r217 : Int32) (u218 : PoS) => ((r215 = r217 → wj_L_law_1626 L xs (wl_L_law_18 L xs post n) post v3 u218) ∧ (¬ r215 = r217 → post 0 u218))))) ∧ (((xs (Int32.toNatClampNeg v3)) &&& 63) = 41 → vp_in (v3 + 1) L ∧ wp_X11_ledger (xs (Int32.toNatClampNeg (v3 + 1))) u (fun (r220 : Int32) (u221 : PoS) => vp_in (v3 + 1) L ∧ wp_X12_ledger (xs (Int32.toNatClampNeg (v3 + 1))) u221 (fun (r222 : Int32) (u223 : PoS) => ((r220 = r222 → wj_L_law_1626 L xs (wl_L_law_18 L xs post n) post v3 u223) ∧ (¬ r220 = r222 → post 0 u223))))) ∧ (((xs (Int32.toNatClampNeg v3)) &&& 63) = 42 → wp_X11_image u (fun (r225 : Int32) (u226 : PoS) => wp_X12_image u226 (fun (r227 : Int32) (u228 : PoS) => ((r225 = r227 → wj_L_law_1626 L xs (wl_L_law_18 L xs post n) post v3 u228) ∧ (¬ r225 = r227 → post 0 u228))))) ∧ (((xs (Int32.toNatClampNeg v3)) &&& 63) = 43 → wp_X11_back u (fun (r230 : Int32) (u231 : PoS) => wp_X12_back u231 (fun (r232 : Int32) (u233 : PoS) => ((r230 = r232 → wj_L_law_1626 L xs (wl_L_law_18 L xs post n) post v3 u233) ∧ (¬ r230 = r232 → post 0 u233))))) ∧ (((xs (Int32.toNatClampNeg v3)) &&& 63) = 44 → vp_in (v3 + 1) L ∧ wp_X11_about (xs (Int32.toNatClampNeg (v3 + 1))) u (fun (r235 : Int32) (u236 : PoS) => vp_in (v3 + 1) L ∧ wp_X12_about (xs (Int32.toNatClampNeg (v3 + 1))) u236 (fun (r237 : Int32) (u238 : PoS) => ((r235 = r237 → wj_L_law_1626 L xs (wl_L_law_18 L xs post n) post v3 u238) ∧ (¬ r235 = r237 → post 0 u238))))) ∧ (¬ ((xs (Int32.toNatClampNeg v3)) &&& 63) = 0 → ¬ ((xs (Int32.toNatClampNeg v3)) &&& 63) = 1 → ¬ ((xs (Int32.toNatClampNeg v3)) &&& 63) = 2 → ¬ ((xs (Int32.toNatClampNeg v3)) &&& 63) = 3 → ¬ ((xs (Int32.toNatClampNeg v3)) &&& 63) = 4 → ¬ ((xs (Int32.toNatClampNeg v3)) &&& 63) = 5 → ¬ ((xs (Int32.toNatClampNeg v3)) &&& 63) = 6 → ¬ ((xs (Int32.toNatClampNeg v3)) &&& 63) = 7 → ¬ ((xs (Int32.toNatClampNeg v3)) &&& 63) = 8 → ¬ ((xs (Int32.toNatClampNeg v3)) &&& 63) = 9 → ¬ ((xs (Int32.toNatClampNeg v3)) &&& 63) = 10 → ¬ ((xs (Int32.toNatClampNeg v3)) &&& 63) = 11 → ¬ ((xs (Int32.toNatClampNeg v3)) &&& 63) = 12 → ¬ ((xs (Int32.toNatClampNeg v3)) &&& 63) = 13 → ¬ ((xs (Int32.toNatClampNeg v3)) &&& 63) = 14 → ¬ ((xs (Int32.toNatClampNeg v3)) &&& 63) = 15 → ¬ ((xs (Int32.toNatClampNeg v3)) &&& 63) = 16 → ¬ ((xs (Int32.toNatClampNeg v3)) &&& 63) = 17 → ¬ ((xs (Int32.toNatClampNeg v3)) &&& 63) = 18 → ¬ ((xs (Int32.toNatClampNeg v3)) &&& 63) = 19 → ¬ ((xs (Int32.toNatClampNeg v3)) &&& 63) = 20 → ¬ ((xs (Int32.toNatClampNeg v3)) &&& 63) = 21 → ¬ ((xs (Int32.toNatClampNeg v3)) &&& 63) = 22 → ¬ ((xs (Int32.toNatClampNeg v3)) &&& 63) = 23 → ¬ ((xs (Int32.toNatClampNeg v3)) &&& 63) = 24 → ¬ ((xs (Int32.toNatClampNeg v3)) &&& 63) = 25 → ¬ ((xs (Int32.toNatClampNeg v3)) &&& 63) = 26 → ¬ ((xs (Int32.toNatClampNeg v3)) &&& 63) = 27 → ¬ ((xs (Int32.toNatClampNeg v3)) &&& 63) = 28 → ¬ ((xs (Int32.toNatClampNeg v3)) &&& 63) = 29 → ¬ ((xs (Int32.toNatClampNeg v3)) &&& 63) = 30 → ¬ ((xs (Int32.toNatClampNeg v3)) &&& 63) = 31 → ¬ ((xs (Int32.toNatClampNeg v3)) &&& 63) = 32 → ¬ ((xs (Int32.toNatClampNeg v3)) &&& 63) = 33 → ¬ ((xs (Int32.toNatClampNeg v3)) &&& 63) = 34 → ¬ ((xs (Int32.toNatClampNeg v3)) &&& 63) = 35 → ¬ ((xs (Int32.toNatClampNeg v3)) &&& 63) = 36 → ¬ ((xs (Int32.toNatClampNeg v3)) &&& 63) = 37 → ¬ ((xs (Int32.toNatClampNeg v3)) &&& 63) = 38 → ¬ ((xs (Int32.toNatClampNeg v3)) &&& 63) = 39 → ¬ ((xs (Int32.toNatClampNeg v3)) &&& 63) = 40 → ¬ ((xs (Int32.toNatClampNeg v3)) &&& 63) = 41 → ¬ ((xs (Int32.toNatClampNeg v3)) &&& 63) = 42 → ¬ ((xs (Int32.toNatClampNeg v3)) &&& 63) = 43 → ¬ ((xs (Int32.toNatClampNeg v3)) &&& 63) = 44 → wj_L_law_1626 L xs (wl_L_law_18 L xs post n) post v3 u))))
set_option maxHeartbeats 4000000 in
set_option maxRecDepth 100000 in
theorem tj_L_law_1626 {p : Program} {l : Launch} {e : Env} {s : State} {m : MethodId} {b nc ns : Nat} {below : List Frame} {meth : Method} {c : Code} {V : VEn} {L : Nat} {xs : Nat → Int32} {k18 : Int32 → PoS → Prop} {post : Int32 → PoS → Prop} (C : CxS p s m #[Value.ref b] meth c V cL_law 4 RL (some .boolean)) (hX : va_X b L xs s s.heap) (hbl : b < s.heap.size) (hbA : ¬ AX V s.heap.size b) (hcs : nc ≤ room_1.cells ∧ ns ≤ room_1.slots) (hloc : ∀ j, j < 69 → s.heap.size ≤ eA V j) (hpost : ∀ (v : Int32) (u : PoS), post v u → v = 1) (hk18 : ∀ (v3 : Int32) (u : PoS), k18 v3 u → AtS p l e room_1 s m #[Value.ref b] below meth c V 4 nc ns (lw_Z below #[Value.ref b] s) 18 [(0, .ref b), (1, .ref (eA V 0)), (2, .ref (eA V 48)), (3, .int v3)] [] u) (v3 : Int32) (u : PoS) (h : wj_L_law_1626 L xs k18 post v3 u) : AtS p l e room_1 s m #[Value.ref b] below meth c V 4 nc ns (lw_Z below #[Value.ref b] s) 1626 [(0, .ref b), (1, .ref (eA V 0)), (2, .ref (eA V 48)), (3, .int v3)] [] u := by
  rw [wj_L_law_1626] at h
  refine a_iinc C (v3 + 6) 3 [(3, .int (v3 + 6)), (0, .ref b), (1, .ref (eA V 0)), (2, .ref (eA V 48))] dL_law_1626 rfl (congrArg (fun z => v3 + z) (show Int32.ofInt 6 = 6 by decide)) (by decide) rfl ?_
  refine a_goto C 18 dL_law_1629 (by decide) ?_
  refine a_sub [1, 2, 3, 0] rfl ?_
  exact hk18 _ _ h
set_option maxHeartbeats 4000000 in
set_option maxRecDepth 100000 in
theorem tj_L_law_269 {p : Program} {l : Launch} {e : Env} {s : State} {m : MethodId} {b nc ns : Nat} {below : List Frame} {meth : Method} {c : Code} {V : VEn} {L : Nat} {xs : Nat → Int32} {k18 : Int32 → PoS → Prop} {post : Int32 → PoS → Prop} (C : CxS p s m #[Value.ref b] meth c V cL_law 4 RL (some .boolean)) (hX : va_X b L xs s s.heap) (hbl : b < s.heap.size) (hbA : ¬ AX V s.heap.size b) (hcs : nc ≤ room_1.cells ∧ ns ≤ room_1.slots) (hloc : ∀ j, j < 69 → s.heap.size ≤ eA V j) (hpost : ∀ (v : Int32) (u : PoS), post v u → v = 1) (hk18 : ∀ (v3 : Int32) (u : PoS), k18 v3 u → AtS p l e room_1 s m #[Value.ref b] below meth c V 4 nc ns (lw_Z below #[Value.ref b] s) 18 [(0, .ref b), (1, .ref (eA V 0)), (2, .ref (eA V 48)), (3, .int v3)] [] u) (v3 : Int32) (s0 : Int32) (s1 : Int32) (s3 : Int32) (u : PoS) (h : wj_L_law_269 L xs k18 post v3 s0 s1 s3 u) : AtS p l e room_1 s m #[Value.ref b] below meth c V 4 nc ns (lw_Z below #[Value.ref b] s) 269 [(0, .ref b), (1, .ref (eA V 0)), (2, .ref (eA V 48)), (3, .int v3)] [.int s0, .int s1, .ref (eA V 48), .int s3] u := by
  rw [wj_L_law_269] at h
  refine a_callVi C dL_law_269 (m_X12_person l V h) bw_1136 bw_1137 bw_1138 bw_123 bw_1139 (by decide) rfl rfl np_X12_person rfl rfl (by decide) (Nat.le_of_ble_eq_true rfl) hcs (fun r3 u4 h => ?_)
  refine a_icmp_eq C 1626 dL_law_272 (by decide) (fun c5 => ?_) (fun c5 => ?_)
  · have h := h.1 c5
    refine tj_L_law_1626 C hX hbl hbA hcs hloc hpost hk18 _ _ h
  · have h := h.2 c5
    refine a_iconst C 0 dL_law_275 (by decide) ?_
    exact L_ret C hcs hloc dL_law_276 (hpost _ _ h)
set_option maxHeartbeats 4000000 in
set_option maxRecDepth 100000 in
theorem tj_L_law_247 {p : Program} {l : Launch} {e : Env} {s : State} {m : MethodId} {b nc ns : Nat} {below : List Frame} {meth : Method} {c : Code} {V : VEn} {L : Nat} {xs : Nat → Int32} {k18 : Int32 → PoS → Prop} {post : Int32 → PoS → Prop} (C : CxS p s m #[Value.ref b] meth c V cL_law 4 RL (some .boolean)) (hX : va_X b L xs s s.heap) (hbl : b < s.heap.size) (hbA : ¬ AX V s.heap.size b) (hcs : nc ≤ room_1.cells ∧ ns ≤ room_1.slots) (hloc : ∀ j, j < 69 → s.heap.size ≤ eA V j) (hpost : ∀ (v : Int32) (u : PoS), post v u → v = 1) (hk18 : ∀ (v3 : Int32) (u : PoS), k18 v3 u → AtS p l e room_1 s m #[Value.ref b] below meth c V 4 nc ns (lw_Z below #[Value.ref b] s) 18 [(0, .ref b), (1, .ref (eA V 0)), (2, .ref (eA V 48)), (3, .int v3)] [] u) (v3 : Int32) (s0 : Int32) (s1 : Int32) (u : PoS) (h : wj_L_law_247 L xs k18 post v3 s0 s1 u) : AtS p l e room_1 s m #[Value.ref b] below meth c V 4 nc ns (lw_Z below #[Value.ref b] s) 247 [(0, .ref b), (1, .ref (eA V 0)), (2, .ref (eA V 48)), (3, .int v3)] [.int s0, .int s1, .ref (eA V 0)] u := by
  rw [wj_L_law_247] at h
  refine a_callVi C dL_law_247 (m_X11_person l V h) bw_389 bw_390 bw_391 bw_112 bw_392 (by decide) rfl rfl np_X11_person rfl rfl (by decide) (Nat.le_of_ble_eq_true rfl) hcs (fun r1 u2 h => ?_)
  refine a_aload_n C 2 dL_law_250 rfl rfl ?_
  refine a_aload_n C 0 dL_law_251 rfl rfl ?_
  refine a_iload_n C 3 dL_law_252 rfl rfl ?_
  refine a_iconst C 1 dL_law_253 (by decide) ?_
  refine a_iadd C dL_law_254 ?_
  refine L_sld C hX hbl hbA dL_law_255 h.1 ?_
  have h := h.2
  refine a_aload_n C 0 dL_law_256 rfl rfl ?_
  refine a_iload_n C 3 dL_law_257 rfl rfl ?_
  refine a_iconst C 2 dL_law_258 (by decide) ?_
  refine a_iadd C dL_law_259 ?_
  refine L_sld C hX hbl hbA dL_law_260 h.1 ?_
  have h := h.2
  refine a_if_eq C 268 dL_law_261 (by decide) (fun c6 => ?_) (fun c6 => ?_)
  · have h := h.1 c6
    refine a_iconst C 0 dL_law_268 (by decide) ?_
    refine tj_L_law_269 C hX hbl hbA hcs hloc hpost hk18 _ _ _ _ _ h
  · have h := h.2 c6
    refine a_iconst C 1 dL_law_264 (by decide) ?_
    refine a_goto C 269 dL_law_265 (by decide) ?_
    refine tj_L_law_269 C hX hbl hbA hcs hloc hpost hk18 _ _ _ _ _ h
set_option maxHeartbeats 4000000 in
set_option maxRecDepth 100000 in
theorem tj_L_law_351 {p : Program} {l : Launch} {e : Env} {s : State} {m : MethodId} {b nc ns : Nat} {below : List Frame} {meth : Method} {c : Code} {V : VEn} {L : Nat} {xs : Nat → Int32} {k18 : Int32 → PoS → Prop} {post : Int32 → PoS → Prop} (C : CxS p s m #[Value.ref b] meth c V cL_law 4 RL (some .boolean)) (hX : va_X b L xs s s.heap) (hbl : b < s.heap.size) (hbA : ¬ AX V s.heap.size b) (hcs : nc ≤ room_1.cells ∧ ns ≤ room_1.slots) (hloc : ∀ j, j < 69 → s.heap.size ≤ eA V j) (hpost : ∀ (v : Int32) (u : PoS), post v u → v = 1) (hk18 : ∀ (v3 : Int32) (u : PoS), k18 v3 u → AtS p l e room_1 s m #[Value.ref b] below meth c V 4 nc ns (lw_Z below #[Value.ref b] s) 18 [(0, .ref b), (1, .ref (eA V 0)), (2, .ref (eA V 48)), (3, .int v3)] [] u) (v3 : Int32) (s0 : Int32) (s1 : Int32) (s3 : Int32) (u : PoS) (h : wj_L_law_351 L xs k18 post v3 s0 s1 s3 u) : AtS p l e room_1 s m #[Value.ref b] below meth c V 4 nc ns (lw_Z below #[Value.ref b] s) 351 [(0, .ref b), (1, .ref (eA V 0)), (2, .ref (eA V 48)), (3, .int v3)] [.int s0, .int s1, .ref (eA V 48), .int s3] u := by
  rw [wj_L_law_351] at h
  refine a_callVi C dL_law_351 (m_X12_shed l V h) bw_1166 bw_1167 bw_1168 bw_123 bw_1169 (by decide) rfl rfl np_X12_shed rfl rfl (by decide) (Nat.le_of_ble_eq_true rfl) hcs (fun r15 u16 h => ?_)
  refine a_icmp_eq C 1626 dL_law_354 (by decide) (fun c17 => ?_) (fun c17 => ?_)
  · have h := h.1 c17
    refine tj_L_law_1626 C hX hbl hbA hcs hloc hpost hk18 _ _ h
  · have h := h.2 c17
    refine a_iconst C 0 dL_law_357 (by decide) ?_
    exact L_ret C hcs hloc dL_law_358 (hpost _ _ h)
set_option maxHeartbeats 4000000 in
set_option maxRecDepth 100000 in
theorem tj_L_law_329 {p : Program} {l : Launch} {e : Env} {s : State} {m : MethodId} {b nc ns : Nat} {below : List Frame} {meth : Method} {c : Code} {V : VEn} {L : Nat} {xs : Nat → Int32} {k18 : Int32 → PoS → Prop} {post : Int32 → PoS → Prop} (C : CxS p s m #[Value.ref b] meth c V cL_law 4 RL (some .boolean)) (hX : va_X b L xs s s.heap) (hbl : b < s.heap.size) (hbA : ¬ AX V s.heap.size b) (hcs : nc ≤ room_1.cells ∧ ns ≤ room_1.slots) (hloc : ∀ j, j < 69 → s.heap.size ≤ eA V j) (hpost : ∀ (v : Int32) (u : PoS), post v u → v = 1) (hk18 : ∀ (v3 : Int32) (u : PoS), k18 v3 u → AtS p l e room_1 s m #[Value.ref b] below meth c V 4 nc ns (lw_Z below #[Value.ref b] s) 18 [(0, .ref b), (1, .ref (eA V 0)), (2, .ref (eA V 48)), (3, .int v3)] [] u) (v3 : Int32) (s0 : Int32) (s1 : Int32) (u : PoS) (h : wj_L_law_329 L xs k18 post v3 s0 s1 u) : AtS p l e room_1 s m #[Value.ref b] below meth c V 4 nc ns (lw_Z below #[Value.ref b] s) 329 [(0, .ref b), (1, .ref (eA V 0)), (2, .ref (eA V 48)), (3, .int v3)] [.int s0, .int s1, .ref (eA V 0)] u := by
  rw [wj_L_law_329] at h
  refine a_callVi C dL_law_329 (m_X11_shed l V h) bw_408 bw_409 bw_410 bw_112 bw_411 (by decide) rfl rfl np_X11_shed rfl rfl (by decide) (Nat.le_of_ble_eq_true rfl) hcs (fun r13 u14 h => ?_)
  refine a_aload_n C 2 dL_law_332 rfl rfl ?_
  refine a_aload_n C 0 dL_law_333 rfl rfl ?_
  refine a_iload_n C 3 dL_law_334 rfl rfl ?_
  refine a_iconst C 1 dL_law_335 (by decide) ?_
  refine a_iadd C dL_law_336 ?_
  refine L_sld C hX hbl hbA dL_law_337 h.1 ?_
  have h := h.2
  refine a_aload_n C 0 dL_law_338 rfl rfl ?_
  refine a_iload_n C 3 dL_law_339 rfl rfl ?_
  refine a_iconst C 2 dL_law_340 (by decide) ?_
  refine a_iadd C dL_law_341 ?_
  refine L_sld C hX hbl hbA dL_law_342 h.1 ?_
  have h := h.2
  refine a_if_eq C 350 dL_law_343 (by decide) (fun c18 => ?_) (fun c18 => ?_)
  · have h := h.1 c18
    refine a_iconst C 0 dL_law_350 (by decide) ?_
    refine tj_L_law_351 C hX hbl hbA hcs hloc hpost hk18 _ _ _ _ _ h
  · have h := h.2 c18
    refine a_iconst C 1 dL_law_346 (by decide) ?_
    refine a_goto C 351 dL_law_347 (by decide) ?_
    refine tj_L_law_351 C hX hbl hbA hcs hloc hpost hk18 _ _ _ _ _ h
set_option maxHeartbeats 4000000 in
set_option maxRecDepth 100000 in
theorem tj_L_law_578 {p : Program} {l : Launch} {e : Env} {s : State} {m : MethodId} {b nc ns : Nat} {below : List Frame} {meth : Method} {c : Code} {V : VEn} {L : Nat} {xs : Nat → Int32} {k18 : Int32 → PoS → Prop} {post : Int32 → PoS → Prop} (C : CxS p s m #[Value.ref b] meth c V cL_law 4 RL (some .boolean)) (hX : va_X b L xs s s.heap) (hbl : b < s.heap.size) (hbA : ¬ AX V s.heap.size b) (hcs : nc ≤ room_1.cells ∧ ns ≤ room_1.slots) (hloc : ∀ j, j < 69 → s.heap.size ≤ eA V j) (hpost : ∀ (v : Int32) (u : PoS), post v u → v = 1) (hk18 : ∀ (v3 : Int32) (u : PoS), k18 v3 u → AtS p l e room_1 s m #[Value.ref b] below meth c V 4 nc ns (lw_Z below #[Value.ref b] s) 18 [(0, .ref b), (1, .ref (eA V 0)), (2, .ref (eA V 48)), (3, .int v3)] [] u) (v3 : Int32) (s0 : Int32) (s1 : Int32) (s3 : Int32) (u : PoS) (h : wj_L_law_578 L xs k18 post v3 s0 s1 s3 u) : AtS p l e room_1 s m #[Value.ref b] below meth c V 4 nc ns (lw_Z below #[Value.ref b] s) 578 [(0, .ref b), (1, .ref (eA V 0)), (2, .ref (eA V 48)), (3, .int v3)] [.int s0, .int s1, .ref (eA V 48), .int s3] u := by
  rw [wj_L_law_578] at h
  refine a_callVi C dL_law_578 (m_X12_hat l V h) bw_1356 bw_1357 bw_1358 bw_123 bw_1359 (by decide) rfl rfl np_X12_hat rfl rfl (by decide) (Nat.le_of_ble_eq_true rfl) hcs (fun r52 u53 h => ?_)
  refine a_icmp_eq C 1626 dL_law_581 (by decide) (fun c54 => ?_) (fun c54 => ?_)
  · have h := h.1 c54
    refine tj_L_law_1626 C hX hbl hbA hcs hloc hpost hk18 _ _ h
  · have h := h.2 c54
    refine a_iconst C 0 dL_law_584 (by decide) ?_
    exact L_ret C hcs hloc dL_law_585 (hpost _ _ h)
set_option maxHeartbeats 4000000 in
set_option maxRecDepth 100000 in
theorem tj_L_law_556 {p : Program} {l : Launch} {e : Env} {s : State} {m : MethodId} {b nc ns : Nat} {below : List Frame} {meth : Method} {c : Code} {V : VEn} {L : Nat} {xs : Nat → Int32} {k18 : Int32 → PoS → Prop} {post : Int32 → PoS → Prop} (C : CxS p s m #[Value.ref b] meth c V cL_law 4 RL (some .boolean)) (hX : va_X b L xs s s.heap) (hbl : b < s.heap.size) (hbA : ¬ AX V s.heap.size b) (hcs : nc ≤ room_1.cells ∧ ns ≤ room_1.slots) (hloc : ∀ j, j < 69 → s.heap.size ≤ eA V j) (hpost : ∀ (v : Int32) (u : PoS), post v u → v = 1) (hk18 : ∀ (v3 : Int32) (u : PoS), k18 v3 u → AtS p l e room_1 s m #[Value.ref b] below meth c V 4 nc ns (lw_Z below #[Value.ref b] s) 18 [(0, .ref b), (1, .ref (eA V 0)), (2, .ref (eA V 48)), (3, .int v3)] [] u) (v3 : Int32) (s0 : Int32) (s1 : Int32) (u : PoS) (h : wj_L_law_556 L xs k18 post v3 s0 s1 u) : AtS p l e room_1 s m #[Value.ref b] below meth c V 4 nc ns (lw_Z below #[Value.ref b] s) 556 [(0, .ref b), (1, .ref (eA V 0)), (2, .ref (eA V 48)), (3, .int v3)] [.int s0, .int s1, .ref (eA V 0)] u := by
  rw [wj_L_law_556] at h
  refine a_callVi C dL_law_556 (m_X11_hat l V h) bw_648 bw_649 bw_650 bw_112 bw_651 (by decide) rfl rfl np_X11_hat rfl rfl (by decide) (Nat.le_of_ble_eq_true rfl) hcs (fun r50 u51 h => ?_)
  refine a_aload_n C 2 dL_law_559 rfl rfl ?_
  refine a_aload_n C 0 dL_law_560 rfl rfl ?_
  refine a_iload_n C 3 dL_law_561 rfl rfl ?_
  refine a_iconst C 1 dL_law_562 (by decide) ?_
  refine a_iadd C dL_law_563 ?_
  refine L_sld C hX hbl hbA dL_law_564 h.1 ?_
  have h := h.2
  refine a_aload_n C 0 dL_law_565 rfl rfl ?_
  refine a_iload_n C 3 dL_law_566 rfl rfl ?_
  refine a_iconst C 2 dL_law_567 (by decide) ?_
  refine a_iadd C dL_law_568 ?_
  refine L_sld C hX hbl hbA dL_law_569 h.1 ?_
  have h := h.2
  refine a_if_eq C 577 dL_law_570 (by decide) (fun c55 => ?_) (fun c55 => ?_)
  · have h := h.1 c55
    refine a_iconst C 0 dL_law_577 (by decide) ?_
    refine tj_L_law_578 C hX hbl hbA hcs hloc hpost hk18 _ _ _ _ _ h
  · have h := h.2 c55
    refine a_iconst C 1 dL_law_573 (by decide) ?_
    refine a_goto C 578 dL_law_574 (by decide) ?_
    refine tj_L_law_578 C hX hbl hbA hcs hloc hpost hk18 _ _ _ _ _ h
set_option maxHeartbeats 4000000 in
set_option maxRecDepth 100000 in
theorem tj_L_law_1313 {p : Program} {l : Launch} {e : Env} {s : State} {m : MethodId} {b nc ns : Nat} {below : List Frame} {meth : Method} {c : Code} {V : VEn} {L : Nat} {xs : Nat → Int32} {k18 : Int32 → PoS → Prop} {post : Int32 → PoS → Prop} (C : CxS p s m #[Value.ref b] meth c V cL_law 4 RL (some .boolean)) (hX : va_X b L xs s s.heap) (hbl : b < s.heap.size) (hbA : ¬ AX V s.heap.size b) (hcs : nc ≤ room_1.cells ∧ ns ≤ room_1.slots) (hloc : ∀ j, j < 69 → s.heap.size ≤ eA V j) (hpost : ∀ (v : Int32) (u : PoS), post v u → v = 1) (hk18 : ∀ (v3 : Int32) (u : PoS), k18 v3 u → AtS p l e room_1 s m #[Value.ref b] below meth c V 4 nc ns (lw_Z below #[Value.ref b] s) 18 [(0, .ref b), (1, .ref (eA V 0)), (2, .ref (eA V 48)), (3, .int v3)] [] u) (v3 : Int32) (s0 : Int32) (s2 : Int32) (u : PoS) (h : wj_L_law_1313 L xs k18 post v3 s0 s2 u) : AtS p l e room_1 s m #[Value.ref b] below meth c V 4 nc ns (lw_Z below #[Value.ref b] s) 1313 [(0, .ref b), (1, .ref (eA V 0)), (2, .ref (eA V 48)), (3, .int v3)] [.int s0, .ref (eA V 48), .int s2] u := by
  rw [wj_L_law_1313] at h
  refine a_callVi C dL_law_1313 (m_X12_from l V h) bw_1668 bw_1669 bw_1670 bw_123 bw_1671 (by decide) rfl rfl np_X12_from rfl rfl (by decide) (Nat.le_of_ble_eq_true rfl) hcs (fun r169 u170 h => ?_)
  refine a_icmp_eq C 1626 dL_law_1316 (by decide) (fun c171 => ?_) (fun c171 => ?_)
  · have h := h.1 c171
    refine tj_L_law_1626 C hX hbl hbA hcs hloc hpost hk18 _ _ h
  · have h := h.2 c171
    refine a_iconst C 0 dL_law_1319 (by decide) ?_
    exact L_ret C hcs hloc dL_law_1320 (hpost _ _ h)
set_option maxHeartbeats 4000000 in
set_option maxRecDepth 100000 in
theorem tj_L_law_1296 {p : Program} {l : Launch} {e : Env} {s : State} {m : MethodId} {b nc ns : Nat} {below : List Frame} {meth : Method} {c : Code} {V : VEn} {L : Nat} {xs : Nat → Int32} {k18 : Int32 → PoS → Prop} {post : Int32 → PoS → Prop} (C : CxS p s m #[Value.ref b] meth c V cL_law 4 RL (some .boolean)) (hX : va_X b L xs s s.heap) (hbl : b < s.heap.size) (hbA : ¬ AX V s.heap.size b) (hcs : nc ≤ room_1.cells ∧ ns ≤ room_1.slots) (hloc : ∀ j, j < 69 → s.heap.size ≤ eA V j) (hpost : ∀ (v : Int32) (u : PoS), post v u → v = 1) (hk18 : ∀ (v3 : Int32) (u : PoS), k18 v3 u → AtS p l e room_1 s m #[Value.ref b] below meth c V 4 nc ns (lw_Z below #[Value.ref b] s) 18 [(0, .ref b), (1, .ref (eA V 0)), (2, .ref (eA V 48)), (3, .int v3)] [] u) (v3 : Int32) (s0 : Int32) (u : PoS) (h : wj_L_law_1296 L xs k18 post v3 s0 u) : AtS p l e room_1 s m #[Value.ref b] below meth c V 4 nc ns (lw_Z below #[Value.ref b] s) 1296 [(0, .ref b), (1, .ref (eA V 0)), (2, .ref (eA V 48)), (3, .int v3)] [.int s0, .ref (eA V 0)] u := by
  rw [wj_L_law_1296] at h
  refine a_callVi C dL_law_1296 (m_X11_from l V h) bw_942 bw_943 bw_944 bw_112 bw_945 (by decide) rfl rfl np_X11_from rfl rfl (by decide) (Nat.le_of_ble_eq_true rfl) hcs (fun r167 u168 h => ?_)
  refine a_aload_n C 2 dL_law_1299 rfl rfl ?_
  refine a_aload_n C 0 dL_law_1300 rfl rfl ?_
  refine a_iload_n C 3 dL_law_1301 rfl rfl ?_
  refine a_iconst C 1 dL_law_1302 (by decide) ?_
  refine a_iadd C dL_law_1303 ?_
  refine L_sld C hX hbl hbA dL_law_1304 h.1 ?_
  have h := h.2
  refine a_if_eq C 1312 dL_law_1305 (by decide) (fun c172 => ?_) (fun c172 => ?_)
  · have h := h.1 c172
    refine a_iconst C 0 dL_law_1312 (by decide) ?_
    refine tj_L_law_1313 C hX hbl hbA hcs hloc hpost hk18 _ _ _ _ h
  · have h := h.2 c172
    refine a_iconst C 1 dL_law_1308 (by decide) ?_
    refine a_goto C 1313 dL_law_1309 (by decide) ?_
    refine tj_L_law_1313 C hX hbl hbA hcs hloc hpost hk18 _ _ _ _ h
set_option maxHeartbeats 4000000 in
set_option maxRecDepth 100000 in
theorem tj_L_law_1372 {p : Program} {l : Launch} {e : Env} {s : State} {m : MethodId} {b nc ns : Nat} {below : List Frame} {meth : Method} {c : Code} {V : VEn} {L : Nat} {xs : Nat → Int32} {k18 : Int32 → PoS → Prop} {post : Int32 → PoS → Prop} (C : CxS p s m #[Value.ref b] meth c V cL_law 4 RL (some .boolean)) (hX : va_X b L xs s s.heap) (hbl : b < s.heap.size) (hbA : ¬ AX V s.heap.size b) (hcs : nc ≤ room_1.cells ∧ ns ≤ room_1.slots) (hloc : ∀ j, j < 69 → s.heap.size ≤ eA V j) (hpost : ∀ (v : Int32) (u : PoS), post v u → v = 1) (hk18 : ∀ (v3 : Int32) (u : PoS), k18 v3 u → AtS p l e room_1 s m #[Value.ref b] below meth c V 4 nc ns (lw_Z below #[Value.ref b] s) 18 [(0, .ref b), (1, .ref (eA V 0)), (2, .ref (eA V 48)), (3, .int v3)] [] u) (v3 : Int32) (s0 : Int32) (s1 : Int32) (s2 : Int32) (s4 : Int64) (u : PoS) (h : wj_L_law_1372 L xs k18 post v3 s0 s1 s2 s4 u) : AtS p l e room_1 s m #[Value.ref b] below meth c V 4 nc ns (lw_Z below #[Value.ref b] s) 1372 [(0, .ref b), (1, .ref (eA V 0)), (2, .ref (eA V 48)), (3, .int v3)] [.int s0, .int s1, .int s2, .ref (eA V 48), .long s4] u := by
  rw [wj_L_law_1372] at h
  refine a_callVl C dL_law_1372 (m_X12_likely l V h) bw_1680 bw_1681 bw_1682 bw_123 bw_1683 (by decide) rfl rfl np_X12_likely rfl rfl (by decide) (Nat.le_of_ble_eq_true rfl) hcs (fun r176 u177 h => ?_)
  refine a_lcmp C dL_law_1375 ?_
  refine a_if_eq C 1626 dL_law_1376 (by decide) (fun c178 => ?_) (fun c178 => ?_)
  · have h := h.1 c178
    refine tj_L_law_1626 C hX hbl hbA hcs hloc hpost hk18 _ _ h
  · have h := h.2 c178
    refine a_iconst C 0 dL_law_1379 (by decide) ?_
    exact L_ret C hcs hloc dL_law_1380 (hpost _ _ h)
set_option maxHeartbeats 4000000 in
set_option maxRecDepth 100000 in
theorem tj_L_law_1345 {p : Program} {l : Launch} {e : Env} {s : State} {m : MethodId} {b nc ns : Nat} {below : List Frame} {meth : Method} {c : Code} {V : VEn} {L : Nat} {xs : Nat → Int32} {k18 : Int32 → PoS → Prop} {post : Int32 → PoS → Prop} (C : CxS p s m #[Value.ref b] meth c V cL_law 4 RL (some .boolean)) (hX : va_X b L xs s s.heap) (hbl : b < s.heap.size) (hbA : ¬ AX V s.heap.size b) (hcs : nc ≤ room_1.cells ∧ ns ≤ room_1.slots) (hloc : ∀ j, j < 69 → s.heap.size ≤ eA V j) (hpost : ∀ (v : Int32) (u : PoS), post v u → v = 1) (hk18 : ∀ (v3 : Int32) (u : PoS), k18 v3 u → AtS p l e room_1 s m #[Value.ref b] below meth c V 4 nc ns (lw_Z below #[Value.ref b] s) 18 [(0, .ref b), (1, .ref (eA V 0)), (2, .ref (eA V 48)), (3, .int v3)] [] u) (v3 : Int32) (s0 : Int32) (s1 : Int32) (s2 : Int32) (u : PoS) (h : wj_L_law_1345 L xs k18 post v3 s0 s1 s2 u) : AtS p l e room_1 s m #[Value.ref b] below meth c V 4 nc ns (lw_Z below #[Value.ref b] s) 1345 [(0, .ref b), (1, .ref (eA V 0)), (2, .ref (eA V 48)), (3, .int v3)] [.int s0, .int s1, .int s2, .ref (eA V 0)] u := by
  rw [wj_L_law_1345] at h
  refine a_callVl C dL_law_1345 (m_X11_likely l V h) bw_952 bw_953 bw_954 bw_112 bw_955 (by decide) rfl rfl np_X11_likely rfl rfl (by decide) (Nat.le_of_ble_eq_true rfl) hcs (fun r174 u175 h => ?_)
  refine a_aload_n C 2 dL_law_1348 rfl rfl ?_
  refine a_aload_n C 0 dL_law_1349 rfl rfl ?_
  refine a_iload_n C 3 dL_law_1350 rfl rfl ?_
  refine a_iconst C 1 dL_law_1351 (by decide) ?_
  refine a_iadd C dL_law_1352 ?_
  refine L_sld C hX hbl hbA dL_law_1353 h.1 ?_
  have h := h.2
  refine a_aload_n C 0 dL_law_1354 rfl rfl ?_
  refine a_iload_n C 3 dL_law_1355 rfl rfl ?_
  refine a_iconst C 2 dL_law_1356 (by decide) ?_
  refine a_iadd C dL_law_1357 ?_
  refine L_sld C hX hbl hbA dL_law_1358 h.1 ?_
  have h := h.2
  refine a_aload_n C 0 dL_law_1359 rfl rfl ?_
  refine a_iload_n C 3 dL_law_1360 rfl rfl ?_
  refine a_iconst C 3 dL_law_1361 (by decide) ?_
  refine a_iadd C dL_law_1362 ?_
  refine L_sld C hX hbl hbA dL_law_1363 h.1 ?_
  have h := h.2
  refine a_if_eq C 1371 dL_law_1364 (by decide) (fun c179 => ?_) (fun c179 => ?_)
  · have h := h.1 c179
    refine a_iconst C 0 dL_law_1371 (by decide) ?_
    refine tj_L_law_1372 C hX hbl hbA hcs hloc hpost hk18 _ _ _ _ _ _ h
  · have h := h.2 c179
    refine a_iconst C 1 dL_law_1367 (by decide) ?_
    refine a_goto C 1372 dL_law_1368 (by decide) ?_
    refine tj_L_law_1372 C hX hbl hbA hcs hloc hpost hk18 _ _ _ _ _ _ h
set_option maxHeartbeats 4000000 in
set_option maxRecDepth 100000 in
theorem tj_L_law_1412 {p : Program} {l : Launch} {e : Env} {s : State} {m : MethodId} {b nc ns : Nat} {below : List Frame} {meth : Method} {c : Code} {V : VEn} {L : Nat} {xs : Nat → Int32} {k18 : Int32 → PoS → Prop} {post : Int32 → PoS → Prop} (C : CxS p s m #[Value.ref b] meth c V cL_law 4 RL (some .boolean)) (hX : va_X b L xs s s.heap) (hbl : b < s.heap.size) (hbA : ¬ AX V s.heap.size b) (hcs : nc ≤ room_1.cells ∧ ns ≤ room_1.slots) (hloc : ∀ j, j < 69 → s.heap.size ≤ eA V j) (hpost : ∀ (v : Int32) (u : PoS), post v u → v = 1) (hk18 : ∀ (v3 : Int32) (u : PoS), k18 v3 u → AtS p l e room_1 s m #[Value.ref b] below meth c V 4 nc ns (lw_Z below #[Value.ref b] s) 18 [(0, .ref b), (1, .ref (eA V 0)), (2, .ref (eA V 48)), (3, .int v3)] [] u) (v3 : Int32) (s0 : Int32) (s2 : Int32) (u : PoS) (h : wj_L_law_1412 L xs k18 post v3 s0 s2 u) : AtS p l e room_1 s m #[Value.ref b] below meth c V 4 nc ns (lw_Z below #[Value.ref b] s) 1412 [(0, .ref b), (1, .ref (eA V 0)), (2, .ref (eA V 48)), (3, .int v3)] [.int s0, .ref (eA V 48), .int s2] u := by
  rw [wj_L_law_1412] at h
  refine a_callVi C dL_law_1412 (m_X12_days l V h) bw_1688 bw_1689 bw_1690 bw_123 bw_1691 (by decide) rfl rfl np_X12_days rfl rfl (by decide) (Nat.le_of_ble_eq_true rfl) hcs (fun r183 u184 h => ?_)
  refine a_icmp_eq C 1626 dL_law_1415 (by decide) (fun c185 => ?_) (fun c185 => ?_)
  · have h := h.1 c185
    refine tj_L_law_1626 C hX hbl hbA hcs hloc hpost hk18 _ _ h
  · have h := h.2 c185
    refine a_iconst C 0 dL_law_1418 (by decide) ?_
    exact L_ret C hcs hloc dL_law_1419 (hpost _ _ h)
set_option maxHeartbeats 4000000 in
set_option maxRecDepth 100000 in
theorem tj_L_law_1395 {p : Program} {l : Launch} {e : Env} {s : State} {m : MethodId} {b nc ns : Nat} {below : List Frame} {meth : Method} {c : Code} {V : VEn} {L : Nat} {xs : Nat → Int32} {k18 : Int32 → PoS → Prop} {post : Int32 → PoS → Prop} (C : CxS p s m #[Value.ref b] meth c V cL_law 4 RL (some .boolean)) (hX : va_X b L xs s s.heap) (hbl : b < s.heap.size) (hbA : ¬ AX V s.heap.size b) (hcs : nc ≤ room_1.cells ∧ ns ≤ room_1.slots) (hloc : ∀ j, j < 69 → s.heap.size ≤ eA V j) (hpost : ∀ (v : Int32) (u : PoS), post v u → v = 1) (hk18 : ∀ (v3 : Int32) (u : PoS), k18 v3 u → AtS p l e room_1 s m #[Value.ref b] below meth c V 4 nc ns (lw_Z below #[Value.ref b] s) 18 [(0, .ref b), (1, .ref (eA V 0)), (2, .ref (eA V 48)), (3, .int v3)] [] u) (v3 : Int32) (s0 : Int32) (u : PoS) (h : wj_L_law_1395 L xs k18 post v3 s0 u) : AtS p l e room_1 s m #[Value.ref b] below meth c V 4 nc ns (lw_Z below #[Value.ref b] s) 1395 [(0, .ref b), (1, .ref (eA V 0)), (2, .ref (eA V 48)), (3, .int v3)] [.int s0, .ref (eA V 0)] u := by
  rw [wj_L_law_1395] at h
  refine a_callVi C dL_law_1395 (m_X11_days l V h) bw_961 bw_962 bw_963 bw_112 bw_964 (by decide) rfl rfl np_X11_days rfl rfl (by decide) (Nat.le_of_ble_eq_true rfl) hcs (fun r181 u182 h => ?_)
  refine a_aload_n C 2 dL_law_1398 rfl rfl ?_
  refine a_aload_n C 0 dL_law_1399 rfl rfl ?_
  refine a_iload_n C 3 dL_law_1400 rfl rfl ?_
  refine a_iconst C 1 dL_law_1401 (by decide) ?_
  refine a_iadd C dL_law_1402 ?_
  refine L_sld C hX hbl hbA dL_law_1403 h.1 ?_
  have h := h.2
  refine a_if_eq C 1411 dL_law_1404 (by decide) (fun c186 => ?_) (fun c186 => ?_)
  · have h := h.1 c186
    refine a_iconst C 0 dL_law_1411 (by decide) ?_
    refine tj_L_law_1412 C hX hbl hbA hcs hloc hpost hk18 _ _ _ _ h
  · have h := h.2 c186
    refine a_iconst C 1 dL_law_1407 (by decide) ?_
    refine a_goto C 1412 dL_law_1408 (by decide) ?_
    refine tj_L_law_1412 C hX hbl hbA hcs hloc hpost hk18 _ _ _ _ h
set_option maxHeartbeats 4000000 in
set_option maxRecDepth 100000 in
theorem tj_L_law_1497 {p : Program} {l : Launch} {e : Env} {s : State} {m : MethodId} {b nc ns : Nat} {below : List Frame} {meth : Method} {c : Code} {V : VEn} {L : Nat} {xs : Nat → Int32} {k18 : Int32 → PoS → Prop} {post : Int32 → PoS → Prop} (C : CxS p s m #[Value.ref b] meth c V cL_law 4 RL (some .boolean)) (hX : va_X b L xs s s.heap) (hbl : b < s.heap.size) (hbA : ¬ AX V s.heap.size b) (hcs : nc ≤ room_1.cells ∧ ns ≤ room_1.slots) (hloc : ∀ j, j < 69 → s.heap.size ≤ eA V j) (hpost : ∀ (v : Int32) (u : PoS), post v u → v = 1) (hk18 : ∀ (v3 : Int32) (u : PoS), k18 v3 u → AtS p l e room_1 s m #[Value.ref b] below meth c V 4 nc ns (lw_Z below #[Value.ref b] s) 18 [(0, .ref b), (1, .ref (eA V 0)), (2, .ref (eA V 48)), (3, .int v3)] [] u) (v3 : Int32) (s0 : Int32) (s2 : Int32) (u : PoS) (h : wj_L_law_1497 L xs k18 post v3 s0 s2 u) : AtS p l e room_1 s m #[Value.ref b] below meth c V 4 nc ns (lw_Z below #[Value.ref b] s) 1497 [(0, .ref b), (1, .ref (eA V 0)), (2, .ref (eA V 48)), (3, .int v3)] [.int s0, .ref (eA V 48), .int s2] u := by
  rw [wj_L_law_1497] at h
  refine a_callVi C dL_law_1497 (m_X12_thirsty l V h) bw_1514 bw_1515 bw_1516 bw_123 bw_1517 (by decide) rfl rfl np_X12_thirsty rfl rfl (by decide) (Nat.le_of_ble_eq_true rfl) hcs (fun r200 u201 h => ?_)
  refine a_icmp_eq C 1626 dL_law_1500 (by decide) (fun c202 => ?_) (fun c202 => ?_)
  · have h := h.1 c202
    refine tj_L_law_1626 C hX hbl hbA hcs hloc hpost hk18 _ _ h
  · have h := h.2 c202
    refine a_iconst C 0 dL_law_1503 (by decide) ?_
    exact L_ret C hcs hloc dL_law_1504 (hpost _ _ h)
set_option maxHeartbeats 4000000 in
set_option maxRecDepth 100000 in
theorem tj_L_law_1480 {p : Program} {l : Launch} {e : Env} {s : State} {m : MethodId} {b nc ns : Nat} {below : List Frame} {meth : Method} {c : Code} {V : VEn} {L : Nat} {xs : Nat → Int32} {k18 : Int32 → PoS → Prop} {post : Int32 → PoS → Prop} (C : CxS p s m #[Value.ref b] meth c V cL_law 4 RL (some .boolean)) (hX : va_X b L xs s s.heap) (hbl : b < s.heap.size) (hbA : ¬ AX V s.heap.size b) (hcs : nc ≤ room_1.cells ∧ ns ≤ room_1.slots) (hloc : ∀ j, j < 69 → s.heap.size ≤ eA V j) (hpost : ∀ (v : Int32) (u : PoS), post v u → v = 1) (hk18 : ∀ (v3 : Int32) (u : PoS), k18 v3 u → AtS p l e room_1 s m #[Value.ref b] below meth c V 4 nc ns (lw_Z below #[Value.ref b] s) 18 [(0, .ref b), (1, .ref (eA V 0)), (2, .ref (eA V 48)), (3, .int v3)] [] u) (v3 : Int32) (s0 : Int32) (u : PoS) (h : wj_L_law_1480 L xs k18 post v3 s0 u) : AtS p l e room_1 s m #[Value.ref b] below meth c V 4 nc ns (lw_Z below #[Value.ref b] s) 1480 [(0, .ref b), (1, .ref (eA V 0)), (2, .ref (eA V 48)), (3, .int v3)] [.int s0, .ref (eA V 0)] u := by
  rw [wj_L_law_1480] at h
  refine a_callVi C dL_law_1480 (m_X11_thirsty l V h) bw_977 bw_978 bw_979 bw_112 bw_980 (by decide) rfl rfl np_X11_thirsty rfl rfl (by decide) (Nat.le_of_ble_eq_true rfl) hcs (fun r198 u199 h => ?_)
  refine a_aload_n C 2 dL_law_1483 rfl rfl ?_
  refine a_aload_n C 0 dL_law_1484 rfl rfl ?_
  refine a_iload_n C 3 dL_law_1485 rfl rfl ?_
  refine a_iconst C 1 dL_law_1486 (by decide) ?_
  refine a_iadd C dL_law_1487 ?_
  refine L_sld C hX hbl hbA dL_law_1488 h.1 ?_
  have h := h.2
  refine a_if_eq C 1496 dL_law_1489 (by decide) (fun c203 => ?_) (fun c203 => ?_)
  · have h := h.1 c203
    refine a_iconst C 0 dL_law_1496 (by decide) ?_
    refine tj_L_law_1497 C hX hbl hbA hcs hloc hpost hk18 _ _ _ _ h
  · have h := h.2 c203
    refine a_iconst C 1 dL_law_1492 (by decide) ?_
    refine a_goto C 1497 dL_law_1493 (by decide) ?_
    refine tj_L_law_1497 C hX hbl hbA hcs hloc hpost hk18 _ _ _ _ h
set_option maxHeartbeats 4000000 in
set_option maxRecDepth 100000 in
theorem tl_L_law_18 {p : Program} {l : Launch} {e : Env} {s : State} {m : MethodId} {b nc ns : Nat} {below : List Frame} {meth : Method} {c : Code} {V : VEn} {L : Nat} {xs : Nat → Int32} {post : Int32 → PoS → Prop} (C : CxS p s m #[Value.ref b] meth c V cL_law 4 RL (some .boolean)) (hX : va_X b L xs s s.heap) (hbl : b < s.heap.size) (hbA : ¬ AX V s.heap.size b) (hcs : nc ≤ room_1.cells ∧ ns ≤ room_1.slots) (hloc : ∀ j, j < 69 → s.heap.size ≤ eA V j) (hpost : ∀ (v : Int32) (u : PoS), post v u → v = 1) : ∀ (n : Nat) (v3 : Int32) (u : PoS), wl_L_law_18 L xs post n v3 u → AtS p l e room_1 s m #[Value.ref b] below meth c V 4 nc ns (lw_Z below #[Value.ref b] s) 18 [(0, .ref b), (1, .ref (eA V 0)), (2, .ref (eA V 48)), (3, .int v3)] [] u := by
  intro n
  induction n with
  | zero => intro v3 u h; exact h.elim
  | succ n ih =>
    intro v3 u h
    rw [wl_L_law_18] at h
    refine a_iload_n C 3 dL_law_18 rfl rfl ?_
    refine a_aload_n C 0 dL_law_19 rfl rfl ?_
    refine L_slen C hX hbl hbA dL_law_20 ?_
    refine a_bipush C 6 dL_law_21 (by decide) ?_
    refine a_isub C dL_law_23 ?_
    refine a_icmp_gt C 1632 dL_law_24 (by decide) (fun c240 => ?_) (fun c240 => ?_)
    · have h := h.1 c240
      refine a_iconst C 1 dL_law_1632 (by decide) ?_
      exact L_ret C hcs hloc dL_law_1633 (hpost _ _ h)
    · have h := h.2 c240
      refine a_aload_n C 0 dL_law_27 rfl rfl ?_
      refine a_iload_n C 3 dL_law_28 rfl rfl ?_
      refine L_sld C hX hbl hbA dL_law_29 h.1 ?_
      have h := h.2
      refine a_bipush C 63 dL_law_30 (by decide) ?_
      refine a_iand C dL_law_32 ?_
      obtain ⟨hs0, hs1, hs2, hs3, hs4, hs5, hs6, hs7, hs8, hs9, hs10, hs11, hs12, hs13, hs14, hs15, hs16, hs17, hs18, hs19, hs20, hs21, hs22, hs23, hs24, hs25, hs26, hs27, hs28, hs29, hs30, hs31, hs32, hs33, hs34, hs35, hs36, hs37, hs38, hs39, hs40, hs41, hs42, hs43, hs44, hd0⟩ := h
      by_cases hq0 : ((xs (Int32.toNatClampNeg v3)) &&& 63) = 0
      · have h := hs0 hq0
        refine a_tableIn C (off := 195) 228 dL_law_33 (by rw [hq0]; decide) (by rw [hq0]; decide) (by rw [hq0]; decide +kernel) (by decide) ?_
        refine a_aload_n C 1 dL_law_228 rfl rfl ?_
        refine a_aload_n C 0 dL_law_229 rfl rfl ?_
        refine a_iload_n C 3 dL_law_230 rfl rfl ?_
        refine a_iconst C 1 dL_law_231 (by decide) ?_
        refine a_iadd C dL_law_232 ?_
        refine L_sld C hX hbl hbA dL_law_233 h.1 ?_
        have h := h.2
        refine a_aload_n C 0 dL_law_234 rfl rfl ?_
        refine a_iload_n C 3 dL_law_235 rfl rfl ?_
        refine a_iconst C 2 dL_law_236 (by decide) ?_
        refine a_iadd C dL_law_237 ?_
        refine L_sld C hX hbl hbA dL_law_238 h.1 ?_
        have h := h.2
        refine a_if_eq C 246 dL_law_239 (by decide) (fun c7 => ?_) (fun c7 => ?_)
        · have h := h.1 c7
          refine a_iconst C 0 dL_law_246 (by decide) ?_
          refine tj_L_law_247 C hX hbl hbA hcs hloc hpost ih _ _ _ _ h
        · have h := h.2 c7
          refine a_iconst C 1 dL_law_242 (by decide) ?_
          refine a_goto C 247 dL_law_243 (by decide) ?_
          refine tj_L_law_247 C hX hbl hbA hcs hloc hpost ih _ _ _ _ h
      by_cases hq1 : ((xs (Int32.toNatClampNeg v3)) &&& 63) = 1
      · have h := hs1 hq1
        refine a_tableIn C (off := 244) 277 dL_law_33 (by rw [hq1]; decide) (by rw [hq1]; decide) (by rw [hq1]; decide +kernel) (by decide) ?_
        refine a_aload_n C 1 dL_law_277 rfl rfl ?_
        refine a_aload_n C 0 dL_law_278 rfl rfl ?_
        refine a_iload_n C 3 dL_law_279 rfl rfl ?_
        refine a_iconst C 1 dL_law_280 (by decide) ?_
        refine a_iadd C dL_law_281 ?_
        refine L_sld C hX hbl hbA dL_law_282 h.1 ?_
        have h := h.2
        refine a_aload_n C 0 dL_law_283 rfl rfl ?_
        refine a_iload_n C 3 dL_law_284 rfl rfl ?_
        refine a_iconst C 2 dL_law_285 (by decide) ?_
        refine a_iadd C dL_law_286 ?_
        refine L_sld C hX hbl hbA dL_law_287 h.1 ?_
        have h := h.2
        refine a_callVi C dL_law_288 (m_X11_field l V h) bw_400 bw_401 bw_402 bw_112 bw_403 (by decide) rfl rfl np_X11_field rfl rfl (by decide) (Nat.le_of_ble_eq_true rfl) hcs (fun r8 u9 h => ?_)
        refine a_aload_n C 2 dL_law_291 rfl rfl ?_
        refine a_aload_n C 0 dL_law_292 rfl rfl ?_
        refine a_iload_n C 3 dL_law_293 rfl rfl ?_
        refine a_iconst C 1 dL_law_294 (by decide) ?_
        refine a_iadd C dL_law_295 ?_
        refine L_sld C hX hbl hbA dL_law_296 h.1 ?_
        have h := h.2
        refine a_aload_n C 0 dL_law_297 rfl rfl ?_
        refine a_iload_n C 3 dL_law_298 rfl rfl ?_
        refine a_iconst C 2 dL_law_299 (by decide) ?_
        refine a_iadd C dL_law_300 ?_
        refine L_sld C hX hbl hbA dL_law_301 h.1 ?_
        have h := h.2
        refine a_callVi C dL_law_302 (m_X12_field l V h) bw_1162 bw_1163 bw_1164 bw_123 bw_1165 (by decide) rfl rfl np_X12_field rfl rfl (by decide) (Nat.le_of_ble_eq_true rfl) hcs (fun r10 u11 h => ?_)
        refine a_icmp_eq C 1626 dL_law_305 (by decide) (fun c12 => ?_) (fun c12 => ?_)
        · have h := h.1 c12
          refine tj_L_law_1626 C hX hbl hbA hcs hloc hpost ih _ _ h
        · have h := h.2 c12
          refine a_iconst C 0 dL_law_308 (by decide) ?_
          exact L_ret C hcs hloc dL_law_309 (hpost _ _ h)
      by_cases hq2 : ((xs (Int32.toNatClampNeg v3)) &&& 63) = 2
      · have h := hs2 hq2
        refine a_tableIn C (off := 277) 310 dL_law_33 (by rw [hq2]; decide) (by rw [hq2]; decide) (by rw [hq2]; decide +kernel) (by decide) ?_
        refine a_aload_n C 1 dL_law_310 rfl rfl ?_
        refine a_aload_n C 0 dL_law_311 rfl rfl ?_
        refine a_iload_n C 3 dL_law_312 rfl rfl ?_
        refine a_iconst C 1 dL_law_313 (by decide) ?_
        refine a_iadd C dL_law_314 ?_
        refine L_sld C hX hbl hbA dL_law_315 h.1 ?_
        have h := h.2
        refine a_aload_n C 0 dL_law_316 rfl rfl ?_
        refine a_iload_n C 3 dL_law_317 rfl rfl ?_
        refine a_iconst C 2 dL_law_318 (by decide) ?_
        refine a_iadd C dL_law_319 ?_
        refine L_sld C hX hbl hbA dL_law_320 h.1 ?_
        have h := h.2
        refine a_if_eq C 328 dL_law_321 (by decide) (fun c19 => ?_) (fun c19 => ?_)
        · have h := h.1 c19
          refine a_iconst C 0 dL_law_328 (by decide) ?_
          refine tj_L_law_329 C hX hbl hbA hcs hloc hpost ih _ _ _ _ h
        · have h := h.2 c19
          refine a_iconst C 1 dL_law_324 (by decide) ?_
          refine a_goto C 329 dL_law_325 (by decide) ?_
          refine tj_L_law_329 C hX hbl hbA hcs hloc hpost ih _ _ _ _ h
      by_cases hq3 : ((xs (Int32.toNatClampNeg v3)) &&& 63) = 3
      · have h := hs3 hq3
        refine a_tableIn C (off := 326) 359 dL_law_33 (by rw [hq3]; decide) (by rw [hq3]; decide) (by rw [hq3]; decide +kernel) (by decide) ?_
        refine a_aload_n C 1 dL_law_359 rfl rfl ?_
        refine a_aload_n C 0 dL_law_360 rfl rfl ?_
        refine a_iload_n C 3 dL_law_361 rfl rfl ?_
        refine a_iconst C 1 dL_law_362 (by decide) ?_
        refine a_iadd C dL_law_363 ?_
        refine L_sld C hX hbl hbA dL_law_364 h.1 ?_
        have h := h.2
        refine a_aload_n C 0 dL_law_365 rfl rfl ?_
        refine a_iload_n C 3 dL_law_366 rfl rfl ?_
        refine a_iconst C 2 dL_law_367 (by decide) ?_
        refine a_iadd C dL_law_368 ?_
        refine L_sld C hX hbl hbA dL_law_369 h.1 ?_
        have h := h.2
        refine a_aload_n C 0 dL_law_370 rfl rfl ?_
        refine a_iload_n C 3 dL_law_371 rfl rfl ?_
        refine a_iconst C 3 dL_law_372 (by decide) ?_
        refine a_iadd C dL_law_373 ?_
        refine L_sld C hX hbl hbA dL_law_374 h.1 ?_
        have h := h.2
        refine a_aload_n C 0 dL_law_375 rfl rfl ?_
        refine a_iload_n C 3 dL_law_376 rfl rfl ?_
        refine a_iconst C 4 dL_law_377 (by decide) ?_
        refine a_iadd C dL_law_378 ?_
        refine L_sld C hX hbl hbA dL_law_379 h.1 ?_
        have h := h.2
        refine a_aload_n C 0 dL_law_380 rfl rfl ?_
        refine a_iload_n C 3 dL_law_381 rfl rfl ?_
        refine a_iconst C 5 dL_law_382 (by decide) ?_
        refine a_iadd C dL_law_383 ?_
        refine L_sld C hX hbl hbA dL_law_384 h.1 ?_
        have h := h.2
        refine a_callVi C dL_law_385 (m_X11_feed l V h) bw_416 bw_417 bw_418 bw_112 bw_419 (by decide) rfl rfl np_X11_feed rfl rfl (by decide) (Nat.le_of_ble_eq_true rfl) hcs (fun r20 u21 h => ?_)
        refine a_aload_n C 2 dL_law_388 rfl rfl ?_
        refine a_aload_n C 0 dL_law_389 rfl rfl ?_
        refine a_iload_n C 3 dL_law_390 rfl rfl ?_
        refine a_iconst C 1 dL_law_391 (by decide) ?_
        refine a_iadd C dL_law_392 ?_
        refine L_sld C hX hbl hbA dL_law_393 h.1 ?_
        have h := h.2
        refine a_aload_n C 0 dL_law_394 rfl rfl ?_
        refine a_iload_n C 3 dL_law_395 rfl rfl ?_
        refine a_iconst C 2 dL_law_396 (by decide) ?_
        refine a_iadd C dL_law_397 ?_
        refine L_sld C hX hbl hbA dL_law_398 h.1 ?_
        have h := h.2
        refine a_aload_n C 0 dL_law_399 rfl rfl ?_
        refine a_iload_n C 3 dL_law_400 rfl rfl ?_
        refine a_iconst C 3 dL_law_401 (by decide) ?_
        refine a_iadd C dL_law_402 ?_
        refine L_sld C hX hbl hbA dL_law_403 h.1 ?_
        have h := h.2
        refine a_aload_n C 0 dL_law_404 rfl rfl ?_
        refine a_iload_n C 3 dL_law_405 rfl rfl ?_
        refine a_iconst C 4 dL_law_406 (by decide) ?_
        refine a_iadd C dL_law_407 ?_
        refine L_sld C hX hbl hbA dL_law_408 h.1 ?_
        have h := h.2
        refine a_aload_n C 0 dL_law_409 rfl rfl ?_
        refine a_iload_n C 3 dL_law_410 rfl rfl ?_
        refine a_iconst C 5 dL_law_411 (by decide) ?_
        refine a_iadd C dL_law_412 ?_
        refine L_sld C hX hbl hbA dL_law_413 h.1 ?_
        have h := h.2
        refine a_callVi C dL_law_414 (m_X12_feed l V h) bw_1174 bw_1175 bw_1176 bw_123 bw_1177 (by decide) rfl rfl np_X12_feed rfl rfl (by decide) (Nat.le_of_ble_eq_true rfl) hcs (fun r22 u23 h => ?_)
        refine a_icmp_eq C 1626 dL_law_417 (by decide) (fun c24 => ?_) (fun c24 => ?_)
        · have h := h.1 c24
          refine tj_L_law_1626 C hX hbl hbA hcs hloc hpost ih _ _ h
        · have h := h.2 c24
          refine a_iconst C 0 dL_law_420 (by decide) ?_
          exact L_ret C hcs hloc dL_law_421 (hpost _ _ h)
      by_cases hq4 : ((xs (Int32.toNatClampNeg v3)) &&& 63) = 4
      · have h := hs4 hq4
        refine a_tableIn C (off := 389) 422 dL_law_33 (by rw [hq4]; decide) (by rw [hq4]; decide) (by rw [hq4]; decide +kernel) (by decide) ?_
        refine a_aload_n C 1 dL_law_422 rfl rfl ?_
        refine a_aload_n C 0 dL_law_423 rfl rfl ?_
        refine a_iload_n C 3 dL_law_424 rfl rfl ?_
        refine a_iconst C 1 dL_law_425 (by decide) ?_
        refine a_iadd C dL_law_426 ?_
        refine L_sld C hX hbl hbA dL_law_427 h.1 ?_
        have h := h.2
        refine a_callVi C dL_law_428 (m_X11_end l V h) bw_424 bw_425 bw_426 bw_112 bw_427 (by decide) rfl rfl np_X11_end rfl rfl (by decide) (Nat.le_of_ble_eq_true rfl) hcs (fun r25 u26 h => ?_)
        refine a_aload_n C 2 dL_law_431 rfl rfl ?_
        refine a_aload_n C 0 dL_law_432 rfl rfl ?_
        refine a_iload_n C 3 dL_law_433 rfl rfl ?_
        refine a_iconst C 1 dL_law_434 (by decide) ?_
        refine a_iadd C dL_law_435 ?_
        refine L_sld C hX hbl hbA dL_law_436 h.1 ?_
        have h := h.2
        refine a_callVi C dL_law_437 (m_X12_end l V h) bw_1182 bw_1183 bw_1184 bw_123 bw_1185 (by decide) rfl rfl np_X12_end rfl rfl (by decide) (Nat.le_of_ble_eq_true rfl) hcs (fun r27 u28 h => ?_)
        refine a_icmp_eq C 1626 dL_law_440 (by decide) (fun c29 => ?_) (fun c29 => ?_)
        · have h := h.1 c29
          refine tj_L_law_1626 C hX hbl hbA hcs hloc hpost ih _ _ h
        · have h := h.2 c29
          refine a_iconst C 0 dL_law_443 (by decide) ?_
          exact L_ret C hcs hloc dL_law_444 (hpost _ _ h)
      by_cases hq5 : ((xs (Int32.toNatClampNeg v3)) &&& 63) = 5
      · have h := hs5 hq5
        refine a_tableIn C (off := 412) 445 dL_law_33 (by rw [hq5]; decide) (by rw [hq5]; decide) (by rw [hq5]; decide +kernel) (by decide) ?_
        refine a_aload_n C 1 dL_law_445 rfl rfl ?_
        refine a_callVi C dL_law_446 (m_X11_text l V h) bw_428 bw_429 bw_430 bw_112 bw_431 (by decide) rfl rfl np_X11_text rfl rfl (by decide) (Nat.le_of_ble_eq_true rfl) hcs (fun r30 u31 h => ?_)
        refine a_aload_n C 2 dL_law_449 rfl rfl ?_
        refine a_callVi C dL_law_450 (m_X12_text l V h) bw_1186 bw_1187 bw_1188 bw_123 bw_1189 (by decide) rfl rfl np_X12_text rfl rfl (by decide) (Nat.le_of_ble_eq_true rfl) hcs (fun r32 u33 h => ?_)
        refine a_icmp_eq C 1626 dL_law_453 (by decide) (fun c34 => ?_) (fun c34 => ?_)
        · have h := h.1 c34
          refine tj_L_law_1626 C hX hbl hbA hcs hloc hpost ih _ _ h
        · have h := h.2 c34
          refine a_iconst C 0 dL_law_456 (by decide) ?_
          exact L_ret C hcs hloc dL_law_457 (hpost _ _ h)
      by_cases hq6 : ((xs (Int32.toNatClampNeg v3)) &&& 63) = 6
      · have h := hs6 hq6
        refine a_tableIn C (off := 425) 458 dL_law_33 (by rw [hq6]; decide) (by rw [hq6]; decide) (by rw [hq6]; decide +kernel) (by decide) ?_
        refine a_aload_n C 1 dL_law_458 rfl rfl ?_
        refine a_aload_n C 0 dL_law_459 rfl rfl ?_
        refine a_iload_n C 3 dL_law_460 rfl rfl ?_
        refine a_iconst C 1 dL_law_461 (by decide) ?_
        refine a_iadd C dL_law_462 ?_
        refine L_sld C hX hbl hbA dL_law_463 h.1 ?_
        have h := h.2
        refine a_callVi C dL_law_464 (m_X11_fault l V h) bw_610 bw_611 bw_612 bw_112 bw_613 (by decide) rfl rfl np_X11_fault rfl rfl (by decide) (Nat.le_of_ble_eq_true rfl) hcs (fun r35 u36 h => ?_)
        refine a_aload_n C 2 dL_law_467 rfl rfl ?_
        refine a_aload_n C 0 dL_law_468 rfl rfl ?_
        refine a_iload_n C 3 dL_law_469 rfl rfl ?_
        refine a_iconst C 1 dL_law_470 (by decide) ?_
        refine a_iadd C dL_law_471 ?_
        refine L_sld C hX hbl hbA dL_law_472 h.1 ?_
        have h := h.2
        refine a_callVi C dL_law_473 (m_X12_fault l V h) bw_1322 bw_1323 bw_1324 bw_123 bw_1325 (by decide) rfl rfl np_X12_fault rfl rfl (by decide) (Nat.le_of_ble_eq_true rfl) hcs (fun r37 u38 h => ?_)
        refine a_icmp_eq C 1626 dL_law_476 (by decide) (fun c39 => ?_) (fun c39 => ?_)
        · have h := h.1 c39
          refine tj_L_law_1626 C hX hbl hbA hcs hloc hpost ih _ _ h
        · have h := h.2 c39
          refine a_iconst C 0 dL_law_479 (by decide) ?_
          exact L_ret C hcs hloc dL_law_480 (hpost _ _ h)
      by_cases hq7 : ((xs (Int32.toNatClampNeg v3)) &&& 63) = 7
      · have h := hs7 hq7
        refine a_tableIn C (off := 448) 481 dL_law_33 (by rw [hq7]; decide) (by rw [hq7]; decide) (by rw [hq7]; decide +kernel) (by decide) ?_
        refine a_aload_n C 1 dL_law_481 rfl rfl ?_
        refine a_aload_n C 0 dL_law_482 rfl rfl ?_
        refine a_iload_n C 3 dL_law_483 rfl rfl ?_
        refine a_iconst C 1 dL_law_484 (by decide) ?_
        refine a_iadd C dL_law_485 ?_
        refine L_sld C hX hbl hbA dL_law_486 h.1 ?_
        have h := h.2
        refine a_callVi C dL_law_487 (m_X11_by l V h) bw_614 bw_615 bw_616 bw_112 bw_617 (by decide) rfl rfl np_X11_by rfl rfl (by decide) (Nat.le_of_ble_eq_true rfl) hcs (fun r40 u41 h => ?_)
        refine a_aload_n C 2 dL_law_490 rfl rfl ?_
        refine a_aload_n C 0 dL_law_491 rfl rfl ?_
        refine a_iload_n C 3 dL_law_492 rfl rfl ?_
        refine a_iconst C 1 dL_law_493 (by decide) ?_
        refine a_iadd C dL_law_494 ?_
        refine L_sld C hX hbl hbA dL_law_495 h.1 ?_
        have h := h.2
        refine a_callVi C dL_law_496 (m_X12_by l V h) bw_1326 bw_1327 bw_1328 bw_123 bw_1329 (by decide) rfl rfl np_X12_by rfl rfl (by decide) (Nat.le_of_ble_eq_true rfl) hcs (fun r42 u43 h => ?_)
        refine a_icmp_eq C 1626 dL_law_499 (by decide) (fun c44 => ?_) (fun c44 => ?_)
        · have h := h.1 c44
          refine tj_L_law_1626 C hX hbl hbA hcs hloc hpost ih _ _ h
        · have h := h.2 c44
          refine a_iconst C 0 dL_law_502 (by decide) ?_
          exact L_ret C hcs hloc dL_law_503 (hpost _ _ h)
      by_cases hq8 : ((xs (Int32.toNatClampNeg v3)) &&& 63) = 8
      · have h := hs8 hq8
        refine a_tableIn C (off := 471) 504 dL_law_33 (by rw [hq8]; decide) (by rw [hq8]; decide) (by rw [hq8]; decide +kernel) (by decide) ?_
        refine a_aload_n C 1 dL_law_504 rfl rfl ?_
        refine a_aload_n C 0 dL_law_505 rfl rfl ?_
        refine a_iload_n C 3 dL_law_506 rfl rfl ?_
        refine a_iconst C 1 dL_law_507 (by decide) ?_
        refine a_iadd C dL_law_508 ?_
        refine L_sld C hX hbl hbA dL_law_509 h.1 ?_
        have h := h.2
        refine a_aload_n C 0 dL_law_510 rfl rfl ?_
        refine a_iload_n C 3 dL_law_511 rfl rfl ?_
        refine a_iconst C 2 dL_law_512 (by decide) ?_
        refine a_iadd C dL_law_513 ?_
        refine L_sld C hX hbl hbA dL_law_514 h.1 ?_
        have h := h.2
        refine a_callVi C dL_law_515 (m_X11_walk l V h) bw_622 bw_623 bw_624 bw_112 bw_625 (by decide) rfl rfl np_X11_walk rfl rfl (by decide) (Nat.le_of_ble_eq_true rfl) hcs (fun r45 u46 h => ?_)
        refine a_aload_n C 2 dL_law_518 rfl rfl ?_
        refine a_aload_n C 0 dL_law_519 rfl rfl ?_
        refine a_iload_n C 3 dL_law_520 rfl rfl ?_
        refine a_iconst C 1 dL_law_521 (by decide) ?_
        refine a_iadd C dL_law_522 ?_
        refine L_sld C hX hbl hbA dL_law_523 h.1 ?_
        have h := h.2
        refine a_aload_n C 0 dL_law_524 rfl rfl ?_
        refine a_iload_n C 3 dL_law_525 rfl rfl ?_
        refine a_iconst C 2 dL_law_526 (by decide) ?_
        refine a_iadd C dL_law_527 ?_
        refine L_sld C hX hbl hbA dL_law_528 h.1 ?_
        have h := h.2
        refine a_callVi C dL_law_529 (m_X12_walk l V h) bw_1334 bw_1335 bw_1336 bw_123 bw_1337 (by decide) rfl rfl np_X12_walk rfl rfl (by decide) (Nat.le_of_ble_eq_true rfl) hcs (fun r47 u48 h => ?_)
        refine a_icmp_eq C 1626 dL_law_532 (by decide) (fun c49 => ?_) (fun c49 => ?_)
        · have h := h.1 c49
          refine tj_L_law_1626 C hX hbl hbA hcs hloc hpost ih _ _ h
        · have h := h.2 c49
          refine a_iconst C 0 dL_law_535 (by decide) ?_
          exact L_ret C hcs hloc dL_law_536 (hpost _ _ h)
      by_cases hq9 : ((xs (Int32.toNatClampNeg v3)) &&& 63) = 9
      · have h := hs9 hq9
        refine a_tableIn C (off := 504) 537 dL_law_33 (by rw [hq9]; decide) (by rw [hq9]; decide) (by rw [hq9]; decide +kernel) (by decide) ?_
        refine a_aload_n C 1 dL_law_537 rfl rfl ?_
        refine a_aload_n C 0 dL_law_538 rfl rfl ?_
        refine a_iload_n C 3 dL_law_539 rfl rfl ?_
        refine a_iconst C 1 dL_law_540 (by decide) ?_
        refine a_iadd C dL_law_541 ?_
        refine L_sld C hX hbl hbA dL_law_542 h.1 ?_
        have h := h.2
        refine a_aload_n C 0 dL_law_543 rfl rfl ?_
        refine a_iload_n C 3 dL_law_544 rfl rfl ?_
        refine a_iconst C 2 dL_law_545 (by decide) ?_
        refine a_iadd C dL_law_546 ?_
        refine L_sld C hX hbl hbA dL_law_547 h.1 ?_
        have h := h.2
        refine a_if_eq C 555 dL_law_548 (by decide) (fun c56 => ?_) (fun c56 => ?_)
        · have h := h.1 c56
          refine a_iconst C 0 dL_law_555 (by decide) ?_
          refine tj_L_law_556 C hX hbl hbA hcs hloc hpost ih _ _ _ _ h
        · have h := h.2 c56
          refine a_iconst C 1 dL_law_551 (by decide) ?_
          refine a_goto C 556 dL_law_552 (by decide) ?_
          refine tj_L_law_556 C hX hbl hbA hcs hloc hpost ih _ _ _ _ h
      by_cases hq10 : ((xs (Int32.toNatClampNeg v3)) &&& 63) = 10
      · have h := hs10 hq10
        refine a_tableIn C (off := 553) 586 dL_law_33 (by rw [hq10]; decide) (by rw [hq10]; decide) (by rw [hq10]; decide +kernel) (by decide) ?_
        refine a_aload_n C 1 dL_law_586 rfl rfl ?_
        refine a_callVi C dL_law_587 (m_X11_draw l V h) bw_652 bw_653 bw_654 bw_112 bw_655 (by decide) rfl rfl np_X11_draw rfl rfl (by decide) (Nat.le_of_ble_eq_true rfl) hcs (fun r57 u58 h => ?_)
        refine a_aload_n C 2 dL_law_590 rfl rfl ?_
        refine a_callVi C dL_law_591 (m_X12_draw l V h) bw_1360 bw_1361 bw_1362 bw_123 bw_1363 (by decide) rfl rfl np_X12_draw rfl rfl (by decide) (Nat.le_of_ble_eq_true rfl) hcs (fun r59 u60 h => ?_)
        refine a_icmp_eq C 1626 dL_law_594 (by decide) (fun c61 => ?_) (fun c61 => ?_)
        · have h := h.1 c61
          refine tj_L_law_1626 C hX hbl hbA hcs hloc hpost ih _ _ h
        · have h := h.2 c61
          refine a_iconst C 0 dL_law_597 (by decide) ?_
          exact L_ret C hcs hloc dL_law_598 (hpost _ _ h)
      by_cases hq11 : ((xs (Int32.toNatClampNeg v3)) &&& 63) = 11
      · have h := hs11 hq11
        refine a_tableIn C (off := 566) 599 dL_law_33 (by rw [hq11]; decide) (by rw [hq11]; decide) (by rw [hq11]; decide +kernel) (by decide) ?_
        refine a_aload_n C 1 dL_law_599 rfl rfl ?_
        refine a_aload_n C 0 dL_law_600 rfl rfl ?_
        refine a_iload_n C 3 dL_law_601 rfl rfl ?_
        refine a_iconst C 1 dL_law_602 (by decide) ?_
        refine a_iadd C dL_law_603 ?_
        refine L_sld C hX hbl hbA dL_law_604 h.1 ?_
        have h := h.2
        refine a_callVi C dL_law_605 (m_X11_minute l V h) bw_660 bw_661 bw_662 bw_112 bw_663 (by decide) rfl rfl np_X11_minute rfl rfl (by decide) (Nat.le_of_ble_eq_true rfl) hcs (fun r62 u63 h => ?_)
        refine a_aload_n C 2 dL_law_608 rfl rfl ?_
        refine a_aload_n C 0 dL_law_609 rfl rfl ?_
        refine a_iload_n C 3 dL_law_610 rfl rfl ?_
        refine a_iconst C 1 dL_law_611 (by decide) ?_
        refine a_iadd C dL_law_612 ?_
        refine L_sld C hX hbl hbA dL_law_613 h.1 ?_
        have h := h.2
        refine a_callVi C dL_law_614 (m_X12_minute l V h) bw_1375 bw_1376 bw_1377 bw_123 bw_1378 (by decide) rfl rfl np_X12_minute rfl rfl (by decide) (Nat.le_of_ble_eq_true rfl) hcs (fun r64 u65 h => ?_)
        refine a_icmp_eq C 1626 dL_law_617 (by decide) (fun c66 => ?_) (fun c66 => ?_)
        · have h := h.1 c66
          refine tj_L_law_1626 C hX hbl hbA hcs hloc hpost ih _ _ h
        · have h := h.2 c66
          refine a_iconst C 0 dL_law_620 (by decide) ?_
          exact L_ret C hcs hloc dL_law_621 (hpost _ _ h)
      by_cases hq12 : ((xs (Int32.toNatClampNeg v3)) &&& 63) = 12
      · have h := hs12 hq12
        refine a_tableIn C (off := 589) 622 dL_law_33 (by rw [hq12]; decide) (by rw [hq12]; decide) (by rw [hq12]; decide +kernel) (by decide) ?_
        refine a_aload_n C 1 dL_law_622 rfl rfl ?_
        refine a_aload_n C 0 dL_law_623 rfl rfl ?_
        refine a_iload_n C 3 dL_law_624 rfl rfl ?_
        refine a_iconst C 1 dL_law_625 (by decide) ?_
        refine a_iadd C dL_law_626 ?_
        refine L_sld C hX hbl hbA dL_law_627 h.1 ?_
        have h := h.2
        refine a_callVi C dL_law_628 (m_X11_played l V h) bw_744 bw_745 bw_746 bw_112 bw_747 (by decide) rfl rfl np_X11_played rfl rfl (by decide) (Nat.le_of_ble_eq_true rfl) hcs (fun r67 u68 h => ?_)
        refine a_aload_n C 2 dL_law_631 rfl rfl ?_
        refine a_aload_n C 0 dL_law_632 rfl rfl ?_
        refine a_iload_n C 3 dL_law_633 rfl rfl ?_
        refine a_iconst C 1 dL_law_634 (by decide) ?_
        refine a_iadd C dL_law_635 ?_
        refine L_sld C hX hbl hbA dL_law_636 h.1 ?_
        have h := h.2
        refine a_callVi C dL_law_637 (m_X12_played l V h) bw_1471 bw_1472 bw_1473 bw_123 bw_1474 (by decide) rfl rfl np_X12_played rfl rfl (by decide) (Nat.le_of_ble_eq_true rfl) hcs (fun r69 u70 h => ?_)
        refine a_icmp_eq C 1626 dL_law_640 (by decide) (fun c71 => ?_) (fun c71 => ?_)
        · have h := h.1 c71
          refine tj_L_law_1626 C hX hbl hbA hcs hloc hpost ih _ _ h
        · have h := h.2 c71
          refine a_iconst C 0 dL_law_643 (by decide) ?_
          exact L_ret C hcs hloc dL_law_644 (hpost _ _ h)
      by_cases hq13 : ((xs (Int32.toNatClampNeg v3)) &&& 63) = 13
      · have h := hs13 hq13
        refine a_tableIn C (off := 612) 645 dL_law_33 (by rw [hq13]; decide) (by rw [hq13]; decide) (by rw [hq13]; decide +kernel) (by decide) ?_
        refine a_aload_n C 1 dL_law_645 rfl rfl ?_
        refine a_aload_n C 0 dL_law_646 rfl rfl ?_
        refine a_iload_n C 3 dL_law_647 rfl rfl ?_
        refine a_iconst C 1 dL_law_648 (by decide) ?_
        refine a_iadd C dL_law_649 ?_
        refine L_sld C hX hbl hbA dL_law_650 h.1 ?_
        have h := h.2
        refine a_aload_n C 0 dL_law_651 rfl rfl ?_
        refine a_iload_n C 3 dL_law_652 rfl rfl ?_
        refine a_iconst C 2 dL_law_653 (by decide) ?_
        refine a_iadd C dL_law_654 ?_
        refine L_sld C hX hbl hbA dL_law_655 h.1 ?_
        have h := h.2
        refine a_callVi C dL_law_656 (m_X11_years l V h) bw_758 bw_759 bw_760 bw_112 bw_761 (by decide) rfl rfl np_X11_years rfl rfl (by decide) (Nat.le_of_ble_eq_true rfl) hcs (fun r72 u73 h => ?_)
        refine a_aload_n C 2 dL_law_659 rfl rfl ?_
        refine a_aload_n C 0 dL_law_660 rfl rfl ?_
        refine a_iload_n C 3 dL_law_661 rfl rfl ?_
        refine a_iconst C 1 dL_law_662 (by decide) ?_
        refine a_iadd C dL_law_663 ?_
        refine L_sld C hX hbl hbA dL_law_664 h.1 ?_
        have h := h.2
        refine a_aload_n C 0 dL_law_665 rfl rfl ?_
        refine a_iload_n C 3 dL_law_666 rfl rfl ?_
        refine a_iconst C 2 dL_law_667 (by decide) ?_
        refine a_iadd C dL_law_668 ?_
        refine L_sld C hX hbl hbA dL_law_669 h.1 ?_
        have h := h.2
        refine a_callVi C dL_law_670 (m_X12_years l V h) bw_1485 bw_1486 bw_1487 bw_123 bw_1488 (by decide) rfl rfl np_X12_years rfl rfl (by decide) (Nat.le_of_ble_eq_true rfl) hcs (fun r74 u75 h => ?_)
        refine a_icmp_eq C 1626 dL_law_673 (by decide) (fun c76 => ?_) (fun c76 => ?_)
        · have h := h.1 c76
          refine tj_L_law_1626 C hX hbl hbA hcs hloc hpost ih _ _ h
        · have h := h.2 c76
          refine a_iconst C 0 dL_law_676 (by decide) ?_
          exact L_ret C hcs hloc dL_law_677 (hpost _ _ h)
      by_cases hq14 : ((xs (Int32.toNatClampNeg v3)) &&& 63) = 14
      · have h := hs14 hq14
        refine a_tableIn C (off := 645) 678 dL_law_33 (by rw [hq14]; decide) (by rw [hq14]; decide) (by rw [hq14]; decide +kernel) (by decide) ?_
        refine a_aload_n C 1 dL_law_678 rfl rfl ?_
        refine a_callVi C dL_law_679 (m_X11_undo l V h) bw_768 bw_769 bw_770 bw_112 bw_771 (by decide) rfl rfl np_X11_undo rfl rfl (by decide) (Nat.le_of_ble_eq_true rfl) hcs (fun r77 u78 h => ?_)
        refine a_aload_n C 2 dL_law_682 rfl rfl ?_
        refine a_callVi C dL_law_683 (m_X12_undo l V h) bw_1330 bw_1331 bw_1332 bw_123 bw_1333 (by decide) rfl rfl np_X12_undo rfl rfl (by decide) (Nat.le_of_ble_eq_true rfl) hcs (fun r79 u80 h => ?_)
        refine a_icmp_eq C 1626 dL_law_686 (by decide) (fun c81 => ?_) (fun c81 => ?_)
        · have h := h.1 c81
          refine tj_L_law_1626 C hX hbl hbA hcs hloc hpost ih _ _ h
        · have h := h.2 c81
          refine a_iconst C 0 dL_law_689 (by decide) ?_
          exact L_ret C hcs hloc dL_law_690 (hpost _ _ h)
      by_cases hq15 : ((xs (Int32.toNatClampNeg v3)) &&& 63) = 15
      · have h := hs15 hq15
        refine a_tableIn C (off := 658) 691 dL_law_33 (by rw [hq15]; decide) (by rw [hq15]; decide) (by rw [hq15]; decide +kernel) (by decide) ?_
        refine a_aload_n C 1 dL_law_691 rfl rfl ?_
        refine a_aload_n C 0 dL_law_692 rfl rfl ?_
        refine a_iload_n C 3 dL_law_693 rfl rfl ?_
        refine a_iconst C 1 dL_law_694 (by decide) ?_
        refine a_iadd C dL_law_695 ?_
        refine L_sld C hX hbl hbA dL_law_696 h.1 ?_
        have h := h.2
        refine a_aload_n C 0 dL_law_697 rfl rfl ?_
        refine a_iload_n C 3 dL_law_698 rfl rfl ?_
        refine a_iconst C 2 dL_law_699 (by decide) ?_
        refine a_iadd C dL_law_700 ?_
        refine L_sld C hX hbl hbA dL_law_701 h.1 ?_
        have h := h.2
        refine a_callVi C dL_law_702 (m_X11_of l V h) bw_772 bw_773 bw_774 bw_112 bw_775 (by decide) rfl rfl np_X11_of rfl rfl (by decide) (Nat.le_of_ble_eq_true rfl) hcs (fun r82 u83 h => ?_)
        refine a_aload_n C 2 dL_law_705 rfl rfl ?_
        refine a_aload_n C 0 dL_law_706 rfl rfl ?_
        refine a_iload_n C 3 dL_law_707 rfl rfl ?_
        refine a_iconst C 1 dL_law_708 (by decide) ?_
        refine a_iadd C dL_law_709 ?_
        refine L_sld C hX hbl hbA dL_law_710 h.1 ?_
        have h := h.2
        refine a_aload_n C 0 dL_law_711 rfl rfl ?_
        refine a_iload_n C 3 dL_law_712 rfl rfl ?_
        refine a_iconst C 2 dL_law_713 (by decide) ?_
        refine a_iadd C dL_law_714 ?_
        refine L_sld C hX hbl hbA dL_law_715 h.1 ?_
        have h := h.2
        refine a_callVi C dL_law_716 (m_X12_of l V h) bw_1493 bw_1494 bw_1495 bw_123 bw_1496 (by decide) rfl rfl np_X12_of rfl rfl (by decide) (Nat.le_of_ble_eq_true rfl) hcs (fun r84 u85 h => ?_)
        refine a_icmp_eq C 1626 dL_law_719 (by decide) (fun c86 => ?_) (fun c86 => ?_)
        · have h := h.1 c86
          refine tj_L_law_1626 C hX hbl hbA hcs hloc hpost ih _ _ h
        · have h := h.2 c86
          refine a_iconst C 0 dL_law_722 (by decide) ?_
          exact L_ret C hcs hloc dL_law_723 (hpost _ _ h)
      by_cases hq16 : ((xs (Int32.toNatClampNeg v3)) &&& 63) = 16
      · have h := hs16 hq16
        refine a_tableIn C (off := 691) 724 dL_law_33 (by rw [hq16]; decide) (by rw [hq16]; decide) (by rw [hq16]; decide +kernel) (by decide) ?_
        refine a_aload_n C 1 dL_law_724 rfl rfl ?_
        refine a_aload_n C 0 dL_law_725 rfl rfl ?_
        refine a_iload_n C 3 dL_law_726 rfl rfl ?_
        refine a_iconst C 1 dL_law_727 (by decide) ?_
        refine a_iadd C dL_law_728 ?_
        refine L_sld C hX hbl hbA dL_law_729 h.1 ?_
        have h := h.2
        refine a_aload_n C 0 dL_law_730 rfl rfl ?_
        refine a_iload_n C 3 dL_law_731 rfl rfl ?_
        refine a_iconst C 2 dL_law_732 (by decide) ?_
        refine a_iadd C dL_law_733 ?_
        refine L_sld C hX hbl hbA dL_law_734 h.1 ?_
        have h := h.2
        refine a_callVi C dL_law_735 (m_X11_ofCell l V h) bw_782 bw_783 bw_784 bw_112 bw_785 (by decide) rfl rfl np_X11_ofCell rfl rfl (by decide) (Nat.le_of_ble_eq_true rfl) hcs (fun r87 u88 h => ?_)
        refine a_aload_n C 2 dL_law_738 rfl rfl ?_
        refine a_aload_n C 0 dL_law_739 rfl rfl ?_
        refine a_iload_n C 3 dL_law_740 rfl rfl ?_
        refine a_iconst C 1 dL_law_741 (by decide) ?_
        refine a_iadd C dL_law_742 ?_
        refine L_sld C hX hbl hbA dL_law_743 h.1 ?_
        have h := h.2
        refine a_aload_n C 0 dL_law_744 rfl rfl ?_
        refine a_iload_n C 3 dL_law_745 rfl rfl ?_
        refine a_iconst C 2 dL_law_746 (by decide) ?_
        refine a_iadd C dL_law_747 ?_
        refine L_sld C hX hbl hbA dL_law_748 h.1 ?_
        have h := h.2
        refine a_callVi C dL_law_749 (m_X12_ofCell l V h) bw_1497 bw_1498 bw_1499 bw_123 bw_1500 (by decide) rfl rfl np_X12_ofCell rfl rfl (by decide) (Nat.le_of_ble_eq_true rfl) hcs (fun r89 u90 h => ?_)
        refine a_icmp_eq C 1626 dL_law_752 (by decide) (fun c91 => ?_) (fun c91 => ?_)
        · have h := h.1 c91
          refine tj_L_law_1626 C hX hbl hbA hcs hloc hpost ih _ _ h
        · have h := h.2 c91
          refine a_iconst C 0 dL_law_755 (by decide) ?_
          exact L_ret C hcs hloc dL_law_756 (hpost _ _ h)
      by_cases hq17 : ((xs (Int32.toNatClampNeg v3)) &&& 63) = 17
      · have h := hs17 hq17
        refine a_tableIn C (off := 724) 757 dL_law_33 (by rw [hq17]; decide) (by rw [hq17]; decide) (by rw [hq17]; decide +kernel) (by decide) ?_
        refine a_aload_n C 1 dL_law_757 rfl rfl ?_
        refine a_aload_n C 0 dL_law_758 rfl rfl ?_
        refine a_iload_n C 3 dL_law_759 rfl rfl ?_
        refine a_iconst C 1 dL_law_760 (by decide) ?_
        refine a_iadd C dL_law_761 ?_
        refine L_sld C hX hbl hbA dL_law_762 h.1 ?_
        have h := h.2
        refine a_callVi C dL_law_763 (m_X11_is l V h) bw_786 bw_787 bw_788 bw_112 bw_789 (by decide) rfl rfl np_X11_is rfl rfl (by decide) (Nat.le_of_ble_eq_true rfl) hcs (fun r92 u93 h => ?_)
        refine a_aload_n C 2 dL_law_766 rfl rfl ?_
        refine a_aload_n C 0 dL_law_767 rfl rfl ?_
        refine a_iload_n C 3 dL_law_768 rfl rfl ?_
        refine a_iconst C 1 dL_law_769 (by decide) ?_
        refine a_iadd C dL_law_770 ?_
        refine L_sld C hX hbl hbA dL_law_771 h.1 ?_
        have h := h.2
        refine a_callVi C dL_law_772 (m_X12_is l V h) bw_1501 bw_1502 bw_1503 bw_123 bw_1504 (by decide) rfl rfl np_X12_is rfl rfl (by decide) (Nat.le_of_ble_eq_true rfl) hcs (fun r94 u95 h => ?_)
        refine a_icmp_eq C 1626 dL_law_775 (by decide) (fun c96 => ?_) (fun c96 => ?_)
        · have h := h.1 c96
          refine tj_L_law_1626 C hX hbl hbA hcs hloc hpost ih _ _ h
        · have h := h.2 c96
          refine a_iconst C 0 dL_law_778 (by decide) ?_
          exact L_ret C hcs hloc dL_law_779 (hpost _ _ h)
      by_cases hq18 : ((xs (Int32.toNatClampNeg v3)) &&& 63) = 18
      · have h := hs18 hq18
        refine a_tableIn C (off := 747) 780 dL_law_33 (by rw [hq18]; decide) (by rw [hq18]; decide) (by rw [hq18]; decide +kernel) (by decide) ?_
        refine a_aload_n C 1 dL_law_780 rfl rfl ?_
        refine a_aload_n C 0 dL_law_781 rfl rfl ?_
        refine a_iload_n C 3 dL_law_782 rfl rfl ?_
        refine a_iconst C 1 dL_law_783 (by decide) ?_
        refine a_iadd C dL_law_784 ?_
        refine L_sld C hX hbl hbA dL_law_785 h.1 ?_
        have h := h.2
        refine a_aload_n C 0 dL_law_786 rfl rfl ?_
        refine a_iload_n C 3 dL_law_787 rfl rfl ?_
        refine a_iconst C 2 dL_law_788 (by decide) ?_
        refine a_iadd C dL_law_789 ?_
        refine L_sld C hX hbl hbA dL_law_790 h.1 ?_
        have h := h.2
        refine a_callVi C dL_law_791 (m_X11_book l V h) bw_791 bw_792 bw_793 bw_112 bw_794 (by decide) rfl rfl np_X11_book rfl rfl (by decide) (Nat.le_of_ble_eq_true rfl) hcs (fun r97 u98 h => ?_)
        refine a_aload_n C 2 dL_law_794 rfl rfl ?_
        refine a_aload_n C 0 dL_law_795 rfl rfl ?_
        refine a_iload_n C 3 dL_law_796 rfl rfl ?_
        refine a_iconst C 1 dL_law_797 (by decide) ?_
        refine a_iadd C dL_law_798 ?_
        refine L_sld C hX hbl hbA dL_law_799 h.1 ?_
        have h := h.2
        refine a_aload_n C 0 dL_law_800 rfl rfl ?_
        refine a_iload_n C 3 dL_law_801 rfl rfl ?_
        refine a_iconst C 2 dL_law_802 (by decide) ?_
        refine a_iadd C dL_law_803 ?_
        refine L_sld C hX hbl hbA dL_law_804 h.1 ?_
        have h := h.2
        refine a_callVi C dL_law_805 (m_X12_book l V h) bw_1505 bw_1506 bw_1507 bw_123 bw_1508 (by decide) rfl rfl np_X12_book rfl rfl (by decide) (Nat.le_of_ble_eq_true rfl) hcs (fun r99 u100 h => ?_)
        refine a_icmp_eq C 1626 dL_law_808 (by decide) (fun c101 => ?_) (fun c101 => ?_)
        · have h := h.1 c101
          refine tj_L_law_1626 C hX hbl hbA hcs hloc hpost ih _ _ h
        · have h := h.2 c101
          refine a_iconst C 0 dL_law_811 (by decide) ?_
          exact L_ret C hcs hloc dL_law_812 (hpost _ _ h)
      by_cases hq19 : ((xs (Int32.toNatClampNeg v3)) &&& 63) = 19
      · have h := hs19 hq19
        refine a_tableIn C (off := 780) 813 dL_law_33 (by rw [hq19]; decide) (by rw [hq19]; decide) (by rw [hq19]; decide +kernel) (by decide) ?_
        refine a_aload_n C 1 dL_law_813 rfl rfl ?_
        refine a_aload_n C 0 dL_law_814 rfl rfl ?_
        refine a_iload_n C 3 dL_law_815 rfl rfl ?_
        refine a_iconst C 1 dL_law_816 (by decide) ?_
        refine a_iadd C dL_law_817 ?_
        refine L_sld C hX hbl hbA dL_law_818 h.1 ?_
        have h := h.2
        refine a_aload_n C 0 dL_law_819 rfl rfl ?_
        refine a_iload_n C 3 dL_law_820 rfl rfl ?_
        refine a_iconst C 2 dL_law_821 (by decide) ?_
        refine a_iadd C dL_law_822 ?_
        refine L_sld C hX hbl hbA dL_law_823 h.1 ?_
        have h := h.2
        refine a_aload_n C 0 dL_law_824 rfl rfl ?_
        refine a_iload_n C 3 dL_law_825 rfl rfl ?_
        refine a_iconst C 3 dL_law_826 (by decide) ?_
        refine a_iadd C dL_law_827 ?_
        refine L_sld C hX hbl hbA dL_law_828 h.1 ?_
        have h := h.2
        refine a_callVi C dL_law_829 (m_X11_foretold l V h) bw_807 bw_808 bw_809 bw_112 bw_810 (by decide) rfl rfl np_X11_foretold rfl rfl (by decide) (Nat.le_of_ble_eq_true rfl) hcs (fun r102 u103 h => ?_)
        refine a_aload_n C 2 dL_law_832 rfl rfl ?_
        refine a_aload_n C 0 dL_law_833 rfl rfl ?_
        refine a_iload_n C 3 dL_law_834 rfl rfl ?_
        refine a_iconst C 1 dL_law_835 (by decide) ?_
        refine a_iadd C dL_law_836 ?_
        refine L_sld C hX hbl hbA dL_law_837 h.1 ?_
        have h := h.2
        refine a_aload_n C 0 dL_law_838 rfl rfl ?_
        refine a_iload_n C 3 dL_law_839 rfl rfl ?_
        refine a_iconst C 2 dL_law_840 (by decide) ?_
        refine a_iadd C dL_law_841 ?_
        refine L_sld C hX hbl hbA dL_law_842 h.1 ?_
        have h := h.2
        refine a_aload_n C 0 dL_law_843 rfl rfl ?_
        refine a_iload_n C 3 dL_law_844 rfl rfl ?_
        refine a_iconst C 3 dL_law_845 (by decide) ?_
        refine a_iadd C dL_law_846 ?_
        refine L_sld C hX hbl hbA dL_law_847 h.1 ?_
        have h := h.2
        refine a_callVi C dL_law_848 (m_X12_foretold l V h) bw_1534 bw_1535 bw_1536 bw_123 bw_1537 (by decide) rfl rfl np_X12_foretold rfl rfl (by decide) (Nat.le_of_ble_eq_true rfl) hcs (fun r104 u105 h => ?_)
        refine a_icmp_eq C 1626 dL_law_851 (by decide) (fun c106 => ?_) (fun c106 => ?_)
        · have h := h.1 c106
          refine tj_L_law_1626 C hX hbl hbA hcs hloc hpost ih _ _ h
        · have h := h.2 c106
          refine a_iconst C 0 dL_law_854 (by decide) ?_
          exact L_ret C hcs hloc dL_law_855 (hpost _ _ h)
      by_cases hq20 : ((xs (Int32.toNatClampNeg v3)) &&& 63) = 20
      · have h := hs20 hq20
        refine a_tableIn C (off := 823) 856 dL_law_33 (by rw [hq20]; decide) (by rw [hq20]; decide) (by rw [hq20]; decide +kernel) (by decide) ?_
        refine a_aload_n C 1 dL_law_856 rfl rfl ?_
        refine a_aload_n C 0 dL_law_857 rfl rfl ?_
        refine a_iload_n C 3 dL_law_858 rfl rfl ?_
        refine a_iconst C 1 dL_law_859 (by decide) ?_
        refine a_iadd C dL_law_860 ?_
        refine L_sld C hX hbl hbA dL_law_861 h.1 ?_
        have h := h.2
        refine a_callVi C dL_law_862 (m_X11_when l V h) bw_811 bw_812 bw_813 bw_112 bw_814 (by decide) rfl rfl np_X11_when rfl rfl (by decide) (Nat.le_of_ble_eq_true rfl) hcs (fun r107 u108 h => ?_)
        refine a_aload_n C 2 dL_law_865 rfl rfl ?_
        refine a_aload_n C 0 dL_law_866 rfl rfl ?_
        refine a_iload_n C 3 dL_law_867 rfl rfl ?_
        refine a_iconst C 1 dL_law_868 (by decide) ?_
        refine a_iadd C dL_law_869 ?_
        refine L_sld C hX hbl hbA dL_law_870 h.1 ?_
        have h := h.2
        refine a_callVi C dL_law_871 (m_X12_when l V h) bw_1546 bw_1547 bw_1548 bw_123 bw_1549 (by decide) rfl rfl np_X12_when rfl rfl (by decide) (Nat.le_of_ble_eq_true rfl) hcs (fun r109 u110 h => ?_)
        refine a_icmp_eq C 1626 dL_law_874 (by decide) (fun c111 => ?_) (fun c111 => ?_)
        · have h := h.1 c111
          refine tj_L_law_1626 C hX hbl hbA hcs hloc hpost ih _ _ h
        · have h := h.2 c111
          refine a_iconst C 0 dL_law_877 (by decide) ?_
          exact L_ret C hcs hloc dL_law_878 (hpost _ _ h)
      by_cases hq21 : ((xs (Int32.toNatClampNeg v3)) &&& 63) = 21
      · have h := hs21 hq21
        refine a_tableIn C (off := 846) 879 dL_law_33 (by rw [hq21]; decide) (by rw [hq21]; decide) (by rw [hq21]; decide +kernel) (by decide) ?_
        refine a_aload_n C 1 dL_law_879 rfl rfl ?_
        refine a_aload_n C 0 dL_law_880 rfl rfl ?_
        refine a_iload_n C 3 dL_law_881 rfl rfl ?_
        refine a_iconst C 1 dL_law_882 (by decide) ?_
        refine a_iadd C dL_law_883 ?_
        refine L_sld C hX hbl hbA dL_law_884 h.1 ?_
        have h := h.2
        refine a_aload_n C 0 dL_law_885 rfl rfl ?_
        refine a_iload_n C 3 dL_law_886 rfl rfl ?_
        refine a_iconst C 2 dL_law_887 (by decide) ?_
        refine a_iadd C dL_law_888 ?_
        refine L_sld C hX hbl hbA dL_law_889 h.1 ?_
        have h := h.2
        refine a_callVi C dL_law_890 (m_X11_steps l V h) bw_815 bw_816 bw_817 bw_112 bw_818 (by decide) rfl rfl np_X11_steps rfl rfl (by decide) (Nat.le_of_ble_eq_true rfl) hcs (fun r112 u113 h => ?_)
        refine a_aload_n C 2 dL_law_893 rfl rfl ?_
        refine a_aload_n C 0 dL_law_894 rfl rfl ?_
        refine a_iload_n C 3 dL_law_895 rfl rfl ?_
        refine a_iconst C 1 dL_law_896 (by decide) ?_
        refine a_iadd C dL_law_897 ?_
        refine L_sld C hX hbl hbA dL_law_898 h.1 ?_
        have h := h.2
        refine a_aload_n C 0 dL_law_899 rfl rfl ?_
        refine a_iload_n C 3 dL_law_900 rfl rfl ?_
        refine a_iconst C 2 dL_law_901 (by decide) ?_
        refine a_iadd C dL_law_902 ?_
        refine L_sld C hX hbl hbA dL_law_903 h.1 ?_
        have h := h.2
        refine a_callVi C dL_law_904 (m_X12_steps l V h) bw_1554 bw_1555 bw_1556 bw_123 bw_1557 (by decide) rfl rfl np_X12_steps rfl rfl (by decide) (Nat.le_of_ble_eq_true rfl) hcs (fun r114 u115 h => ?_)
        refine a_icmp_eq C 1626 dL_law_907 (by decide) (fun c116 => ?_) (fun c116 => ?_)
        · have h := h.1 c116
          refine tj_L_law_1626 C hX hbl hbA hcs hloc hpost ih _ _ h
        · have h := h.2 c116
          refine a_iconst C 0 dL_law_910 (by decide) ?_
          exact L_ret C hcs hloc dL_law_911 (hpost _ _ h)
      by_cases hq22 : ((xs (Int32.toNatClampNeg v3)) &&& 63) = 22
      · have h := hs22 hq22
        refine a_tableIn C (off := 879) 912 dL_law_33 (by rw [hq22]; decide) (by rw [hq22]; decide) (by rw [hq22]; decide +kernel) (by decide) ?_
        refine a_aload_n C 1 dL_law_912 rfl rfl ?_
        refine a_aload_n C 0 dL_law_913 rfl rfl ?_
        refine a_iload_n C 3 dL_law_914 rfl rfl ?_
        refine a_iconst C 1 dL_law_915 (by decide) ?_
        refine a_iadd C dL_law_916 ?_
        refine L_sld C hX hbl hbA dL_law_917 h.1 ?_
        have h := h.2
        refine a_aload_n C 0 dL_law_918 rfl rfl ?_
        refine a_iload_n C 3 dL_law_919 rfl rfl ?_
        refine a_iconst C 2 dL_law_920 (by decide) ?_
        refine a_iadd C dL_law_921 ?_
        refine L_sld C hX hbl hbA dL_law_922 h.1 ?_
        have h := h.2
        refine a_aload_n C 0 dL_law_923 rfl rfl ?_
        refine a_iload_n C 3 dL_law_924 rfl rfl ?_
        refine a_iconst C 3 dL_law_925 (by decide) ?_
        refine a_iadd C dL_law_926 ?_
        refine L_sld C hX hbl hbA dL_law_927 h.1 ?_
        have h := h.2
        refine a_callVi C dL_law_928 (m_X11_way l V h) bw_821 bw_822 bw_823 bw_112 bw_824 (by decide) rfl rfl np_X11_way rfl rfl (by decide) (Nat.le_of_ble_eq_true rfl) hcs (fun r117 u118 h => ?_)
        refine a_aload_n C 2 dL_law_931 rfl rfl ?_
        refine a_aload_n C 0 dL_law_932 rfl rfl ?_
        refine a_iload_n C 3 dL_law_933 rfl rfl ?_
        refine a_iconst C 1 dL_law_934 (by decide) ?_
        refine a_iadd C dL_law_935 ?_
        refine L_sld C hX hbl hbA dL_law_936 h.1 ?_
        have h := h.2
        refine a_aload_n C 0 dL_law_937 rfl rfl ?_
        refine a_iload_n C 3 dL_law_938 rfl rfl ?_
        refine a_iconst C 2 dL_law_939 (by decide) ?_
        refine a_iadd C dL_law_940 ?_
        refine L_sld C hX hbl hbA dL_law_941 h.1 ?_
        have h := h.2
        refine a_aload_n C 0 dL_law_942 rfl rfl ?_
        refine a_iload_n C 3 dL_law_943 rfl rfl ?_
        refine a_iconst C 3 dL_law_944 (by decide) ?_
        refine a_iadd C dL_law_945 ?_
        refine L_sld C hX hbl hbA dL_law_946 h.1 ?_
        have h := h.2
        refine a_callVi C dL_law_947 (m_X12_way l V h) bw_1558 bw_1559 bw_1560 bw_123 bw_1561 (by decide) rfl rfl np_X12_way rfl rfl (by decide) (Nat.le_of_ble_eq_true rfl) hcs (fun r119 u120 h => ?_)
        refine a_icmp_eq C 1626 dL_law_950 (by decide) (fun c121 => ?_) (fun c121 => ?_)
        · have h := h.1 c121
          refine tj_L_law_1626 C hX hbl hbA hcs hloc hpost ih _ _ h
        · have h := h.2 c121
          refine a_iconst C 0 dL_law_953 (by decide) ?_
          exact L_ret C hcs hloc dL_law_954 (hpost _ _ h)
      by_cases hq23 : ((xs (Int32.toNatClampNeg v3)) &&& 63) = 23
      · have h := hs23 hq23
        refine a_tableIn C (off := 922) 955 dL_law_33 (by rw [hq23]; decide) (by rw [hq23]; decide) (by rw [hq23]; decide +kernel) (by decide) ?_
        refine a_aload_n C 1 dL_law_955 rfl rfl ?_
        refine a_aload_n C 0 dL_law_956 rfl rfl ?_
        refine a_iload_n C 3 dL_law_957 rfl rfl ?_
        refine a_iconst C 1 dL_law_958 (by decide) ?_
        refine a_iadd C dL_law_959 ?_
        refine L_sld C hX hbl hbA dL_law_960 h.1 ?_
        have h := h.2
        refine a_aload_n C 0 dL_law_961 rfl rfl ?_
        refine a_iload_n C 3 dL_law_962 rfl rfl ?_
        refine a_iconst C 2 dL_law_963 (by decide) ?_
        refine a_iadd C dL_law_964 ?_
        refine L_sld C hX hbl hbA dL_law_965 h.1 ?_
        have h := h.2
        refine a_aload_n C 0 dL_law_966 rfl rfl ?_
        refine a_iload_n C 3 dL_law_967 rfl rfl ?_
        refine a_iconst C 3 dL_law_968 (by decide) ?_
        refine a_iadd C dL_law_969 ?_
        refine L_sld C hX hbl hbA dL_law_970 h.1 ?_
        have h := h.2
        refine a_callVi C dL_law_971 (m_X11_caught l V h) bw_826 bw_827 bw_828 bw_112 bw_829 (by decide) rfl rfl np_X11_caught rfl rfl (by decide) (Nat.le_of_ble_eq_true rfl) hcs (fun r122 u123 h => ?_)
        refine a_aload_n C 2 dL_law_974 rfl rfl ?_
        refine a_aload_n C 0 dL_law_975 rfl rfl ?_
        refine a_iload_n C 3 dL_law_976 rfl rfl ?_
        refine a_iconst C 1 dL_law_977 (by decide) ?_
        refine a_iadd C dL_law_978 ?_
        refine L_sld C hX hbl hbA dL_law_979 h.1 ?_
        have h := h.2
        refine a_aload_n C 0 dL_law_980 rfl rfl ?_
        refine a_iload_n C 3 dL_law_981 rfl rfl ?_
        refine a_iconst C 2 dL_law_982 (by decide) ?_
        refine a_iadd C dL_law_983 ?_
        refine L_sld C hX hbl hbA dL_law_984 h.1 ?_
        have h := h.2
        refine a_aload_n C 0 dL_law_985 rfl rfl ?_
        refine a_iload_n C 3 dL_law_986 rfl rfl ?_
        refine a_iconst C 3 dL_law_987 (by decide) ?_
        refine a_iadd C dL_law_988 ?_
        refine L_sld C hX hbl hbA dL_law_989 h.1 ?_
        have h := h.2
        refine a_callVi C dL_law_990 (m_X12_caught l V h) bw_1562 bw_1563 bw_1564 bw_123 bw_1565 (by decide) rfl rfl np_X12_caught rfl rfl (by decide) (Nat.le_of_ble_eq_true rfl) hcs (fun r124 u125 h => ?_)
        refine a_icmp_eq C 1626 dL_law_993 (by decide) (fun c126 => ?_) (fun c126 => ?_)
        · have h := h.1 c126
          refine tj_L_law_1626 C hX hbl hbA hcs hloc hpost ih _ _ h
        · have h := h.2 c126
          refine a_iconst C 0 dL_law_996 (by decide) ?_
          exact L_ret C hcs hloc dL_law_997 (hpost _ _ h)
      by_cases hq24 : ((xs (Int32.toNatClampNeg v3)) &&& 63) = 24
      · have h := hs24 hq24
        refine a_tableIn C (off := 965) 998 dL_law_33 (by rw [hq24]; decide) (by rw [hq24]; decide) (by rw [hq24]; decide +kernel) (by decide) ?_
        refine a_aload_n C 1 dL_law_998 rfl rfl ?_
        refine a_aload_n C 0 dL_law_999 rfl rfl ?_
        refine a_iload_n C 3 dL_law_1000 rfl rfl ?_
        refine a_iconst C 1 dL_law_1001 (by decide) ?_
        refine a_iadd C dL_law_1002 ?_
        refine L_sld C hX hbl hbA dL_law_1003 h.1 ?_
        have h := h.2
        refine a_aload_n C 0 dL_law_1004 rfl rfl ?_
        refine a_iload_n C 3 dL_law_1005 rfl rfl ?_
        refine a_iconst C 2 dL_law_1006 (by decide) ?_
        refine a_iadd C dL_law_1007 ?_
        refine L_sld C hX hbl hbA dL_law_1008 h.1 ?_
        have h := h.2
        refine a_aload_n C 0 dL_law_1009 rfl rfl ?_
        refine a_iload_n C 3 dL_law_1010 rfl rfl ?_
        refine a_iconst C 3 dL_law_1011 (by decide) ?_
        refine a_iadd C dL_law_1012 ?_
        refine L_sld C hX hbl hbA dL_law_1013 h.1 ?_
        have h := h.2
        refine a_callVi C dL_law_1014 (m_X11_flee l V h) bw_854 bw_855 bw_856 bw_112 bw_857 (by decide) rfl rfl np_X11_flee rfl rfl (by decide) (Nat.le_of_ble_eq_true rfl) hcs (fun r127 u128 h => ?_)
        refine a_aload_n C 2 dL_law_1017 rfl rfl ?_
        refine a_aload_n C 0 dL_law_1018 rfl rfl ?_
        refine a_iload_n C 3 dL_law_1019 rfl rfl ?_
        refine a_iconst C 1 dL_law_1020 (by decide) ?_
        refine a_iadd C dL_law_1021 ?_
        refine L_sld C hX hbl hbA dL_law_1022 h.1 ?_
        have h := h.2
        refine a_aload_n C 0 dL_law_1023 rfl rfl ?_
        refine a_iload_n C 3 dL_law_1024 rfl rfl ?_
        refine a_iconst C 2 dL_law_1025 (by decide) ?_
        refine a_iadd C dL_law_1026 ?_
        refine L_sld C hX hbl hbA dL_law_1027 h.1 ?_
        have h := h.2
        refine a_aload_n C 0 dL_law_1028 rfl rfl ?_
        refine a_iload_n C 3 dL_law_1029 rfl rfl ?_
        refine a_iconst C 3 dL_law_1030 (by decide) ?_
        refine a_iadd C dL_law_1031 ?_
        refine L_sld C hX hbl hbA dL_law_1032 h.1 ?_
        have h := h.2
        refine a_callVi C dL_law_1033 (m_X12_flee l V h) bw_1591 bw_1592 bw_1593 bw_123 bw_1594 (by decide) rfl rfl np_X12_flee rfl rfl (by decide) (Nat.le_of_ble_eq_true rfl) hcs (fun r129 u130 h => ?_)
        refine a_icmp_eq C 1626 dL_law_1036 (by decide) (fun c131 => ?_) (fun c131 => ?_)
        · have h := h.1 c131
          refine tj_L_law_1626 C hX hbl hbA hcs hloc hpost ih _ _ h
        · have h := h.2 c131
          refine a_iconst C 0 dL_law_1039 (by decide) ?_
          exact L_ret C hcs hloc dL_law_1040 (hpost _ _ h)
      by_cases hq25 : ((xs (Int32.toNatClampNeg v3)) &&& 63) = 25
      · have h := hs25 hq25
        refine a_tableIn C (off := 1008) 1041 dL_law_33 (by rw [hq25]; decide) (by rw [hq25]; decide) (by rw [hq25]; decide +kernel) (by decide) ?_
        refine a_aload_n C 1 dL_law_1041 rfl rfl ?_
        refine a_aload_n C 0 dL_law_1042 rfl rfl ?_
        refine a_iload_n C 3 dL_law_1043 rfl rfl ?_
        refine a_iconst C 1 dL_law_1044 (by decide) ?_
        refine a_iadd C dL_law_1045 ?_
        refine L_sld C hX hbl hbA dL_law_1046 h.1 ?_
        have h := h.2
        refine a_aload_n C 0 dL_law_1047 rfl rfl ?_
        refine a_iload_n C 3 dL_law_1048 rfl rfl ?_
        refine a_iconst C 2 dL_law_1049 (by decide) ?_
        refine a_iadd C dL_law_1050 ?_
        refine L_sld C hX hbl hbA dL_law_1051 h.1 ?_
        have h := h.2
        refine a_aload_n C 0 dL_law_1052 rfl rfl ?_
        refine a_iload_n C 3 dL_law_1053 rfl rfl ?_
        refine a_iconst C 3 dL_law_1054 (by decide) ?_
        refine a_iadd C dL_law_1055 ?_
        refine L_sld C hX hbl hbA dL_law_1056 h.1 ?_
        have h := h.2
        refine a_callVi C dL_law_1057 (m_X11_tour l V h) bw_858 bw_859 bw_860 bw_112 bw_861 (by decide) rfl rfl np_X11_tour rfl rfl (by decide) (Nat.le_of_ble_eq_true rfl) hcs (fun r132 u133 h => ?_)
        refine a_aload_n C 2 dL_law_1060 rfl rfl ?_
        refine a_aload_n C 0 dL_law_1061 rfl rfl ?_
        refine a_iload_n C 3 dL_law_1062 rfl rfl ?_
        refine a_iconst C 1 dL_law_1063 (by decide) ?_
        refine a_iadd C dL_law_1064 ?_
        refine L_sld C hX hbl hbA dL_law_1065 h.1 ?_
        have h := h.2
        refine a_aload_n C 0 dL_law_1066 rfl rfl ?_
        refine a_iload_n C 3 dL_law_1067 rfl rfl ?_
        refine a_iconst C 2 dL_law_1068 (by decide) ?_
        refine a_iadd C dL_law_1069 ?_
        refine L_sld C hX hbl hbA dL_law_1070 h.1 ?_
        have h := h.2
        refine a_aload_n C 0 dL_law_1071 rfl rfl ?_
        refine a_iload_n C 3 dL_law_1072 rfl rfl ?_
        refine a_iconst C 3 dL_law_1073 (by decide) ?_
        refine a_iadd C dL_law_1074 ?_
        refine L_sld C hX hbl hbA dL_law_1075 h.1 ?_
        have h := h.2
        refine a_callVi C dL_law_1076 (m_X12_tour l V h) bw_1595 bw_1596 bw_1597 bw_123 bw_1598 (by decide) rfl rfl np_X12_tour rfl rfl (by decide) (Nat.le_of_ble_eq_true rfl) hcs (fun r134 u135 h => ?_)
        refine a_icmp_eq C 1626 dL_law_1079 (by decide) (fun c136 => ?_) (fun c136 => ?_)
        · have h := h.1 c136
          refine tj_L_law_1626 C hX hbl hbA hcs hloc hpost ih _ _ h
        · have h := h.2 c136
          refine a_iconst C 0 dL_law_1082 (by decide) ?_
          exact L_ret C hcs hloc dL_law_1083 (hpost _ _ h)
      by_cases hq26 : ((xs (Int32.toNatClampNeg v3)) &&& 63) = 26
      · have h := hs26 hq26
        refine a_tableIn C (off := 1051) 1084 dL_law_33 (by rw [hq26]; decide) (by rw [hq26]; decide) (by rw [hq26]; decide +kernel) (by decide) ?_
        refine a_aload_n C 1 dL_law_1084 rfl rfl ?_
        refine a_aload_n C 0 dL_law_1085 rfl rfl ?_
        refine a_iload_n C 3 dL_law_1086 rfl rfl ?_
        refine a_iconst C 1 dL_law_1087 (by decide) ?_
        refine a_iadd C dL_law_1088 ?_
        refine L_sld C hX hbl hbA dL_law_1089 h.1 ?_
        have h := h.2
        refine a_aload_n C 0 dL_law_1090 rfl rfl ?_
        refine a_iload_n C 3 dL_law_1091 rfl rfl ?_
        refine a_iconst C 2 dL_law_1092 (by decide) ?_
        refine a_iadd C dL_law_1093 ?_
        refine L_sld C hX hbl hbA dL_law_1094 h.1 ?_
        have h := h.2
        refine a_callVi C dL_law_1095 (m_X11_cut l V h) bw_876 bw_877 bw_878 bw_112 bw_879 (by decide) rfl rfl np_X11_cut rfl rfl (by decide) (Nat.le_of_ble_eq_true rfl) hcs (fun r137 u138 h => ?_)
        refine a_aload_n C 2 dL_law_1098 rfl rfl ?_
        refine a_aload_n C 0 dL_law_1099 rfl rfl ?_
        refine a_iload_n C 3 dL_law_1100 rfl rfl ?_
        refine a_iconst C 1 dL_law_1101 (by decide) ?_
        refine a_iadd C dL_law_1102 ?_
        refine L_sld C hX hbl hbA dL_law_1103 h.1 ?_
        have h := h.2
        refine a_aload_n C 0 dL_law_1104 rfl rfl ?_
        refine a_iload_n C 3 dL_law_1105 rfl rfl ?_
        refine a_iconst C 2 dL_law_1106 (by decide) ?_
        refine a_iadd C dL_law_1107 ?_
        refine L_sld C hX hbl hbA dL_law_1108 h.1 ?_
        have h := h.2
        refine a_callVi C dL_law_1109 (m_X12_cut l V h) bw_1614 bw_1615 bw_1616 bw_123 bw_1617 (by decide) rfl rfl np_X12_cut rfl rfl (by decide) (Nat.le_of_ble_eq_true rfl) hcs (fun r139 u140 h => ?_)
        refine a_icmp_eq C 1626 dL_law_1112 (by decide) (fun c141 => ?_) (fun c141 => ?_)
        · have h := h.1 c141
          refine tj_L_law_1626 C hX hbl hbA hcs hloc hpost ih _ _ h
        · have h := h.2 c141
          refine a_iconst C 0 dL_law_1115 (by decide) ?_
          exact L_ret C hcs hloc dL_law_1116 (hpost _ _ h)
      by_cases hq27 : ((xs (Int32.toNatClampNeg v3)) &&& 63) = 27
      · have h := hs27 hq27
        refine a_tableIn C (off := 1084) 1117 dL_law_33 (by rw [hq27]; decide) (by rw [hq27]; decide) (by rw [hq27]; decide +kernel) (by decide) ?_
        refine a_aload_n C 1 dL_law_1117 rfl rfl ?_
        refine a_callVi C dL_law_1118 (m_X11_narrows l V h) bw_897 bw_898 bw_899 bw_112 bw_900 (by decide) rfl rfl np_X11_narrows rfl rfl (by decide) (Nat.le_of_ble_eq_true rfl) hcs (fun r142 u143 h => ?_)
        refine a_aload_n C 2 dL_law_1121 rfl rfl ?_
        refine a_callVi C dL_law_1122 (m_X12_narrows l V h) bw_1633 bw_1634 bw_1635 bw_123 bw_1636 (by decide) rfl rfl np_X12_narrows rfl rfl (by decide) (Nat.le_of_ble_eq_true rfl) hcs (fun r144 u145 h => ?_)
        refine a_icmp_eq C 1626 dL_law_1125 (by decide) (fun c146 => ?_) (fun c146 => ?_)
        · have h := h.1 c146
          refine tj_L_law_1626 C hX hbl hbA hcs hloc hpost ih _ _ h
        · have h := h.2 c146
          refine a_iconst C 0 dL_law_1128 (by decide) ?_
          exact L_ret C hcs hloc dL_law_1129 (hpost _ _ h)
      by_cases hq28 : ((xs (Int32.toNatClampNeg v3)) &&& 63) = 28
      · have h := hs28 hq28
        refine a_tableIn C (off := 1097) 1130 dL_law_33 (by rw [hq28]; decide) (by rw [hq28]; decide) (by rw [hq28]; decide +kernel) (by decide) ?_
        refine a_aload_n C 1 dL_law_1130 rfl rfl ?_
        refine a_aload_n C 0 dL_law_1131 rfl rfl ?_
        refine a_iload_n C 3 dL_law_1132 rfl rfl ?_
        refine a_iconst C 1 dL_law_1133 (by decide) ?_
        refine a_iadd C dL_law_1134 ?_
        refine L_sld C hX hbl hbA dL_law_1135 h.1 ?_
        have h := h.2
        refine a_aload_n C 0 dL_law_1136 rfl rfl ?_
        refine a_iload_n C 3 dL_law_1137 rfl rfl ?_
        refine a_iconst C 2 dL_law_1138 (by decide) ?_
        refine a_iadd C dL_law_1139 ?_
        refine L_sld C hX hbl hbA dL_law_1140 h.1 ?_
        have h := h.2
        refine a_aload_n C 0 dL_law_1141 rfl rfl ?_
        refine a_iload_n C 3 dL_law_1142 rfl rfl ?_
        refine a_iconst C 3 dL_law_1143 (by decide) ?_
        refine a_iadd C dL_law_1144 ?_
        refine L_sld C hX hbl hbA dL_law_1145 h.1 ?_
        have h := h.2
        refine a_callVi C dL_law_1146 (m_X11_cost l V h) bw_905 bw_906 bw_907 bw_112 bw_908 (by decide) rfl rfl np_X11_cost rfl rfl (by decide) (Nat.le_of_ble_eq_true rfl) hcs (fun r147 u148 h => ?_)
        refine a_aload_n C 2 dL_law_1149 rfl rfl ?_
        refine a_aload_n C 0 dL_law_1150 rfl rfl ?_
        refine a_iload_n C 3 dL_law_1151 rfl rfl ?_
        refine a_iconst C 1 dL_law_1152 (by decide) ?_
        refine a_iadd C dL_law_1153 ?_
        refine L_sld C hX hbl hbA dL_law_1154 h.1 ?_
        have h := h.2
        refine a_aload_n C 0 dL_law_1155 rfl rfl ?_
        refine a_iload_n C 3 dL_law_1156 rfl rfl ?_
        refine a_iconst C 2 dL_law_1157 (by decide) ?_
        refine a_iadd C dL_law_1158 ?_
        refine L_sld C hX hbl hbA dL_law_1159 h.1 ?_
        have h := h.2
        refine a_aload_n C 0 dL_law_1160 rfl rfl ?_
        refine a_iload_n C 3 dL_law_1161 rfl rfl ?_
        refine a_iconst C 3 dL_law_1162 (by decide) ?_
        refine a_iadd C dL_law_1163 ?_
        refine L_sld C hX hbl hbA dL_law_1164 h.1 ?_
        have h := h.2
        refine a_callVi C dL_law_1165 (m_X12_cost l V h) bw_1640 bw_1641 bw_1642 bw_123 bw_1643 (by decide) rfl rfl np_X12_cost rfl rfl (by decide) (Nat.le_of_ble_eq_true rfl) hcs (fun r149 u150 h => ?_)
        refine a_icmp_eq C 1626 dL_law_1168 (by decide) (fun c151 => ?_) (fun c151 => ?_)
        · have h := h.1 c151
          refine tj_L_law_1626 C hX hbl hbA hcs hloc hpost ih _ _ h
        · have h := h.2 c151
          refine a_iconst C 0 dL_law_1171 (by decide) ?_
          exact L_ret C hcs hloc dL_law_1172 (hpost _ _ h)
      by_cases hq29 : ((xs (Int32.toNatClampNeg v3)) &&& 63) = 29
      · have h := hs29 hq29
        refine a_tableIn C (off := 1140) 1173 dL_law_33 (by rw [hq29]; decide) (by rw [hq29]; decide) (by rw [hq29]; decide +kernel) (by decide) ?_
        refine a_aload_n C 1 dL_law_1173 rfl rfl ?_
        refine a_aload_n C 0 dL_law_1174 rfl rfl ?_
        refine a_iload_n C 3 dL_law_1175 rfl rfl ?_
        refine a_iconst C 1 dL_law_1176 (by decide) ?_
        refine a_iadd C dL_law_1177 ?_
        refine L_sld C hX hbl hbA dL_law_1178 h.1 ?_
        have h := h.2
        refine a_aload_n C 0 dL_law_1179 rfl rfl ?_
        refine a_iload_n C 3 dL_law_1180 rfl rfl ?_
        refine a_iconst C 2 dL_law_1181 (by decide) ?_
        refine a_iadd C dL_law_1182 ?_
        refine L_sld C hX hbl hbA dL_law_1183 h.1 ?_
        have h := h.2
        refine a_callVi C dL_law_1184 (m_X11_roster l V h) bw_912 bw_913 bw_914 bw_112 bw_915 (by decide) rfl rfl np_X11_roster rfl rfl (by decide) (Nat.le_of_ble_eq_true rfl) hcs (fun r152 u153 h => ?_)
        refine a_aload_n C 2 dL_law_1187 rfl rfl ?_
        refine a_aload_n C 0 dL_law_1188 rfl rfl ?_
        refine a_iload_n C 3 dL_law_1189 rfl rfl ?_
        refine a_iconst C 1 dL_law_1190 (by decide) ?_
        refine a_iadd C dL_law_1191 ?_
        refine L_sld C hX hbl hbA dL_law_1192 h.1 ?_
        have h := h.2
        refine a_aload_n C 0 dL_law_1193 rfl rfl ?_
        refine a_iload_n C 3 dL_law_1194 rfl rfl ?_
        refine a_iconst C 2 dL_law_1195 (by decide) ?_
        refine a_iadd C dL_law_1196 ?_
        refine L_sld C hX hbl hbA dL_law_1197 h.1 ?_
        have h := h.2
        refine a_callVi C dL_law_1198 (m_X12_roster l V h) bw_1644 bw_1645 bw_1646 bw_123 bw_1647 (by decide) rfl rfl np_X12_roster rfl rfl (by decide) (Nat.le_of_ble_eq_true rfl) hcs (fun r154 u155 h => ?_)
        refine a_icmp_eq C 1626 dL_law_1201 (by decide) (fun c156 => ?_) (fun c156 => ?_)
        · have h := h.1 c156
          refine tj_L_law_1626 C hX hbl hbA hcs hloc hpost ih _ _ h
        · have h := h.2 c156
          refine a_iconst C 0 dL_law_1204 (by decide) ?_
          exact L_ret C hcs hloc dL_law_1205 (hpost _ _ h)
      by_cases hq30 : ((xs (Int32.toNatClampNeg v3)) &&& 63) = 30
      · have h := hs30 hq30
        refine a_tableIn C (off := 1173) 1206 dL_law_33 (by rw [hq30]; decide) (by rw [hq30]; decide) (by rw [hq30]; decide +kernel) (by decide) ?_
        refine a_aload_n C 1 dL_law_1206 rfl rfl ?_
        refine a_aload_n C 0 dL_law_1207 rfl rfl ?_
        refine a_iload_n C 3 dL_law_1208 rfl rfl ?_
        refine a_iconst C 1 dL_law_1209 (by decide) ?_
        refine a_iadd C dL_law_1210 ?_
        refine L_sld C hX hbl hbA dL_law_1211 h.1 ?_
        have h := h.2
        refine a_aload_n C 0 dL_law_1212 rfl rfl ?_
        refine a_iload_n C 3 dL_law_1213 rfl rfl ?_
        refine a_iconst C 2 dL_law_1214 (by decide) ?_
        refine a_iadd C dL_law_1215 ?_
        refine L_sld C hX hbl hbA dL_law_1216 h.1 ?_
        have h := h.2
        refine a_aload_n C 0 dL_law_1217 rfl rfl ?_
        refine a_iload_n C 3 dL_law_1218 rfl rfl ?_
        refine a_iconst C 3 dL_law_1219 (by decide) ?_
        refine a_iadd C dL_law_1220 ?_
        refine L_sld C hX hbl hbA dL_law_1221 h.1 ?_
        have h := h.2
        refine a_callVi C dL_law_1222 (m_X11_swap l V h) bw_934 bw_935 bw_936 bw_112 bw_937 (by decide) rfl rfl np_X11_swap rfl rfl (by decide) (Nat.le_of_ble_eq_true rfl) hcs (fun r157 u158 h => ?_)
        refine a_aload_n C 2 dL_law_1225 rfl rfl ?_
        refine a_aload_n C 0 dL_law_1226 rfl rfl ?_
        refine a_iload_n C 3 dL_law_1227 rfl rfl ?_
        refine a_iconst C 1 dL_law_1228 (by decide) ?_
        refine a_iadd C dL_law_1229 ?_
        refine L_sld C hX hbl hbA dL_law_1230 h.1 ?_
        have h := h.2
        refine a_aload_n C 0 dL_law_1231 rfl rfl ?_
        refine a_iload_n C 3 dL_law_1232 rfl rfl ?_
        refine a_iconst C 2 dL_law_1233 (by decide) ?_
        refine a_iadd C dL_law_1234 ?_
        refine L_sld C hX hbl hbA dL_law_1235 h.1 ?_
        have h := h.2
        refine a_aload_n C 0 dL_law_1236 rfl rfl ?_
        refine a_iload_n C 3 dL_law_1237 rfl rfl ?_
        refine a_iconst C 3 dL_law_1238 (by decide) ?_
        refine a_iadd C dL_law_1239 ?_
        refine L_sld C hX hbl hbA dL_law_1240 h.1 ?_
        have h := h.2
        refine a_callVi C dL_law_1241 (m_X12_swap l V h) bw_1660 bw_1661 bw_1662 bw_123 bw_1663 (by decide) rfl rfl np_X12_swap rfl rfl (by decide) (Nat.le_of_ble_eq_true rfl) hcs (fun r159 u160 h => ?_)
        refine a_icmp_eq C 1626 dL_law_1244 (by decide) (fun c161 => ?_) (fun c161 => ?_)
        · have h := h.1 c161
          refine tj_L_law_1626 C hX hbl hbA hcs hloc hpost ih _ _ h
        · have h := h.2 c161
          refine a_iconst C 0 dL_law_1247 (by decide) ?_
          exact L_ret C hcs hloc dL_law_1248 (hpost _ _ h)
      by_cases hq31 : ((xs (Int32.toNatClampNeg v3)) &&& 63) = 31
      · have h := hs31 hq31
        refine a_tableIn C (off := 1216) 1249 dL_law_33 (by rw [hq31]; decide) (by rw [hq31]; decide) (by rw [hq31]; decide +kernel) (by decide) ?_
        refine a_aload_n C 1 dL_law_1249 rfl rfl ?_
        refine a_aload_n C 0 dL_law_1250 rfl rfl ?_
        refine a_iload_n C 3 dL_law_1251 rfl rfl ?_
        refine a_iconst C 1 dL_law_1252 (by decide) ?_
        refine a_iadd C dL_law_1253 ?_
        refine L_sld C hX hbl hbA dL_law_1254 h.1 ?_
        have h := h.2
        refine a_aload_n C 0 dL_law_1255 rfl rfl ?_
        refine a_iload_n C 3 dL_law_1256 rfl rfl ?_
        refine a_iconst C 2 dL_law_1257 (by decide) ?_
        refine a_iadd C dL_law_1258 ?_
        refine L_sld C hX hbl hbA dL_law_1259 h.1 ?_
        have h := h.2
        refine a_callVi C dL_law_1260 (m_X11_seen l V h) bw_938 bw_939 bw_940 bw_112 bw_941 (by decide) rfl rfl np_X11_seen rfl rfl (by decide) (Nat.le_of_ble_eq_true rfl) hcs (fun r162 u163 h => ?_)
        refine a_aload_n C 2 dL_law_1263 rfl rfl ?_
        refine a_aload_n C 0 dL_law_1264 rfl rfl ?_
        refine a_iload_n C 3 dL_law_1265 rfl rfl ?_
        refine a_iconst C 1 dL_law_1266 (by decide) ?_
        refine a_iadd C dL_law_1267 ?_
        refine L_sld C hX hbl hbA dL_law_1268 h.1 ?_
        have h := h.2
        refine a_aload_n C 0 dL_law_1269 rfl rfl ?_
        refine a_iload_n C 3 dL_law_1270 rfl rfl ?_
        refine a_iconst C 2 dL_law_1271 (by decide) ?_
        refine a_iadd C dL_law_1272 ?_
        refine L_sld C hX hbl hbA dL_law_1273 h.1 ?_
        have h := h.2
        refine a_callVi C dL_law_1274 (m_X12_seen l V h) bw_1664 bw_1665 bw_1666 bw_123 bw_1667 (by decide) rfl rfl np_X12_seen rfl rfl (by decide) (Nat.le_of_ble_eq_true rfl) hcs (fun r164 u165 h => ?_)
        refine a_icmp_eq C 1626 dL_law_1277 (by decide) (fun c166 => ?_) (fun c166 => ?_)
        · have h := h.1 c166
          refine tj_L_law_1626 C hX hbl hbA hcs hloc hpost ih _ _ h
        · have h := h.2 c166
          refine a_iconst C 0 dL_law_1280 (by decide) ?_
          exact L_ret C hcs hloc dL_law_1281 (hpost _ _ h)
      by_cases hq32 : ((xs (Int32.toNatClampNeg v3)) &&& 63) = 32
      · have h := hs32 hq32
        refine a_tableIn C (off := 1249) 1282 dL_law_33 (by rw [hq32]; decide) (by rw [hq32]; decide) (by rw [hq32]; decide +kernel) (by decide) ?_
        refine a_aload_n C 1 dL_law_1282 rfl rfl ?_
        refine a_aload_n C 0 dL_law_1283 rfl rfl ?_
        refine a_iload_n C 3 dL_law_1284 rfl rfl ?_
        refine a_iconst C 1 dL_law_1285 (by decide) ?_
        refine a_iadd C dL_law_1286 ?_
        refine L_sld C hX hbl hbA dL_law_1287 h.1 ?_
        have h := h.2
        refine a_if_eq C 1295 dL_law_1288 (by decide) (fun c173 => ?_) (fun c173 => ?_)
        · have h := h.1 c173
          refine a_iconst C 0 dL_law_1295 (by decide) ?_
          refine tj_L_law_1296 C hX hbl hbA hcs hloc hpost ih _ _ _ h
        · have h := h.2 c173
          refine a_iconst C 1 dL_law_1291 (by decide) ?_
          refine a_goto C 1296 dL_law_1292 (by decide) ?_
          refine tj_L_law_1296 C hX hbl hbA hcs hloc hpost ih _ _ _ h
      by_cases hq33 : ((xs (Int32.toNatClampNeg v3)) &&& 63) = 33
      · have h := hs33 hq33
        refine a_tableIn C (off := 1288) 1321 dL_law_33 (by rw [hq33]; decide) (by rw [hq33]; decide) (by rw [hq33]; decide +kernel) (by decide) ?_
        refine a_aload_n C 1 dL_law_1321 rfl rfl ?_
        refine a_aload_n C 0 dL_law_1322 rfl rfl ?_
        refine a_iload_n C 3 dL_law_1323 rfl rfl ?_
        refine a_iconst C 1 dL_law_1324 (by decide) ?_
        refine a_iadd C dL_law_1325 ?_
        refine L_sld C hX hbl hbA dL_law_1326 h.1 ?_
        have h := h.2
        refine a_aload_n C 0 dL_law_1327 rfl rfl ?_
        refine a_iload_n C 3 dL_law_1328 rfl rfl ?_
        refine a_iconst C 2 dL_law_1329 (by decide) ?_
        refine a_iadd C dL_law_1330 ?_
        refine L_sld C hX hbl hbA dL_law_1331 h.1 ?_
        have h := h.2
        refine a_aload_n C 0 dL_law_1332 rfl rfl ?_
        refine a_iload_n C 3 dL_law_1333 rfl rfl ?_
        refine a_iconst C 3 dL_law_1334 (by decide) ?_
        refine a_iadd C dL_law_1335 ?_
        refine L_sld C hX hbl hbA dL_law_1336 h.1 ?_
        have h := h.2
        refine a_if_eq C 1344 dL_law_1337 (by decide) (fun c180 => ?_) (fun c180 => ?_)
        · have h := h.1 c180
          refine a_iconst C 0 dL_law_1344 (by decide) ?_
          refine tj_L_law_1345 C hX hbl hbA hcs hloc hpost ih _ _ _ _ _ h
        · have h := h.2 c180
          refine a_iconst C 1 dL_law_1340 (by decide) ?_
          refine a_goto C 1345 dL_law_1341 (by decide) ?_
          refine tj_L_law_1345 C hX hbl hbA hcs hloc hpost ih _ _ _ _ _ h
      by_cases hq34 : ((xs (Int32.toNatClampNeg v3)) &&& 63) = 34
      · have h := hs34 hq34
        refine a_tableIn C (off := 1348) 1381 dL_law_33 (by rw [hq34]; decide) (by rw [hq34]; decide) (by rw [hq34]; decide +kernel) (by decide) ?_
        refine a_aload_n C 1 dL_law_1381 rfl rfl ?_
        refine a_aload_n C 0 dL_law_1382 rfl rfl ?_
        refine a_iload_n C 3 dL_law_1383 rfl rfl ?_
        refine a_iconst C 1 dL_law_1384 (by decide) ?_
        refine a_iadd C dL_law_1385 ?_
        refine L_sld C hX hbl hbA dL_law_1386 h.1 ?_
        have h := h.2
        refine a_if_eq C 1394 dL_law_1387 (by decide) (fun c187 => ?_) (fun c187 => ?_)
        · have h := h.1 c187
          refine a_iconst C 0 dL_law_1394 (by decide) ?_
          refine tj_L_law_1395 C hX hbl hbA hcs hloc hpost ih _ _ _ h
        · have h := h.2 c187
          refine a_iconst C 1 dL_law_1390 (by decide) ?_
          refine a_goto C 1395 dL_law_1391 (by decide) ?_
          refine tj_L_law_1395 C hX hbl hbA hcs hloc hpost ih _ _ _ h
      by_cases hq35 : ((xs (Int32.toNatClampNeg v3)) &&& 63) = 35
      · have h := hs35 hq35
        refine a_tableIn C (off := 1387) 1420 dL_law_33 (by rw [hq35]; decide) (by rw [hq35]; decide) (by rw [hq35]; decide +kernel) (by decide) ?_
        refine a_aload_n C 1 dL_law_1420 rfl rfl ?_
        refine a_aload_n C 0 dL_law_1421 rfl rfl ?_
        refine a_iload_n C 3 dL_law_1422 rfl rfl ?_
        refine a_iconst C 1 dL_law_1423 (by decide) ?_
        refine a_iadd C dL_law_1424 ?_
        refine L_sld C hX hbl hbA dL_law_1425 h.1 ?_
        have h := h.2
        refine a_aload_n C 0 dL_law_1426 rfl rfl ?_
        refine a_iload_n C 3 dL_law_1427 rfl rfl ?_
        refine a_iconst C 2 dL_law_1428 (by decide) ?_
        refine a_iadd C dL_law_1429 ?_
        refine L_sld C hX hbl hbA dL_law_1430 h.1 ?_
        have h := h.2
        refine a_callVi C dL_law_1431 (m_X11_said l V h) bw_965 bw_966 bw_967 bw_112 bw_968 (by decide) rfl rfl np_X11_said rfl rfl (by decide) (Nat.le_of_ble_eq_true rfl) hcs (fun r188 u189 h => ?_)
        refine a_aload_n C 2 dL_law_1434 rfl rfl ?_
        refine a_aload_n C 0 dL_law_1435 rfl rfl ?_
        refine a_iload_n C 3 dL_law_1436 rfl rfl ?_
        refine a_iconst C 1 dL_law_1437 (by decide) ?_
        refine a_iadd C dL_law_1438 ?_
        refine L_sld C hX hbl hbA dL_law_1439 h.1 ?_
        have h := h.2
        refine a_aload_n C 0 dL_law_1440 rfl rfl ?_
        refine a_iload_n C 3 dL_law_1441 rfl rfl ?_
        refine a_iconst C 2 dL_law_1442 (by decide) ?_
        refine a_iadd C dL_law_1443 ?_
        refine L_sld C hX hbl hbA dL_law_1444 h.1 ?_
        have h := h.2
        refine a_callVi C dL_law_1445 (m_X12_said l V h) bw_1693 bw_1694 bw_1695 bw_123 bw_1696 (by decide) rfl rfl np_X12_said rfl rfl (by decide) (Nat.le_of_ble_eq_true rfl) hcs (fun r190 u191 h => ?_)
        refine a_icmp_eq C 1626 dL_law_1448 (by decide) (fun c192 => ?_) (fun c192 => ?_)
        · have h := h.1 c192
          refine tj_L_law_1626 C hX hbl hbA hcs hloc hpost ih _ _ h
        · have h := h.2 c192
          refine a_iconst C 0 dL_law_1451 (by decide) ?_
          exact L_ret C hcs hloc dL_law_1452 (hpost _ _ h)
      by_cases hq36 : ((xs (Int32.toNatClampNeg v3)) &&& 63) = 36
      · have h := hs36 hq36
        refine a_tableIn C (off := 1420) 1453 dL_law_33 (by rw [hq36]; decide) (by rw [hq36]; decide) (by rw [hq36]; decide +kernel) (by decide) ?_
        refine a_aload_n C 1 dL_law_1453 rfl rfl ?_
        refine a_callVi C dL_law_1454 (m_X11_whose l V h) bw_969 bw_970 bw_971 bw_112 bw_972 (by decide) rfl rfl np_X11_whose rfl rfl (by decide) (Nat.le_of_ble_eq_true rfl) hcs (fun r193 u194 h => ?_)
        refine a_aload_n C 2 dL_law_1457 rfl rfl ?_
        refine a_callVi C dL_law_1458 (m_X12_whose l V h) bw_1697 bw_1698 bw_1699 bw_123 bw_1700 (by decide) rfl rfl np_X12_whose rfl rfl (by decide) (Nat.le_of_ble_eq_true rfl) hcs (fun r195 u196 h => ?_)
        refine a_icmp_eq C 1626 dL_law_1461 (by decide) (fun c197 => ?_) (fun c197 => ?_)
        · have h := h.1 c197
          refine tj_L_law_1626 C hX hbl hbA hcs hloc hpost ih _ _ h
        · have h := h.2 c197
          refine a_iconst C 0 dL_law_1464 (by decide) ?_
          exact L_ret C hcs hloc dL_law_1465 (hpost _ _ h)
      by_cases hq37 : ((xs (Int32.toNatClampNeg v3)) &&& 63) = 37
      · have h := hs37 hq37
        refine a_tableIn C (off := 1433) 1466 dL_law_33 (by rw [hq37]; decide) (by rw [hq37]; decide) (by rw [hq37]; decide +kernel) (by decide) ?_
        refine a_aload_n C 1 dL_law_1466 rfl rfl ?_
        refine a_aload_n C 0 dL_law_1467 rfl rfl ?_
        refine a_iload_n C 3 dL_law_1468 rfl rfl ?_
        refine a_iconst C 1 dL_law_1469 (by decide) ?_
        refine a_iadd C dL_law_1470 ?_
        refine L_sld C hX hbl hbA dL_law_1471 h.1 ?_
        have h := h.2
        refine a_if_eq C 1479 dL_law_1472 (by decide) (fun c204 => ?_) (fun c204 => ?_)
        · have h := h.1 c204
          refine a_iconst C 0 dL_law_1479 (by decide) ?_
          refine tj_L_law_1480 C hX hbl hbA hcs hloc hpost ih _ _ _ h
        · have h := h.2 c204
          refine a_iconst C 1 dL_law_1475 (by decide) ?_
          refine a_goto C 1480 dL_law_1476 (by decide) ?_
          refine tj_L_law_1480 C hX hbl hbA hcs hloc hpost ih _ _ _ h
      by_cases hq38 : ((xs (Int32.toNatClampNeg v3)) &&& 63) = 38
      · have h := hs38 hq38
        refine a_tableIn C (off := 1472) 1505 dL_law_33 (by rw [hq38]; decide) (by rw [hq38]; decide) (by rw [hq38]; decide +kernel) (by decide) ?_
        refine a_aload_n C 1 dL_law_1505 rfl rfl ?_
        refine a_callVi C dL_law_1506 (m_X11_driest l V h) bw_985 bw_986 bw_987 bw_112 bw_988 (by decide) rfl rfl np_X11_driest rfl rfl (by decide) (Nat.le_of_ble_eq_true rfl) hcs (fun r205 u206 h => ?_)
        refine a_aload_n C 2 dL_law_1509 rfl rfl ?_
        refine a_callVi C dL_law_1510 (m_X12_driest l V h) bw_1522 bw_1523 bw_1524 bw_123 bw_1525 (by decide) rfl rfl np_X12_driest rfl rfl (by decide) (Nat.le_of_ble_eq_true rfl) hcs (fun r207 u208 h => ?_)
        refine a_icmp_eq C 1626 dL_law_1513 (by decide) (fun c209 => ?_) (fun c209 => ?_)
        · have h := h.1 c209
          refine tj_L_law_1626 C hX hbl hbA hcs hloc hpost ih _ _ h
        · have h := h.2 c209
          refine a_iconst C 0 dL_law_1516 (by decide) ?_
          exact L_ret C hcs hloc dL_law_1517 (hpost _ _ h)
      by_cases hq39 : ((xs (Int32.toNatClampNeg v3)) &&& 63) = 39
      · have h := hs39 hq39
        refine a_tableIn C (off := 1485) 1518 dL_law_33 (by rw [hq39]; decide) (by rw [hq39]; decide) (by rw [hq39]; decide +kernel) (by decide) ?_
        refine a_aload_n C 1 dL_law_1518 rfl rfl ?_
        refine a_callVi C dL_law_1519 (m_X11_wettest l V h) bw_989 bw_990 bw_991 bw_112 bw_992 (by decide) rfl rfl np_X11_wettest rfl rfl (by decide) (Nat.le_of_ble_eq_true rfl) hcs (fun r210 u211 h => ?_)
        refine a_aload_n C 2 dL_law_1522 rfl rfl ?_
        refine a_callVi C dL_law_1523 (m_X12_wettest l V h) bw_1526 bw_1527 bw_1528 bw_123 bw_1529 (by decide) rfl rfl np_X12_wettest rfl rfl (by decide) (Nat.le_of_ble_eq_true rfl) hcs (fun r212 u213 h => ?_)
        refine a_icmp_eq C 1626 dL_law_1526 (by decide) (fun c214 => ?_) (fun c214 => ?_)
        · have h := h.1 c214
          refine tj_L_law_1626 C hX hbl hbA hcs hloc hpost ih _ _ h
        · have h := h.2 c214
          refine a_iconst C 0 dL_law_1529 (by decide) ?_
          exact L_ret C hcs hloc dL_law_1530 (hpost _ _ h)
      by_cases hq40 : ((xs (Int32.toNatClampNeg v3)) &&& 63) = 40
      · have h := hs40 hq40
        refine a_tableIn C (off := 1498) 1531 dL_law_33 (by rw [hq40]; decide) (by rw [hq40]; decide) (by rw [hq40]; decide +kernel) (by decide) ?_
        refine a_aload_n C 1 dL_law_1531 rfl rfl ?_
        refine a_aload_n C 0 dL_law_1532 rfl rfl ?_
        refine a_iload_n C 3 dL_law_1533 rfl rfl ?_
        refine a_iconst C 1 dL_law_1534 (by decide) ?_
        refine a_iadd C dL_law_1535 ?_
        refine L_sld C hX hbl hbA dL_law_1536 h.1 ?_
        have h := h.2
        refine a_callVi C dL_law_1537 (m_X11_near l V h) bw_993 bw_994 bw_995 bw_112 bw_996 (by decide) rfl rfl np_X11_near rfl rfl (by decide) (Nat.le_of_ble_eq_true rfl) hcs (fun r215 u216 h => ?_)
        refine a_aload_n C 2 dL_law_1540 rfl rfl ?_
        refine a_aload_n C 0 dL_law_1541 rfl rfl ?_
        refine a_iload_n C 3 dL_law_1542 rfl rfl ?_
        refine a_iconst C 1 dL_law_1543 (by decide) ?_
        refine a_iadd C dL_law_1544 ?_
        refine L_sld C hX hbl hbA dL_law_1545 h.1 ?_
        have h := h.2
        refine a_callVi C dL_law_1546 (m_X12_near l V h) bw_1530 bw_1531 bw_1532 bw_123 bw_1533 (by decide) rfl rfl np_X12_near rfl rfl (by decide) (Nat.le_of_ble_eq_true rfl) hcs (fun r217 u218 h => ?_)
        refine a_icmp_eq C 1626 dL_law_1549 (by decide) (fun c219 => ?_) (fun c219 => ?_)
        · have h := h.1 c219
          refine tj_L_law_1626 C hX hbl hbA hcs hloc hpost ih _ _ h
        · have h := h.2 c219
          refine a_iconst C 0 dL_law_1552 (by decide) ?_
          exact L_ret C hcs hloc dL_law_1553 (hpost _ _ h)
      by_cases hq41 : ((xs (Int32.toNatClampNeg v3)) &&& 63) = 41
      · have h := hs41 hq41
        refine a_tableIn C (off := 1521) 1554 dL_law_33 (by rw [hq41]; decide) (by rw [hq41]; decide) (by rw [hq41]; decide +kernel) (by decide) ?_
        refine a_aload_n C 1 dL_law_1554 rfl rfl ?_
        refine a_aload_n C 0 dL_law_1555 rfl rfl ?_
        refine a_iload_n C 3 dL_law_1556 rfl rfl ?_
        refine a_iconst C 1 dL_law_1557 (by decide) ?_
        refine a_iadd C dL_law_1558 ?_
        refine L_sld C hX hbl hbA dL_law_1559 h.1 ?_
        have h := h.2
        refine a_callVi C dL_law_1560 (m_X11_ledger l V h) bw_997 bw_998 bw_999 bw_112 bw_1000 (by decide) rfl rfl np_X11_ledger rfl rfl (by decide) (Nat.le_of_ble_eq_true rfl) hcs (fun r220 u221 h => ?_)
        refine a_aload_n C 2 dL_law_1563 rfl rfl ?_
        refine a_aload_n C 0 dL_law_1564 rfl rfl ?_
        refine a_iload_n C 3 dL_law_1565 rfl rfl ?_
        refine a_iconst C 1 dL_law_1566 (by decide) ?_
        refine a_iadd C dL_law_1567 ?_
        refine L_sld C hX hbl hbA dL_law_1568 h.1 ?_
        have h := h.2
        refine a_callVi C dL_law_1569 (m_X12_ledger l V h) bw_1509 bw_1510 bw_1511 bw_123 bw_1512 (by decide) rfl rfl np_X12_ledger rfl rfl (by decide) (Nat.le_of_ble_eq_true rfl) hcs (fun r222 u223 h => ?_)
        refine a_icmp_eq C 1626 dL_law_1572 (by decide) (fun c224 => ?_) (fun c224 => ?_)
        · have h := h.1 c224
          refine tj_L_law_1626 C hX hbl hbA hcs hloc hpost ih _ _ h
        · have h := h.2 c224
          refine a_iconst C 0 dL_law_1575 (by decide) ?_
          exact L_ret C hcs hloc dL_law_1576 (hpost _ _ h)
      by_cases hq42 : ((xs (Int32.toNatClampNeg v3)) &&& 63) = 42
      · have h := hs42 hq42
        refine a_tableIn C (off := 1544) 1577 dL_law_33 (by rw [hq42]; decide) (by rw [hq42]; decide) (by rw [hq42]; decide +kernel) (by decide) ?_
        refine a_aload_n C 1 dL_law_1577 rfl rfl ?_
        refine a_callVi C dL_law_1578 (m_X11_image l V h) bw_1001 bw_1002 bw_1003 bw_112 bw_1004 (by decide) rfl rfl np_X11_image rfl rfl (by decide) (Nat.le_of_ble_eq_true rfl) hcs (fun r225 u226 h => ?_)
        refine a_aload_n C 2 dL_law_1581 rfl rfl ?_
        refine a_callVi C dL_law_1582 (m_X12_image l V h) bw_1701 bw_1702 bw_1703 bw_123 bw_1704 (by decide) rfl rfl np_X12_image rfl rfl (by decide) (Nat.le_of_ble_eq_true rfl) hcs (fun r227 u228 h => ?_)
        refine a_icmp_eq C 1626 dL_law_1585 (by decide) (fun c229 => ?_) (fun c229 => ?_)
        · have h := h.1 c229
          refine tj_L_law_1626 C hX hbl hbA hcs hloc hpost ih _ _ h
        · have h := h.2 c229
          refine a_iconst C 0 dL_law_1588 (by decide) ?_
          exact L_ret C hcs hloc dL_law_1589 (hpost _ _ h)
      by_cases hq43 : ((xs (Int32.toNatClampNeg v3)) &&& 63) = 43
      · have h := hs43 hq43
        refine a_tableIn C (off := 1557) 1590 dL_law_33 (by rw [hq43]; decide) (by rw [hq43]; decide) (by rw [hq43]; decide +kernel) (by decide) ?_
        refine a_aload_n C 1 dL_law_1590 rfl rfl ?_
        refine a_callVi C dL_law_1591 (m_X11_back l V h) bw_1005 bw_1006 bw_1007 bw_112 bw_1008 (by decide) rfl rfl np_X11_back rfl rfl (by decide) (Nat.le_of_ble_eq_true rfl) hcs (fun r230 u231 h => ?_)
        refine a_aload_n C 2 dL_law_1594 rfl rfl ?_
        refine a_callVi C dL_law_1595 (m_X12_back l V h) bw_1705 bw_1706 bw_1707 bw_123 bw_1708 (by decide) rfl rfl np_X12_back rfl rfl (by decide) (Nat.le_of_ble_eq_true rfl) hcs (fun r232 u233 h => ?_)
        refine a_icmp_eq C 1626 dL_law_1598 (by decide) (fun c234 => ?_) (fun c234 => ?_)
        · have h := h.1 c234
          refine tj_L_law_1626 C hX hbl hbA hcs hloc hpost ih _ _ h
        · have h := h.2 c234
          refine a_iconst C 0 dL_law_1601 (by decide) ?_
          exact L_ret C hcs hloc dL_law_1602 (hpost _ _ h)
      by_cases hq44 : ((xs (Int32.toNatClampNeg v3)) &&& 63) = 44
      · have h := hs44 hq44
        refine a_tableIn C (off := 1570) 1603 dL_law_33 (by rw [hq44]; decide) (by rw [hq44]; decide) (by rw [hq44]; decide +kernel) (by decide) ?_
        refine a_aload_n C 1 dL_law_1603 rfl rfl ?_
        refine a_aload_n C 0 dL_law_1604 rfl rfl ?_
        refine a_iload_n C 3 dL_law_1605 rfl rfl ?_
        refine a_iconst C 1 dL_law_1606 (by decide) ?_
        refine a_iadd C dL_law_1607 ?_
        refine L_sld C hX hbl hbA dL_law_1608 h.1 ?_
        have h := h.2
        refine a_callVi C dL_law_1609 (m_X11_about l V h) bw_1009 bw_1010 bw_1011 bw_112 bw_1012 (by decide) rfl rfl np_X11_about rfl rfl (by decide) (Nat.le_of_ble_eq_true rfl) hcs (fun r235 u236 h => ?_)
        refine a_aload_n C 2 dL_law_1612 rfl rfl ?_
        refine a_aload_n C 0 dL_law_1613 rfl rfl ?_
        refine a_iload_n C 3 dL_law_1614 rfl rfl ?_
        refine a_iconst C 1 dL_law_1615 (by decide) ?_
        refine a_iadd C dL_law_1616 ?_
        refine L_sld C hX hbl hbA dL_law_1617 h.1 ?_
        have h := h.2
        refine a_callVi C dL_law_1618 (m_X12_about l V h) bw_1709 bw_1710 bw_1711 bw_123 bw_1712 (by decide) rfl rfl np_X12_about rfl rfl (by decide) (Nat.le_of_ble_eq_true rfl) hcs (fun r237 u238 h => ?_)
        refine a_icmp_eq C 1626 dL_law_1621 (by decide) (fun c239 => ?_) (fun c239 => ?_)
        · have h := h.1 c239
          refine tj_L_law_1626 C hX hbl hbA hcs hloc hpost ih _ _ h
        · have h := h.2 c239
          refine a_iconst C 0 dL_law_1624 (by decide) ?_
          exact L_ret C hcs hloc dL_law_1625 (hpost _ _ h)
      have h := hd0 hq0 hq1 hq2 hq3 hq4 hq5 hq6 hq7 hq8 hq9 hq10 hq11 hq12 hq13 hq14 hq15 hq16 hq17 hq18 hq19 hq20 hq21 hq22 hq23 hq24 hq25 hq26 hq27 hq28 hq29 hq30 hq31 hq32 hq33 hq34 hq35 hq36 hq37 hq38 hq39 hq40 hq41 hq42 hq43 hq44
      refine a_tableOut C 1626 dL_law_33 (tsw_out 0 44 (fun q h1 h2 => by rcases (show q = 0 ∨ q = 1 ∨ q = 2 ∨ q = 3 ∨ q = 4 ∨ q = 5 ∨ q = 6 ∨ q = 7 ∨ q = 8 ∨ q = 9 ∨ q = 10 ∨ q = 11 ∨ q = 12 ∨ q = 13 ∨ q = 14 ∨ q = 15 ∨ q = 16 ∨ q = 17 ∨ q = 18 ∨ q = 19 ∨ q = 20 ∨ q = 21 ∨ q = 22 ∨ q = 23 ∨ q = 24 ∨ q = 25 ∨ q = 26 ∨ q = 27 ∨ q = 28 ∨ q = 29 ∨ q = 30 ∨ q = 31 ∨ q = 32 ∨ q = 33 ∨ q = 34 ∨ q = 35 ∨ q = 36 ∨ q = 37 ∨ q = 38 ∨ q = 39 ∨ q = 40 ∨ q = 41 ∨ q = 42 ∨ q = 43 ∨ q = 44 by omega) with rfl | rfl | rfl | rfl | rfl | rfl | rfl | rfl | rfl | rfl | rfl | rfl | rfl | rfl | rfl | rfl | rfl | rfl | rfl | rfl | rfl | rfl | rfl | rfl | rfl | rfl | rfl | rfl | rfl | rfl | rfl | rfl | rfl | rfl | rfl | rfl | rfl | rfl | rfl | rfl | rfl | rfl | rfl | rfl | rfl <;> first | exact lv_neT hq0 (by decide) | exact lv_neT hq1 (by decide) | exact lv_neT hq2 (by decide) | exact lv_neT hq3 (by decide) | exact lv_neT hq4 (by decide) | exact lv_neT hq5 (by decide) | exact lv_neT hq6 (by decide) | exact lv_neT hq7 (by decide) | exact lv_neT hq8 (by decide) | exact lv_neT hq9 (by decide) | exact lv_neT hq10 (by decide) | exact lv_neT hq11 (by decide) | exact lv_neT hq12 (by decide) | exact lv_neT hq13 (by decide) | exact lv_neT hq14 (by decide) | exact lv_neT hq15 (by decide) | exact lv_neT hq16 (by decide) | exact lv_neT hq17 (by decide) | exact lv_neT hq18 (by decide) | exact lv_neT hq19 (by decide) | exact lv_neT hq20 (by decide) | exact lv_neT hq21 (by decide) | exact lv_neT hq22 (by decide) | exact lv_neT hq23 (by decide) | exact lv_neT hq24 (by decide) | exact lv_neT hq25 (by decide) | exact lv_neT hq26 (by decide) | exact lv_neT hq27 (by decide) | exact lv_neT hq28 (by decide) | exact lv_neT hq29 (by decide) | exact lv_neT hq30 (by decide) | exact lv_neT hq31 (by decide) | exact lv_neT hq32 (by decide) | exact lv_neT hq33 (by decide) | exact lv_neT hq34 (by decide) | exact lv_neT hq35 (by decide) | exact lv_neT hq36 (by decide) | exact lv_neT hq37 (by decide) | exact lv_neT hq38 (by decide) | exact lv_neT hq39 (by decide) | exact lv_neT hq40 (by decide) | exact lv_neT hq41 (by decide) | exact lv_neT hq42 (by decide) | exact lv_neT hq43 (by decide) | exact lv_neT hq44 (by decide))) (by decide) ?_
      refine tj_L_law_1626 C hX hbl hbA hcs hloc hpost ih _ _ h
