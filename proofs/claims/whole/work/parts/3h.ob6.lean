/-! OBLIGATION: feed -/
def bt (x : Int32) (k : Nat) : Nat := x.toBitVec.toNat / 2 ^ k % 256
theorem bt_u (x s : Int32) (k : Nat) (hs : ((s.toUInt32 &&& Int32.toUInt32 31).toBitVec % 32).toNat = k) : ushr x s &&& 255 = nI (bt x k) := by
  rw [pk_and (ushr x s) 8 rfl, show (2 : Nat) ^ 8 = 256 from rfl]
  congr 1
  unfold bt ushr
  rw [pk_ushr x s k hs]
theorem bt_s (x s : Int32) (k : Nat) (hs : (s.toBitVec.smod 32).toNat = k) (hk : k = 24 ∨ k = 16 ∨ k = 8 ∨ k = 0) : (x >>> s) &&& 255 = nI (bt x k) := by
  rw [pk_and (x >>> s) 8 rfl, show (2 : Nat) ^ 8 = 256 from rfl]
  congr 1
  unfold bt
  have h := pk_shr x s k hs
  have h1 : (x >>> s).toInt = (x >>> s).toBitVec.toInt := rfl
  have h2 : x.toInt = x.toBitVec.toInt := rfl
  rw [h1, h2, BitVec.toInt_eq_toNat_cond, BitVec.toInt_eq_toNat_cond, Int.shiftRight_eq_div_pow] at h
  have l1 := (x >>> s).toBitVec.isLt
  have l2 := x.toBitVec.isLt
  rcases hk with rfl | rfl | rfl | rfl <;> split at h <;> split at h <;> omega
def apB (f : Nat → Int32) (n : Nat) (x : Int32) : Nat → Int32 := fun i => if i < n then f i else nI (bt x (24 - 8 * (i - n)))
def TpX (u : PoS) (f : Nat → Int32) (n : Nat) (z : PoS) : Prop := (∀ j, j ≠ 0 → j ≠ 31 → z.1 j = u.1 j) ∧ (∀ k, k ≠ 7 → z.1 0 k = u.1 0 k) ∧ z.1 0 7 = nI n ∧ ∀ i, i < n → z.1 31 i = f i
def TpM (u : PoS) (f : Nat → Int32) (n : Nat) (z : PoS) : Prop := (∀ j, j ≠ 48 → j ≠ 52 → z.1 j = u.1 j) ∧ (∀ k, k ≠ 4 → z.1 48 k = u.1 48 k) ∧ z.1 48 4 = nI n ∧ ∀ i, i < n → z.1 52 i = f i
theorem TpX.put {u : PoS} {f : Nat → Int32} {n : Nat} {z : PoS} (h : TpX u f n z) {v : Int32} (hv : f n = v) (hn : n < 300) : TpX u f (n + 1) (pI (pI z 31 (Int32.toNatClampNeg (z.1 0 7)) v) 0 7 ((pI z 31 (Int32.toNatClampNeg (z.1 0 7)) v).1 0 7 + 1)) := by
  obtain ⟨h1, h2, h3, h4⟩ := h
  rw [h3, q_cl (by omega)]
  refine ⟨fun j a b => ?_, fun k a => ?_, ?_, fun i hi => ?_⟩
  · simp (disch := omega) only [gI_def, pI_s, pI_o, cI_s, cI_o, pL_1, pR_1]; exact h1 j a b
  · simp (disch := omega) only [gI_def, pI_s, pI_o, cI_s, cI_o, pL_1, pR_1, up_eq, up_ne]; exact h2 k a
  · simp (disch := omega) only [gI_def, pI_s, pI_o, cI_s, cI_o, pL_1, pR_1, up_eq, up_ne, h3]; exact nI_1 n
  · simp (disch := omega) only [gI_def, pI_s, pI_o, cI_s, cI_o, pL_1, pR_1]
    by_cases e : i = n
    · subst e; rw [up_eq]; exact hv.symm
    · rw [up_ne e]; exact h4 i (by omega)
theorem TpM.put {u : PoS} {f : Nat → Int32} {n : Nat} {z : PoS} (h : TpM u f n z) {v : Int32} (hv : f n = v) (hn : n < 300) : TpM u f (n + 1) (pI (pI z 52 (Int32.toNatClampNeg (z.1 48 4)) v) 48 4 ((pI z 52 (Int32.toNatClampNeg (z.1 48 4)) v).1 48 4 + 1)) := by
  obtain ⟨h1, h2, h3, h4⟩ := h
  rw [h3, q_cl (by omega)]
  refine ⟨fun j a b => ?_, fun k a => ?_, ?_, fun i hi => ?_⟩
  · simp (disch := omega) only [gI_def, pI_s, pI_o, cI_s, cI_o, pL_1, pR_1]; exact h1 j a b
  · simp (disch := omega) only [gI_def, pI_s, pI_o, cI_s, cI_o, pL_1, pR_1, up_eq, up_ne]; exact h2 k a
  · simp (disch := omega) only [gI_def, pI_s, pI_o, cI_s, cI_o, pL_1, pR_1, up_eq, up_ne, h3]; exact nI_1 n
  · simp (disch := omega) only [gI_def, pI_s, pI_o, cI_s, cI_o, pL_1, pR_1]
    by_cases e : i = n
    · subst e; rw [up_eq]; exact hv.symm
    · rw [up_ne e]; exact h4 i (by omega)
theorem apB_at {f : Nat → Int32} {n : Nat} {x : Int32} (k : Nat) : apB f n x (n + k) = nI (bt x (24 - 8 * k)) := by
  unfold apB; rw [if_neg (by omega), show n + k - n = k by omega]
theorem TpX.app {u : PoS} {f : Nat → Int32} {n : Nat} {z : PoS} (h : TpX u f n z) (x : Int32) : TpX u (apB f n x) n z := ⟨h.1, h.2.1, h.2.2.1, fun i hi => by rw [h.2.2.2 i hi]; unfold apB; rw [if_pos hi]⟩
theorem TpM.app {u : PoS} {f : Nat → Int32} {n : Nat} {z : PoS} (h : TpM u f n z) (x : Int32) : TpM u (apB f n x) n z := ⟨h.1, h.2.1, h.2.2.1, fun i hi => by rw [h.2.2.2 i hi]; unfold apB; rw [if_pos hi]⟩
theorem takeX {u : PoS} {f : Nat → Int32} {n : Nat} {z : PoS} (h : TpX u f n z) (hn : n + 4 ≤ 300) (x : Int32) (post : PoS → Prop) (K : ∀ z', TpX u (apB f n x) (n + 4) z' → post z') : wp_X11_takeBytes x z post := by
  refine ⟨5, ?_⟩
  have st : ∀ (m k : Nat) (s : Int32) (z : PoS), k < 4 → TpX u (apB f n x) (n + k) z → s = nI (24 - 8 * k) → ((s.toUInt32 &&& Int32.toUInt32 31).toBitVec % 32).toNat = 24 - 8 * k → (∀ z', TpX u (apB f n x) (n + (k + 1)) z' → wl_X11_takeBytes_3 post m x (s + -8) z') → wl_X11_takeBytes_3 post (m + 1) x s z := by
    intro m k s z hk ht hs hs2 H
    rw [wl_X11_takeBytes_3]
    refine ⟨fun q => ?_, fun _ => ⟨fun q => ?_, fun _ => ⟨?_, fun z1 e1 z2 e2 => ?_⟩⟩⟩
    · rw [hs] at q; exact absurd q (nI_pos (by omega))
    · rw [gI_def, ht.2.2.1, show (300 : Int32) = nI 300 from rfl, q_le (by omega) (by omega)] at q; omega
    · rw [gI_def, ht.2.2.1]; exact vp_in_nI (by omega) (by omega)
    · subst e1; subst e2
      exact H _ (ht.put (by rw [apB_at]; exact (bt_u x s _ hs2).symm) (by omega))
  exact st 4 0 24 z (by decide) (h.app x) rfl rfl (fun z1 h1 => st 3 1 _ z1 (by decide) h1 rfl rfl (fun z2 h2 => st 2 2 _ z2 (by decide) h2 rfl rfl (fun z3 h3 => st 1 3 _ z3 (by decide) h3 rfl rfl (fun z4 h4 => by
    rw [wl_X11_takeBytes_3]; exact ⟨fun _ => K z4 h4, fun q => absurd (by decide) q⟩))))
theorem fourM {u : PoS} {f : Nat → Int32} {n : Nat} {z : PoS} (h : TpM u f n z) (hn : n + 4 ≤ 300) (x : Int32) (post : PoS → Prop) (K : ∀ z', TpM u (apB f n x) (n + 4) z' → post z') : wp_X12_four x z post := by
  refine ⟨5, ?_⟩
  have st : ∀ (m k : Nat) (s : Int32) (z : PoS), k < 4 → TpM u (apB f n x) (n + k) z → s = nI (24 - 8 * k) → ((s &&& 31).toBitVec.smod 32).toNat = 24 - 8 * k → (∀ z', TpM u (apB f n x) (n + (k + 1)) z' → wl_X12_four_3 post m x (s + -8) z') → wl_X12_four_3 post (m + 1) x s z := by
    intro m k s z hk ht hs hs2 H
    rw [wl_X12_four_3]
    refine ⟨fun q => ?_, fun _ => ⟨?_, fun z1 e1 z2 e2 => ?_⟩⟩
    · rw [hs] at q; exact absurd q (nI_pos (by omega))
    · rw [gI_def, ht.2.2.1]; exact vp_in_nI (by omega) (by omega)
    · subst e1; subst e2
      exact H _ (ht.put (by rw [apB_at]; exact (bt_s x _ _ hs2 (by omega)).symm) (by omega))
  exact st 4 0 24 z (by decide) (h.app x) rfl rfl (fun z1 h1 => st 3 1 _ z1 (by decide) h1 rfl rfl (fun z2 h2 => st 2 2 _ z2 (by decide) h2 rfl rfl (fun z3 h3 => st 1 3 _ z3 (by decide) h3 rfl rfl (fun z4 h4 => by
    rw [wl_X12_four_3]; exact ⟨fun _ => K z4 h4, fun q => absurd (by decide) q⟩))))
theorem ob_feed {LT : Nat → PoS → Prop} (hLT : LTok LT) (a1 a2 a3 a4 a5 : Int32) : Ob32 (wp_X11_feed a1 a2 a3 a4 a5) (wp_X12_feed a1 a2 a3 a4 a5) (Inv LT) := by
  intro u hI
  obtain ⟨h1, h2, h3, ⟨t1, ⟨n, hn, t2⟩, t3⟩, h5, h6, h7⟩ := id hI
  rw [t2] at t1
  have hnN : nN (u.1 48 4) = n := by rw [t2, nN_nI (by omega)]
  by_cases ok : n + 20 ≤ 300
  · have hF : ∃ F : Nat → Int32, F = apB (apB (apB (apB (apB (u.1 52) n a1) (n + 4) a2) (n + 8) a3) (n + 12) a4) (n + 16) a5 := ⟨_, rfl⟩
    obtain ⟨F, hF⟩ := hF
    have x0 : TpX u (u.1 52) n u := ⟨fun _ _ _ => rfl, fun _ _ => rfl, t1, fun i hi => (t3 i (by omega) (by omega)).1⟩
    refine ⟨fun r u1 => r = nI (n + 20) ∧ TpX u F (n + 20) u1, fun K hK => ?_, fun r u1 hr K hK => ?_⟩
    · refine ⟨fun _ => ?_, fun q => ?_⟩
      · refine takeX x0 (by omega) _ _ (fun z1 k1 => takeX k1 (by omega) _ _ (fun z2 k2 => takeX k2 (by omega) _ _ (fun z3 k3 => takeX k3 (by omega) _ _ (fun z4 k4 => takeX k4 (by omega) _ _ (fun z5 k5 => ?_)))))
        rw [gI_def, k5.2.2.1]
        exact hK _ _ ⟨by congr 1, by rw [hF]; exact k5⟩
      · rw [gI_def, t1, show (20 : Int32) = nI 20 from rfl, nI_add, show (300 : Int32) = nI 300 from rfl, q_le (by omega) (by omega)] at q; omega
    · obtain ⟨rfl, hx⟩ := hr
      have m0 : TpM u1 (u.1 52) n u1 := ⟨fun _ _ _ => rfl, fun _ _ => rfl, by rw [hx.1 48 (by decide) (by decide)]; exact t2, fun i hi => by rw [hx.1 52 (by decide) (by decide)]⟩
      refine ⟨fun _ => ?_, fun q => ?_⟩
      · refine fourM m0 (by omega) _ _ (fun z1 k1 => fourM k1 (by omega) _ _ (fun z2 k2 => fourM k2 (by omega) _ _ (fun z3 k3 => fourM k3 (by omega) _ _ (fun z4 k4 => fourM k4 (by omega) _ _ (fun z5 k5 => ?_)))))
        have k6 : TpM u1 F (n + 20) z5 := by rw [hF]; exact k5
        rw [gI_def, k6.2.2.1]
        have hj : ∀ j, j ≠ 0 → j ≠ 31 → j ≠ 48 → j ≠ 52 → z5.1 j = u.1 j := fun j q1 q2 q3 q4 => by rw [k6.1 j q3 q4, hx.1 j q1 q2]
        refine hK _ ⟨?_, ?_, ?_, ?_, ?_, ?_, fun t ht hn' => ?_⟩
        · rw [hj 3 (by decide) (by decide) (by decide) (by decide), hj 49 (by decide) (by decide) (by decide) (by decide)]; exact h1
        · rw [hj 5 (by decide) (by decide) (by decide) (by decide), hj 50 (by decide) (by decide) (by decide) (by decide)]; exact h2
        · rw [hj 49 (by decide) (by decide) (by decide) (by decide), hj 50 (by decide) (by decide) (by decide) (by decide)]; exact h3
        · unfold Tape
          rw [k6.1 0 (by decide) (by decide), hx.2.2.1, k6.2.2.1]
          refine ⟨rfl, ⟨n + 20, ok, rfl⟩, fun j hj1 hj2 => ?_⟩
          rw [nN_nI (by omega)] at hj2
          rw [k6.1 31 (by decide) (by decide), hx.2.2.2 j hj2, k6.2.2.2 j hj2]
          refine ⟨rfl, ?_⟩
          have ap : ∀ (f : Nat → Int32) (m : Nat) (x : Int32), (∀ j, j < n → Sm 255 (f j)) → (∀ j, j < m → Sm 255 (f j)) → ∀ j, Sm 255 (apB f m x j) := by
            intro f m x _ g j
            unfold apB
            by_cases q : j < m
            · rw [if_pos q]; exact g j q
            · rw [if_neg q]; exact ⟨_, by unfold bt; omega, rfl⟩
          rw [hF]
          have s0 : ∀ j, j < n → Sm 255 (u.1 52 j) := fun j hj => (t3 j (by omega) (by omega)).2
          have s1 := ap _ n a1 s0 s0
          have s2 := ap _ (n + 4) a2 (fun j _ => s1 j) (fun j _ => s1 j)
          have s3 := ap _ (n + 8) a3 (fun j _ => s2 j) (fun j _ => s2 j)
          have s4 := ap _ (n + 12) a4 (fun j _ => s3 j) (fun j _ => s3 j)
          exact ap _ (n + 16) a5 (fun j _ => s4 j) (fun j _ => s4 j) j
        · unfold Flt
          rw [k6.1 0 (by decide) (by decide), hx.2.1 8 (by decide), k6.2.1 5 (by decide), k6.2.1 6 (by decide), hx.1 48 (by decide) (by decide), hj 27 (by decide) (by decide) (by decide) (by decide)]; exact h5
        · rw [k6.2.1 24 (by decide), hx.1 48 (by decide) (by decide)]; exact h6
        · rw [hj 49 (by decide) (by decide) (by decide) (by decide)] at hn'
          exact hLT t u _ (fun j a1 a2 => hj j (by omega) (by omega) (by omega) (by omega)) (hj 51 (by decide) (by decide) (by decide) (by decide)) (h7 t ht hn')
      · rw [gI_def, hx.1 48 (by decide) (by decide), t2, show (20 : Int32) = nI 20 from rfl, nI_add, show (300 : Int32) = nI 300 from rfl, q_le (by omega) (by omega)] at q; omega
  · refine ⟨fun r u1 => r = -1 ∧ u1 = u, fun K hK => ⟨fun q => ?_, fun _ => hK _ _ ⟨rfl, rfl⟩⟩, fun r u1 hr K hK => ?_⟩
    · rw [gI_def, t1, show (20 : Int32) = nI 20 from rfl, nI_add, show (300 : Int32) = nI 300 from rfl, q_le (by omega) (by omega)] at q; omega
    · obtain ⟨rfl, rfl⟩ := hr
      refine ⟨fun q => ?_, fun _ => hK _ hI⟩
      rw [gI_def, t2, show (20 : Int32) = nI 20 from rfl, nI_add, show (300 : Int32) = nI 300 from rfl, q_le (by omega) (by omega)] at q; omega
