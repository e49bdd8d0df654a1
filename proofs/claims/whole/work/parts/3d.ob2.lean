/-! OBLIGATIONS: cost, by, end, about, fault -/
theorem row_cost {r a : Nat → Int32} (h : RowOk r a) {k : Nat} (hk : k < 35) {v : Int32} (hv : Sm 99 v) : RowOk (up r (118 + k) v) (up a (130 + k) v) := by
  obtain ⟨h1, h2, h3, h4, h5, h6, h7, h8, h9, h10⟩ := h
  refine ⟨h1.congr (fun i hi => up_ne (by omega)) (fun i hi => up_ne (by omega)), h2.congr (up_ne (by omega)) (fun i hi => up_ne (by omega)), h3.congr (fun i hi => up_ne (by omega)) (up_ne (by omega)) (fun i _ hi => up_ne (by omega)), h4.congr (fun i _ hi => up_ne (by omega)) (up_ne (by omega)) (fun i _ hi => up_ne (by omega)) (fun i _ hi => up_ne (by omega)), ?_, h6.congr (fun i _ hi => up_ne (by omega)) (up_ne (by omega)) (fun i _ hi => up_ne (by omega)), h7.congr (fun i _ hi => up_ne (by omega)) (by rw [up_ne (by omega)]; exact Nat.le_refl _) (up_ne (by omega)) (fun i _ hi => up_ne (by omega)), h8.congr (fun i _ hi => up_ne (by omega)) (up_ne (by omega)) (fun i _ hi => up_ne (by omega)), h9.congr (up_ne (by omega)) (by rw [up_ne (by omega)]; exact Nat.le_refl _) (up_ne (by omega)) (fun i _ hi => up_ne (by omega)) (fun i _ hi => up_ne (by omega)), h10.congr (up_ne (by omega)) (up_ne (by omega)) (fun i _ hi => up_ne (by omega)) (fun i _ hi => up_ne (by omega))⟩
  intro d hd
  by_cases hdc : d = k
  · subst hdc
    rw [up_eq, up_eq]
    exact ⟨rfl, hv⟩
  · rw [up_ne (show 118 + d ≠ 118 + k by omega), up_ne (show 130 + d ≠ 130 + k by omega)]
    exact h5 d hd
theorem row_by {r a : Nat → Int32} (h : RowOk r a) {v : Int32} (hv : v = -1 ∨ ∃ t, t < nN (a 1) ∧ v = nI t) : RowOk (up r 116 v) (up a 2 v) := by
  obtain ⟨h1, h2, h3, h4, h5, h6, h7, h8, h9, h10⟩ := h
  refine ⟨?_, ?_, h3.congr (fun i hi => up_ne (by omega)) (up_ne (by omega)) (fun i _ hi => up_ne (by omega)), h4.congr (fun i _ hi => up_ne (by omega)) (up_ne (by omega)) (fun i _ hi => up_ne (by omega)) (fun i _ hi => up_ne (by omega)), h5.congr (fun i _ hi => up_ne (by omega)) (fun i _ hi => up_ne (by omega)), h6.congr (fun i _ hi => up_ne (by omega)) (up_ne (by omega)) (fun i _ hi => up_ne (by omega)), h7.congr (fun i _ hi => up_ne (by omega)) (by rw [up_ne (by omega)]; exact Nat.le_refl _) (up_ne (by omega)) (fun i _ hi => up_ne (by omega)), h8.congr (fun i _ hi => up_ne (by omega)) (up_ne (by omega)) (fun i _ hi => up_ne (by omega)), h9.congr (up_ne (by omega)) (by rw [up_ne (by omega)]; exact Nat.le_refl _) (up_ne (by omega)) (fun i _ hi => up_ne (by omega)) (fun i _ hi => up_ne (by omega)), h10.congr (up_ne (by omega)) (up_ne (by omega)) (fun i _ hi => up_ne (by omega)) (fun i _ hi => up_ne (by omega))⟩
  · obtain ⟨e0, e1, e2, e3, e4, e5, e6, e7, e8, e9⟩ := h1
    exact ⟨by rw [up_ne (by decide), up_ne (by decide)]; exact e0, by rw [up_ne (by decide), up_ne (by decide)]; exact e1, by rw [up_eq, up_eq], by rw [up_ne (by decide), up_ne (by decide)]; exact e3, by rw [up_ne (by decide), up_ne (by decide)]; exact e4, by rw [up_ne (by decide), up_ne (by decide)]; exact e5, by rw [up_ne (by decide), up_ne (by decide)]; exact e6, by rw [up_ne (by decide), up_ne (by decide)]; exact e7, by rw [up_ne (by decide), up_ne (by decide)]; exact e8, by rw [up_ne (by decide), up_ne (by decide)]; exact e9⟩
  · obtain ⟨e0, e1, e2, e3⟩ := h2
    refine ⟨by rw [up_ne (by decide)]; exact e0, by rw [up_ne (by decide)]; exact e1, ?_, ?_⟩
    · rw [up_eq, up_ne (show 1 ≠ 2 by decide)]; exact hv
    · rw [up_ne (show 3 ≠ 2 by decide), up_ne (show 4 ≠ 2 by decide), up_ne (show 5 ≠ 2 by decide), up_ne (show 6 ≠ 2 by decide), up_ne (show 7 ≠ 2 by decide), up_ne (show 8 ≠ 2 by decide), up_ne (show 9 ≠ 2 by decide), up_ne (show 184 ≠ 116 by decide)]
      exact e3
theorem dayX_t {d : Nat} (hd : d < 7) {u : PoS} {post : Int32 → PoS → Prop} (h : post 1 u) : wp_X11_isDay (nI d) u post := ⟨fun q => absurd q (nI_pos (by omega)), fun _ => ⟨fun q => absurd q (nI_ge (b := 7) (by omega) (by decide)), fun _ => h⟩⟩
theorem dayX_f {x : Int32} (hx : x < 0 ∨ nI 6 < x) {u : PoS} {post : Int32 → PoS → Prop} (h : post 0 u) : wp_X11_isDay x u post := by
  refine ⟨fun _ => h, fun h0 => ⟨fun _ => h, fun h1 => ?_⟩⟩
  obtain ⟨j, hj, rfl⟩ := nI_of h0
  rcases hx with q | q
  · exact absurd q h0
  · exact absurd (nI_le (a := 7) (by have := (nI_ltI (a := 6) (by decide) hj).mp q; omega) hj) h1
theorem ob_cost {LT : Nat → PoS → Prop} (hLT : LTok LT) (a1 a2 a3 : Int32) : Ob32 (wp_X11_cost a1 a2 a3) (wp_X12_cost a1 a2 a3) (Inv LT) := by
  rcases rng 4 (by decide) a1 with ⟨p, hp, rfl⟩ | hb
  · rcases rng 6 (by decide) a2 with ⟨d, hd, rfl⟩ | hb
    · rcases rng 99 (by decide) a3 with ⟨n, hn, rfl⟩ | hb
      · refine ob_do (fun _ => 1) (fun u => pI u 3 (118 + (p * 7 + d)) (nI n)) (fun u => pI u 49 (130 + (p * 7 + d)) (nI n)) (fun u hI K hK => ?_) (fun u hI K hK => ?_) (fun u hI => inv_pp hLT hI (by omega) (row_cost hI.1 (by omega) (Sm.of hn)))
        · refine within_t (nI_pos (by omega)) (nI_nlt (b := p) (a := 4) hp (by decide)) ⟨fun q => absurd q (by decide), fun _ => dayX_t (by omega) ⟨fun q => absurd q (by decide), fun _ => within_t (nI_pos (by omega)) (nI_nlt (b := n) (a := 99) hn (by decide)) ⟨fun _ => ?_, fun q => absurd q (by decide)⟩⟩⟩
          rw [show (118 : Int32) + nI p * 7 + nI d = nI (118 + (p * 7 + d)) by rw [show (118 : Int32) = nI 118 from rfl, show (7 : Int32) = nI 7 from rfl, pk_mul, nI_add, nI_add]; congr 1; omega, q_vp (by omega) (by decide), q_cl (by omega)]
          exact ⟨by omega, fun z hz => by rw [hz]; exact hK⟩
        · refine isIn_t (nI_pos (by omega)) (nI_nlt (b := p) (a := 4) hp (by decide)) ⟨fun q => absurd q (by decide), fun _ => isIn_t (nI_pos (by omega)) (nI_nlt (b := d) (a := 6) hd (by decide)) ⟨fun q => absurd q (by decide), fun _ => isIn_t (nI_pos (by omega)) (nI_nlt (b := n) (a := 99) hn (by decide)) ⟨fun _ => ?_, fun q => absurd q (by decide)⟩⟩⟩
          rw [show (130 : Int32) + 7 * nI p + nI d = nI (130 + (p * 7 + d)) by rw [show (130 : Int32) = nI 130 from rfl, show (7 : Int32) = nI 7 from rfl, pk_mul, nI_add, nI_add]; congr 1; omega, q_vp (by omega) (by decide), q_cl (by omega)]
          exact ⟨by omega, fun z hz => by rw [hz]; exact hK⟩
      · exact ob_same (fun _ => 0) (fun u hI K hK => within_t (nI_pos (by omega)) (nI_nlt (b := p) (a := 4) hp (by decide)) ⟨fun q => absurd q (by decide), fun _ => dayX_t (by omega) ⟨fun q => absurd q (by decide), fun _ => within_f hb ⟨fun q => absurd rfl q, fun _ => hK⟩⟩⟩) (fun u hI K hK => isIn_t (nI_pos (by omega)) (nI_nlt (b := p) (a := 4) hp (by decide)) ⟨fun q => absurd q (by decide), fun _ => isIn_t (nI_pos (by omega)) (nI_nlt (b := d) (a := 6) hd (by decide)) ⟨fun q => absurd q (by decide), fun _ => isIn_f hb ⟨fun q => absurd rfl q, fun _ => hK⟩⟩⟩)
    · exact ob_same (fun _ => 0) (fun u hI K hK => within_t (nI_pos (by omega)) (nI_nlt (b := p) (a := 4) hp (by decide)) ⟨fun q => absurd q (by decide), fun _ => dayX_f hb ⟨fun _ => hK, fun q => absurd rfl q⟩⟩) (fun u hI K hK => isIn_t (nI_pos (by omega)) (nI_nlt (b := p) (a := 4) hp (by decide)) ⟨fun q => absurd q (by decide), fun _ => isIn_f hb ⟨fun _ => hK, fun q => absurd rfl q⟩⟩)
  · exact ob_same (fun _ => 0) (fun u hI K hK => within_f hb ⟨fun _ => hK, fun q => absurd rfl q⟩) (fun u hI K hK => isIn_f hb ⟨fun _ => hK, fun q => absurd rfl q⟩)
theorem ob_about {LT : Nat → PoS → Prop} (a1 : Int32) : Ob32 (wp_X11_about a1) (wp_X12_about a1) (Inv LT) := by
  rcases rng 5 (by decide) a1 with ⟨j, hj, rfl⟩ | hb
  · refine ob_same (fun u => u.1 49 j) (fun u hI K hK => ?_) (fun u hI K hK => ?_)
    · obtain ⟨e0, e1, e2, e3, e4, e5, -⟩ := hI.1.1
      have hj6 : ¬ nI j = 6 := fun q => by have := (nI_eq (b := 6) (by omega) (by decide)).mp q; omega
      refine ⟨fun q => ?_, fun q => ?_, fun q => ?_, fun q => ?_, fun q => ?_, fun q => ?_, fun q => absurd q hj6, fun q0 q1 q2 q3 q4 q5 => ?_⟩
      · obtain rfl : j = 0 := (nI_eq (b := 0) (by omega) (by decide)).mp q
        rw [gI_def, e0]; exact hK
      · obtain rfl : j = 1 := (nI_eq (b := 1) (by omega) (by decide)).mp q
        rw [gI_def, e1]; exact hK
      · obtain rfl : j = 2 := (nI_eq (b := 2) (by omega) (by decide)).mp q
        rw [gI_def, e2]; exact hK
      · obtain rfl : j = 3 := (nI_eq (b := 3) (by omega) (by decide)).mp q
        rw [gI_def, e3]; exact hK
      · obtain rfl : j = 4 := (nI_eq (b := 4) (by omega) (by decide)).mp q
        rw [gI_def, e4]; exact hK
      · obtain rfl : j = 5 := (nI_eq (b := 5) (by omega) (by decide)).mp q
        rw [gI_def, e5]; exact hK
      · rcases (show j = 0 ∨ j = 1 ∨ j = 2 ∨ j = 3 ∨ j = 4 ∨ j = 5 by omega) with rfl | rfl | rfl | rfl | rfl | rfl
        · exact absurd rfl q0
        · exact absurd rfl q1
        · exact absurd rfl q2
        · exact absurd rfl q3
        · exact absurd rfl q4
        · exact absurd rfl q5
    · refine isIn_t (nI_pos (by omega)) (nI_nlt (b := j) (a := 5) hj (by decide)) ⟨fun q => absurd q (by decide), fun _ => ?_⟩
      rw [q_vp (by omega) (by decide), q_cl (by omega)]
      exact ⟨by omega, hK⟩
  · have hn : ∀ k : Nat, k ≤ 5 → ¬ a1 = nI k := by
      intro k hk e
      subst e
      rcases hb with q | q
      · exact nI_pos (by omega) q
      · exact nI_nlt (b := k) (a := 5) hk (by decide) q
    by_cases h6 : a1 = 6
    · subst h6
      exact ob_same (fun u => u.1 48 4) (fun u hI K hK => ⟨fun q => absurd q (hn 0 (by decide)), fun q => absurd q (hn 1 (by decide)), fun q => absurd q (hn 2 (by decide)), fun q => absurd q (hn 3 (by decide)), fun q => absurd q (hn 4 (by decide)), fun q => absurd q (hn 5 (by decide)), fun _ => by rw [gI_def, hI.2.2.2.1.1]; exact hK, fun _ _ _ _ _ _ q => absurd rfl q⟩) (fun u hI K hK => isIn_f hb ⟨fun _ => ⟨fun q => absurd rfl q, fun _ => hK⟩, fun q => absurd rfl q⟩)
    · exact ob_same (fun _ => -2) (fun u hI K hK => ⟨fun q => absurd q (hn 0 (by decide)), fun q => absurd q (hn 1 (by decide)), fun q => absurd q (hn 2 (by decide)), fun q => absurd q (hn 3 (by decide)), fun q => absurd q (hn 4 (by decide)), fun q => absurd q (hn 5 (by decide)), fun q => absurd q h6, fun _ _ _ _ _ _ _ => hK⟩) (fun u hI K hK => isIn_f hb ⟨fun _ => ⟨fun _ => hK, fun q => absurd q h6⟩, fun q => absurd rfl q⟩)
theorem ob_fault {LT : Nat → PoS → Prop} (a1 : Int32) : Ob32 (wp_X11_fault a1) (wp_X12_fault a1) (Inv LT) := by
  refine ob_same (fun u => if a1 = 0 then u.1 48 5 else if a1 = 1 then u.1 48 6 else -1) (fun u hI K hK => ?_) (fun u hI K hK => ?_)
  · rcases hI.2.2.2.2.1 with ⟨h0, h1, h2⟩ | ⟨h0, h1, h2⟩
    · refine ⟨fun _ => ?_, fun q => absurd h0 q⟩
      rw [h1, h2] at hK
      simpa using hK
    · refine ⟨fun q => absurd (h0.symm.trans q) (by decide), fun _ => ?_⟩
      rcases rng 1 (by decide) a1 with ⟨j, hj, rfl⟩ | hb
      · refine within_t (nI_pos (by omega)) (nI_nlt (b := j) (a := 1) hj (by decide)) ⟨fun _ => ?_, fun q => absurd q (by decide)⟩
        rcases (show j = 0 ∨ j = 1 by omega) with rfl | rfl
        · exact ⟨fun q => absurd rfl q, fun _ => by rw [gI_def, h1]; exact hK⟩
        · exact ⟨fun _ => by rw [gI_def, h2]; exact hK, fun q => absurd q (by decide)⟩
      · have hn : ∀ k : Nat, k ≤ 1 → ¬ a1 = nI k := by
          intro k hk e
          subst e
          rcases hb with q | q
          · exact nI_pos (by omega) q
          · exact nI_nlt (b := k) (a := 1) hk (by decide) q
        refine within_f hb ⟨fun q => absurd rfl q, fun _ => ?_⟩
        rw [if_neg (show ¬ a1 = 0 from hn 0 (by decide)), if_neg (show ¬ a1 = 1 from hn 1 (by decide))] at hK
        exact hK
  · refine ⟨fun q => ⟨fun q1 => ?_, fun q1 => ?_⟩, fun q => ?_⟩
    · rw [if_neg q, if_neg q1] at hK; exact hK
    · rw [if_neg q, if_pos q1] at hK; exact hK
    · rw [if_pos q] at hK; exact hK
theorem ob_by {LT : Nat → PoS → Prop} (hLT : LTok LT) (a1 : Int32) : Ob32 (wp_X11_by a1) (wp_X12_by a1) (Inv LT) := by
  intro u hI
  obtain ⟨⟨n, hn4, hn⟩, e1⟩ : Sm 4 (u.1 49 1) ∧ u.1 3 117 = u.1 49 1 := ⟨hI.1.2.1.2.1, hI.1.1.2.1⟩
  have hnn : nN (u.1 49 1) = n := by rw [hn, nN_nI (by omega)]
  by_cases hv : a1 = -1 ∨ ∃ t, t < nN (u.1 49 1) ∧ a1 = nI t
  · refine ⟨fun r u1 => r = 1 ∧ u1 = pI u 3 116 a1, fun K hK => ?_, fun r u1 hr K hK => ?_⟩
    · refine ⟨fun _ z hz => ?_, fun q => ?_⟩
      · rw [hz]; exact hK _ _ ⟨rfl, rfl⟩
      · obtain ⟨t, ht, rfl⟩ := hv.resolve_left q
        refine ⟨fun q => absurd q (nI_pos (by omega)), fun _ => ⟨fun q => ?_, fun _ => ⟨fun _ z hz => by rw [hz]; exact hK _ _ ⟨rfl, rfl⟩, fun q => absurd q (by decide)⟩⟩⟩
        rw [gI_def, e1, hn] at q
        exact absurd q (nI_ge (by omega) (by omega))
    · obtain ⟨rfl, rfl⟩ := hr
      have hfin := inv_pp hLT hI (k := 116) (k' := 2) (by decide) (row_by hI.1 hv)
      refine isIn_t ?_ ?_ ⟨fun _ z hz => by rw [hz]; exact hK _ hfin, fun q => absurd q (by decide)⟩
      · rcases hv with rfl | ⟨t, ht, rfl⟩
        · decide
        · show ¬ nI t < -nI 1
          rw [q_ltn (by omega)]; exact id
      · rw [gI_def, pI_1, if_neg (by decide), hn]
        rcases hv with rfl | ⟨t, ht, rfl⟩
        · rcases (show n = 0 ∨ n = 1 ∨ n = 2 ∨ n = 3 ∨ n = 4 by omega) with rfl | rfl | rfl | rfl | rfl <;> decide
        · rw [show (1 : Int32) = nI 1 from rfl, q_sub (by omega)]
          exact nI_nlt (by omega) (by omega)
  · have h1 : ¬ a1 = -1 := fun q => hv (Or.inl q)
    have h2 : ∀ t, t < n → ¬ a1 = nI t := fun t ht q => hv (Or.inr ⟨t, by omega, q⟩)
    refine ⟨fun r u1 => r = 0 ∧ u1 = u, fun K hK => ?_, fun r u1 hr K hK => ?_⟩
    · refine ⟨fun q => absurd q h1, fun _ => ⟨fun _ => ⟨fun q => absurd rfl q, fun _ => hK _ _ ⟨rfl, rfl⟩⟩, fun h0 => ⟨fun _ => ⟨fun q => absurd rfl q, fun _ => hK _ _ ⟨rfl, rfl⟩⟩, fun hl => ?_⟩⟩⟩
      obtain ⟨j, hj, rfl⟩ := nI_of h0
      rw [gI_def, e1, hn, q_le (by omega) hj] at hl
      exact absurd rfl (h2 j (by omega))
    · obtain ⟨rfl, rfl⟩ := hr
      refine isIn_f ?_ ⟨fun q => absurd rfl q, fun _ => hK _ hI⟩
      by_cases h0 : a1 < 0
      · left
        rw [Int32.lt_iff_toInt_lt] at h0 ⊢
        have h3 : ¬ a1.toInt = -1 := fun q => h1 (Int32.toInt_inj.mp (by rw [q]; decide))
        have h4 : (-1 : Int32).toInt = -1 := by decide
        have h5 : (0 : Int32).toInt = 0 := by decide
        omega
      · obtain ⟨j, hj, rfl⟩ := nI_of h0
        right
        rw [gI_def, hn]
        have hjn : n ≤ j := by
          rcases Nat.lt_or_ge j n with q | q
          · exact absurd rfl (h2 j q)
          · exact q
        rcases Nat.eq_zero_or_pos n with rfl | hp
        · rw [Int32.lt_iff_toInt_lt, nI_toInt hj]
          have h4 : (nI 0 - 1 : Int32).toInt = -1 := by decide
          omega
        · rw [show (1 : Int32) = nI 1 from rfl, q_sub (by omega)]
          exact nI_lt (by omega) hj
