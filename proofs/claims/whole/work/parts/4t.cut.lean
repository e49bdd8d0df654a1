/-! WHAT CUTS OFF -/
def rmv (o : Int32) (c : Nat) : Int32 := o &&& (bt1 c ^^^ -1)
theorem rmv_hb {o : Int32} (hO : S30 o) {c : Nat} (hc : c < 30) (d : Nat) : hb (rmv o c) d = true ↔ hb o d = true ∧ d ≠ c := bx_hb hc hO d
theorem rmv_30 {o : Int32} (hO : S30 o) (c : Nat) : S30 (rmv o c) := hO.and _
def remL (o : Int32) : List Nat → Int32
  | [] => o
  | c :: l => remL (rmv o c) l
theorem remL_hb : ∀ (l : List Nat) (o : Int32), S30 o → (∀ x, x ∈ l → x < 30) → S30 (remL o l) ∧ ∀ d, hb (remL o l) d = true ↔ hb o d = true ∧ ¬ d ∈ l := by
  intro l
  induction l with
  | nil => intro o hO _; exact ⟨hO, fun d => by simp [remL]⟩
  | cons c l ih =>
    intro o hO hl
    have hc := hl c (by simp)
    obtain ⟨h1, h2⟩ := ih (rmv o c) (rmv_30 hO c) (fun x hx => hl x (by simp [hx]))
    refine ⟨h1, fun d => ?_⟩
    rw [remL, h2, rmv_hb hO hc]
    simp only [List.mem_cons, not_or]
    constructor
    · rintro ⟨⟨a, b⟩, c⟩; exact ⟨a, b, c⟩
    · rintro ⟨a, b, c⟩; exact ⟨⟨a, b⟩, c⟩
/-- n CELLS, or fewer, part a and b -/
def CutL (a b n : Nat) (o : Int32) : Prop := ∃ l : List Nat, l.length ≤ n ∧ (∀ x, x ∈ l → x < 30 ∧ x ≠ a ∧ x ≠ b) ∧ ¬ Cn (remL o l) a b
theorem cut0 {a b : Nat} {o : Int32} : CutL a b 0 o ↔ ¬ Cn o a b := by
  constructor
  · rintro ⟨l, h1, -, h3⟩
    have : l = [] := List.length_eq_zero_iff.mp (by omega)
    rw [this] at h3; exact h3
  · intro h; exact ⟨[], Nat.le_refl _, fun x hx => by simp at hx, h⟩
theorem cut_le {a b n m : Nat} {o : Int32} (h : CutL a b n o) (hm : n ≤ m) : CutL a b m o := by
  obtain ⟨l, h1, h2, h3⟩ := h
  exact ⟨l, by omega, h2, h3⟩
theorem cut_cons {a b n c : Nat} {o : Int32} (hc : c < 30 ∧ c ≠ a ∧ c ≠ b) (h : CutL a b n (rmv o c)) : CutL a b (n + 1) o := by
  obtain ⟨l, h1, h2, h3⟩ := h
  refine ⟨c :: l, by simp; omega, fun x hx => ?_, h3⟩
  rcases List.mem_cons.mp hx with e | e
  · rw [e]; exact hc
  · exact h2 x e
/-- one of them lies on any way -/
theorem cut_way {a b n : Nat} {o w : Int32} (hO : S30 o) (hb30 : b < 30) (hob : hb o b = true) (hw : ∀ c, hb w c = true → hb o c = true ∧ c ≠ a ∧ c ≠ b) (hcn : Cn (w ||| bt1 b) a b) (h : CutL a b (n + 1) o) : ∃ c, hb w c = true ∧ CutL a b n (rmv o c) := by
  obtain ⟨l, h1, h2, h3⟩ := h
  have ex : ∃ x, x ∈ l ∧ hb w x = true := by
    apply Classical.byContradiction
    intro hno
    apply h3
    refine hcn.mono (fun d hd => ?_)
    rw [hb_or, Bool.or_eq_true, bt1_hb hb30] at hd
    refine ((remL_hb l o hO (fun x hx => (h2 x hx).1)).2 d).mpr ?_
    rcases hd with hd | hd
    · exact ⟨(hw d hd).1, fun hm => hno ⟨d, hm, hd⟩⟩
    · rw [hd]; exact ⟨hob, fun hm => (h2 b hm).2.2 rfl⟩
  obtain ⟨x, hx, hwx⟩ := ex
  have x30 := (h2 x hx).1
  refine ⟨x, hwx, l.erase x, by rw [List.length_erase_of_mem hx]; omega, fun y hy => h2 y (List.mem_of_mem_erase hy), fun hc => h3 ?_⟩
  refine hc.mono (fun d hd => ?_)
  have g := (remL_hb (l.erase x) (rmv o x) (rmv_30 hO x) (fun y hy => (h2 y (List.mem_of_mem_erase hy)).1)).2 d
  have g2 := g.mp hd
  rw [rmv_hb hO x30] at g2
  refine ((remL_hb l o hO (fun x hx => (h2 x hx).1)).2 d).mpr ⟨g2.1.1, fun hm => g2.2 ((List.mem_erase_of_ne g2.1.2).mpr hm)⟩
/-! the class -/
def Fr45 (u z : PoS) : Prop := ∀ j, j ≠ 45 → z.1 j = u.1 j
theorem betweenX {a b : Nat} (ha : a < 30) (hb30 : b < 30) (hne : ¬ a = b) {o : Int32} (hO : S30 o) (hoa : hb o a = true) {u : PoS} {post : Int32 → PoS → Prop} (h0 : ¬ Cn o a b → ∀ z, Fr45 u z → post (-1) z) (h1 : Cn o a b → ∀ z w, Fr45 u z → S30 w → (∀ c, hb w c = true → hb o c = true ∧ c ≠ a ∧ c ≠ b) → Cn (w ||| bt1 b) a b → post w z) : wp_X4_between (nI a) (nI b) o u post := by
  intro x1 e1
  rw [show (1 : Int32) <<< (nI a &&& 31) = bt1 a from rfl] at e1
  subst e1
  refine ⟨30, ?_⟩
  have s1 := bt1_30 ha
  have back : ∀ k z, 1 ≤ k → (∀ i, i < k → z.1 45 i = Rch o (bt1 a) i) → Fr45 u z → Wk o k a b → (∀ j, j < k → ¬ Wk o j a b) → k < 30 → wl_X4_between_74 post (k - 1 + 1) o 0 (nI b) (nI k - 1) z := by
    intro k z hk1 g45 fz hwk hmin hk30
    have lp : ∀ i, i < k → ∀ (w : Int32) x, x < 30 → S30 w → hb o x = true ∨ x = b → Wk o (i + 1) a x → (∀ j, j < i + 1 → ¬ Wk o j a x) → (∀ c, hb w c = true → hb o c = true ∧ c ≠ a ∧ c ≠ b) → Cn (w ||| bt1 b) x b → (hb (w ||| bt1 b) x = true) → wl_X4_between_74 post (i + 1) o w (nI x) (nI i) z := by
      intro i
      induction i with
      | zero =>
        intro hi w x hx hw hox hwx hmx hwc hcn hin
        rw [wl_X4_between_74]
        refine ⟨fun _ => h1 ⟨k, hwk⟩ z w fz hw hwc ?_, fun q => absurd (by decide) q⟩
        obtain ⟨c, e, hadj, _⟩ := hwx
        have e : a = c := e
        rw [← e] at hadj
        exact Cn.tr ((Cn.refl _ a).st hadj hin) hcn
      | succ i ih =>
        intro hi w x hx hw hox hwx hmx hwc hcn hin
        rw [wl_X4_between_74, q_vp (by omega) (by omega), q_cl (by omega)]
        refine ⟨fun q => absurd q (nI_nle (by omega) (by omega)), fun _ => besX (x := bt1 x) (bt1_30 hx) ⟨by omega, fun x16 e16 x17 e17 => ?_⟩⟩
        rw [gI_def, g45 (i + 1) (by omega)] at e16
        have hbe : ∀ y, hb x16 y = true ↔ adj x y ∧ hb o y = true ∧ ∃ j, j ≤ i + 1 ∧ Wk o j a y := by
          intro y
          rw [e16, hb_and, hb_and, Bool.and_eq_true, Bool.and_eq_true, bes_hb (bt1_30 hx), Rch1 hO ha]
          constructor
          · rintro ⟨⟨⟨g1, c, g2, g3⟩, g4⟩, g5⟩
            rw [(bt1_hb hx c).mp g2] at g3
            exact ⟨g3, g5, g4⟩
          · rintro ⟨g1, g2, g3⟩
            exact ⟨⟨⟨hO.lt g2, x, (bt1_hb hx x).mpr rfl, g1⟩, g3⟩, g2⟩
        have h16 : S30 x16 := by rw [e16]; exact hO.and' _
        have exy : ¬ x16 = 0 := by
          obtain ⟨c, g1, g2, _⟩ := hwx
          have hoc : hb o c = true := Wk_open g1 hoa
          exact ne_of_hb ((hbe c).mpr ⟨adj_sym g2, hoc, i + 1, Nat.le_refl _, g1⟩)
        obtain ⟨y, y1, y2, y3, y4⟩ := S30_low h16 exy
        obtain ⟨a1, a2, j, j1, j2⟩ := (hbe y).mp y2
        have hex : hb o x = true := by
          obtain ⟨c, _, _, g3⟩ := hwx; exact g3
        -- y is just i + 1 STEPS off
        have ymin : ∀ j', j' < i + 1 → ¬ Wk o j' a y := fun j' hj' hw' => hmx (j' + 1) (by omega) ⟨y, hw', adj_sym a1, hex⟩
        have hwy : Wk o (i + 1) a y := by
          rcases Nat.lt_or_ge j (i + 1) with z | z
          · exact absurd j2 (ymin j z)
          · rw [show i + 1 = j by omega]; exact j2
        have yb : y ≠ b := fun e => hmin (i + 1) (by omega) (by rw [← e]; exact hwy)
        have ya : y ≠ a := fun e => ymin 0 (by omega) e.symm
        refine lowX y1 y2 y3 ?_
        rw [y4] at e17
        rw [e17, show nI (i + 1) + -1 = nI i from pk_m1 i]
        have inw : ∀ c, hb (w ||| bt1 y) c = true ↔ hb w c = true ∨ c = y := fun c => by rw [hb_or, Bool.or_eq_true, bt1_hb y1]
        have up : ∀ c, hb (w ||| bt1 b) c = true → hb ((w ||| bt1 y) ||| bt1 b) c = true := fun c hc => by
          rw [hb_or, Bool.or_eq_true] at hc ⊢
          rcases hc with hc | hc
          · exact Or.inl ((inw c).mpr (Or.inl hc))
          · exact Or.inr hc
        refine ih (by omega) (w ||| bt1 y) y y1 (hw.or (bt1_30 y1)) (Or.inl a2) hwy ymin (fun c hc => ?_) ?_ ?_
        · rcases (inw c).mp hc with g | g
          · exact hwc c g
          · rw [g]; exact ⟨a2, ya, yb⟩
        · exact Cn.tr ((Cn.refl _ y).st (adj_sym a1) (up x hin)) (hcn.mono up)
        · rw [hb_or, (inw y).mpr (Or.inr rfl)]; rfl
    have := lp (k - 1) (by omega) 0 b hb30 S30_0 (Or.inr rfl) (by rw [Nat.sub_add_cancel hk1]; exact hwk) (fun j hj => hmin j (by omega)) (fun c hc => by rw [hb_0] at hc; exact Bool.noConfusion hc) (Cn.refl _ b) (by rw [hb_or, (bt1_hb hb30 b).mpr rfl, Bool.or_true])
    rw [show (1 : Int32) = nI 1 from rfl, q_sub hk1]
    exact this
  have lp : ∀ m k, k + m = 29 → ∀ z, Fr45 u z → (∀ i, i < k → z.1 45 i = Rch o (bt1 a) i ∧ ¬ hb (Rch o (bt1 a) i) b = true) → wl_X4_between_8 (fun (v210 : Int32) (v310 : Int32) (v410 : Int32) (v510 : Int32) (u10 : PoS) => wj_X4_between_51 post v210 v310 v410 v510 u10) post (m + 1) (nI b) o (Rch o (bt1 a) k) (nI k) z := by
    intro m
    have fin : ∀ k z, k < 30 → Fr45 u z → (∀ i, i < k → z.1 45 i = Rch o (bt1 a) i ∧ ¬ hb (Rch o (bt1 a) i) b = true) → (k = 29 ∨ hb (Rch o (bt1 a) k) b = true) → wj_X4_between_51 post (nI b) o (Rch o (bt1 a) k) (nI k) z := by
      intro k z hk fz g hend
      cases e : hb (Rch o (bt1 a) k) b
      · refine hasX_f hb30 e ⟨fun q => absurd rfl q, fun _ => h0 (fun hcn => ?_) z fz⟩
        rcases hend with y | y
        · rw [y] at e
          have : cj o a b = true := (cj_iff hO ha b).mpr hcn
          exact bN e this
        · exact bN e y
      · refine hasX_t hb30 e ⟨fun _ x13 e13 => ?_, fun q => absurd q (by decide)⟩
        obtain ⟨j, j1, j2⟩ := (Rch1 hO ha k b).mp e
        have hmin : ∀ j', j' < k → ¬ Wk o j' a b := fun j' hj' hw => (g j' hj').2 ((Rch1 hO ha j' b).mpr ⟨j', Nat.le_refl _, hw⟩)
        have hj : j = k := by
          rcases Nat.lt_or_ge j k with y | y
          · exact absurd j2 (hmin j y)
          · omega
        rw [hj] at j2
        have hk1 : 1 ≤ k := by
          cases k with
          | zero => exact absurd j2 hne
          | succ k => omega
        rw [e13]
        exact ⟨_, back k z hk1 (fun i hi => (g i hi).1) fz j2 hmin hk⟩
    induction m with
    | zero =>
      intro k hk z fz g
      obtain rfl : k = 29 := by omega
      rw [wl_X4_between_8]
      exact ⟨fun _ => fin 29 z (by decide) fz g (Or.inl rfl), fun q => absurd (by decide) q⟩
    | succ m ih =>
      intro k hk z fz g
      rw [wl_X4_between_8]
      refine ⟨fun q => absurd q (nI_ge (b := 29) (by omega) (by decide)), fun _ => ?_⟩
      cases e : hb (Rch o (bt1 a) k) b
      · refine hasX_f hb30 e ⟨fun q => absurd rfl q, fun _ => ?_⟩
        rw [q_vp (by omega) (by omega), q_cl (by omega)]
        refine ⟨by omega, fun z4 e4 => besX (Rch_30 s1 k) (fun x7 e7 => ?_)⟩
        rw [← Rch] at e7
        rw [e7, nI_1]
        refine ih (k + 1) (by omega) z4 (fun j hj => by rw [e4, pI_o hj]; exact fz j hj) (fun i hi => ?_)
        rw [e4, pI_s]
        by_cases y : i = k
        · rw [y, up_eq]; exact ⟨rfl, bN e⟩
        · rw [up_ne y]; exact g i (by omega)
      · exact hasX_t hb30 e ⟨fun _ => fin k z (by omega) fz g (Or.inr e), fun q => absurd q (by decide)⟩
  exact lp 29 0 rfl u (fun _ _ => rfl) (fun i hi => by omega)
theorem partedX {a b : Nat} (ha : a < 30) (hb30 : b < 30) (hne : ¬ a = b) : ∀ n q, n < q → ∀ (o : Int32) (u : PoS) (post : Int32 → PoS → Prop), S30 o → hb o a = true → hb o b = true → n < 5 → (CutL a b n o → ∀ z, Fr45 u z → post 1 z) → (¬ CutL a b n o → ∀ z, Fr45 u z → post 0 z) → wR_parted q (nI a) (nI b) o (nI n) u post := by
  intro n
  induction n with
  | zero =>
    intro q hq o u post hO hoa hob _ h1 h0
    obtain ⟨q, rfl⟩ : ∃ r, q = r + 1 := ⟨q - 1, by omega⟩
    refine betweenX ha hb30 hne hO hoa (fun hn z fz => ⟨fun y => absurd rfl y, fun _ => h1 (cut0.mpr hn) z fz⟩) (fun hcn z w fz hw hwc hcw => ⟨fun _ => ⟨1, ?_⟩, fun y => ?_⟩)
    · rw [wl_X4_parted_20]
      exact ⟨fun y => absurd y (by decide), fun _ => ⟨fun _ => h0 (fun hc => cut0.mp hc hcn) z fz, fun y => absurd (by decide) y⟩⟩
    · have := hw 31 (by decide)
      rw [y] at this; exact absurd this (by decide)
  | succ n ih =>
    intro q hq o u post hO hoa hob hn5 h1 h0
    obtain ⟨q, rfl⟩ : ∃ r, q = r + 1 := ⟨q - 1, by omega⟩
    refine betweenX ha hb30 hne hO hoa (fun hn z fz => ⟨fun y => absurd rfl y, fun _ => h1 (cut_le (cut0.mpr hn) (by omega)) z fz⟩) (fun hcn z w fz hw hwc hcw => ⟨fun _ => ⟨31, ?_⟩, fun y => ?_⟩)
    · have lp : ∀ m c, c + m = 30 → ∀ z, Fr45 u z → (∀ c', c' < c → hb w c' = true → ¬ CutL a b n (rmv o c')) → wl_X4_parted_20 (wR_parted q) post (m + 1) (nI a) (nI b) o (nI (n + 1)) w (nI c) z := by
        intro m
        induction m with
        | zero =>
          intro c hc z fz hno
          obtain rfl : c = 30 := by omega
          rw [wl_X4_parted_20]
          refine ⟨fun _ => h0 (fun hcut => ?_) z fz, fun y => absurd (by decide) y⟩
          obtain ⟨c, hwc', hcc⟩ := cut_way hO hb30 hob hwc hcw hcut
          exact hno c (hw.lt hwc') hwc' hcc
        | succ m ihm =>
          intro c hc z fz hno
          have skip : ∀ z', Fr45 u z' → (hb w c = true → ¬ CutL a b n (rmv o c)) → wj_X4_parted_65 (wR_parted q) (wl_X4_parted_20 (wR_parted q) post (m + 1)) post (nI a) (nI b) o (nI (n + 1)) w (nI c) z' := by
            intro z' f' hs
            unfold wj_X4_parted_65
            rw [nI_1]
            refine ihm (c + 1) (by omega) z' f' (fun c' hc' hw' => ?_)
            by_cases y : c' = c
            · rw [y] at hw' ⊢; exact hs hw'
            · exact hno c' (by omega) hw'
          rw [wl_X4_parted_20]
          refine ⟨fun y => absurd y (nI_ge (b := 30) (by omega) (by decide)), fun _ => ⟨fun y => absurd y (nI_nle (by omega) (by omega)), fun _ => ?_⟩⟩
          cases e : hb w c
          · exact hasX_f (by omega) e ⟨fun _ => skip z fz (fun h => absurd h (bN e)), fun y => absurd rfl y⟩
          · obtain ⟨w1, w2, w3⟩ := hwc c e
            refine hasX_t (by omega) e ⟨fun y => absurd y (by decide), fun _ => ?_⟩
            rw [nI_pred]
            refine ih q (by omega) (rmv o c) z _ (rmv_30 hO c) ((rmv_hb hO (by omega) a).mpr ⟨hoa, w2.symm⟩) ((rmv_hb hO (by omega) b).mpr ⟨hob, w3.symm⟩) (by omega) (fun hcut z' f' => ⟨fun y => absurd y (by decide), fun _ => h1 (cut_cons ⟨by omega, w2, w3⟩ hcut) z' (fun j hj => by rw [f' j hj, fz j hj])⟩) (fun hcut z' f' => ⟨fun _ => skip z' (fun j hj => by rw [f' j hj, fz j hj]) (fun _ => hcut), fun y => absurd rfl y⟩)
      exact lp 30 0 rfl z fz (fun c' hc' => by omega)
    · have := hw 31 (by decide)
      rw [y] at this; exact absurd this (by decide)
theorem cnt_list (A : Int32) : ∀ n, ((List.range n).filter (fun c => hb A c)).length = cnt A n := by
  intro n
  induction n with
  | zero => rfl
  | succ n ih =>
    rw [List.range_succ, List.filter_append, List.length_append, ih, cnt]
    congr 1
    cases e : hb A n <;> simp [e]
theorem cut_nb {a b : Nat} (ha : a < 30) (hb30 : b < 30) (hne : ¬ a = b) {o : Int32} (hO : S30 o) (hnadj : ¬ adj a b) : CutL a b (cnt (bes (bt1 a) &&& o) 32) o ∧ CutL a b (cnt (bes (bt1 b) &&& o) 32) o := by
  have nb : ∀ c, c < 30 → ∀ d, hb (bes (bt1 c) &&& o) d = true ↔ adj c d ∧ hb o d = true := by
    intro c hc d
    rw [hb_and, Bool.and_eq_true, bes_hb (bt1_30 hc)]
    constructor
    · rintro ⟨⟨h1, e, h2, h3⟩, h4⟩; rw [(bt1_hb hc e).mp h2] at h3; exact ⟨h3, h4⟩
    · rintro ⟨h1, h2⟩; exact ⟨⟨hO.lt h2, c, (bt1_hb hc c).mpr rfl, h1⟩, h2⟩
  have mem : ∀ c x, x ∈ (List.range 30).filter (fun d => hb (bes (bt1 c) &&& o) d) ↔ x < 30 ∧ hb (bes (bt1 c) &&& o) x = true := fun c x => by simp [List.mem_filter, List.mem_range]
  refine ⟨⟨(List.range 30).filter (fun d => hb (bes (bt1 a) &&& o) d), by rw [cnt_list, cnt_32 ((bes_30 _).and _)]; exact Nat.le_refl _, fun x hx => ?_, ?_⟩, ⟨(List.range 30).filter (fun d => hb (bes (bt1 b) &&& o) d), by rw [cnt_list, cnt_32 ((bes_30 _).and _)]; exact Nat.le_refl _, fun x hx => ?_, ?_⟩⟩
  · obtain ⟨h1, h2⟩ := (mem a x).mp hx
    have h3 := ((nb a ha x).mp h2).1
    exact ⟨h1, adj_ne h3, fun e => hnadj (e ▸ h3)⟩
  · rintro ⟨j, hw⟩
    cases j with
    | zero => exact hne hw
    | succ j =>
      obtain ⟨c, h1, h2, _⟩ := (Wk_left j a b).mp hw
      have h3 := ((remL_hb _ o hO (fun x hx => ((mem a x).mp hx).1)).2 c).mp h2
      exact h3.2 ((mem a c).mpr ⟨hO.lt h3.1, (nb a ha c).mpr ⟨h1, h3.1⟩⟩)
  · obtain ⟨h1, h2⟩ := (mem b x).mp hx
    have h3 := ((nb b hb30 x).mp h2).1
    exact ⟨h1, fun e => hnadj (adj_sym (e ▸ h3)), adj_ne h3⟩
  · rintro ⟨j, hw⟩
    cases j with
    | zero => exact hne hw
    | succ j =>
      obtain ⟨c, h1, h2, _⟩ := hw
      cases j with
      | zero =>
        have h1 : a = c := h1
        rw [← h1] at h2; exact hnadj h2
      | succ j =>
        obtain ⟨c', _, _, h4⟩ := h1
        have h3 := ((remL_hb _ o hO (fun x hx => ((mem b x).mp hx).1)).2 c).mp h4
        exact h3.2 ((mem b c).mpr ⟨hO.lt h3.1, (nb b hb30 c).mpr ⟨adj_sym h2, h3.1⟩⟩)
theorem nb4 : ∀ c, c < 30 → cnt (bes (bt1 c)) 30 ≤ 4 := by decide +kernel
theorem fewestX {a b : Nat} (ha : a < 30) (hb30 : b < 30) (hne : ¬ a = b) {o : Int32} (hO : S30 o) (hoa : hb o a = true) (hob : hb o b = true) {u : PoS} {post : Int32 → PoS → Prop} (hadj : adj a b → post (-1) u) (K : ¬ adj a b → ∀ n z, Fr45 u z → n ≤ 4 → CutL a b n o → (∀ m, m < n → ¬ CutL a b m o) → post (nI n) z) : wp_X4_fewest (nI a) (nI b) o u post := by
  refine besX (x := bt1 a) (bt1_30 ha) (fun x3 e3 => besX (x := bt1 b) (bt1_30 hb30) (fun x6 e6 => ?_))
  have hab : hb x3 b = true ↔ adj a b := by
    rw [e3, hb_and, Bool.and_eq_true, bes_hb (bt1_30 ha)]
    constructor
    · rintro ⟨⟨_, c, h2, h3⟩, _⟩; rw [(bt1_hb ha c).mp h2] at h3; exact h3
    · intro h; exact ⟨⟨hb30, a, (bt1_hb ha a).mpr rfl, h⟩, hob⟩
  cases e : hb x3 b
  · have hn : ¬ adj a b := fun h => bN e (hab.mpr h)
    obtain ⟨k1, k2⟩ := cut_nb ha hb30 hne hO hn
    have b4 : ∀ c, c < 30 → cnt (bes (bt1 c) &&& o) 32 ≤ 4 := fun c hc => by
      rw [cnt_32 ((bes_30 _).and _)]
      exact Nat.le_trans (cnt_mono (fun d hd => by rw [hb_and, Bool.and_eq_true] at hd; exact hd.1) 30) (nb4 c hc)
    have a4 := b4 a ha
    have bb4 := b4 b hb30
    rw [← e3] at k1 a4
    rw [← e6] at k2 bb4
    refine hasX_f hb30 e ⟨fun _ => bcN (bcN (fun x13 e13 => ?_)), fun q => absurd rfl q⟩
    rw [imin_n (by omega) (by omega)] at e13
    have km : CutL a b (min (cnt x3 32) (cnt x6 32)) o := by
      rcases Nat.le_total (cnt x3 32) (cnt x6 32) with y | y
      · rw [Nat.min_eq_left y]; exact k1
      · rw [Nat.min_eq_right y]; exact k2
    generalize hM : min (cnt x3 32) (cnt x6 32) = M at *
    have M4 : M ≤ 4 := by omega
    rw [e13]
    refine ⟨M + 1, ?_⟩
    have lp : ∀ m k, k + m = M → ∀ z, Fr45 u z → (∀ k', k' < k → ¬ CutL a b k' o) → wl_X4_fewest_49 post (m + 1) (nI a) (nI b) o (nI M) (nI k) z := by
      intro m
      induction m with
      | zero =>
        intro k hk z fz hno
        obtain rfl : k = M := by omega
        rw [wl_X4_fewest_49, q_le (by omega) (by omega)]
        exact ⟨fun _ => K hn k z fz M4 km hno, fun q => absurd (Nat.le_refl k) q⟩
      | succ m ih =>
        intro k hk z fz hno
        rw [wl_X4_fewest_49, q_le (by omega) (by omega)]
        refine ⟨fun q => by omega, fun _ => partedX ha hb30 hne k 7 (by omega) o z _ hO hoa hob (by omega) (fun hc z' f' => ⟨fun q => absurd q (by decide), fun _ => K hn k z' (fun j hj => by rw [f' j hj, fz j hj]) (by omega) hc hno⟩) (fun hc z' f' => ⟨fun _ => ?_, fun q => absurd rfl q⟩)⟩
        rw [nI_1]
        refine ih (k + 1) (by omega) z' (fun j hj => by rw [f' j hj, fz j hj]) (fun k' hk' => ?_)
        by_cases y : k' = k
        · rw [y]; exact hc
        · exact hno k' (by omega)
    exact lp M 0 (Nat.zero_add M) u (fun _ _ => rfl) (fun k' hk' => by omega)
  · exact hasX_t hb30 e ⟨fun q => absurd q (by decide), fun _ => hadj (hab.mp e)⟩
/-! the reference -/
section CUTM
variable {a b : Nat}
def R1 (a b : Nat) (o : Int32) (c0 : Nat) : Prop := ∃ c, c0 ≤ c ∧ c < 30 ∧ hb o c = true ∧ c ≠ a ∧ c ≠ b ∧ ¬ Cn (rmv o c) a b
def R2 (a b : Nat) (o : Int32) (c0 : Nat) : Prop := ∃ c, c0 ≤ c ∧ c < 30 ∧ hb o c = true ∧ c ≠ a ∧ c ≠ b ∧ R1 a b (rmv o c) (c + 1)
def R3 (a b : Nat) (o : Int32) : Prop := ∃ c, c < 30 ∧ hb o c = true ∧ c ≠ a ∧ c ≠ b ∧ R2 a b (rmv o c) (c + 1)
theorem cutOffM (ha : a < 30) (hb30 : b < 30) {o : Int32} (hO : S30 o) {u : PoS} {post : Int32 → PoS → Prop} (h1 : ¬ Cn o a b → post 1 u) (h0 : Cn o a b → post 0 u) : wp_X12_isCutOff (nI a) (nI b) o u post := by
  refine comeToM (s := bt1 a) (bt1_30 ha) ?_
  cases e : hb (Rch o (bt1 a) 29) b
  · exact hasM_f (by omega) e ⟨fun q => absurd rfl q, fun _ => h1 (fun h => bN e ((cj_iff hO ha b).mpr h))⟩
  · exact hasM_t (by omega) e ⟨fun _ => h0 ((cj_iff hO ha b).mp e), fun q => absurd q (by decide)⟩
theorem cut1M (ha : a < 30) (hb30 : b < 30) {o : Int32} (hO : S30 o) {c0 : Nat} (hc0 : c0 ≤ 30) {u : PoS} {post : Int32 → PoS → Prop} (h1 : R1 a b o c0 → post 1 u) (h0 : ¬ R1 a b o c0 → post 0 u) : wp_X12_isCutByOne (nI a) (nI b) o (nI c0) u post := by
  refine ⟨30 - c0 + 1, ?_⟩
  have lp : ∀ m c, c + m = 30 → c0 ≤ c → (∀ c', c0 ≤ c' → c' < c → ¬ (hb o c' = true ∧ c' ≠ a ∧ c' ≠ b ∧ ¬ Cn (rmv o c') a b)) → wl_X12_isCutByOne_3 post (m + 1) (nI a) (nI b) o (nI c) u := by
    intro m
    induction m with
    | zero =>
      intro c hc h2 hno
      obtain rfl : c = 30 := by omega
      rw [wl_X12_isCutByOne_3]
      exact ⟨fun _ => h0 (fun ⟨c, g1, g2, g3⟩ => hno c g1 g2 g3), fun q => absurd (by decide) q⟩
    | succ m ih =>
      intro c hc h2 hno
      have skip : ¬ (hb o c = true ∧ c ≠ a ∧ c ≠ b ∧ ¬ Cn (rmv o c) a b) → wj_X12_isCutByOne_49 (wl_X12_isCutByOne_3 post (m + 1)) post (nI a) (nI b) o (nI c) u := by
        intro hs
        unfold wj_X12_isCutByOne_49
        rw [nI_1]
        refine ih (c + 1) (by omega) (by omega) (fun c' g1 g2 => ?_)
        by_cases y : c' = c
        · rw [y]; exact hs
        · exact hno c' g1 (by omega)
      rw [wl_X12_isCutByOne_3, q_eq (by omega) (by omega), q_eq (by omega) (by omega)]
      refine ⟨fun q => absurd q (nI_ge (b := 30) (by omega) (by decide)), fun _ => ?_⟩
      cases e : hb o c
      · exact hasM_f (by omega) e ⟨fun _ => skip (fun h => bN e h.1), fun q => absurd rfl q⟩
      · refine hasM_t (by omega) e ⟨fun q => absurd q (by decide), fun _ => ⟨fun y => skip (fun h => h.2.1 y), fun ya => ⟨fun y => skip (fun h => h.2.2.1 y), fun yb => ?_⟩⟩⟩
        exact cutOffM ha hb30 (o := rmv o c) (rmv_30 hO c) (fun hn => ⟨fun q => absurd q (by decide), fun _ => h1 ⟨c, h2, by omega, e, ya, yb, hn⟩⟩) (fun hn => ⟨fun _ => skip (fun h => h.2.2.2 hn), fun q => absurd rfl q⟩)
  exact lp (30 - c0) c0 (by omega) (Nat.le_refl _) (fun c' g1 g2 => by omega)
theorem cut2M (ha : a < 30) (hb30 : b < 30) {o : Int32} (hO : S30 o) {c0 : Nat} (hc0 : c0 ≤ 30) {u : PoS} {post : Int32 → PoS → Prop} (h1 : R2 a b o c0 → post 1 u) (h0 : ¬ R2 a b o c0 → post 0 u) : wp_X12_isCutByTwo (nI a) (nI b) o (nI c0) u post := by
  refine ⟨30 - c0 + 1, ?_⟩
  have lp : ∀ m c, c + m = 30 → c0 ≤ c → (∀ c', c0 ≤ c' → c' < c → ¬ (hb o c' = true ∧ c' ≠ a ∧ c' ≠ b ∧ R1 a b (rmv o c') (c' + 1))) → wl_X12_isCutByTwo_3 post (m + 1) (nI a) (nI b) o (nI c) u := by
    intro m
    induction m with
    | zero =>
      intro c hc h2 hno
      obtain rfl : c = 30 := by omega
      rw [wl_X12_isCutByTwo_3]
      exact ⟨fun _ => h0 (fun ⟨c, g1, g2, g3⟩ => hno c g1 g2 g3), fun q => absurd (by decide) q⟩
    | succ m ih =>
      intro c hc h2 hno
      have skip : ¬ (hb o c = true ∧ c ≠ a ∧ c ≠ b ∧ R1 a b (rmv o c) (c + 1)) → wj_X12_isCutByTwo_53 (wl_X12_isCutByTwo_3 post (m + 1)) post (nI a) (nI b) o (nI c) u := by
        intro hs
        unfold wj_X12_isCutByTwo_53
        rw [nI_1]
        refine ih (c + 1) (by omega) (by omega) (fun c' g1 g2 => ?_)
        by_cases y : c' = c
        · rw [y]; exact hs
        · exact hno c' g1 (by omega)
      rw [wl_X12_isCutByTwo_3, q_eq (by omega) (by omega), q_eq (by omega) (by omega)]
      refine ⟨fun q => absurd q (nI_ge (b := 30) (by omega) (by decide)), fun _ => ?_⟩
      cases e : hb o c
      · exact hasM_f (by omega) e ⟨fun _ => skip (fun h => bN e h.1), fun q => absurd rfl q⟩
      · refine hasM_t (by omega) e ⟨fun q => absurd q (by decide), fun _ => ⟨fun y => skip (fun h => h.2.1 y), fun ya => ⟨fun y => skip (fun h => h.2.2.1 y), fun yb => ?_⟩⟩⟩
        rw [nI_1]
        exact cut1M ha hb30 (o := rmv o c) (rmv_30 hO c) (by omega) (fun hn => ⟨fun q => absurd q (by decide), fun _ => h1 ⟨c, h2, by omega, e, ya, yb, hn⟩⟩) (fun hn => ⟨fun _ => skip (fun h => hn h.2.2.2), fun q => absurd rfl q⟩)
  exact lp (30 - c0) c0 (by omega) (Nat.le_refl _) (fun c' g1 g2 => by omega)
theorem cut3M (ha : a < 30) (hb30 : b < 30) {o : Int32} (hO : S30 o) {u : PoS} {post : Int32 → PoS → Prop} (h1 : R3 a b o → post 1 u) (h0 : ¬ R3 a b o → post 0 u) : wp_X12_isCutByThree (nI a) (nI b) o u post := by
  refine ⟨31, ?_⟩
  have lp : ∀ m c, c + m = 30 → (∀ c', c' < c → ¬ (hb o c' = true ∧ c' ≠ a ∧ c' ≠ b ∧ R2 a b (rmv o c') (c' + 1))) → wl_X12_isCutByThree_2 post (m + 1) (nI a) (nI b) o (nI c) u := by
    intro m
    induction m with
    | zero =>
      intro c hc hno
      obtain rfl : c = 30 := by omega
      rw [wl_X12_isCutByThree_2]
      exact ⟨fun _ => h0 (fun ⟨c, g2, g3⟩ => hno c g2 g3), fun q => absurd (by decide) q⟩
    | succ m ih =>
      intro c hc hno
      have skip : ¬ (hb o c = true ∧ c ≠ a ∧ c ≠ b ∧ R2 a b (rmv o c) (c + 1)) → wj_X12_isCutByThree_46 (wl_X12_isCutByThree_2 post (m + 1)) post (nI a) (nI b) o (nI c) u := by
        intro hs
        unfold wj_X12_isCutByThree_46
        rw [nI_1]
        refine ih (c + 1) (by omega) (fun c' g2 => ?_)
        by_cases y : c' = c
        · rw [y]; exact hs
        · exact hno c' (by omega)
      rw [wl_X12_isCutByThree_2, q_eq (by omega) (by omega), q_eq (by omega) (by omega)]
      refine ⟨fun q => absurd q (nI_ge (b := 30) (by omega) (by decide)), fun _ => ?_⟩
      cases e : hb o c
      · exact hasM_f (by omega) e ⟨fun _ => skip (fun h => bN e h.1), fun q => absurd rfl q⟩
      · refine hasM_t (by omega) e ⟨fun q => absurd q (by decide), fun _ => ⟨fun y => skip (fun h => h.2.1 y), fun ya => ⟨fun y => skip (fun h => h.2.2.1 y), fun yb => ?_⟩⟩⟩
        rw [nI_1]
        exact cut2M ha hb30 (o := rmv o c) (rmv_30 hO c) (by omega) (fun hn => ⟨fun q => absurd q (by decide), fun _ => h1 ⟨c, by omega, e, ya, yb, hn⟩⟩) (fun hn => ⟨fun _ => skip (fun h => hn h.2.2.2), fun q => absurd rfl q⟩)
  exact lp 30 0 rfl (fun c' g2 => by omega)
/-! of k CELLS, if fewer won't do -/
theorem rmv_comm {o : Int32} (hO : S30 o) {x y : Nat} (hx : x < 30) (hy : y < 30) : rmv (rmv o x) y = rmv (rmv o y) x := by
  refine (rmv_30 (rmv_30 hO x) y).ext (rmv_30 (rmv_30 hO y) x) (fun d _ => ?_)
  have e : hb (rmv (rmv o x) y) d = true ↔ hb (rmv (rmv o y) x) d = true := by
    rw [rmv_hb (rmv_30 hO x) hy, rmv_hb (rmv_30 hO y) hx, rmv_hb hO hx, rmv_hb hO hy]
    constructor
    · rintro ⟨⟨p, q⟩, r⟩; exact ⟨⟨p, r⟩, q⟩
    · rintro ⟨⟨p, q⟩, r⟩; exact ⟨⟨p, r⟩, q⟩
  cases e1 : hb (rmv (rmv o y) x) d
  · exact bF (fun z => bN e1 (e.mp z))
  · exact e.mpr e1
theorem rmv_out {o : Int32} (hO : S30 o) {x : Nat} (hx : x < 30) (h : ¬ hb o x = true) : rmv o x = o := by
  refine (rmv_30 hO x).ext hO (fun d _ => ?_)
  cases e : hb o d
  · exact bF (fun z => bN e ((rmv_hb hO hx d).mp z).1)
  · exact (rmv_hb hO hx d).mpr ⟨e, fun y => h (y ▸ e)⟩
/-- a least cut begins with an open CELL, and goes on as one -/
theorem cut_split {n : Nat} {o : Int32} (hO : S30 o) (h : CutL a b (n + 1) o) (hm : ¬ CutL a b n o) : ∃ x, x < 30 ∧ x ≠ a ∧ x ≠ b ∧ hb o x = true ∧ CutL a b n (rmv o x) := by
  obtain ⟨l, h1, h2, h3⟩ := h
  cases l with
  | nil => exact absurd (cut_le (cut0.mpr h3) (Nat.zero_le _)) hm
  | cons x l =>
    obtain ⟨x1, x2, x3⟩ := h2 x (by simp)
    have hc : CutL a b n (rmv o x) := ⟨l, by simp at h1; omega, fun y hy => h2 y (by simp [hy]), h3⟩
    by_cases hox : hb o x = true
    · exact ⟨x, x1, x2, x3, hox, hc⟩
    · rw [rmv_out hO x1 hox] at hc; exact absurd hc hm
theorem cutR1 {o : Int32} (hO : S30 o) (hm : ¬ CutL a b 0 o) : R1 a b o 0 ↔ CutL a b 1 o := by
  constructor
  · rintro ⟨c, -, g1, g2, g3, g4, g5⟩
    exact cut_cons ⟨g1, g3, g4⟩ (cut0.mpr g5)
  · intro h
    obtain ⟨x, x1, x2, x3, x4, x5⟩ := cut_split hO h hm
    exact ⟨x, Nat.zero_le _, x1, x4, x2, x3, cut0.mp x5⟩
theorem cutR2 {o : Int32} (hO : S30 o) (hm : ¬ CutL a b 1 o) : R2 a b o 0 ↔ CutL a b 2 o := by
  constructor
  · rintro ⟨c, -, g1, g2, g3, g4, d, -, k1, k2, k3, k4, k5⟩
    exact cut_cons ⟨g1, g3, g4⟩ (cut_cons ⟨k1, k3, k4⟩ (cut0.mpr k5))
  · intro h
    obtain ⟨x, x1, x2, x3, x4, x5⟩ := cut_split hO h hm
    obtain ⟨y, y1, y2, y3, y4, y5⟩ := cut_split (rmv_30 hO x) x5 (fun z => hm (cut_cons ⟨x1, x2, x3⟩ z))
    rw [rmv_hb hO x1] at y4
    rcases Nat.lt_trichotomy x y with z | z | z
    · exact ⟨x, Nat.zero_le _, x1, x4, x2, x3, y, by omega, y1, (rmv_hb hO x1 y).mpr y4, y2, y3, cut0.mp y5⟩
    · exact absurd z.symm y4.2
    · refine ⟨y, Nat.zero_le _, y1, y4.1, y2, y3, x, by omega, x1, (rmv_hb hO y1 x).mpr ⟨x4, by omega⟩, x2, x3, ?_⟩
      rw [← rmv_comm hO x1 y1]; exact cut0.mp y5
theorem R2_from {o : Int32} (hO : S30 o) {c x y : Nat} (hx : x < 30 ∧ x ≠ a ∧ x ≠ b ∧ hb o x = true ∧ c ≤ x) (hy : y < 30 ∧ y ≠ a ∧ y ≠ b ∧ hb o y = true ∧ c ≤ y) (hne : x ≠ y) (h : ¬ Cn (rmv (rmv o x) y) a b) : R2 a b o c := by
  obtain ⟨x1, x2, x3, x4, x5⟩ := hx
  obtain ⟨y1, y2, y3, y4, y5⟩ := hy
  rcases Nat.lt_or_ge x y with z | z
  · exact ⟨x, x5, x1, x4, x2, x3, y, by omega, y1, (rmv_hb hO x1 y).mpr ⟨y4, hne.symm⟩, y2, y3, h⟩
  · refine ⟨y, y5, y1, y4, y2, y3, x, by omega, x1, (rmv_hb hO y1 x).mpr ⟨x4, hne⟩, x2, x3, ?_⟩
    rw [← rmv_comm hO x1 y1]; exact h
theorem cutR3 {o : Int32} (hO : S30 o) (hm : ¬ CutL a b 2 o) : R3 a b o ↔ CutL a b 3 o := by
  constructor
  · rintro ⟨c, g1, g2, g3, g4, d, -, k1, k2, k3, k4, e, -, l1, l2, l3, l4, l5⟩
    exact cut_cons ⟨g1, g3, g4⟩ (cut_cons ⟨k1, k3, k4⟩ (cut_cons ⟨l1, l3, l4⟩ (cut0.mpr l5)))
  · intro h
    obtain ⟨x, x1, x2, x3, x4, x5⟩ := cut_split hO h hm
    obtain ⟨y, y1, y2, y3, y4, y5⟩ := cut_split (rmv_30 hO x) x5 (fun z => hm (cut_cons ⟨x1, x2, x3⟩ z))
    obtain ⟨w, w1, w2, w3, w4, w5⟩ := cut_split (rmv_30 (rmv_30 hO x) y) y5 (fun z => hm (cut_cons ⟨x1, x2, x3⟩ (cut_cons ⟨y1, y2, y3⟩ z)))
    rw [rmv_hb (rmv_30 hO x) y1, rmv_hb hO x1] at w4
    rw [rmv_hb hO x1] at y4
    obtain ⟨⟨wo, wx⟩, wy⟩ := w4
    obtain ⟨yo, yx⟩ := y4
    have w5 := cut0.mp w5
    -- the lowest first
    by_cases m1 : x < y ∧ x < w
    · exact ⟨x, x1, x4, x2, x3, R2_from (rmv_30 hO x) ⟨y1, y2, y3, (rmv_hb hO x1 y).mpr ⟨yo, yx⟩, by omega⟩ ⟨w1, w2, w3, (rmv_hb hO x1 w).mpr ⟨wo, wx⟩, by omega⟩ (fun e => wy e.symm) w5⟩
    · by_cases m2 : y < x ∧ y < w
      · refine ⟨y, y1, yo, y2, y3, R2_from (rmv_30 hO y) ⟨x1, x2, x3, (rmv_hb hO y1 x).mpr ⟨x4, yx.symm⟩, by omega⟩ ⟨w1, w2, w3, (rmv_hb hO y1 w).mpr ⟨wo, wy⟩, by omega⟩ (fun e => wx e.symm) ?_⟩
        rw [rmv_comm hO y1 x1]; exact w5
      · refine ⟨w, w1, wo, w2, w3, R2_from (rmv_30 hO w) ⟨x1, x2, x3, (rmv_hb hO w1 x).mpr ⟨x4, wx.symm⟩, by omega⟩ ⟨y1, y2, y3, (rmv_hb hO w1 y).mpr ⟨yo, wy.symm⟩, by omega⟩ yx.symm ?_⟩
        rw [rmv_comm hO w1 x1, rmv_comm (rmv_30 hO x) w1 y1]; exact w5
end CUTM
theorem ob_cut {LT : Nat → PoS → Prop} (hLT : LTok LT) (x y : Int32) : Ob32 (wp_X11_cut x y) (wp_X12_cut x y) (Inv LT) := by
  intro u hI
  have hL := hI.1.liv
  have hOp := hL.2.2.2.opn
  have hO := opn_30 (u.1 49)
  generalize eo : opn (u.1 49) = o at *
  by_cases ok : ∃ a b, a < 30 ∧ b < 30 ∧ x = nI a ∧ y = nI b ∧ hb o a = true ∧ hb o b = true ∧ ¬ a = b
  · obtain ⟨a, b, ha, hb30, rfl, rfl, oa, ob, hne⟩ := ok
    have hne' : ¬ nI a = nI b := fun e => hne ((nI_eq (by omega) (by omega)).mp e)
    refine ⟨fun r u1 => ((adj a b ∧ r = -1) ∨ (¬ adj a b ∧ ∃ n, n ≤ 4 ∧ CutL a b n o ∧ (∀ m, m < n → ¬ CutL a b m o) ∧ r = nI n)) ∧ Fr45 u u1, fun K hK => ?_, fun r u1 hr K hK => ?_⟩
    · refine isOpenX (b := 0) hOp (fun _ _ _ _ => ⟨fun q => absurd q (by decide), fun _ => isOpenX (b := 0) hOp (fun _ _ _ _ => ⟨fun q => absurd q (by decide), fun _ => ⟨fun _ => openX (b := 0) hOp ?_, fun q => absurd q hne'⟩⟩) (fun hno => by rw [eo] at hno; exact absurd ob (bN (hno b hb30 rfl)))⟩) (fun hno => by rw [eo] at hno; exact absurd oa (bN (hno a ha rfl)))
      rw [eo]
      exact fewestX ha hb30 hne hO oa ob (fun h => hK _ _ ⟨Or.inl ⟨h, rfl⟩, fun _ _ => rfl⟩) (fun hn n z fz n4 h1 h2 => hK _ z ⟨Or.inr ⟨hn, n, n4, h1, h2, rfl⟩, fz⟩)
    · obtain ⟨hr, f1⟩ := hr
      have e49 : u1.1 49 = u.1 49 := f1 49 (by decide)
      have eo1 : opn (u1.1 49) = o := by rw [e49, eo]
      have inv1 : ∀ z, Fr57 u1 z → Inv LT z := fun z fz => inv_scr hLT hI (fun j hj => by rw [fz j (by omega), f1 j (by omega)]) (fun k _ => by rw [fz 48 (by decide), f1 48 (by decide)])
      refine isFreeM (r := u1.1 49) (fun _ _ _ _ => ⟨fun q => absurd q (by decide), fun _ => isFreeM (r := u1.1 49) (fun _ _ _ _ => ⟨fun q => absurd q (by decide), fun _ => ⟨fun q => absurd q hne', fun _ => besM1 ha ?_⟩⟩) (fun hno => by rw [eo1] at hno; exact absurd ob (bN (hno b hb30 rfl)))⟩) (fun hno => by rw [eo1] at hno; exact absurd oa (bN (hno a ha rfl)))
      have hab : hb (bes (bt1 a)) b = true ↔ adj a b := by
        rw [bes_hb (bt1_30 ha)]
        constructor
        · rintro ⟨_, c, h2, h3⟩; rw [(bt1_hb ha c).mp h2] at h3; exact h3
        · intro h; exact ⟨hb30, a, (bt1_hb ha a).mpr rfl, h⟩
      rcases hr with ⟨hadj, rfl⟩ | ⟨hn, n, n4, h1, h2, rfl⟩
      · exact hasM_t (by omega) (hab.mpr hadj) ⟨fun q => absurd q (by decide), fun _ => hK u1 (inv1 u1 (fun _ _ => rfl))⟩
      · refine hasM_f (by omega) (bF (fun h => hn (hab.mp h))) ⟨fun _ => stepsM ha hb30 (fun z fz => ?_), fun q => absurd rfl q⟩
        have K1 := hK z (inv1 z fz)
        have ez : opn (z.1 49) = o := by rw [fz 49 (by decide), eo1]
        rw [eo1]
        have hd := dst_cn hO ha oa (b := b)
        have least : ∀ m, CutL a b m o → n ≤ m := fun m hm => by
          rcases Nat.lt_or_ge m n with w | w
          · exact absurd hm (h2 m w)
          · exact w
        refine ⟨fun q => freeM ?_, fun q => ?_⟩
        · rw [ez]
          have c0 : ¬ CutL a b 0 o := fun h => cut0.mp h (hd.mp q)
          have n1 : 1 ≤ n := by
            rcases Nat.eq_zero_or_pos n with w | w
            · rw [w] at h1; exact absurd h1 c0
            · exact w
          refine cut1M ha hb30 hO (c0 := 0) (by decide) (fun r1 => ⟨fun q => absurd q (by decide), fun _ => ?_⟩) (fun r1 => ⟨fun _ => cut2M ha hb30 hO (c0 := 0) (by decide) (fun r2 => ⟨fun q => absurd q (by decide), fun _ => ?_⟩) (fun r2 => ⟨fun _ => cut3M ha hb30 hO (fun r3 => ⟨fun q => absurd q (by decide), fun _ => ?_⟩) (fun r3 => ⟨fun _ => ?_, fun q => absurd rfl q⟩), fun q => absurd rfl q⟩), fun q => absurd rfl q⟩)
          · have := least 1 ((cutR1 hO c0).mp r1)
            rw [show n = 1 by omega] at K1; exact K1
          · have c1 : ¬ CutL a b 1 o := fun h => r1 ((cutR1 hO c0).mpr h)
            have g1 := least 2 ((cutR2 hO c1).mp r2)
            have : ¬ n = 1 := fun e => c1 (e ▸ h1)
            rw [show n = 2 by omega] at K1; exact K1
          · have c1 : ¬ CutL a b 1 o := fun h => r1 ((cutR1 hO c0).mpr h)
            have c2 : ¬ CutL a b 2 o := fun h => r2 ((cutR2 hO c1).mpr h)
            have g1 := least 3 ((cutR3 hO c2).mp r3)
            have : ¬ n = 1 := fun e => c1 (e ▸ h1)
            have : ¬ n = 2 := fun e => c2 (e ▸ h1)
            rw [show n = 3 by omega] at K1; exact K1
          · have c1 : ¬ CutL a b 1 o := fun h => r1 ((cutR1 hO c0).mpr h)
            have c2 : ¬ CutL a b 2 o := fun h => r2 ((cutR2 hO c1).mpr h)
            have c3 : ¬ CutL a b 3 o := fun h => r3 ((cutR3 hO c2).mpr h)
            have : ¬ n = 1 := fun e => c1 (e ▸ h1)
            have : ¬ n = 2 := fun e => c2 (e ▸ h1)
            have : ¬ n = 3 := fun e => c3 (e ▸ h1)
            rw [show n = 4 by omega] at K1; exact K1
        · have := least 0 (cut0.mpr (fun h => (hd.mpr h) q))
          rw [show n = 0 by omega] at K1; exact K1
  · refine ⟨fun r u1 => r = -1 ∧ u1 = u, fun K hK => ?_, fun r u1 hr K hK => ?_⟩
    · have K0 := hK _ _ ⟨rfl, rfl⟩
      refine isOpenX (b := 0) hOp (fun a ha ea oa => ⟨fun q => absurd q (by decide), fun _ => isOpenX (b := 0) hOp (fun b hb30 eb ob => ⟨fun q => absurd q (by decide), fun _ => ⟨fun q => ?_, fun _ => K0⟩⟩) (fun _ => ⟨fun _ => K0, fun q => absurd rfl q⟩)⟩) (fun _ => ⟨fun _ => K0, fun q => absurd rfl q⟩)
      rw [eo] at oa ob
      exact absurd ⟨a, b, ha, hb30, ea, eb, oa, ob, fun e => q (by rw [ea, eb, e])⟩ ok
    · obtain ⟨rfl, rfl⟩ := hr
      have K0 := hK _ hI
      refine isFreeM (r := u1.1 49) (fun a ha ea oa => ⟨fun q => absurd q (by decide), fun _ => isFreeM (r := u1.1 49) (fun b hb30 eb ob => ⟨fun q => absurd q (by decide), fun _ => ⟨fun _ => K0, fun q => ?_⟩⟩) (fun _ => ⟨fun _ => K0, fun q => absurd rfl q⟩)⟩) (fun _ => ⟨fun _ => K0, fun q => absurd rfl q⟩)
      rw [eo] at oa ob
      exact absurd ⟨a, b, ha, hb30, ea, eb, oa, ob, fun e => q (by rw [ea, eb, e])⟩ ok
