/-! TOURS, as the reference makes them -/
def Fr61 (u z : PoS) : Prop := ∀ j, j ≠ 61 → z.1 j = u.1 j
theorem Fr61.tr {u v z : PoS} (h1 : Fr61 u v) (h2 : Fr61 v z) : Fr61 u z := fun j hj => by rw [h2 j hj, h1 j hj]
def RowT (z : PoS) (N : Nat) (f : Nat → Nat) : Prop := ∀ j, j < N → z.1 61 j = nI (f j) ∧ f j < 5
theorem changeM {z : PoS} {N : Nat} (h5 : N ≤ 5) {f : Nat → Nat} (h : RowT z N f) {i k : Nat} (hi : i < N) (hk : k < N) {post : PoS → Prop} (K : ∀ z', Fr61 z z' → RowT z' N (sw f i k) → post z') : wp_X12_change (nI i) (nI k) z post := by
  unfold wp_X12_change
  rw [q_vp (by omega) (by omega), q_vp (by omega) (by omega), q_cl (by omega), q_cl (by omega), gI_def, gI_def, (h i hi).1, (h k hk).1]
  refine ⟨by omega, fun x1 e1 => ⟨by omega, by omega, fun z2 e2 => ⟨by omega, fun z3 e3 => K z3 (fun j hj => by rw [e3, pI_o hj, e2, pI_o hj]) (fun j hj => ?_)⟩⟩⟩
  rw [e3, pI_s, e2, pI_s]
  unfold sw
  by_cases y : j = k
  · rw [y, up_eq, if_pos rfl, e1]; exact ⟨rfl, (h i hi).2⟩
  · rw [up_ne y, if_neg y]
    by_cases y2 : j = i
    · rw [y2, up_eq, if_pos rfl]; exact ⟨rfl, (h k hk).2⟩
    · rw [up_ne y2, if_neg y2]; exact h j hj
theorem isNextM {z : PoS} {N : Nat} (h1 : 1 ≤ N) (h5 : N ≤ 5) {f : Nat → Nat} (h : RowT z N f) {post : Int32 → PoS → Prop} (K0 : nxF N f = none → post 0 z) (K1 : ∀ g, nxF N f = some g → ∀ z', Fr61 z z' → RowT z' N g → post 1 z') : wp_X12_isNextRow (nI N) z post := by
  intro x1 e1
  have ex : x1 = nI (N - 1) - 1 := by
    rw [e1]
    rcases (show N = 1 ∨ N = 2 ∨ N = 3 ∨ N = 4 ∨ N = 5 by omega) with e | e | e | e | e <;> rw [e] <;> decide
  subst ex
  refine ⟨N - 1 + 1, ?_⟩
  have lp78 : ∀ c p q g z', q < N → p + c < 20 → q ≤ p + 2 * c → Fr61 z z' → RowT z' N g → (∀ z2, Fr61 z z2 → RowT z2 N (rvF g c p q) → post 1 z2) → wl_X12_isNextRow_78 post (c + 1) (nI q) (nI p) z' := by
    intro c
    induction c with
    | zero =>
      intro p q g z' hq hpc hle f' r' K
      rw [wl_X12_isNextRow_78]
      exact ⟨fun _ => K z' f' r', fun y => absurd (nI_le (show q ≤ p by omega) (by omega)) y⟩
    | succ c ih =>
      intro p q g z' hq hpc hle f' r' K
      rw [rvF] at K
      rw [wl_X12_isNextRow_78]
      by_cases y : q ≤ p
      · rw [if_pos y] at K
        exact ⟨fun _ => K z' f' r', fun y2 => absurd (nI_le y (by omega)) y2⟩
      · rw [if_neg y] at K
        refine ⟨fun y2 => absurd y2 (nI_ge (by omega) (by omega)), fun _ => changeM h5 r' (by omega) hq (fun z2 f2 r2 => ?_)⟩
        rw [nI_1, show nI q + -1 = nI (q - 1) by rw [← Int32.sub_eq_add_neg, show (1 : Int32) = nI 1 from rfl, q_sub (by omega)]]
        exact ih (p + 1) (q - 1) (sw g p q) z2 (by omega) (by omega) (by omega) (f'.tr f2) r2 K
  have mid : ∀ i, i + 1 < N → f i ≤ f (i + 1) → nxi f (N - 1) = some i → wj_X12_isNextRow_31 post (nI N) (nI i) z := by
    intro i hi hle hn
    refine ⟨fun _ x5 e5 => ⟨N, ?_⟩, fun y => absurd (nI_pos' (by omega)) y⟩
    rw [show (1 : Int32) = nI 1 from rfl, q_sub h1] at e5
    subst e5
    have lp41 : ∀ k, i + 1 ≤ k → k < N → (nxk f i k = nxk f i (N - 1)) → wl_X12_isNextRow_41 (fun (v17 : Int32) (v27 : Int32) (v37 : Int32) (u7 : PoS) => wp_X12_change v27 v37 u7 (fun (u9 : PoS) => ∀ x10 : Int32, x10 = (v17 - 1) → ∀ x11 : Int32, x11 = (v27 + 1) → (∃ n78, wl_X12_isNextRow_78 post n78 x10 x11 u9))) post (k + 1) (nI N) (nI i) (nI k) z := by
      intro k
      induction k with
      | zero => intro hk; omega
      | succ k ih =>
        intro hk hk2 hx
        rw [wl_X12_isNextRow_41, q_vp (by omega) (by omega), q_vp (by omega) (by omega), q_cl (by omega), q_cl (by omega), gI_def, gI_def, (h i (by omega)).1, (h (k + 1) hk2).1, q_le (by have := (h i (by omega)).2; omega) (by have := (h (k + 1) hk2).2; omega)]
        rw [nxk] at hx
        refine ⟨by omega, by omega, fun y => ?_, fun y => ?_⟩
        · rw [if_pos y] at hx
          refine changeM h5 h (by omega) hk2 (fun z2 f2 r2 x10 e10 x11 e11 => ⟨6, ?_⟩)
          rw [show (1 : Int32) = nI 1 from rfl, q_sub h1] at e10
          rw [e10, e11, nI_1]
          refine lp78 5 (i + 1) (N - 1) _ z2 (by omega) (by omega) (by omega) f2 r2 (fun z3 f3 r3 => K1 _ ?_ z3 f3 r3)
          unfold nxF
          rw [hn, hx]
        · rw [if_neg y] at hx
          have : i + 1 ≤ k := by
            rcases Nat.lt_or_ge k (i + 1) with w | w
            · exfalso; apply y; rw [show k + 1 = i + 1 by omega]; exact hle
            · exact w
          rw [show nI (k + 1) + -1 = nI k from pk_m1 k]
          exact ih this (by omega) hx
    have := lp41 (N - 1) (by omega) (by omega) rfl
    rw [show N - 1 + 1 = N by omega] at this
    exact this
  have lp4 : ∀ m, m ≤ N - 1 → nxi f m = nxi f (N - 1) → ∀ x : Int32, x = nI m - 1 → wl_X12_isNextRow_4 (fun (v14 : Int32) (v24 : Int32) (u4 : PoS) => wj_X12_isNextRow_31 post v14 v24 u4) post (m + 1) (nI N) x z := by
    intro m
    induction m with
    | zero =>
      intro _ hx x hx1
      rw [wl_X12_isNextRow_4, hx1]
      refine ⟨fun _ => ⟨fun y => absurd y (by decide), fun _ => K0 ?_⟩, fun y => absurd (by decide) y⟩
      unfold nxF
      rw [← hx]; rfl
    | succ m ih =>
      intro hm hx x hx1
      rw [nI_pred] at hx1
      subst hx1
      rw [nxi] at hx
      rw [wl_X12_isNextRow_4, nI_1, q_vp (by omega) (by omega), q_vp (by omega) (by omega), q_cl (by omega), q_cl (by omega), gI_def, gI_def, (h m (by omega)).1, (h (m + 1) (by omega)).1, q_le (by have := (h m (by omega)).2; omega) (by have := (h (m + 1) (by omega)).2; omega)]
      refine ⟨fun y => absurd y (nI_pos (by omega)), fun _ => ⟨by omega, by omega, fun y => ?_, fun y => ?_⟩⟩
      · rw [if_pos y] at hx
        exact mid m (by omega) y hx.symm
      · rw [if_neg y] at hx
        exact ih (by omega) hx _ (by rw [Int32.sub_eq_add_neg])
  exact lp4 (N - 1) (Nat.le_refl _) rfl _ rfl
theorem ch_cons {N : Nat} {g h : Nat → Nat} {t : List (Nat → Nat)} (H : chF N (g :: h :: t) = true) : (∃ k, nxF N g = some k ∧ ∀ j, j < N → k j = h j) ∧ chF N (h :: t) = true := by
  rw [chF, Bool.and_eq_true] at H
  refine ⟨?_, H.2⟩
  cases e : nxF N g with
  | none => rw [e] at H; exact absurd H.1 (by simp)
  | some k =>
    rw [e] at H
    have H1 := of_decide_eq_true H.1
    refine ⟨k, rfl, fun j hj => ?_⟩
    have := congrArg (fun l => l[j]?) H1
    simpa [hj] using this
theorem ch_one {N : Nat} {g : Nat → Nat} (H : chF N [g] = true) : nxF N g = none := by
  rw [chF] at H
  cases e : nxF N g with
  | none => rfl
  | some k => rw [e] at H; exact absurd H (by simp)
def FrQ (u z : PoS) : Prop := ∀ j, j ≠ 61 → j ≠ 62 → z.1 j = u.1 j
section TOURM
variable {o : Int32} {N fr : Nat} {t : Nat → Nat}
def FarsT (o : Int32) (N fr : Nat) (t : Nat → Nat) (z : PoS) : Prop := ∀ i k, i ≤ N → k < N → z.1 63 (6 * i + k) = nI (ddF o N fr t i k)
theorem t127a {u : PoS} (h5 : N ≤ 5) (hF : FarsT o N fr t u) {k243 : Int32 → Int32 → PoS → Prop} {post : Int32 → PoS → Prop} {v3 : Int32} {m : Nat} {B : Nat × (Nat → Nat)} {z : PoS} {g : Nat → Nat} (hB : B.1 ≤ 1000000) (hg : ∀ j, j < N → g j < N) (fz : FrQ u z) (hr : RowT z N g) (h62 : B.1 < 1000000 → ∀ j, j < N → z.1 62 j = nI (B.2 j)) (K : ∀ z1, FrQ u z1 → RowT z1 N g → ((upT (SF o N fr t) B g).1 < 1000000 → ∀ j, j < N → z1.1 62 j = nI ((upT (SF o N fr t) B g).2 j)) → wj_X12_tour_232 (wl_X12_tour_127 k243 post m) post v3 (nI N) (nI (upT (SF o N fr t) B g).1) z1) : wl_X12_tour_127 k243 post (m + 1) v3 (nI N) (nI B.1) 1 z := by
  rw [wl_X12_tour_127]
  refine ⟨fun q => absurd q (by decide), fun _ => ⟨N + 1, ?_⟩⟩
  have f63 : z.1 63 = u.1 63 := fz 63 (by decide) (by decide)
  have hts := fun d => tsF_le (N := N) (ddF_le o N fr t) g d
  have sum : ∀ m' d, d + m' = N → wl_X12_tour_138 (fun (v325 : Int32) (v425 : Int32) (v525 : Int32) (v725 : Int32) (u25 : PoS) => ((v525 ≤ v725 → wj_X12_tour_232 (wl_X12_tour_127 k243 post m) post v325 v425 v525 u25) ∧ (¬ v525 ≤ v725 → (∃ n205, wl_X12_tour_205 (fun (v330 : Int32) (v430 : Int32) (v530 : Int32) (u30 : PoS) => wj_X12_tour_232 (wl_X12_tour_127 k243 post m) post v330 v430 v530 u30) post n205 v325 v425 v725 0 u25)))) post (m' + 1) v3 (nI N) (nI B.1) (nI (tsF (ddF o N fr t) N g d)) (nI d) z := by
    intro m'
    induction m' with
    | zero =>
      intro d hd
      obtain rfl : d = N := by omega
      have hs := hts d
      rw [wl_X12_tour_138, q_le (by omega) (by omega)]
      refine ⟨fun _ => ?_, fun q => absurd (Nat.le_refl d) q⟩
      rw [q_le (by omega) (by omega)]
      refine ⟨fun q => ?_, fun q => ⟨d + 1, ?_⟩⟩
      · have e : upT (SF o d fr t) B g = B := by unfold upT SF; rw [if_neg (by omega)]
        rw [e] at K
        exact K z fz hr h62
      · have e : upT (SF o d fr t) B g = (tsF (ddF o d fr t) d g d, g) := by unfold upT SF; rw [if_pos (by omega)]
        rw [e] at K
        have cp : ∀ m2 j, j + m2 = d → ∀ z1, (∀ i, i ≠ 62 → z1.1 i = z.1 i) → (∀ i, i < j → z1.1 62 i = nI (g i)) → wl_X12_tour_205 (fun (v330 : Int32) (v430 : Int32) (v530 : Int32) (u30 : PoS) => wj_X12_tour_232 (wl_X12_tour_127 k243 post m) post v330 v430 v530 u30) post (m2 + 1) v3 (nI d) (nI (tsF (ddF o d fr t) d g d)) (nI j) z1 := by
          intro m2
          induction m2 with
          | zero =>
            intro j hj z1 f1 g1
            obtain rfl : j = d := by omega
            rw [wl_X12_tour_205, q_le (by omega) (by omega)]
            exact ⟨fun _ => K z1 (fun i a b => by rw [f1 i b, fz i a b]) (fun i hi => by rw [f1 61 (by decide)]; exact hr i hi) (fun _ => g1), fun q => absurd (Nat.le_refl j) q⟩
          | succ m2 ih2 =>
            intro j hj z1 f1 g1
            rw [wl_X12_tour_205, q_le (by omega) (by omega), q_vp (by omega) (by omega), q_cl (by omega), gI_def, f1 61 (by decide), (hr j (by omega)).1, nI_1]
            refine ⟨fun q => by omega, fun _ => ⟨by omega, by omega, fun z14 e14 => ih2 (j + 1) (by omega) z14 (fun i hi => by rw [e14, pI_o hi]; exact f1 i hi) (fun i hi => ?_)⟩⟩
            rw [e14, pI_s]
            by_cases y : i = j
            · rw [y, up_eq]
            · rw [up_ne y]; exact g1 i (by omega)
        exact cp d 0 (Nat.zero_add d) z (fun _ _ => rfl) (fun i hi => by omega)
    | succ m' ih =>
      intro d hd
      have gd := hg d (by omega)
      have hs := hts d
      have dl := ddF_le o N fr t (if d = 0 then N else g (d - 1)) (g d)
      have fin : ∀ s : Nat, s = (if d = 0 then N else g (d - 1)) → wj_X12_tour_172 (wl_X12_tour_138 (fun (v325 : Int32) (v425 : Int32) (v525 : Int32) (v725 : Int32) (u25 : PoS) => ((v525 ≤ v725 → wj_X12_tour_232 (wl_X12_tour_127 k243 post m) post v325 v425 v525 u25) ∧ (¬ v525 ≤ v725 → (∃ n205, wl_X12_tour_205 (fun (v330 : Int32) (v430 : Int32) (v530 : Int32) (u30 : PoS) => wj_X12_tour_232 (wl_X12_tour_127 k243 post m) post v330 v430 v530 u30) post n205 v325 v425 v725 0 u25)))) post (m' + 1)) post v3 (nI N) (nI B.1) (nI d) (nI s) 6 (nI (tsF (ddF o N fr t) N g d)) z := by
        intro s hs'
        have sN : s ≤ N := by
          rw [hs']
          by_cases y : d = 0
          · rw [if_pos y]; exact Nat.le_refl _
          · rw [if_neg y]; exact Nat.le_of_lt (hg _ (by omega))
        unfold wj_X12_tour_172
        rw [q_vp (by omega) (by omega), q_cl (by omega), gI_def, (hr d (by omega)).1, show (6 : Int32) * nI s + nI (g d) = nI (6 * s + g d) by simp (disch := omega) only [q_lit, nI_add, pk_mul, q_sub, q_rem, q_div, q_vp, q_cl, q_lt, q_le, q_eq, q_neg1, gI_def], q_vp (by omega) (by omega), q_cl (by omega), gI_def, f63, hF s (g d) sN gd, nI_add, nI_1]
        refine ⟨by omega, by omega, fun x22 e22 => ?_⟩
        rw [e22, hs']
        exact ih (d + 1) (by omega)
      rw [wl_X12_tour_138, q_le (by omega) (by omega)]
      refine ⟨fun q => by omega, fun _ => ⟨fun y => ?_, fun y => fin N ?_⟩⟩
      · rw [show (0 : Int32) = nI 0 from rfl, q_eq (by omega) (by omega)] at y
        rw [show (1 : Int32) = nI 1 from rfl, q_sub (by omega), q_vp (by omega) (by omega), q_cl (by omega), gI_def, (hr (d - 1) (by omega)).1]
        exact ⟨by omega, fin _ (by rw [if_neg y])⟩
      · rw [show (0 : Int32) = nI 0 from rfl, q_eq (by omega) (by omega)] at y
        rw [if_pos y]
  exact sum N 0 (Nat.zero_add N)
theorem t127 {u : PoS} (h1 : 1 ≤ N) (h5 : N ≤ 5) (hF : FarsT o N fr t u) {k243 : Int32 → Int32 → PoS → Prop} {post : Int32 → PoS → Prop} {v3 : Int32} : ∀ (L : List (Nat → Nat)) (g : Nat → Nat) (B : Nat × (Nat → Nat)) (z : PoS), chF N (g :: L) = true → (∀ g', g' ∈ g :: L → ∀ j, j < N → g' j < N) → B.1 ≤ 1000000 → FrQ u z → RowT z N g → (B.1 < 1000000 → ∀ j, j < N → z.1 62 j = nI (B.2 j)) → (∀ z', FrQ u z' → ((foT (SF o N fr t) (upT (SF o N fr t) B g) L).1 < 1000000 → ∀ j, j < N → z'.1 62 j = nI ((foT (SF o N fr t) (upT (SF o N fr t) B g) L).2 j)) → k243 v3 (nI (foT (SF o N fr t) (upT (SF o N fr t) B g) L).1) z') → wl_X12_tour_127 k243 post (L.length + 2) v3 (nI N) (nI B.1) 1 z := by
  intro L
  induction L with
  | nil =>
    intro g B z hch hlt hB fz hr h62 K
    refine t127a (m := 1) h5 hF hB (hlt g (by simp)) fz hr h62 (fun z1 f1 r1 g62 => ?_)
    refine isNextM h1 h5 r1 (fun _ => ?_) (fun k hk => by rw [ch_one hch] at hk; exact absurd hk (by simp))
    show wl_X12_tour_127 k243 post 1 v3 (nI N) (nI (upT (SF o N fr t) B g).1) 0 z1
    rw [wl_X12_tour_127]
    exact ⟨fun _ => K z1 f1 g62, fun q => absurd rfl q⟩
  | cons h tl ih =>
    intro g B z hch hlt hB fz hr h62 K
    obtain ⟨⟨k, hk1, hk2⟩, hch2⟩ := ch_cons hch
    have hB1 : (upT (SF o N fr t) B g).1 ≤ 1000000 := Nat.le_trans (foT_le (SF o N fr t) [g] B) hB
    refine t127a (m := tl.length + 2) h5 hF hB (hlt g (by simp)) fz hr h62 (fun z1 f1 r1 g62 => ?_)
    refine isNextM h1 h5 r1 (fun e => by rw [hk1] at e; exact absurd e (by simp)) (fun k' hk' z2 f2 r2 => ?_)
    rw [hk1] at hk'
    obtain rfl := Option.some.inj hk'
    exact ih h (upT (SF o N fr t) B g) z2 hch2 (fun g' hg' => hlt g' (by simp [List.mem_cons] at hg' ⊢; exact Or.inr hg')) hB1 (fun j a b => by rw [f2 j a, f1 j a b]) (fun j hj => by rw [← hk2 j hj]; exact r2 j hj) (fun hl j hj => by rw [f2 62 (by decide)]; exact g62 hl j hj) K
end TOURM
/-- how far all are -/
theorem areFarsM {u : PoS} {A : Int32} {N fr : Nat} {t : Nat → Nat} (hT : CelT A N t) (hfr : fr < 30) (h64 : ∀ p, p < N → u.1 64 p = nI (t p)) {post : Int32 → PoS → Prop} (K1 : (∀ i k, i ≤ N → k < N → ¬ dst (opn (u.1 49)) (tcF N fr t i) (t k) = -1) → ∀ z, (∀ j, j ≠ 57 → j ≠ 63 → z.1 j = u.1 j) → FarsT (opn (u.1 49)) N fr t z → post 1 z) (K0 : (∃ i k, i ≤ N ∧ k < N ∧ dst (opn (u.1 49)) (tcF N fr t i) (t k) = -1) → ∀ z, (∀ j, j ≠ 57 → j ≠ 63 → z.1 j = u.1 j) → post 0 z) : wp_X12_areFars (nI fr) (nI N) u post := by
  obtain ⟨hA, hN, h5, ht⟩ := id hT
  generalize hO : opn (u.1 49) = o at *
  have tc30 : ∀ i, i ≤ N → tcF N fr t i < 30 := by
    intro i hi
    unfold tcF
    by_cases z : i = N
    · rw [if_pos z]; exact hfr
    · rw [if_neg z]; exact (ht i (by omega)).1
  refine ⟨N + 1 + 1, ?_⟩
  have lp : ∀ m i, i + m = N + 1 → ∀ z, (∀ j, j ≠ 57 → j ≠ 63 → z.1 j = u.1 j) → (∀ i' k, i' < i → k < N → ¬ dst o (tcF N fr t i') (t k) = -1) → (∀ i' k, i' < i → k < N → z.1 63 (6 * i' + k) = nI (ddF o N fr t i' k)) → wl_X12_areFars_2 post (m + 1) (nI fr) (nI N) (nI i) z := by
    intro m
    induction m with
    | zero =>
      intro i hi z fz hd g63
      rw [wl_X12_areFars_2, q_lt (by omega) (by omega)]
      exact ⟨fun _ => K1 (fun i' k a b => hd i' k (by omega) b) z fz (fun i' k a b => g63 i' k (by omega) b), fun q => absurd (by omega) q⟩
    | succ m ih =>
      intro i hi z fz hd g63
      have e49 : z.1 49 = u.1 49 := fz 49 (by decide) (by decide)
      have main : ∀ s : Int32, s = nI (tcF N fr t i) → wj_X12_areFars_23 (wl_X12_areFars_2 post (m + 1)) post (nI fr) (nI N) (nI i) s z := by
        intro s hs
        rw [hs]
        refine freeM (layFarM (tc30 i (by omega)) (fun z4 f4 g4 => ⟨N + 1, ?_⟩))
        rw [e49, hO] at g4
        have inner : ∀ m' k, k + m' = N → ∀ z', (∀ j, j ≠ 63 → z'.1 j = z4.1 j) → (∀ k', k' < k → ¬ dst o (tcF N fr t i) (t k') = -1 ∧ z'.1 63 (6 * i + k') = nI (ddF o N fr t i k')) → (∀ i' k, i' < i → k < N → z'.1 63 (6 * i' + k) = nI (ddF o N fr t i' k)) → wl_X12_areFars_33 (fun (v18 : Int32) (v28 : Int32) (v38 : Int32) (u8 : PoS) => wl_X12_areFars_2 post (m + 1) v18 v28 (v38 + 1) u8) post (m' + 1) (nI fr) (nI N) (nI i) (nI k) z' := by
          intro m'
          induction m' with
          | zero =>
            intro k hk z' f' g' h'
            rw [wl_X12_areFars_33, q_le (by omega) (by omega), nI_1]
            refine ⟨fun _ => ih (i + 1) (by omega) z' (fun j a b => by rw [f' j b, f4 j a, fz j a b]) (fun i' k' a b => ?_) (fun i' k' a b => ?_), fun q => by omega⟩
            · by_cases y : i' = i
              · rw [y]; exact (g' k' (by omega)).1
              · exact hd i' k' (by omega) b
            · by_cases y : i' = i
              · rw [y]; exact (g' k' (by omega)).2
              · exact h' i' k' (by omega) b
          | succ m' ih' =>
            intro k hk z' f' g' h'
            have e64 : z'.1 64 k = nI (t k) := by rw [f' 64 (by decide), f4 64 (by decide), fz 64 (by decide) (by decide)]; exact h64 k (by omega)
            have tk := (ht k (by omega)).1
            rw [wl_X12_areFars_33, q_le (by omega) (by omega), q_vp (by omega) (by omega), q_cl (by omega), gI_def, e64, q_vp (by omega) (by omega), q_cl (by omega), show (6 : Int32) * nI i + nI k = nI (6 * i + k) by simp (disch := omega) only [q_lit, nI_add, pk_mul, q_sub, q_rem, q_div, q_vp, q_cl, q_lt, q_le, q_eq, q_neg1, gI_def], q_vp (by omega) (by omega), q_cl (by omega), gI_def, f' 57 (by decide), g4 (t k) tk]
            refine ⟨fun q => by omega, fun _ => ⟨by omega, by omega, by omega, fun z5 e5 => ⟨by omega, ?_⟩⟩⟩
            rw [gI_def, e5, pI_s, up_eq, ← e5, nI_1]
            have f5 : ∀ j, j ≠ 63 → z5.1 j = z4.1 j := fun j hj => by rw [e5, pI_o hj]; exact f' j hj
            refine ⟨fun q => ?_, fun q => K0 ⟨i, k, by omega, by omega, q⟩ z5 (fun j a b => by rw [f5 j b, f4 j a, fz j a b])⟩
            refine ih' (k + 1) (by omega) z5 f5 (fun k' hk' => ?_) (fun i' k' a b => ?_)
            · by_cases y : k' = k
              · rw [y]
                refine ⟨q, ?_⟩
                rw [e5, pI_s, up_eq]
                obtain ⟨d, hd1, hd2⟩ := (dst_cases o (tcF N fr t i) (t k)).resolve_left q
                unfold ddF
                rw [hd2, nN_nI (by omega)]
              · rw [e5, pI_s, up_ne (by omega)]; exact g' k' (by omega)
            · rw [e5, pI_s, up_ne (by omega)]; exact h' i' k' a b
        exact inner N 0 (Nat.zero_add N) z4 (fun _ _ => rfl) (fun k' hk' => by omega) (fun i' k a b => by rw [f4 63 (by decide)]; exact g63 i' k a b)
      rw [wl_X12_areFars_2, q_lt (by omega) (by omega), q_eq (by omega) (by omega)]
      refine ⟨fun q => by omega, fun _ => ⟨fun y => ?_, fun y => main _ ?_⟩⟩
      · rw [q_vp (by omega) (by omega), q_cl (by omega), gI_def, fz 64 (by decide) (by decide), h64 i (by omega)]
        exact ⟨by omega, main _ (by unfold tcF; rw [if_neg y])⟩
      · unfold tcF; rw [if_pos y]
  exact lp (N + 1) 0 (Nat.zero_add _) u (fun _ _ _ => rfl) (fun i' k a => by omega) (fun i' k a => by omega)
theorem foT_in (S : (Nat → Nat) → Nat) : ∀ (L : List (Nat → Nat)) (B : Nat × (Nat → Nat)), foT S B L = B ∨ (foT S B L).2 ∈ L := by
  intro L
  induction L with
  | nil => intro B; exact Or.inl rfl
  | cons g L ih =>
    intro B
    have e : foT S B (g :: L) = foT S (upT S B g) L := rfl
    rw [e]
    rcases ih (upT S B g) with h | h
    · rw [h]
      unfold upT
      by_cases z : S g < B.1
      · rw [if_pos z]; right; simp
      · rw [if_neg z]; exact Or.inl rfl
    · right; exact List.mem_cons_of_mem _ h
theorem tALL_has {N : Nat} (h5 : N < 6) {g : Nat → Nat} (hg : g ∈ tALL N) : (∀ j, j < N → g j < N) ∧ ∀ p, p < N → ∃ j, j < N ∧ g j = p := by
  have h := ch_has N h5
  rw [List.all_eq_true] at h
  have h2 := h g hg
  rw [List.all_eq_true] at h2
  refine ⟨fun j hj => ?_, fun p hp => ?_⟩
  · have := h2 j (by rw [List.mem_range]; exact hj)
    rw [Bool.and_eq_true] at this
    exact of_decide_eq_true this.2
  · have := h2 p (by rw [List.mem_range]; exact hp)
    rw [Bool.and_eq_true, List.contains_iff_mem, List.mem_map] at this
    obtain ⟨j, hj, e⟩ := this.1
    rw [List.mem_range] at hj
    exact ⟨j, hj, e⟩
theorem tALL_hd {N : Nat} (h5 : N < 6) : ∃ g L, tALL N = g :: L ∧ ∀ j, j < N → g j = j := by
  have h := ch_head N h5
  cases e : tALL N with
  | nil => rw [e] at h; exact absurd h (by simp)
  | cons g L =>
    rw [e] at h
    refine ⟨g, L, rfl, fun j hj => ?_⟩
    have h2 : (List.range N).map g = List.range N := by simpa using h
    have := congrArg (fun l => l[j]?) h2
    simpa [hj] using this
