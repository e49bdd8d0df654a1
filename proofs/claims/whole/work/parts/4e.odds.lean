/-! ODDS: days, likely -/
theorem lg0 {b : Nat} (hb : b < 2 ^ 63) : lg_cmp (lN b) 0 = 0 ↔ b = 0 := by
  have e0 : (0 : Int64) = lN 0 := rfl
  unfold lg_cmp
  by_cases h : b = 0
  · subst h
    exact ⟨fun _ => rfl, fun _ => by decide⟩
  · have h1 : lN b > 0 := by show (0 : Int64) < lN b; rw [e0, pk_lLT (by omega) hb]; omega
    rw [if_pos h1]
    exact ⟨fun h => absurd h (by decide), fun e => absurd e h⟩
theorem lN_ne0 {b : Nat} (hb : b < 2 ^ 63) (h : ¬ b = 0) : ¬ lN b = 0 := by
  rw [show (0 : Int64) = lN 0 from rfl, pk_lEQ hb (by decide)]; exact h
theorem gcd_st (a b : Nat) : Nat.gcd a b = Nat.gcd b (a % b) := by
  rw [Nat.gcd_comm a b, Nat.gcd_rec b a, Nat.gcd_comm]
theorem eu_half {r b k : Nat} (hr : r < b) (h0 : ¬ r = 0) (hb : b < 2 ^ (k + 1)) : b % r < 2 ^ k := by
  have h1 : b % r < r := Nat.mod_lt _ (by omega)
  have h2 : b % r + r ≤ b := by
    have := Nat.div_add_mod b r
    have h3 : 1 ≤ b / r := (Nat.le_div_iff_mul_le (by omega)).mpr (by omega)
    have h4 : r * 1 ≤ r * (b / r) := Nat.mul_le_mul_left r h3
    omega
  have : 2 ^ (k + 1) = 2 * 2 ^ k := by rw [Nat.pow_succ]; omega
  omega
theorem gcdX_l {u : PoS} {k45 : Int64 → PoS → Prop} {post : Int64 → PoS → Prop} : ∀ k f a b i, 2 * k + 1 ≤ f → a < 2 ^ 62 → b < 2 ^ k → k ≤ 62 → i + 2 * k < 200 → k45 (lN (Nat.gcd a b)) u → wl_X11_commonPart_9 k45 post f (lN a) (lN b) (nI i) u := by
  intro k
  induction k with
  | zero =>
    intro f a b i hf ha hb _ hi K
    obtain ⟨f, rfl⟩ : ∃ g, f = g + 1 := ⟨f - 1, by omega⟩
    have hb0 : b = 0 := by have : (2 : Nat) ^ 0 = 1 := rfl; omega
    subst hb0
    rw [Nat.gcd_zero_right] at K
    rw [wl_X11_commonPart_9]
    exact ⟨fun _ => K, fun _ => ⟨fun _ => K, fun h => absurd ((lg0 (by decide)).mpr rfl) h⟩⟩
  | succ k ih =>
    intro f a b i hf ha hb hk hi K
    have hb62 : b < 2 ^ 62 := Nat.lt_of_lt_of_le hb (Nat.pow_le_pow_right (by decide) hk)
    obtain ⟨f, rfl⟩ : ∃ g, f = g + 1 + 1 := ⟨f - 2, by omega⟩
    rw [wl_X11_commonPart_9, lg0 (by omega)]
    by_cases b0 : b = 0
    · subst b0
      rw [Nat.gcd_zero_right] at K
      exact ⟨fun _ => K, fun _ => ⟨fun _ => K, fun h => absurd rfl h⟩⟩
    · refine ⟨fun h => absurd h (nI_ge (b := 200) (by omega) (by decide)), fun _ => ⟨fun h => absurd h b0, fun _ => ⟨lN_ne0 (by omega) b0, fun x1 e1 => ?_⟩⟩⟩
      unfold lrem at e1
      rw [pk_lRem (by omega) (by omega) (by omega)] at e1
      have hr : a % b < b := Nat.mod_lt _ (by omega)
      rw [gcd_st] at K
      rw [e1, nI_1, wl_X11_commonPart_9, lg0 (by omega)]
      by_cases r0 : a % b = 0
      · rw [r0, Nat.gcd_zero_right] at K
        exact ⟨fun _ => K, fun _ => ⟨fun _ => K, fun h => absurd r0 h⟩⟩
      · refine ⟨fun h => absurd h (nI_ge (b := 200) (by omega) (by decide)), fun _ => ⟨fun h => absurd h r0, fun _ => ⟨lN_ne0 (by omega) r0, fun x2 e2 => ?_⟩⟩⟩
        unfold lrem at e2
        rw [pk_lRem (by omega) (by omega) (by omega)] at e2
        rw [gcd_st] at K
        rw [e2, nI_1]
        exact ih f (a % b) (b % (a % b)) (i + 1 + 1) (by omega) (by omega) (eu_half hr r0 hb) (by omega) (by omega) K
theorem gcdM_l {u : PoS} {post : Int64 → PoS → Prop} : ∀ k f a b, 2 * k + 1 ≤ f → a < 2 ^ 62 → b < 2 ^ k → k ≤ 62 → post (lN (Nat.gcd a b)) u → wl_X12_divisor_6 post f (lN a) (lN b) u := by
  intro k
  induction k with
  | zero =>
    intro f a b hf ha hb _ K
    obtain ⟨f, rfl⟩ : ∃ g, f = g + 1 := ⟨f - 1, by omega⟩
    have hb0 : b = 0 := by have : (2 : Nat) ^ 0 = 1 := rfl; omega
    subst hb0
    rw [Nat.gcd_zero_right] at K
    rw [wl_X12_divisor_6]
    exact ⟨fun _ => K, fun h => absurd ((lg0 (by decide)).mpr rfl) h⟩
  | succ k ih =>
    intro f a b hf ha hb hk K
    have hb62 : b < 2 ^ 62 := Nat.lt_of_lt_of_le hb (Nat.pow_le_pow_right (by decide) hk)
    obtain ⟨f, rfl⟩ : ∃ g, f = g + 1 + 1 := ⟨f - 2, by omega⟩
    rw [wl_X12_divisor_6, lg0 (by omega)]
    by_cases b0 : b = 0
    · subst b0
      rw [Nat.gcd_zero_right] at K
      exact ⟨fun _ => K, fun h => absurd rfl h⟩
    · refine ⟨fun h => absurd h b0, fun _ => ⟨lN_ne0 (by omega) b0, fun x1 e1 => ?_⟩⟩
      unfold lrem at e1
      rw [pk_lRem (by omega) (by omega) (by omega)] at e1
      have hr : a % b < b := Nat.mod_lt _ (by omega)
      rw [gcd_st] at K
      rw [e1, wl_X12_divisor_6, lg0 (by omega)]
      by_cases r0 : a % b = 0
      · rw [r0, Nat.gcd_zero_right] at K
        exact ⟨fun _ => K, fun h => absurd r0 h⟩
      · refine ⟨fun h => absurd h r0, fun _ => ⟨lN_ne0 (by omega) r0, fun x2 e2 => ?_⟩⟩
        unfold lrem at e2
        rw [pk_lRem (by omega) (by omega) (by omega)] at e2
        rw [gcd_st] at K
        rw [e2]
        exact ih f (a % b) (b % (a % b)) (by omega) (by omega) (eu_half hr r0 hb) (by omega) K
theorem gcdX {u : PoS} {a b : Nat} (ha : a < 2 ^ 62) (hb : b < 2 ^ 62) {post : Int64 → PoS → Prop} (K : post (lN (max (Nat.gcd a b) 1)) u) : wp_X11_commonPart (lN a) (lN b) u post := by
  refine ⟨125, gcdX_l 62 125 a b 0 (by decide) ha hb (by decide) (by decide) ?_⟩
  unfold wj_X11_commonPart_45 lmax
  have hg : Nat.gcd a b < 2 ^ 63 := by
    rcases Nat.eq_zero_or_pos b with z | z
    · rw [z, Nat.gcd_zero_right]; omega
    · have := Nat.le_of_dvd z (Nat.gcd_dvd_right a b); omega
  rw [show (1 : Int64) = lN 1 from rfl]
  by_cases h : lN 1 < lN (Nat.gcd a b)
  · rw [if_pos h]; rw [pk_lLT (by decide) hg] at h; rw [show max (Nat.gcd a b) 1 = Nat.gcd a b by omega] at K; exact K
  · rw [if_neg h]; rw [pk_lLT (by decide) hg] at h; rw [show max (Nat.gcd a b) 1 = 1 by omega] at K; exact K
theorem gcdM {u : PoS} {a b : Nat} (ha : a < 2 ^ 62) (hb : b < 2 ^ 62) {post : Int64 → PoS → Prop} (K : post (lN (Nat.gcd a b)) u) : wp_X12_divisor (lN a) (lN b) u post := ⟨125, gcdM_l 62 125 a b (by decide) ha hb (by decide) K⟩
/-! days -/
def dyF (n : Nat) : Nat → Nat × Nat
  | 0 => (0, 1)
  | k + 1 => ((dyF n k).1 * (k + 1) + n * (dyF n k).2, (dyF n k).2 * (k + 1))
def dyM (n : Nat) : Nat → Nat
  | 0 => 0
  | k + 1 => dyM n k + 60 / (k + 1) * n
theorem dy_all : ∀ n, n < 6 → 0 < n → (dyF n n).1 < 10000 ∧ (dyF n n).2 < 10000 ∧ dyM n n < 10000 ∧ Nat.gcd (dyM n n) 60 < 10000 ∧ ¬ Nat.gcd (dyM n n) 60 = 0 ∧ max (Nat.gcd (dyF n n).1 (dyF n n).2) 1 < 10000 ∧ (dyF n n).1 / max (Nat.gcd (dyF n n).1 (dyF n n).2) 1 = dyM n n / Nat.gcd (dyM n n) 60 ∧ (dyF n n).2 / max (Nat.gcd (dyF n n).1 (dyF n n).2) 1 = 60 / Nat.gcd (dyM n n) 60 := by decide +kernel
theorem ob_days (LT : Nat → PoS → Prop) (b : Int32) (_ : IsB b) : Ob32 (wp_X11_days b) (wp_X12_days b) (Inv LT) := by
  intro u hI
  have hL := hI.1.liv
  obtain ⟨n, hn, e1, e2, e3⟩ := hL.ppl
  by_cases h0 : n = 0
  · refine ⟨fun r u1 => r = -1 ∧ u1 = u, fun K hK x1 ex => ⟨fun h => ?_, fun _ => hK _ _ ⟨rfl, rfl⟩⟩, fun r u1 hr K hK => ?_⟩
    · rw [ex, gI_def, e2, h0] at h; exact absurd h (by decide)
    · obtain ⟨rfl, rfl⟩ := hr
      exact ⟨fun h => absurd (by rw [gI_def, e1, h0]; rfl) h, fun _ => hK _ hI⟩
  · obtain ⟨d1, d2, d3, d4, d5, d6, d7, d8⟩ := dy_all n (by omega) (by omega)
    refine ob_same (Iv := fun v => v = u) (fun _ => if b = 0 then nI (dyM n n / Nat.gcd (dyM n n) 60) else nI (60 / Nat.gcd (dyM n n) 60)) (fun v hv K hK => ?_) (fun v hv K hK => ?_) u rfl |>.imp (fun Mid ⟨m1, m2⟩ => ⟨m1, fun r u1 hm K hK => m2 r u1 hm K (fun u2 hu => by rw [hu]; exact hK u hI)⟩)
    · subst hv
      intro x1 ex
      rw [gI_def, e2] at ex
      subst ex
      refine ⟨fun _ => ⟨n + 1, ?_⟩, fun h => absurd (nI_lt (a := 0) (by omega) (by omega)) h⟩
      have fin : ∀ s : Nat, s < 10000 → K (nI (s / max (Nat.gcd (dyF n n).1 (dyF n n).2) 1)) v → wj_X11_days_61 K (nI (dyF n n).1) (nI (dyF n n).2) (nI s) v := by
        intro s hs hK'
        unfold wj_X11_days_61
        rw [nI_l (by omega), nI_l (by omega)]
        refine gcdX (by omega) (by omega) ?_
        rw [lN_i, q_div (by omega) (by omega) (by omega)]
        exact ⟨nI_ne0 (by omega) (by omega), hK'⟩
      have lp : ∀ m k, k + m = n → wl_X11_days_22 (fun (v15 : Int32) (v35 : Int32) (v45 : Int32) (u5 : PoS) => ((v15 = 0 → wj_X11_days_61 K v35 v45 v35 u5) ∧ (¬ v15 = 0 → wj_X11_days_61 K v35 v45 v45 u5))) K (m + 1) b (nI n) (nI (dyF n k).1) (nI (dyF n k).2) (nI (k + 1)) v := by
        intro m
        induction m with
        | zero =>
          intro k hk
          obtain rfl : k = n := by omega
          rw [wl_X11_days_22, q_lt (by omega) (by omega)]
          refine ⟨fun _ => ⟨fun hb => fin _ d1 ?_, fun hb => fin _ d2 ?_⟩, fun h => by omega⟩
          · rw [if_pos hb] at hK; rw [d7]; exact hK
          · rw [if_neg hb] at hK; rw [d8]; exact hK
        | succ m ih =>
          intro k hk
          rw [wl_X11_days_22, q_lt (by omega) (by omega)]
          refine ⟨fun h => by omega, fun _ x2 e2 x3 e3 => ?_⟩
          rw [e2, e3, nI_1, pk_mul, pk_mul, pk_mul, nI_add]
          exact ih (k + 1) (by omega)
      exact lp n 0 (Nat.zero_add n)
    · subst hv
      refine ⟨fun _ => ⟨n + 1, ?_⟩, fun h => absurd h (by rw [gI_def, e1]; exact nI_ne0 (by omega) (by omega))⟩
      have fin : ∀ s : Nat, s < 10000 → K (nI (s / Nat.gcd (dyM n n) 60)) v → wj_X12_days_55 K (nI (dyM n n)) (nI s) v := by
        intro s hs hK'
        unfold wj_X12_days_55
        rw [nI_l (by omega), show (60 : Int64) = lN 60 from rfl]
        refine gcdM (by omega) (by omega) ?_
        rw [lN_i, q_div (by omega) (by omega) (by omega)]
        exact ⟨nI_ne0 (by omega) (by omega), hK'⟩
      have lp : ∀ m k, k + m = n → wl_X12_days_15 (fun (v13 : Int32) (v23 : Int32) (u3 : PoS) => ((v13 = 0 → wj_X12_days_55 K v23 v23 u3) ∧ (¬ v13 = 0 → wj_X12_days_55 K v23 60 u3))) K (m + 1) b (nI (dyM n k)) (nI (k + 1)) v := by
        intro m
        induction m with
        | zero =>
          intro k hk
          obtain rfl : k = n := by omega
          rw [wl_X12_days_15, gI_def, e1, q_lt (by omega) (by omega)]
          refine ⟨fun _ => ⟨fun hb => fin _ d3 ?_, fun hb => fin 60 (by decide) ?_⟩, fun h => by omega⟩
          · rw [if_pos hb] at hK; exact hK
          · rw [if_neg hb] at hK; exact hK
        | succ m ih =>
          intro k hk
          rw [wl_X12_days_15, gI_def, e1, q_lt (by omega) (by omega)]
          refine ⟨fun h => by omega, fun _ => ⟨nI_ne0 (by omega) (by omega), fun x1 ex => ?_⟩⟩
          rw [ex, show (60 : Int32) = nI 60 from rfl, q_div (by omega) (by omega) (by omega), nI_1, pk_mul, nI_add]
          exact ih (k + 1) (by omega)
      exact lp n 0 (Nat.zero_add n)
/-! likely -/
def lkA (n : Nat) : Nat → Nat
  | 0 => 1
  | i + 1 => lkA n i * (n - i) / (i + 1)
def lkP (x p : Nat) : Nat → Nat
  | 0 => x
  | i + 1 => lkP x p i * p
def lkM (p : Nat) : Nat → Nat → Nat
  | 0, e => if e = 0 then 1 else 0
  | d + 1, e => lkM p d e * (p - 1) + (if e = 0 then 0 else lkM p d (e - 1))
theorem lkA_0 (n : Nat) : ∀ i, n < i → lkA n i = 0 := by
  intro i
  induction i with
  | zero => intro h; omega
  | succ i ih =>
    intro h
    rw [lkA]
    rcases Nat.lt_or_ge n i with z | z
    · rw [ih z, Nat.zero_mul, Nat.zero_div]
    · rw [show n - i = 0 by omega, Nat.mul_zero, Nat.zero_div]
theorem lkA_b : ∀ n, n < 11 → ∀ i, i < 11 → lkA n i < 1000 := by decide +kernel
theorem lk_e1 : ∀ n, n < 11 → ∀ k, k < 11 → ∀ p, p < 5 → lkP (lkA n k) p (n - k) = lkM (p + 1) n k := by decide +kernel
theorem lk_e2 : ∀ n, n < 11 → ∀ k, k < 11 → ∀ p, p < 5 → lkM (p + 1) n k < 1099511627776 := by decide +kernel
theorem lk_e3 : ∀ n, n < 11 → ∀ p, p < 5 → lkP 1 (p + 1) n < 1099511627776 ∧ 0 < lkP 1 (p + 1) n := by decide +kernel
theorem lk_eq (n : Nat) (hn : n < 11) (k : Nat) (hk : k < 11) (p : Nat) (hp : p < 6) (h0 : 0 < p) : lkP (lkA n k) (p - 1) (n - k) = lkM p n k ∧ lkM p n k < 2 ^ 40 ∧ lkP 1 p n < 2 ^ 40 ∧ 0 < lkP 1 p n := by
  obtain ⟨p, rfl⟩ : ∃ m, p = m + 1 := ⟨p - 1, by omega⟩
  exact ⟨lk_e1 n hn k hk p (by omega), lk_e2 n hn k hk p (by omega), (lk_e3 n hn p (by omega)).1, (lk_e3 n hn p (by omega)).2⟩
theorem likelyX {u : PoS} {n k p : Nat} (h1 : 1 ≤ n) (hn : n < 11) (hk : k < 11) (hp : p < 6) (h0 : 0 < p) (b : Int32) (ep : u.1 3 84 = nI p) {post : Int64 → PoS → Prop} (K : post (if b = 0 then lN (lkM p n k / Nat.gcd (lkM p n k) (lkP 1 p n)) else lN (lkP 1 p n / Nat.gcd (lkM p n k) (lkP 1 p n))) u) : wp_X11_likely (nI n) (nI k) b u post := by
  obtain ⟨q1, q2, q3, q4⟩ := lk_eq n hn k hk p hp h0
  have hg : 0 < Nat.gcd (lkM p n k) (lkP 1 p n) := Nat.gcd_pos_of_pos_right _ q4
  have hg2 : Nat.gcd (lkM p n k) (lkP 1 p n) ≤ lkP 1 p n := Nat.le_of_dvd q4 (Nat.gcd_dvd_right _ _)
  intro x1 ex
  rw [gI_def, ep] at ex
  subst ex
  refine ⟨fun h => absurd h (nI_nle h0 (by omega)), fun _ => within_t (nI_nlt (b := 1) (a := n) h1 (by omega)) (nI_nlt (b := n) (a := 10) (by omega) (by decide)) ⟨fun z => absurd z (by decide), fun _ => within_t (nI_pos (by omega)) (nI_nlt (b := k) (a := 10) (by omega) (by decide)) ⟨fun _ => ⟨k + 1, ?_⟩, fun z => absurd z (by decide)⟩⟩⟩
  have fin : ∀ s : Nat, s < 2 ^ 40 → post (lN (s / Nat.gcd (lkM p n k) (lkP 1 p n))) u → wj_X11_likely_136 post (lN (lkM p n k)) (lN (lkP 1 p n)) (lN s) u := by
    intro s hs hK'
    refine gcdX (by omega) (by omega) ?_
    rw [show max (Nat.gcd (lkM p n k) (lkP 1 p n)) 1 = Nat.gcd (lkM p n k) (lkP 1 p n) by omega, pk_lDiv (by omega) (by omega) (by omega)]
    exact ⟨lN_ne0 (by omega) (by omega), hK'⟩
  have lp3 : ∀ m i, i + m = n → wl_X11_likely_105 (fun (v314 : Int32) (v514 : Int64) (v714 : Int64) (u14 : PoS) => ((v314 = 0 → wj_X11_likely_136 post v514 v714 v514 u14) ∧ (¬ v314 = 0 → wj_X11_likely_136 post v514 v714 v714 u14))) post (m + 1) (nI n) b (nI p) (lN (lkM p n k)) (lN (lkP 1 p i)) (nI i) u := by
    intro m
    induction m with
    | zero =>
      intro i hi
      obtain rfl : i = n := by omega
      rw [wl_X11_likely_105, q_le (by omega) (by omega)]
      refine ⟨fun _ => ⟨fun hb => fin _ q2 ?_, fun hb => fin _ q3 ?_⟩, fun h => by omega⟩
      · rw [if_pos hb] at K; exact K
      · rw [if_neg hb] at K; exact K
    | succ m ih =>
      intro i hi
      rw [wl_X11_likely_105, q_le (by omega) (by omega)]
      refine ⟨fun h => by omega, fun _ x12 e12 => ?_⟩
      rw [e12, nI_l (by omega), lN_mul, nI_1]
      exact ih (i + 1) (by omega)
  have lp2 : ∀ m i, i + m = n - k → wl_X11_likely_75 (fun (v111 : Int32) (v311 : Int32) (v411 : Int32) (v511 : Int64) (u11 : PoS) => (∃ n105, wl_X11_likely_105 (fun (v314 : Int32) (v514 : Int64) (v714 : Int64) (u14 : PoS) => ((v314 = 0 → wj_X11_likely_136 post v514 v714 v514 u14) ∧ (¬ v314 = 0 → wj_X11_likely_136 post v514 v714 v714 u14))) post n105 v111 v311 v411 v511 1 0 u11)) post (m + 1) (nI n) (nI k) b (nI p) (lN (lkP (lkA n k) (p - 1) i)) (nI i) u := by
    intro m
    induction m with
    | zero =>
      intro i hi
      rw [wl_X11_likely_75]
      refine ⟨fun _ => ⟨n + 1, ?_⟩, fun h => absurd ?_ h⟩
      · rw [show i = n - k by omega, q1]; exact lp3 n 0 (Nat.zero_add n)
      · rw [Int32.le_iff_toInt_le, pk_sub_toInt (by omega) (by omega), nI_toInt (by omega)]; omega
    | succ m ih =>
      intro i hi
      rw [wl_X11_likely_75, q_sub (by omega), q_le (by omega) (by omega)]
      refine ⟨fun h => by omega, fun _ x9 e9 => ?_⟩
      rw [e9, show (1 : Int32) = nI 1 from rfl, q_sub (by omega), nI_l (by omega), lN_mul, nI_add]
      exact ih (i + 1) (by omega)
  have lp1 : ∀ m i, i + m = k → wl_X11_likely_44 (fun (v18 : Int32) (v28 : Int32) (v38 : Int32) (v48 : Int32) (v58 : Int64) (u8 : PoS) => (∃ n75, wl_X11_likely_75 (fun (v111 : Int32) (v311 : Int32) (v411 : Int32) (v511 : Int64) (u11 : PoS) => (∃ n105, wl_X11_likely_105 (fun (v314 : Int32) (v514 : Int64) (v714 : Int64) (u14 : PoS) => ((v314 = 0 → wj_X11_likely_136 post v514 v714 v514 u14) ∧ (¬ v314 = 0 → wj_X11_likely_136 post v514 v714 v714 u14))) post n105 v111 v311 v411 v511 1 0 u11)) post n75 v18 v28 v38 v48 v58 0 u8)) post (m + 1) (nI n) (nI k) b (nI p) (lN (lkA n i)) (nI i) u := by
    intro m
    induction m with
    | zero =>
      intro i hi
      obtain rfl : i = k := by omega
      rw [wl_X11_likely_44, q_le (by omega) (by omega)]
      exact ⟨fun _ => ⟨n - i + 1, lp2 (n - i) 0 (Nat.zero_add _)⟩, fun h => by omega⟩
    | succ m ih =>
      intro i hi
      rw [wl_X11_likely_44, q_le (by omega) (by omega), nI_1, nI_l (by omega)]
      refine ⟨fun h => by omega, fun _ => ⟨lN_ne0 (by omega) (by omega), fun x6 e6 => ?_⟩⟩
      have := ih (i + 1) (by omega)
      rw [lkA] at this
      have hb := lkA_b n hn i (by omega)
      rcases Nat.lt_or_ge n i with z | z
      · rw [lkA_0 n i z, Nat.zero_mul, Nat.zero_div] at this
        rw [e6, lkA_0 n i z, show lN 0 = 0 from rfl, Int64.zero_mul, show (0 : Int64) = lN 0 from rfl, pk_lDiv (by decide) (by omega) (by omega), Nat.zero_div]
        exact this
      · have hm : lkA n i * (n - i) < 2 ^ 30 := by
          have : lkA n i * (n - i) ≤ 1000 * 11 := Nat.mul_le_mul (by omega) (by omega)
          omega
        rw [e6, q_sub z, nI_l (by omega), lN_mul, pk_lDiv (by omega) (by omega) (by omega)]
        exact this
  exact lp1 k 0 (Nat.zero_add k)
theorem likelyM {u : PoS} {n k p : Nat} (h1 : 1 ≤ n) (hn : n < 11) (hk : k < 11) (hp : p < 6) (h0 : 0 < p) (b : Int32) (ep : u.1 49 0 = nI p) {post : Int64 → PoS → Prop} (K : ∀ z : PoS, z.1 = u.1 → post (if b = 0 then lN (lkM p n k / Nat.gcd (lkM p n k) (lkP 1 p n)) else lN (lkP 1 p n / Nat.gcd (lkM p n k) (lkP 1 p n))) z) : wp_X12_likely (nI n) (nI k) b u post := by
  obtain ⟨q1, q2, q3, q4⟩ := lk_eq n hn k hk p hp h0
  have hg : 0 < Nat.gcd (lkM p n k) (lkP 1 p n) := Nat.gcd_pos_of_pos_right _ q4
  have hg2 : Nat.gcd (lkM p n k) (lkP 1 p n) ≤ lkP 1 p n := Nat.le_of_dvd q4 (Nat.gcd_dvd_right _ _)
  refine isIn_t (nI_nlt (b := 1) (a := n) h1 (by omega)) (nI_nlt (b := n) (a := 10) (by omega) (by decide)) ⟨fun z => absurd z (by decide), fun _ => isIn_t (nI_pos (by omega)) (nI_nlt (b := k) (a := 10) (by omega) (by decide)) ⟨fun z => absurd z (by decide), fun _ => ⟨fun _ => ⟨12, ?_⟩, fun h => absurd h (by rw [gI_def, ep]; exact nI_ne0 h0 (by omega))⟩⟩⟩
  -- the end
  have fin : ∀ (z : PoS) (s : Nat), z.1 = u.1 → gL z 68 k = lN (lkM p n k) → s < 2 ^ 40 → post (lN (s / Nat.gcd (lkM p n k) (lkP 1 p n))) z → wj_X12_likely_169 post (nI k) (lN (lkP 1 p n)) (lN s) z := by
    intro z s ez gz hs hK'
    unfold wj_X12_likely_169
    rw [q_vp (by omega) (by omega), q_cl (by omega), gz]
    refine ⟨by omega, gcdM (by omega) (by omega) ?_⟩
    rw [pk_lDiv (by omega) (by omega) (by omega)]
    exact ⟨lN_ne0 (by omega) (by omega), hK'⟩
  have inner : ∀ (K2 : Int32 → Int32 → Int32 → Int64 → Int32 → PoS → Prop) (d : Nat) (al : Int64), (∀ z : PoS, z.1 = u.1 → (∀ e, e < 11 → gL z 68 e = lN (lkM p (d + 1) e)) → K2 (nI n) (nI k) b al (nI d) z) → ∀ m e, e + 1 = m → m ≤ 11 → ∀ z : PoS, z.1 = u.1 → (∀ e', e' < 11 → gL z 68 e' = if e' < m then lN (lkM p d e') else lN (lkM p (d + 1) e')) → wl_X12_likely_82 K2 post (m + 1) (nI n) (nI k) b al (nI d) (nI e) z := by
    intro K2 d al hK2 m
    have lastst : ∀ z : PoS, z.1 = u.1 → (∀ e', e' < 11 → gL z 68 e' = if e' < 0 then lN (lkM p d e') else lN (lkM p (d + 1) e')) → wl_X12_likely_82 K2 post 1 (nI n) (nI k) b al (nI d) (-1) z := by
      intro z ez gz
      rw [wl_X12_likely_82]
      exact ⟨fun _ => hK2 z ez (fun e he => by rw [gz e he, if_neg (by omega)]), fun h => absurd (by decide) h⟩
    induction m with
    | zero => intro e he; omega
    | succ m ih =>
      intro e he hm z ez gz
      obtain rfl : e = m := by omega
      rw [wl_X12_likely_82, q_vp (by omega) (by omega), q_cl (by omega), gI_def, ez, ep, show (1 : Int32) = nI 1 from rfl, q_sub (by omega), nI_l (by omega), gz e (by omega), if_pos (by omega), lN_mul]
      have gen : ∀ s0 : Int64, s0 = lN (if e = 0 then 0 else lkM p d (e - 1)) → wj_X12_likely_128 (wl_X12_likely_82 K2 post (e + 1)) post (nI n) (nI k) b al (nI d) (nI e) s0 (lN (lkM p d e * (p - 1))) (nI e) z := by
        intro s0 hs0
        unfold wj_X12_likely_128
        rw [q_vp (by omega) (by omega), q_cl (by omega)]
        refine ⟨by omega, fun z9 e9 => ?_⟩
        have ez9 : z9.1 = u.1 := by rw [e9, pL_1]; exact ez
        have gz9 : ∀ e', e' < 11 → gL z9 68 e' = if e' < e then lN (lkM p d e') else lN (lkM p (d + 1) e') := by
          intro e' he'
          rw [e9, gL_pL]
          by_cases y : e' = e
          · rw [if_pos ⟨rfl, y⟩, if_neg (by omega), y, hs0, lN_add]; rfl
          · rw [if_neg (fun h => y h.2), gz e' he']
            by_cases y2 : e' < e
            · rw [if_pos (by omega), if_pos y2]
            · rw [if_neg (by omega), if_neg y2]
        cases e with
        | zero => exact lastst z9 ez9 gz9
        | succ e => rw [pk_m1]; exact ih e rfl (by omega) z9 ez9 gz9
      refine ⟨fun h => absurd h (nI_pos (by omega)), fun _ => ⟨by omega, fun h => gen 0 ?_, fun h => ?_⟩⟩
      · rw [show (0 : Int32) = nI 0 from rfl, q_le (by omega) (by omega)] at h
        rw [if_pos (by omega)]; rfl
      · rw [show (0 : Int32) = nI 0 from rfl, q_le (by omega) (by omega)] at h
        rw [q_sub (by omega), q_vp (by omega) (by omega), q_cl (by omega)]
        refine ⟨by omega, gen _ ?_⟩
        rw [gz (e - 1) (by omega), if_pos (by omega), if_neg (by omega)]
  have outer : ∀ m d, d + m = n → ∀ z : PoS, z.1 = u.1 → (∀ e, e < 11 → gL z 68 e = lN (lkM p d e)) → wl_X12_likely_72 (fun (v215 : Int32) (v315 : Int32) (v415 : Int64) (u15 : PoS) => ((v315 = 0 → vp_in v215 11 ∧ wj_X12_likely_169 post v215 v415 (gL u15 68 (Int32.toNatClampNeg v215)) u15) ∧ (¬ v315 = 0 → wj_X12_likely_169 post v215 v415 v415 u15))) post (m + 1) (nI n) (nI k) b (lN (lkP 1 p d)) (nI d) z := by
    intro m
    induction m with
    | zero =>
      intro d hd z ez gz
      obtain rfl : d = n := by omega
      have K := K z ez
      rw [wl_X12_likely_72, q_le (by omega) (by omega), q_vp (by omega) (by omega), q_cl (by omega), gz k hk]
      refine ⟨fun _ => ⟨fun hb => ⟨by omega, fin z _ ez (gz k hk) q2 ?_⟩, fun hb => fin z _ ez (gz k hk) q3 ?_⟩, fun h => by omega⟩
      · rw [if_pos hb] at K; exact K
      · rw [if_neg hb] at K; exact K
    | succ m ih =>
      intro d hd z ez gz
      rw [wl_X12_likely_72, q_le (by omega) (by omega)]
      refine ⟨fun h => by omega, fun _ => ⟨12, inner _ d _ (fun z2 ez2 gz2 x13 e13 => ?_) 11 10 rfl (by decide) z ez (fun e he => by rw [if_pos he]; exact gz e he)⟩⟩
      rw [e13, gI_def, ez2, ep, nI_l (by omega), lN_mul, nI_1]
      exact ih (d + 1) (by omega) z2 ez2 gz2
  have init : ∀ m e, e + m = 11 → ∀ z : PoS, z.1 = u.1 → (∀ e', e' < e → gL z 68 e' = lN (lkM p 0 e')) → wl_X12_likely_39 (fun (v18 : Int32) (v28 : Int32) (v38 : Int32) (v48 : Int64) (u8 : PoS) => (∃ n72, wl_X12_likely_72 (fun (v215 : Int32) (v315 : Int32) (v415 : Int64) (u15 : PoS) => ((v315 = 0 → vp_in v215 11 ∧ wj_X12_likely_169 post v215 v415 (gL u15 68 (Int32.toNatClampNeg v215)) u15) ∧ (¬ v315 = 0 → wj_X12_likely_169 post v215 v415 v415 u15))) post n72 v18 v28 v38 v48 0 u8)) post (m + 1) (nI n) (nI k) b 1 (nI e) z := by
    intro m
    induction m with
    | zero =>
      intro e he z ez gz
      obtain rfl : e = 11 := by omega
      rw [wl_X12_likely_39]
      exact ⟨fun _ => ⟨n + 1, outer n 0 (Nat.zero_add n) z ez gz⟩, fun h => absurd (by decide) h⟩
    | succ m ih =>
      intro e he z ez gz
      have gen : ∀ s0 : Int64, s0 = lN (lkM p 0 e) → wj_X12_likely_62 (wl_X12_likely_39 (fun (v18 : Int32) (v28 : Int32) (v38 : Int32) (v48 : Int64) (u8 : PoS) => (∃ n72, wl_X12_likely_72 (fun (v215 : Int32) (v315 : Int32) (v415 : Int64) (u15 : PoS) => ((v315 = 0 → vp_in v215 11 ∧ wj_X12_likely_169 post v215 v415 (gL u15 68 (Int32.toNatClampNeg v215)) u15) ∧ (¬ v315 = 0 → wj_X12_likely_169 post v215 v415 v415 u15))) post n72 v18 v28 v38 v48 0 u8)) post (m + 1)) post (nI n) (nI k) b 1 (nI e) s0 (nI e) z := by
        intro s0 hs0
        unfold wj_X12_likely_62
        rw [q_vp (by omega) (by omega), q_cl (by omega), nI_1]
        refine ⟨by omega, fun z5 e5 => ih (e + 1) (by omega) z5 (by rw [e5, pL_1]; exact ez) (fun e' he' => ?_)⟩
        rw [e5, gL_pL]
        by_cases y : e' = e
        · rw [if_pos ⟨rfl, y⟩, hs0, y]
        · rw [if_neg (fun h => y h.2)]; exact gz e' (by omega)
      rw [wl_X12_likely_39]
      refine ⟨fun h => absurd h (nI_ge (b := 11) (by omega) (by decide)), fun _ => ⟨fun h => gen 0 ?_, fun h => gen 1 ?_⟩⟩
      · rw [show (0 : Int32) = nI 0 from rfl, q_eq (by omega) (by omega)] at h
        rw [lkM, if_neg h]; rfl
      · rw [show (0 : Int32) = nI 0 from rfl, q_eq (by omega) (by omega)] at h
        rw [lkM, if_pos h]; rfl
  exact init 11 0 rfl u rfl (fun e' he' => by omega)
theorem out1 {m : Nat} (hm : m < 2 ^ 30) {x : Int32} : (x < 1 ∨ nI m < x) ∨ ∃ n, 1 ≤ n ∧ n ≤ m ∧ x = nI n := by
  rcases rng m (by omega) x with ⟨j, hj, rfl⟩ | z | z
  · rcases Nat.eq_zero_or_pos j with e | e
    · left; left; rw [e]; decide
    · exact Or.inr ⟨j, e, hj, rfl⟩
  · left; left
    rw [Int32.lt_iff_toInt_lt] at z ⊢
    have e0 : (0 : Int32).toInt = 0 := rfl
    have e1 : (1 : Int32).toInt = 1 := rfl
    omega
  · exact Or.inl (Or.inr z)
theorem ob_likely {LT : Nat → PoS → Prop} (hLT : LTok LT) (x y b : Int32) (_ : IsB b) : Ob64 (wp_X11_likely x y b) (wp_X12_likely x y b) (Inv LT) := by
  intro u hI
  have hL := hI.1.liv
  obtain ⟨p, hp, e1, e2, e3⟩ := hL.ppl
  have no : ∀ hno : (p = 0 ∨ (x < 1 ∨ nI 10 < x) ∨ (y < 0 ∨ nI 10 < y)), ∃ Mid : Int64 → PoS → Prop, (∀ K : Int64 → PoS → Prop, (∀ r u1, Mid r u1 → K r u1) → wp_X11_likely x y b u K) ∧ ∀ r u1, Mid r u1 → ∀ K : Int64 → PoS → Prop, (∀ u2, Inv LT u2 → K r u2) → wp_X12_likely x y b u1 K := by
    intro hno
    refine ⟨fun r u1 => r = -1 ∧ u1 = u, fun K hK x1 ex => ?_, fun r u1 hr K hK => ?_⟩
    · have K0 := hK _ _ ⟨rfl, rfl⟩
      rw [gI_def, e2] at ex
      subst ex
      refine ⟨fun _ => K0, fun h => ?_⟩
      rcases hno with z | z | z
      · rw [z] at h; exact absurd (by decide) h
      · exact within_f z ⟨fun _ => K0, fun z => absurd rfl z⟩
      · by_cases hx : x < 1 ∨ nI 10 < x
        · exact within_f hx ⟨fun _ => K0, fun z => absurd rfl z⟩
        · exact within_t (fun z => hx (Or.inl z)) (fun z => hx (Or.inr z)) ⟨fun z => absurd z (by decide), fun _ => within_f z ⟨fun z => absurd rfl z, fun _ => K0⟩⟩
    · obtain ⟨rfl, rfl⟩ := hr
      have K0 := hK _ hI
      by_cases hx : x < 1 ∨ nI 10 < x
      · exact isIn_f hx ⟨fun _ => K0, fun z => absurd rfl z⟩
      · refine isIn_t (fun z => hx (Or.inl z)) (fun z => hx (Or.inr z)) ⟨fun z => absurd z (by decide), fun _ => ?_⟩
        by_cases hy : y < 0 ∨ nI 10 < y
        · exact isIn_f hy ⟨fun _ => K0, fun z => absurd rfl z⟩
        · refine isIn_t (fun z => hy (Or.inl z)) (fun z => hy (Or.inr z)) ⟨fun z => absurd z (by decide), fun _ => ⟨fun h => ?_, fun _ => K0⟩⟩
          rcases hno with z | z | z
          · exact absurd (by rw [gI_def, e1, z]; rfl) h
          · exact absurd z hx
          · exact absurd z hy
  by_cases p0 : p = 0
  · exact no (Or.inl p0)
  · rcases out1 (m := 10) (by decide) (x := x) with z | ⟨n, h1, hn, rfl⟩
    · exact no (Or.inr (Or.inl z))
    · rcases rng 10 (by decide) y with ⟨k, hk, rfl⟩ | z
      · refine ⟨fun r u1 => r = (if b = 0 then lN (lkM p n k / Nat.gcd (lkM p n k) (lkP 1 p n)) else lN (lkP 1 p n / Nat.gcd (lkM p n k) (lkP 1 p n))) ∧ u1 = u, fun K hK => likelyX h1 (by omega) (by omega) (by omega) (by omega) b e2 (hK _ _ ⟨rfl, rfl⟩), fun r u1 hr K hK => ?_⟩
        obtain ⟨rfl, rfl⟩ := hr
        exact likelyM h1 (by omega) (by omega) (by omega) (by omega) b e1 (fun z ez => hK z (inv_scr hLT hI (fun j _ => by rw [ez]) (fun k _ => by rw [ez])))
      · exact no (Or.inr (Or.inr z))
