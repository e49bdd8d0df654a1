/-! THE START keeps the invariant -/
def rS0 : Nat → Int32 := u0I 3
def aS0 : Nat → Int32 := u0I 49
theorem rS0_z {j : Nat} (h1 : j ≠ 52) (h2 : j ≠ 116) (h3 : ¬ (118 ≤ j ∧ j < 118 + 35)) : rS0 j = 0 := by
  show (if 118 ≤ j ∧ j < 118 + 35 then (10 : Int32) else (upd (upd (fun _ => 0) 52 241) 116 (-1)) j) = 0
  rw [if_neg h3]
  show (if j = 116 then (-1 : Int32) else (if j = 52 then 241 else 0)) = 0
  rw [if_neg h2, if_neg h1]
theorem aS0_z {j : Nat} (h1 : j ≠ 8) (h2 : j ≠ 2) (h3 : ¬ (130 ≤ j ∧ j < 130 + 35)) : aS0 j = 0 := by
  show (if 130 ≤ j ∧ j < 130 + 35 then (10 : Int32) else (upd (upd (fun _ => 0) 8 241) 2 (-1)) j) = 0
  rw [if_neg h3]
  show (if j = 2 then (-1 : Int32) else (if j = 8 then 241 else 0)) = 0
  rw [if_neg h2, if_neg h1]
theorem sm0 (m : Nat) : Sm m 0 := ⟨0, Nat.zero_le m, rfl⟩
theorem row0 : RowOk rS0 aS0 := by
  have n0 : ∀ j, j ≠ 8 → j ≠ 2 → ¬ (130 ≤ j ∧ j < 130 + 35) → nN (aS0 j) = 0 := fun j a b c => by rw [aS0_z a b c]; rfl
  have z : ∀ {i m : Nat}, aS0 i = 0 → Sm m (aS0 i) := fun e => by rw [e]; exact sm0 _
  refine ⟨⟨?_, ?_, ?_, ?_, ?_, ?_, ?_, ?_, ?_, ?_⟩, ⟨?_, ?_, Or.inl ?_, ?_, ?_, ?_, ?_, ?_, ?_, ?_, ?_⟩, fun p _ hp => ?_, ⟨fun c hc => ⟨?_, ?_, ?_, ?_, ?_⟩, 0, by decide, ?_, fun c hc => ?_⟩, fun k hk => ⟨?_, ?_⟩, fun k _ hk => ?_, fun k _ hk => ?_, fun k _ hk => ?_, fun k _ hk => ?_, ⟨fun i p _ hi => ?_, fun i p _ hi => ?_, fun i _ hi => ?_⟩⟩
  · rw [rS0_z (by decide) (by decide) (by decide), aS0_z (by decide) (by decide) (by decide)]
  · rw [rS0_z (by decide) (by decide) (by decide), aS0_z (by decide) (by decide) (by decide)]
  · rfl
  · rw [rS0_z (by decide) (by decide) (by decide), aS0_z (by decide) (by decide) (by decide)]
  · rw [rS0_z (by decide) (by decide) (by decide), aS0_z (by decide) (by decide) (by decide)]
  · rw [rS0_z (by decide) (by decide) (by decide), aS0_z (by decide) (by decide) (by decide)]
  · rw [rS0_z (by decide) (by decide) (by decide), aS0_z (by decide) (by decide) (by decide)]
  · rw [rS0_z (by decide) (by decide) (by decide), aS0_z (by decide) (by decide) (by decide)]
  · rfl
  · rw [rS0_z (by decide) (by decide) (by decide), aS0_z (by decide) (by decide) (by decide)]
  · exact z (aS0_z (by decide) (by decide) (by decide))
  · exact z (aS0_z (by decide) (by decide) (by decide))
  · rfl
  · exact z (aS0_z (by decide) (by decide) (by decide))
  · exact z (aS0_z (by decide) (by decide) (by decide))
  · exact z (aS0_z (by decide) (by decide) (by decide))
  · exact z (aS0_z (by decide) (by decide) (by decide))
  · exact z (aS0_z (by decide) (by decide) (by decide))
  · exact ⟨241, by decide, rfl⟩
  · exact z (aS0_z (by decide) (by decide) (by decide))
  · rw [rS0_z (by decide) (by decide) (by decide)]; exact sm0 _
  · rw [n0 0 (by decide) (by decide) (by decide)] at hp; exact absurd hp (Nat.not_lt_zero p)
  · rw [rS0_z (by omega) (by omega) (by omega), aS0_z (by omega) (by omega) (by omega)]
  · exact z (aS0_z (by omega) (by omega) (by omega))
  · rw [rS0_z (by omega) (by omega) (by omega), aS0_z (by omega) (by omega) (by omega)]
  · exact z (aS0_z (by omega) (by omega) (by omega))
  · exact z (aS0_z (by omega) (by omega) (by omega))
  · rw [rS0_z (by decide) (by decide) (by decide)]; rfl
  · rw [aS0_z (by omega) (by omega) (by omega), Nat.zero_testBit]
    exact ⟨fun q => absurd q (by decide), fun q => absurd q (by decide)⟩
  · show (if 118 ≤ 118 + k ∧ 118 + k < 118 + 35 then (10 : Int32) else _) = (if 130 ≤ 130 + k ∧ 130 + k < 130 + 35 then (10 : Int32) else _)
    rw [if_pos (by omega), if_pos (by omega)]
  · refine ⟨10, by decide, ?_⟩
    show (if 130 ≤ 130 + k ∧ 130 + k < 130 + 35 then (10 : Int32) else _) = nI 10
    rw [if_pos (by omega)]; rfl
  · rw [n0 4 (by decide) (by decide) (by decide)] at hk; exact absurd hk (Nat.not_lt_zero k)
  · rw [n0 5 (by decide) (by decide) (by decide)] at hk; exact absurd hk (Nat.not_lt_zero k)
  · rw [n0 9 (by decide) (by decide) (by decide)] at hk; exact absurd hk (Nat.not_lt_zero k)
  · rw [n0 3 (by decide) (by decide) (by decide)] at hk; exact absurd hk (Nat.not_lt_zero k)
  · rw [n0 3 (by decide) (by decide) (by decide)] at hi; exact absurd hi (Nat.not_lt_zero _)
  · rw [n0 3 (by decide) (by decide) (by decide)] at hi; exact absurd hi (Nat.succ_ne_zero i)
  · rw [n0 3 (by decide) (by decide) (by decide)] at hi; exact absurd hi (Nat.not_lt_zero _)
theorem inv0 : Inv LTx u0 := by
  refine ⟨row0, ?_, ?_, ⟨rfl, sm0 _, fun j _ hj => ?_⟩, Or.inl ⟨rfl, rfl, rfl⟩, rfl, fun t _ ht => ?_⟩
  · refine RowOk.congr row0 (fun i hi => ?_) (fun i hi => ?_)
    · show va_cpy rS0 (fun _ => 0) 0 0 2735 i = rS0 i
      unfold va_cpy
      rw [if_pos (by omega), Nat.zero_add, Nat.sub_zero]
    · show (if i < 3703 then aS0 i else 0) = aS0 i
      rw [if_pos hi]
  · show nN (if 1 < 3703 then aS0 1 else 0) ≤ nN (aS0 1)
    rw [if_pos (by decide)]; exact Nat.le_refl _
  · exact absurd hj (Nat.not_lt_zero j)
  · have : nN (u0.1 49 1) = 0 := by
      show nN (aS0 1) = 0
      rw [aS0_z (by decide) (by decide) (by decide)]; rfl
    rw [this] at ht
    exact absurd ht (Nat.not_lt_zero t)
