/-! ===== the relation at the start ===== -/
theorem wm0 : wOf m0 0 = 0 ∧ wOf m0 1 = 5 ∧ wOf m0 2 = 0 ∧ wOf m0 3 = -1 := ⟨rfl, rfl, rfl, rfl⟩
theorem bPm0 : bP (wOf m0) = 0 := rfl
theorem GI0 (o : Nat) (ho : o = 9 ∨ o = 10) : GI L0 d0 o := by
  have g : GLn L0 o := by
    rcases ho with rfl | rfl
    · exact ⟨by unfold chS; decide, by decide, by unfold chW; decide, ⟨0, by decide, by decide⟩, by unfold chS; decide, by unfold chS; decide, by unfold chS; decide⟩
    · exact ⟨by unfold chS; decide, by decide, by unfold chW; decide, ⟨0, by decide, by decide⟩, by unfold chS; decide, by unfold chS; decide, by unfold chS; decide⟩
  refine ⟨g, 0, Nat.zero_le _, ?_, fun i hi => absurd hi (Nat.not_lt_zero _), fun x hx => .inl ?_⟩
  · rcases ho with rfl | rfl <;> rfl
  · rcases ho with rfl | rfl <;> rfl
theorem start_ok : RLx L0 d0 m0 101 382514 := by
  obtain ⟨w0, w1, w2, w3⟩ := wm0
  have hv : VB (wOf m0) := ⟨by rw [w0]; exact ⟨0, by decide, rfl⟩, by rw [w1]; exact ⟨5, by decide, rfl⟩, by unfold bH; rw [w1]; decide, fun p hp => by rw [bPm0] at hp; exact absurd hp (Nat.not_lt_zero _)⟩
  have no : ∀ p, ¬ p < bP (wOf m0) := fun p hp => by rw [bPm0] at hp; exact absurd hp (Nat.not_lt_zero _)
  refine ⟨?_, ⟨hv, ⟨rfl, rfl, fun p hp => absurd hp (no p)⟩, rfl, by rw [w2]; decide, fun p hp => absurd hp (no p), .inl ⟨rfl, w3⟩⟩, ⟨fun p hp => absurd hp (no p), fun p q hp _ _ => absurd hp (no p)⟩, .inl ⟨rfl, rfl⟩, .inl ⟨rfl, rfl⟩, ⟨0, by decide, rfl, rfl, fun i hi => absurd hi (Nat.not_lt_zero _)⟩, rfl, ⟨0, by decide, rfl, rfl, fun i hi => absurd hi (Nat.not_lt_zero _)⟩, ⟨rfl, rfl⟩, ⟨0, fun _ => 0, by decide, rfl, fun i hi => absurd hi (Nat.not_lt_zero _), fun x _ _ => rfl⟩, ⟨GI0 9 (.inl rfl), .inl rfl⟩, GI0 10 (.inr rfl), ?_⟩
  · unfold LEN LS2 LB
    decide
  · refine ⟨by decide, ?_⟩
    omega
