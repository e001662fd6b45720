/-! ===== begin ===== -/
theorem begins_lp {d : Dt} : ∀ (n i F : Nat) (e : Dt), i + n = 576 → n < F → ∃ e', lp (fun k x => t_X6_begins_29 LM (fun x1 d => k (x1, d)) x.1 x.2) F (nI i, e) = (t_X6_enter LM e' 0).bind (fun d9 => some d9) ∧ (∀ j, gF e' 0 j = gF e 0 j) ∧ (∀ a k, gA e' a k = if a = 0 ∧ 800 + i ≤ k ∧ k < 1376 then 0 else gA e a k) := by
  intro n
  induction n with
  | zero =>
    intro i F e hi hF
    obtain ⟨F, rfl⟩ : ∃ G, F = G + 1 := ⟨F - 1, by omega⟩
    refine ⟨e, ?_, fun _ => rfl, fun a k => by rw [if_neg (fun q => by omega)]⟩
    show t_X6_begins_29 LM (fun x1 d => lp _ F (x1, d)) (nI i) e = _
    rw [t_X6_begins_29, if_pos (show (576 : Int32) ≤ nI i from nI_le (a := 576) (by omega) (by omega))]
  | succ n ih =>
    intro i F e hi hF
    obtain ⟨F, rfl⟩ : ∃ G, F = G + 1 := ⟨F - 1, by omega⟩
    obtain ⟨e', r1, r2, r3⟩ := ih (i + 1) F (sA e 0 (800 + i) 0) (by omega) (by omega)
    refine ⟨e', ?_, r2, ?_⟩
    · show t_X6_begins_29 LM (fun x1 d => lp _ F (x1, d)) (nI i) e = _
      rw [t_X6_begins_29, if_neg (show ¬ (576 : Int32) ≤ nI i from nI_ge (b := 576) (by omega) (by decide)), LM0, show (800 : Int32) + nI i = nI (800 + i) from nI_add 800 i, gdi (show 800 + i < 4128 by omega) (by omega), bd_q, ix_nI (by omega), nI_1]
      exact r1
    · intro a k
      rw [r3, gA_sAi]
      by_cases z : a = 0 ∧ 800 + (i + 1) ≤ k ∧ k < 1376
      · rw [if_pos z, if_pos ⟨z.1, by omega, z.2.2⟩]
      · rw [if_neg z]
        by_cases y : a = 0 ∧ k = 800 + i
        · rw [if_pos y, if_pos ⟨y.1, by omega, by omega⟩]
        · rw [if_neg y, if_neg (fun q => by
            by_cases u : k = 800 + i
            · exact y ⟨q.1, u⟩
            · exact z ⟨q.1, by omega, q.2.2⟩)]
