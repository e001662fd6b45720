/-! ===== another seed; seed ===== -/
theorem SI_seed {d dm : Dt} {v : Int32} (hs : SI d 2 (wOf dm)) (h0 : 0 ≤ v) : SI (sF d 2 2 v) 2 (wOf (sA dm 0 2 v)) := by
  have h : ∀ i, i ≠ 2 → wOf (sA dm 0 2 v) i = wOf dm i := fun i hi => by rw [wOf_sA, if_neg hi]
  have h8 : ∀ i, i < 800 → (i < 2 ∨ 8 ≤ i) → wOf (sA dm 0 2 v) i = wOf dm i := fun i _ q => h i (by omega)
  have g : ∀ j, j ≠ 2 → gF (sF d 2 2 v) 2 j = gF d 2 j := fun j hj => gF_sFn (fun q => hj q.2)
  have hP := bP_congr h8
  obtain ⟨hv, hk, _, _, hn, hq⟩ := hs
  have P24 := hv.P.2
  refine ⟨VB_congr h8 hv, BK_congr (AG_sF (by decide)) h8 hv hk, ?_, ?_, ?_, ?_⟩
  · rw [gF_sF1, wOf_sA, if_pos rfl]
  · rw [wOf_sA, if_pos rfl]; exact h0
  · intro p hp
    rw [hP] at hp
    rw [h _ (by omega)]
    exact hn p hp
  · rw [g 3 (by decide), h 3 (by decide)]
    rcases hq with q | ⟨q, p, x, t, ⟨q3, q4, q5, q6, q7, q8⟩, r1, r2, r3⟩
    · exact .inl q
    · refine .inr ⟨q, p, x, t, ⟨?_, ?_, ?_, ?_, q7, q8⟩, ?_, ?_, ?_⟩
      · rw [h 3 (by decide)]; exact q3
      · rw [h 4 (by decide)]; exact q4
      · rw [h 5 (by decide)]; exact q5
      · rw [hP]; exact q6
      · rw [g 4 (by decide), fat_congr h8 (by omega)]; exact r1
      · rw [g 5 (by decide), h 6 (by decide)]; exact r2
      · intro i hi
        rw [h _ (by omega)]
        exact r3 i hi
theorem call_seed {L : Nat → Nat} {d dm : Dt} (hs : SI d 2 (wOf dm)) (x : Int32) : WR d dm (t_X5_seed L d x) (t_X6_seed LM dm x) := by
  unfold t_X5_seed t_X6_seed
  by_cases h : 0 ≤ x
  · rw [if_pos h, if_pos h, bd_q, bd_q, LM0, gd_h (show inb 2 4128 = true by decide), bd_q, gd_h (show inb 2 4128 = true by decide), bd_q, show gA dm (32 * 0 + 0) (ix 2) = wOf dm 2 from rfl, ← hs.2.2.1]
    exact ⟨_, _, _, rfl, rfl, SI_seed hs h, fun o ho => AG_sF ho, MG_sA (by decide)⟩
  · rw [if_neg h, if_neg h]
    exact WR_same hs _
