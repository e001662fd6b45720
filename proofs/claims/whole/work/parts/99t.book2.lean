/-! ===== book, whole ===== -/
theorem ok_book : ST_book RLx := by
  intro L d dm kk nn h
  obtain ⟨tn, t1, t2, t3, t4⟩ := id h.2.2.2.2.2.1
  have l3 : L (32 * 1 + 3) = 600 := h.1.2.2.2.2.2.2.2.2.1
  have l7 : L (32 * 1 + 7) = 144 := h.1.2.2.2.2.2.2.2.2.2.1
  have l8 : L (32 * 1 + 8) = 144 := h.1.2.2.2.2.2.2.2.2.2.2
  have hl : LB L 5 := h.1.2.2.2.1
  obtain ⟨T, hT⟩ : ∃ T : Nat → Nat, ∀ i, i < tn → T i < 256 ∧ gA dm (32 * 0 + 3) i = nI (T i) ∧ gA d (32 * 1 + 3) i = sgn (T i) := by
    refine ⟨fun i => ix (gA dm (32 * 0 + 3) i), fun i hi => ?_⟩
    obtain ⟨b, b1, b2, b3⟩ := t4 i hi
    have e : ix (gA dm (32 * 0 + 3) i) = b := by rw [b2, ix_nI (by omega)]
    show ix (gA dm (32 * 0 + 3) i) < 256 ∧ _ = nI (ix (gA dm (32 * 0 + 3) i)) ∧ _ = sgn (ix (gA dm (32 * 0 + 3) i))
    rw [e]
    exact ⟨b1, b2, b3⟩
  have hc0 : TFc tn T L d := ⟨t1, t2, l3, fun i hi => ⟨(hT i hi).1, (hT i hi).2.2⟩⟩
  have hm0 : TFm tn T dm := ⟨t1, t3, fun i hi => ⟨(hT i hi).1, (hT i hi).2.1⟩⟩
  -- both begin
  generalize hd6 : sF (sF (sF (sF (sF (sF (sF d 1 4 0) 1 5 0) 1 2 (-1)) 1 6 0) 1 9 0) 5 0 0) 5 1 5 = d6
  have g6 : ∀ o j, o ≠ 5 → ¬ (o = 1 ∧ (j = 4 ∨ j = 5 ∨ j = 2 ∨ j = 6 ∨ j = 9)) → gF d6 o j = gF d o j := fun o j h5 h1 => by
    rw [← hd6, gF_sFn (by omega), gF_sFn (by omega), gF_sFn (by omega), gF_sFn (by omega), gF_sFn (by omega), gF_sFn (by omega), gF_sFn (by omega)]
  have r6 : ∀ a i, gA d6 a i = gA d a i := fun a i => by rw [← hd6]; rfl
  have pc6 : PFc d d6 := PFc.st (d := d) ⟨fun x _ _ => AG.refl d x, rfl, fun _ => rfl⟩ (fun o j h5 h1 => g6 o j h5 (fun z => by have := h1 z.1; omega)) (fun a i _ _ => r6 a i)
  have q4 : gF d6 1 4 = nI 0 := by
    rw [← hd6, gF_sFn (by omega), gF_sFn (by omega), gF_sFn (by omega), gF_sFn (by omega), gF_sFn (by omega), gF_sFn (by omega), gF_sF1]; rfl
  have q5 : gF d6 1 5 = 0 := by
    rw [← hd6, gF_sFn (by omega), gF_sFn (by omega), gF_sFn (by omega), gF_sFn (by omega), gF_sFn (by omega), gF_sF1]
  have q2 : gF d6 1 2 = -1 := by
    rw [← hd6, gF_sFn (by omega), gF_sFn (by omega), gF_sFn (by omega), gF_sFn (by omega), gF_sF1]
  have q6 : gF d6 1 6 = 0 := by
    rw [← hd6, gF_sFn (by omega), gF_sFn (by omega), gF_sFn (by omega), gF_sF1]
  have q9 : gF d6 1 9 = 0 := by
    rw [← hd6, gF_sFn (by omega), gF_sFn (by omega), gF_sF1]
  have q50 : gF d6 5 0 = 0 := by
    rw [← hd6, gF_sFn (by omega), gF_sF1]
  have q51 : gF d6 5 1 = 5 := by
    rw [← hd6, gF_sF1]
  obtain ⟨d7, p1, p2, p3⟩ := pass_q (hc0.p pc6) q4 (m := 0) (by omega)
  have p1' : t_X1_pass L d6 0 = some d7 := p1
  generalize hm5 : sF (sF (sF (sF (sF dm 0 5 0) 0 8 0) 0 9 (-1)) 0 10 0) 0 14 0 = m5
  have gm : ∀ j, j ≠ 5 → j ≠ 8 → j ≠ 9 → j ≠ 10 → j ≠ 14 → gF m5 0 j = gF dm 0 j := fun j h1 h2 h3 h4 h5 => by
    rw [← hm5, gF_sFn (by omega), gF_sFn (by omega), gF_sFn (by omega), gF_sFn (by omega), gF_sFn (by omega)]
  have rm : ∀ a i, gA m5 a i = gA dm a i := fun a i => by rw [← hm5]; rfl
  have u5 : gF m5 0 5 = nI 0 := by
    rw [← hm5, gF_sFn (by omega), gF_sFn (by omega), gF_sFn (by omega), gF_sFn (by omega), gF_sF1]; rfl
  have u8 : gF m5 0 8 = 0 := by
    rw [← hm5, gF_sFn (by omega), gF_sFn (by omega), gF_sFn (by omega), gF_sF1]
  have u9 : gF m5 0 9 = -1 := by
    rw [← hm5, gF_sFn (by omega), gF_sFn (by omega), gF_sF1]
  have u10 : gF m5 0 10 = 0 := by
    rw [← hm5, gF_sFn (by omega), gF_sF1]
  have u14 : gF m5 0 14 = 0 := by
    rw [← hm5, gF_sF1]
  obtain ⟨e', z1, z2, z3, z4⟩ := zero_lp m5 1376 0 FU m5 (by omega) (by unfold FU; omega) (fun _ => rfl) (fun _ _ _ => rfl) (fun j hj => absurd hj (Nat.not_lt_zero _))
  generalize hmI : sA (sA (sA e' (32 * 0 + 2) 1 5) (32 * 0 + 2) 2 (gA e' (32 * 0 + 0) 2)) (32 * 0 + 2) 3 (-1) = mI at z1
  have fI : ∀ j, gF mI 0 j = gF m5 0 j := fun j => by rw [← hmI]; exact congrFun (z2 0) j
  have aI : ∀ a i, a ≠ 2 → gA mI a i = gA dm a i := fun a i ha => by
    rw [← hmI, gA_sAi, if_neg (by omega), gA_sAi, if_neg (by omega), gA_sAi, if_neg (by omega), z3 a i ha]; exact rm a i
  have rI : ∀ i, i < 1376 → rdm mI i = if i = 3 then -1 else if i = 2 then wOf dm 2 else if i = 1 then 5 else 0 := fun i hi => by
    show gA mI (32 * 0 + 2) i = _
    rw [← hmI, gA_sAi, gA_sAi, gA_sAi]
    by_cases x3 : i = 3
    · rw [if_pos ⟨rfl, x3⟩, if_pos x3]
    · rw [if_neg (fun z => x3 z.2), if_neg x3]
      by_cases x2 : i = 2
      · rw [if_pos ⟨rfl, x2⟩, if_pos x2]
        exact (z3 0 2 (by decide)).trans (rm 0 2)
      · rw [if_neg (fun z => x2 z.2), if_neg x2]
        by_cases x1 : i = 1
        · rw [if_pos ⟨rfl, x1⟩, if_pos x1]
        · rw [if_neg (fun z => x1 z.2), if_neg x1]; exact z4 i hi
  have r0 : rdm mI 0 = 0 := by rw [rI 0 (by omega), if_neg (by decide), if_neg (by decide), if_neg (by decide)]
  have r1 : rdm mI 1 = 5 := by rw [rI 1 (by omega), if_neg (by decide), if_neg (by decide), if_pos rfl]
  have rz : ∀ i, i < 1376 → 4 ≤ i → rdm mI i = 0 := fun i h1 h2 => by rw [rI i h1, if_neg (by omega), if_neg (by omega), if_neg (by omega)]
  have bP0 : bP (rdm mI) = 0 := by unfold bP; rw [r0]; rfl
  have pmI : PFm dm mI := ⟨fun j hj => (fI j).trans (gm j hj.1 hj.2.2.2.1 hj.2.2.2.2.1 hj.2.2.2.2.2.1 hj.2.2.2.2.2.2), fun a i ha => aI a i ha.1⟩
  have hG : GCs d dm d7 mI 0 := by
    refine ⟨pc6.k p3, pmI, (p3.1 1 5 (by omega)).trans q5, (fI 8).trans u8, by rw [p3.1 1 2 (by omega), q2, fI, u9], ⟨by rw [p3.1 1 6 (by omega), q6, fI, u10], .inl ((fI 10).trans u10)⟩, ⟨by rw [p3.1 5 0 (by omega), q50, r0], by rw [p3.1 5 1 (by omega), q51, r1], by rw [r0]; exact ⟨0, by decide, rfl⟩, by rw [r1]; exact ⟨5, by decide, rfl⟩, by unfold bH; rw [r1]; decide, fun p hp => ?_, fun p _ hp => ⟨rz _ (by omega) (by omega), rz _ (by omega) (by omega), rz _ (by omega) (by omega)⟩⟩, fun p hp => ?_, ⟨by rw [p3.1 1 9 (by omega), q9]; rfl, by rw [fI, u14]; rfl, by omega, fun i hi => absurd hi (Nat.not_lt_zero _)⟩, ?_, ?_⟩
    · rw [bP0] at hp; exact absurd hp (Nat.not_lt_zero _)
    · rw [bP0] at hp; exact absurd hp (Nat.not_lt_zero _)
    · rw [rI 2 (by omega), if_neg (by decide), if_pos rfl]
    · rw [rI 3 (by omega), if_pos rfl]
  have hps : PSc tn T L d7 mI 0 := ⟨hc0.p hG.1, hm0.p hG.2.1, hG.2.2.1, hG.2.2.2.1, Nat.zero_le _, (fI 5).trans u5, p2⟩
  obtain ⟨d', dm', w1, w2, w3⟩ := parse_lp hl l7 l8 hc0 hm0 tn 0 0 0 FU d7 mI (by omega) (by unfold FU; omega) (Nat.le_refl _) hG (by omega) hps
  have ec : t_X1_parse L d = (t_X1_checkTargets L d').bind (fun d18 => some (gF d18 1 5, d18)) := by
    unfold t_X1_parse t_X0_empty
    rw [bd_q, bd_q, bd_q, bd_q, bd_q, bd_q, bd_q, ob, hd6, p1', ob]
    exact w1
  have em : t_X6_book LM dm = t_X6_book_94 LM dm' := by
    unfold t_X6_book
    rw [bd_q, bd_q, bd_q, bd_q, bd_q, hm5]
    exact z1.trans w2
  -- the targets
  have ck : ∃ e em', t_X1_checkTargets L d' = some e ∧ t_X6_book_94 LM dm' = t_X6_book_149 LM em' ∧ ((∃ g, GCs d dm e em' g ∧ ∀ j, j < g → ∃ v, v < bP (rdm em') ∧ gA em' (32 * 0 + 12) j = nI v) ∨ BDs d dm e em') := by
    rcases w3 with ⟨g, hg⟩ | hb
    · have g4 := hg.2.2.2.2.2.2.2.2.1.2.2.1
      obtain ⟨e, em', k1, k2, k3⟩ := check_lp l7 l8 hg g 0 FU (by omega) (by unfold FU; omega) (fun j hj => absurd hj (Nat.not_lt_zero _))
      refine ⟨e, em', k1, k2, ?_⟩
      rcases k3 with ⟨rfl, rfl, k⟩ | k
      · exact .inl ⟨g, hg, k⟩
      · exact .inr k
    · obtain ⟨F, hF⟩ := FU1
      obtain ⟨_, _, t, t1, t2, t3, t4, t5⟩ := id hb
      have nz : ¬ nI t = 0 := nI_ne0 (by omega) (by omega)
      refine ⟨d', dm', ?_, ?_, .inr hb⟩
      · unfold t_X1_checkTargets
        rw [hF]
        show t_X1_checkTargets_2 L (fun x1 d => lp _ F (x1, d)) 0 d' = _
        rw [t_X1_checkTargets_2, t3, if_neg nz]
        split <;> rfl
      · unfold t_X6_book_94
        rw [hF]
        show t_X6_book_96 LM (fun x1 d => lp _ F (x1, d)) 0 dm' = _
        rw [t_X6_book_96, t4, if_neg nz]
        split <;> rfl
  obtain ⟨e, em', k1, k2, k3⟩ := ck
  have en : ∃ (r : Int32) (d' dm' : Dt), (bd (sF e 1 1 0) (fun d2 => if gF e 1 5 = 0 then (t_X2_openBook L d2 2 5).bind (fun d4 => bd (sF d4 0 4 0) (fun d5 => bd (sF d5 0 7 0) (fun d6 => some (gF d6 6 0, d6)))) else some ((-10) - gF e 1 5, d2))) = some (r, d') ∧ t_X6_book_149 LM em' = some (r, dm') ∧ RLx L d' dm' kk nn := by
    rcases k3 with ⟨g, hg, k⟩ | hb
    · exact bk_open h hg k
    · exact bk_end h hb
  obtain ⟨r, d'', dm'', s1, s2, s3⟩ := en
  refine ⟨r, d'', dm'', ?_, (em.trans k2).trans s2, s3⟩
  unfold t_X5_book
  rw [ec, k1, ob, ob]
  exact s1
