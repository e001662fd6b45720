/-! ===== targets; loops of the opening ===== -/
theorem hasP5 {L : Nat → Nat} {d : Dt} {P v : Nat} (h0 : gF d 5 0 = nI P) (hP : P ≤ 24) (hv : v < 24) : t_X0_hasPart L d 5 (nI v) = some (if v < P then 1 else 0) := by
  unfold t_X0_hasPart
  rw [if_neg (nI_pos (by omega)), h0]
  by_cases z : v < P
  · rw [if_neg (nI_ge z (by omega)), if_pos z]
    exact if_neg (show ¬ nI 24 ≤ nI v from nI_ge (by omega) (by decide))
  · rw [if_pos (nI_le (by omega) (by omega)), if_neg z]
theorem check_lp {L : Nat → Nat} {d0 dm0 d dm : Dt} {g : Nat} (l7 : L (32 * 1 + 7) = 144) (l8 : L (32 * 1 + 8) = 144) (hG : GCs d0 dm0 d dm g) : ∀ (m i F : Nat), i + m = g → m + 1 < F → (∀ j, j < i → ∃ v, v < bP (rdm dm) ∧ gA dm (32 * 0 + 12) j = nI v) → ∃ d' dm', lp (fun k x => t_X1_checkTargets_2 L (fun x1 d => k (x1, d)) x.1 x.2) F (nI i, d) = some d' ∧ lp (fun k x => t_X6_book_96 LM (fun x1 d => k (x1, d)) x.1 x.2) F (nI i, dm) = t_X6_book_149 LM dm' ∧ ((d' = d ∧ dm' = dm ∧ ∀ j, j < g → ∃ v, v < bP (rdm dm) ∧ gA dm (32 * 0 + 12) j = nI v) ∨ BDs d0 dm0 d' dm') := by
  obtain ⟨a1, a2, a3, a4, a5, a6, a7, a8, a9, a10, a11⟩ := id hG
  obtain ⟨g1, g2, g3, g4⟩ := a9
  have hP := nb_ix a7.2.2.1 (by decide)
  have hP' : bP (rdm dm) = ix (rdm dm 0) := rfl
  have z0 : gF d 5 0 = nI (bP (rdm dm)) := a7.1.trans hP.1
  intro m
  induction m with
  | zero =>
    intro i F hi hF hj
    obtain ⟨F, rfl⟩ : ∃ G, F = G + 1 := ⟨F - 1, by omega⟩
    have le : nI g ≤ nI i := nI_le (by omega) (by omega)
    refine ⟨d, dm, ?_, ?_, .inl ⟨rfl, rfl, fun j h => hj j (by omega)⟩⟩
    · show t_X1_checkTargets_2 L (fun x1 d => lp _ F (x1, d)) (nI i) d = _
      rw [t_X1_checkTargets_2, g1, if_pos le]
    · show t_X6_book_96 LM (fun x1 d => lp _ F (x1, d)) (nI i) dm = _
      rw [t_X6_book_96, g2, if_pos le]
  | succ m ih =>
    intro i F hi hF hj
    obtain ⟨F, rfl⟩ : ∃ G, F = G + 2 := ⟨F - 2, by omega⟩
    have le : ¬ nI g ≤ nI i := nI_ge (by omega) (by omega)
    obtain ⟨q1, q2, v, v24, q3⟩ := g4 i (by omega)
    show ∃ d' dm', t_X1_checkTargets_2 L (fun x1 d => lp _ (F + 1) (x1, d)) (nI i) d = _ ∧ t_X6_book_96 LM (fun x1 d => lp _ (F + 1) (x1, d)) (nI i) dm = _ ∧ _
    rw [t_X1_checkTargets_2, g1, if_neg le, if_pos a3, l7, gdi (show i < 144 by omega) (by omega), ix_nI (by omega), q1, q3, hasP5 z0 (by omega) v24, ob, t_X6_book_96, g2, if_neg le, if_pos a4, LM12, gdi (show i < 200 by omega) (by omega), LM2, gd_h (show inb 0 1376 = true by decide), show gA dm (32 * 0 + 2) (ix 0) = nI (bP (rdm dm)) from hP.1, ix_nI (by omega), q3]
    by_cases z : v < bP (rdm dm)
    · rw [if_pos z, if_neg (show ¬ (1 : Int32) = 0 by decide), t_X1_checkTargets_44, nI_1, if_neg (nI_ge z (by omega)), t_X6_book_132, LM13, gdi (show i < 200 by omega) (by omega), want_1 a4, ob, nI_1]
      exact ih (i + 1) (F + 1) (by omega) (by omega) (fun j h => by
        by_cases y : j = i
        · rw [y]; exact ⟨v, z, q3⟩
        · exact hj j (by omega))
    · have hb : BDs d0 dm0 (sF (sF d 1 5 (nI 4)) 1 2 (gA dm (32 * 0 + 13) i)) (sF (sF dm 0 8 (nI 4)) 0 9 (gA dm (32 * 0 + 13) i)) := BDs.mk0 a1 a2 (KMu.rf dm) (by decide) (by decide)
      rw [if_neg z, if_pos rfl, l8, gdi (show i < 144 by omega) (by omega), q2, show (4 : Int32) = nI 4 from rfl, fail_q a3, ob, t_X1_checkTargets_44, if_pos (nI_le (by omega) (by omega)), t_X6_book_132, LM13, gdi (show i < 200 by omega) (by omega), ix_nI (by omega), show (4 : Int32) = nI 4 from rfl, want_0 a4 (by decide) (by decide), ob]
      obtain ⟨_, _, t, t1, t2, t3, t4, t5⟩ := id hb
      have nz : ¬ nI t = 0 := nI_ne0 (by omega) (by omega)
      refine ⟨_, _, ?_, ?_, .inr hb⟩
      · show t_X1_checkTargets_2 L (fun x1 d => lp _ F (x1, d)) (nI i + 1) _ = _
        rw [t_X1_checkTargets_2, t3, if_neg nz]
        split <;> rfl
      · show t_X6_book_96 LM (fun x1 d => lp _ F (x1, d)) (nI i + 1) _ = _
        rw [t_X6_book_96, t4, if_neg nz]
        split <;> rfl
/-- all cells of the draft are emptied -/
theorem zero_lp (dm : Dt) : ∀ (m i F : Nat) (e : Dt), i + m = 1376 → m < F → (∀ o, gF e o = gF dm o) → (∀ a j, a ≠ 2 → gA e a j = gA dm a j) → (∀ j, j < i → gA e (32 * 0 + 2) j = 0) → ∃ e', lp (fun k x => t_X6_book_27 LM (fun x1 d => k (x1, d)) x.1 x.2) F (nI i, e) = lp (fun k x => t_X6_book_73 LM (fun d => k d) x) FU (sA (sA (sA e' (32 * 0 + 2) 1 5) (32 * 0 + 2) 2 (gA e' (32 * 0 + 0) 2)) (32 * 0 + 2) 3 (-1)) ∧ (∀ o, gF e' o = gF dm o) ∧ (∀ a j, a ≠ 2 → gA e' a j = gA dm a j) ∧ ∀ j, j < 1376 → gA e' (32 * 0 + 2) j = 0 := by
  intro m
  induction m with
  | zero =>
    intro i F e hi hF h1 h2 h3
    obtain ⟨F, rfl⟩ : ∃ G, F = G + 1 := ⟨F - 1, by omega⟩
    refine ⟨e, ?_, h1, h2, fun j hj => h3 j (by omega)⟩
    show t_X6_book_27 LM (fun x1 d => lp _ F (x1, d)) (nI i) e = _
    rw [t_X6_book_27, if_pos (show (1376 : Int32) ≤ nI i from nI_le (a := 1376) (by omega) (by omega)), LM2, gd_h (show inb 1 1376 = true by decide), bd_q, LM0, gd_h (show inb 2 4128 = true by decide), gd_h (show inb 2 1376 = true by decide), bd_q, gd_h (show inb 3 1376 = true by decide), bd_q]
    rfl
  | succ m ih =>
    intro i F e hi hF h1 h2 h3
    obtain ⟨F, rfl⟩ : ∃ G, F = G + 1 := ⟨F - 1, by omega⟩
    show ∃ e', t_X6_book_27 LM (fun x1 d => lp _ F (x1, d)) (nI i) e = _ ∧ _
    rw [t_X6_book_27, if_neg (show ¬ (1376 : Int32) ≤ nI i from nI_ge (b := 1376) (by omega) (by decide)), LM2, gdi (show i < 1376 by omega) (by omega), bd_q, ix_nI (by omega), nI_1]
    refine ih (i + 1) F _ (by omega) (by omega) h1 (fun a j ha => by rw [gA_sAi, if_neg (by omega)]; exact h2 a j ha) (fun j hj => ?_)
    rw [gA_sAi]
    by_cases z : j = i
    · rw [if_pos ⟨rfl, z⟩]
    · rw [if_neg (fun y => z y.2)]; exact h3 j (by omega)
/-- the row is taken over -/
theorem take_lp (dm : Dt) : ∀ (m i F : Nat) (e : Dt), i + m = 1376 → m < F → (∀ o, gF e o = gF dm o) → (∀ a j, a ≠ 0 → gA e a j = gA dm a j) → (∀ j, gA e 0 j = if j < i then gA dm 2 j else gA dm 0 j) → ∃ e', lp (fun k x => t_X6_book_198 LM (fun x1 d => k (x1, d)) x.1 x.2) F (nI i, e) = some (gA dm 2 0, sF e' 0 23 0) ∧ (∀ o, gF e' o = gF dm o) ∧ (∀ a j, a ≠ 0 → gA e' a j = gA dm a j) ∧ ∀ j, gA e' 0 j = if j < 1376 then gA dm 2 j else gA dm 0 j := by
  intro m
  induction m with
  | zero =>
    intro i F e hi hF h1 h2 h3
    obtain ⟨F, rfl⟩ : ∃ G, F = G + 1 := ⟨F - 1, by omega⟩
    have e1 : i = 1376 := by omega
    subst e1
    refine ⟨e, ?_, h1, h2, h3⟩
    show t_X6_book_198 LM (fun x1 d => lp _ F (x1, d)) (nI 1376) e = _
    rw [t_X6_book_198, if_pos (show (1376 : Int32) ≤ nI 1376 by decide), bd_q, LM0, gd_h (show inb 0 4128 = true by decide)]
    show some (gA e 0 0, sF e 0 23 0) = _
    rw [h3 0, if_pos (by decide)]
  | succ m ih =>
    intro i F e hi hF h1 h2 h3
    obtain ⟨F, rfl⟩ : ∃ G, F = G + 1 := ⟨F - 1, by omega⟩
    show ∃ e', t_X6_book_198 LM (fun x1 d => lp _ F (x1, d)) (nI i) e = _ ∧ _
    rw [t_X6_book_198, if_neg (show ¬ (1376 : Int32) ≤ nI i from nI_ge (b := 1376) (by omega) (by decide)), LM2, gdi (show i < 1376 by omega) (by omega), LM0, gdi (show i < 4128 by omega) (by omega), bd_q, ix_nI (by omega), nI_1]
    refine ih (i + 1) F _ (by omega) (by omega) h1 (fun a j ha => by rw [gA_sAi, if_neg (by omega)]; exact h2 a j ha) (fun j => ?_)
    rw [gA_sAi]
    by_cases z : j = i
    · rw [if_pos ⟨rfl, z⟩, if_pos (by omega), z]; exact h2 2 i (by decide)
    · rw [if_neg (fun y => z y.2), h3 j]
      by_cases y : j < i
      · rw [if_pos y, if_pos (by omega)]
      · rw [if_neg y, if_neg (by omega)]
/-- numbers as they are told, in both -/
theorem nums_m (dm : Dt) : ∀ (m i F : Nat) (e : Dt), i + m = 24 → m < F → (∀ o, gF e o = gF dm o) → (∀ a j, a ≠ 2 → gA e a j = gA dm a j) → (∀ j, gA e 2 j = if 152 ≤ j ∧ j < 152 + i then nI (j - 152 + 1) else gA dm 2 j) → ∃ e', lp (fun k x => t_X6_book_171 LM (fun x1 d => k (x1, d)) x.1 x.2) F (nI i, e) = lp (fun k x => t_X6_book_198 LM (fun x1 d => k (x1, d)) x.1 x.2) FU (0, e') ∧ (∀ o, gF e' o = gF dm o) ∧ (∀ a j, a ≠ 2 → gA e' a j = gA dm a j) ∧ ∀ j, gA e' 2 j = if 152 ≤ j ∧ j < 176 then nI (j - 152 + 1) else gA dm 2 j := by
  intro m
  induction m with
  | zero =>
    intro i F e hi hF h1 h2 h3
    obtain ⟨F, rfl⟩ : ∃ G, F = G + 1 := ⟨F - 1, by omega⟩
    have e1 : i = 24 := by omega
    subst e1
    refine ⟨e, ?_, h1, h2, h3⟩
    show t_X6_book_171 LM (fun x1 d => lp _ F (x1, d)) (nI 24) e = _
    rw [t_X6_book_171, if_pos (show (24 : Int32) ≤ nI 24 by decide)]
  | succ m ih =>
    intro i F e hi hF h1 h2 h3
    obtain ⟨F, rfl⟩ : ∃ G, F = G + 1 := ⟨F - 1, by omega⟩
    show ∃ e', t_X6_book_171 LM (fun x1 d => lp _ F (x1, d)) (nI i) e = _ ∧ _
    rw [t_X6_book_171, if_neg (show ¬ (24 : Int32) ≤ nI i from nI_ge (b := 24) (by omega) (by decide)), LM2, show (152 : Int32) + nI i = nI (152 + i) from nI_add 152 i, gdi (show 152 + i < 1376 by omega) (by omega), bd_q, ix_nI (by omega), nI_1]
    refine ih (i + 1) F _ (by omega) (by omega) h1 (fun a j ha => by rw [gA_sAi, if_neg (by omega)]; exact h2 a j ha) (fun j => ?_)
    rw [gA_sAi]
    by_cases z : j = 152 + i
    · rw [if_pos ⟨rfl, z⟩, if_pos (by omega), z, show 152 + i - 152 + 1 = i + 1 by omega]
    · rw [if_neg (fun y => z y.2), h3 j]
      by_cases y : 152 ≤ j ∧ j < 152 + i
      · rw [if_pos y, if_pos (by omega)]
      · rw [if_neg y, if_neg (by omega)]
theorem nums_c {L : Nat → Nat} (l65 : L (32 * 2 + 1) = 24) (d : Dt) : ∀ (m i F : Nat) (e : Dt), i + m = 24 → m < F → (∀ o, gF e o = gF d o) → (∀ a j, a ≠ 65 → gA e a j = gA d a j) → (∀ j, j < i → gA e (32 * 2 + 1) j = nI (j + 1)) → ∃ e', lp (fun k x => t_X2_openBook_15 L 2 5 (fun x2 d => k (x2, d)) x.1 x.2) F (nI i, e) = some e' ∧ (∀ o, gF e' o = gF d o) ∧ (∀ a j, a ≠ 65 → gA e' a j = gA d a j) ∧ ∀ j, j < 24 → gA e' (32 * 2 + 1) j = nI (j + 1) := by
  intro m
  induction m with
  | zero =>
    intro i F e hi hF h1 h2 h3
    obtain ⟨F, rfl⟩ : ∃ G, F = G + 1 := ⟨F - 1, by omega⟩
    refine ⟨e, ?_, h1, h2, fun j hj => h3 j (by omega)⟩
    show t_X2_openBook_15 L 2 5 (fun x2 d => lp _ F (x2, d)) (nI i) e = _
    rw [t_X2_openBook_15, if_pos (show (24 : Int32) ≤ nI i from nI_le (a := 24) (by omega) (by omega))]
  | succ m ih =>
    intro i F e hi hF h1 h2 h3
    obtain ⟨F, rfl⟩ : ∃ G, F = G + 1 := ⟨F - 1, by omega⟩
    show ∃ e', t_X2_openBook_15 L 2 5 (fun x2 d => lp _ F (x2, d)) (nI i) e = _ ∧ _
    rw [t_X2_openBook_15, if_neg (show ¬ (24 : Int32) ≤ nI i from nI_ge (b := 24) (by omega) (by decide)), l65, gdi (show i < 24 by omega) (by omega), bd_q, ix_nI (by omega), nI_1]
    refine ih (i + 1) F _ (by omega) (by omega) h1 (fun a j ha => by rw [gA_sAi, if_neg (by omega)]; exact h2 a j ha) (fun j hj => ?_)
    rw [gA_sAi]
    by_cases z : j = i
    · rw [if_pos ⟨rfl, z⟩, z]
    · rw [if_neg (fun y => z y.2)]; exact h3 j (by omega)
