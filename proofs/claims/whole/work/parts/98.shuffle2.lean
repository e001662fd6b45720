/-! ===== shuffle, to its end ===== -/
theorem SI_num {d d' dm dm' : Dt} (hs : SI d 2 (wOf dm)) (hw : ∀ i, i < 1376 → i ≠ 2 → ¬ (152 ≤ i ∧ i < 176) → wOf dm' i = wOf dm i) (h6 : AG d d' 6) (hF : ∀ j, j ≠ 2 → gF d' 2 j = gF d 2 j) (hr : ∀ j i, j < 32 → j ≠ 1 → j ≠ 8 → gA d' (32 * 2 + j) i = gA d (32 * 2 + j) i) (h2 : gF d' 2 2 = wOf dm' 2) (h0 : 0 ≤ wOf dm' 2) (hn : ∀ p, p < bP (wOf dm) → gA d' (32 * 2 + 1) p = wOf dm' (152 + p)) : SI d' 2 (wOf dm') := by
  obtain ⟨hv, hk, _, _, _, sb⟩ := hs
  have hb : BK d 6 (wOf dm) := hk
  have P24 := hv.P.2
  have nb : NBK (wOf dm) (wOf dm') := fun i a b c => hw i (by omega) (by omega) c
  obtain ⟨v1, v2, v3⟩ := VB_nb nb hv
  refine ⟨v1, ⟨?_, ?_, fun p hp => ?_⟩, h2, h0, fun p hp => hn p (by rw [← v2]; exact hp), ?_⟩
  · show gF d' 6 0 = _
    rw [h6.1, hw 0 (by omega) (by omega) (by omega)]; exact hb.1
  · show gF d' 6 1 = _
    rw [h6.1, hw 1 (by omega) (by omega) (by omega)]; exact hb.2.1
  · rw [v2] at hp
    have hV := hv.2.2.2 p hp
    have N5 := hV.N.2
    have C7 := hV.C.2
    obtain ⟨vE, vN, vC⟩ := v3 p (by omega)
    obtain ⟨a, b', c, e, f, g⟩ := hb.2.2 p hp
    refine ⟨?_, ?_, ?_, ?_, ?_, ?_⟩
    · show gA d' (32 * 6 + 2) p = _
      rw [h6.2 2 (by decide), hw _ (by omega) (by omega) (by omega)]; exact a
    · show gA d' (32 * 6 + 6) p = _
      rw [h6.2 6 (by decide), hw _ (by omega) (by omega) (by omega)]; exact b'
    · show gA d' (32 * 6 + 9) p = _
      rw [h6.2 9 (by decide), hw _ (by omega) (by omega) (by omega)]; exact c
    · show bE (wOf dm') p = 3 → gA d' (32 * 6 + 3) p = _ ∧ gA d' (32 * 6 + 4) p = _ ∧ gA d' (32 * 6 + 5) p = _
      rw [vE, h6.2 3 (by decide), h6.2 4 (by decide), h6.2 5 (by decide), hw (80 + p) (by omega) (by omega) (by omega), hw (104 + p) (by omega) (by omega) (by omega), hw (128 + p) (by omega) (by omega) (by omega)]; exact e
    · intro q hq
      rw [vN] at hq
      show gA d' (32 * 6 + 7) _ = _ ∧ gA d' (32 * 6 + 8) _ = _
      rw [h6.2 7 (by decide), h6.2 8 (by decide), hw (176 + (4 * p + q)) (by omega) (by omega) (by omega), hw (272 + (4 * p + q)) (by omega) (by omega) (by omega)]
      exact f q hq
    · intro q hq
      rw [vC] at hq
      show gA d' (32 * 6 + 10) _ = _ ∧ gA d' (32 * 6 + 11) _ = _ ∧ gA d' (32 * 6 + 12) _ = _
      rw [h6.2 10 (by decide), h6.2 11 (by decide), h6.2 12 (by decide), hw (368 + (6 * p + q)) (by omega) (by omega) (by omega), hw (512 + (6 * p + q)) (by omega) (by omega) (by omega), hw (656 + (6 * p + q)) (by omega) (by omega) (by omega)]
      exact g q hq
  · rw [hF 3 (by decide), hw 3 (by omega) (by omega) (by omega)]
    rcases sb with q | ⟨q, p, x, t, ⟨q3, q4, q5, q6, q7, q8⟩, r1, r2, r3⟩
    · exact .inl q
    · refine .inr ⟨q, p, x, t, ⟨?_, ?_, ?_, ?_, q7, q8⟩, ?_, ?_, ?_⟩
      · rw [hw 3 (by omega) (by omega) (by omega)]; exact q3
      · rw [hw 4 (by omega) (by omega) (by omega)]; exact q4
      · rw [hw 5 (by omega) (by omega) (by omega)]; exact q5
      · rw [v2]; exact q6
      · rw [hF 4 (by decide)]
        have : fat (wOf dm') p x = fat (wOf dm) p x := by unfold fat; rw [(v3 p (by omega)).1]
        rw [this]; exact r1
      · rw [hF 5 (by decide), hw 6 (by omega) (by omega) (by omega)]; exact r2
      · intro i hi
        rw [hr 7 _ (by decide) (by decide) (by decide), hw _ (by omega) (by omega) (by omega)]
        exact r3 i hi
theorem LM29 : LM (32 * 0 + 29) = 24 := rfl
/-- the best so far is kept -/
theorem best_m {p1 p2 x3 x4 x5 : Int32} (K70 : Int32 → Int32 → Dt → Option (Int32 × Dt)) (hlt : ¬ x3 ≤ x5) : ∀ (n i F : Nat) (e em : Dt), i + n = 24 → n < F → (∀ o, gF e o = gF em o) → (∀ a j, a ≠ 29 → gA e a j = gA em a j) → (∀ j, j < i → gA e 29 j = gA em 0 (152 + j)) → ∃ e', lp (fun k x => t_X6_shuffle_166 LM p1 p2 K70 (fun x3 x4 x5 x6 d => k (x3, x4, x5, x6, d)) x.1 x.2.1 x.2.2.1 x.2.2.2.1 x.2.2.2.2) F (x3, x4, x5, nI i, e) = K70 x5 (x4 + 1) e' ∧ (∀ o, gF e' o = gF em o) ∧ (∀ a j, a ≠ 29 → gA e' a j = gA em a j) ∧ ∀ j, j < 24 → gA e' 29 j = gA em 0 (152 + j) := by
  intro n
  induction n with
  | zero =>
    intro i F e em hi hF h1 h2 h3
    obtain ⟨F, rfl⟩ : ∃ G, F = G + 1 := ⟨F - 1, by omega⟩
    refine ⟨e, ?_, h1, h2, fun j hj => h3 j (by omega)⟩
    show t_X6_shuffle_166 LM p1 p2 K70 (fun x3 x4 x5 x6 d => lp _ F (x3, x4, x5, x6, d)) x3 x4 x5 (nI i) e = _
    rw [t_X6_shuffle_166, if_pos (show (24 : Int32) ≤ nI i from nI_le (a := 24) (by omega) (by omega)), t_X6_shuffle_203, if_neg hlt, t_X6_shuffle_215]
  | succ n ih =>
    intro i F e em hi hF h1 h2 h3
    obtain ⟨F, rfl⟩ : ∃ G, F = G + 1 := ⟨F - 1, by omega⟩
    show ∃ e', t_X6_shuffle_166 LM p1 p2 K70 (fun x3 x4 x5 x6 d => lp _ F (x3, x4, x5, x6, d)) x3 x4 x5 (nI i) e = _ ∧ _
    rw [t_X6_shuffle_166, if_neg (show ¬ (24 : Int32) ≤ nI i from nI_ge (b := 24) (by omega) (by decide)), if_neg hlt, show (152 : Int32) + nI i = nI (152 + i) from nI_add 152 i, LM0, gdi (show 152 + i < 4128 by omega) (by omega), LM29, gdi (show i < 24 by omega) (by omega), bd_q, ix_nI (by omega), ix_nI (by omega), nI_1]
    refine ih (i + 1) F _ em (by omega) (by omega) h1 (fun a j ha => by rw [gA_sAi, if_neg (fun y => ha y.1)]; exact h2 a j ha) (fun j hj => ?_)
    rw [gA_sAi]
    by_cases z : j = i
    · rw [if_pos ⟨rfl, z⟩, z]; exact h2 0 _ (by decide)
    · rw [if_neg (fun y => z y.2)]; exact h3 j (by omega)
theorem last_m {p1 p2 x3 : Int32} : ∀ (n i F : Nat) (e em : Dt), i + n = 24 → n < F → (∀ o, gF e o = gF em o) → (∀ a j, (a ≠ 0 ∨ ¬ (152 ≤ j ∧ j < 176)) → gA e a j = gA em a j) → (∀ j, j < i → gA e 0 (152 + j) = gA em 29 j) → ∃ e', lp (fun k x => t_X6_shuffle_225 LM p1 p2 (fun x3 x4 d => k (x3, x4, d)) x.1 x.2.1 x.2.2) F (x3, nI i, e) = some (x3, e') ∧ (∀ o, gF e' o = gF em o) ∧ (∀ a j, (a ≠ 0 ∨ ¬ (152 ≤ j ∧ j < 176)) → gA e' a j = gA em a j) ∧ ∀ j, j < 24 → gA e' 0 (152 + j) = gA em 29 j := by
  intro n
  induction n with
  | zero =>
    intro i F e em hi hF h1 h2 h3
    obtain ⟨F, rfl⟩ : ∃ G, F = G + 1 := ⟨F - 1, by omega⟩
    refine ⟨e, ?_, h1, h2, fun j hj => h3 j (by omega)⟩
    show t_X6_shuffle_225 LM p1 p2 (fun x3 x4 d => lp _ F (x3, x4, d)) x3 (nI i) e = _
    rw [t_X6_shuffle_225, if_pos (show (24 : Int32) ≤ nI i from nI_le (a := 24) (by omega) (by omega))]
  | succ n ih =>
    intro i F e em hi hF h1 h2 h3
    obtain ⟨F, rfl⟩ : ∃ G, F = G + 1 := ⟨F - 1, by omega⟩
    show ∃ e', t_X6_shuffle_225 LM p1 p2 (fun x3 x4 d => lp _ F (x3, x4, d)) x3 (nI i) e = _ ∧ _
    rw [t_X6_shuffle_225, if_neg (show ¬ (24 : Int32) ≤ nI i from nI_ge (b := 24) (by omega) (by decide)), LM29, gdi (show i < 24 by omega) (by omega), show (152 : Int32) + nI i = nI (152 + i) from nI_add 152 i, LM0, gdi (show 152 + i < 4128 by omega) (by omega), bd_q, ix_nI (by omega), ix_nI (by omega), nI_1]
    refine ih (i + 1) F _ em (by omega) (by omega) h1 (fun a j ha => by rw [gA_sAi, if_neg (by omega)]; exact h2 a j ha) (fun j hj => ?_)
    rw [gA_sAi]
    by_cases z : j = i
    · rw [if_pos ⟨rfl, by omega⟩, z]; exact h2 29 i (.inl (by decide))
    · rw [if_neg (by omega)]; exact h3 j (by omega)
/-- the first copy of the numbers -/
theorem first_m {p1 p2 x3 : Int32} : ∀ (n i F : Nat) (e em : Dt), i + n = 24 → n < F → (∀ o, gF e o = gF em o) → (∀ a j, a ≠ 29 → gA e a j = gA em a j) → (∀ j, j < i → gA e 29 j = gA em 0 (152 + j)) → ∃ e', lp (fun k x => t_X6_shuffle_36 LM p1 p2 (fun x3 x4 d => k (x3, x4, d)) x.1 x.2.1 x.2.2) F (x3, nI i, e) = lp (fun k x => t_X6_shuffle_70 LM p1 p2 (fun x3 x4 d => k (x3, x4, d)) x.1 x.2.1 x.2.2) FU (x3, 0, e') ∧ (∀ o, gF e' o = gF em o) ∧ (∀ a j, a ≠ 29 → gA e' a j = gA em a j) ∧ ∀ j, j < 24 → gA e' 29 j = gA em 0 (152 + j) := by
  intro n
  induction n with
  | zero =>
    intro i F e em hi hF h1 h2 h3
    obtain ⟨F, rfl⟩ : ∃ G, F = G + 1 := ⟨F - 1, by omega⟩
    refine ⟨e, ?_, h1, h2, fun j hj => h3 j (by omega)⟩
    show t_X6_shuffle_36 LM p1 p2 (fun x3 x4 d => lp _ F (x3, x4, d)) x3 (nI i) e = _
    rw [t_X6_shuffle_36, if_pos (show (24 : Int32) ≤ nI i from nI_le (a := 24) (by omega) (by omega))]
  | succ n ih =>
    intro i F e em hi hF h1 h2 h3
    obtain ⟨F, rfl⟩ : ∃ G, F = G + 1 := ⟨F - 1, by omega⟩
    show ∃ e', t_X6_shuffle_36 LM p1 p2 (fun x3 x4 d => lp _ F (x3, x4, d)) x3 (nI i) e = _ ∧ _
    rw [t_X6_shuffle_36, if_neg (show ¬ (24 : Int32) ≤ nI i from nI_ge (b := 24) (by omega) (by decide)), show (152 : Int32) + nI i = nI (152 + i) from nI_add 152 i, LM0, gdi (show 152 + i < 4128 by omega) (by omega), LM29, gdi (show i < 24 by omega) (by omega), bd_q, ix_nI (by omega), ix_nI (by omega), nI_1]
    refine ih (i + 1) F _ em (by omega) (by omega) h1 (fun a j ha => by rw [gA_sAi, if_neg (fun y => ha y.1)]; exact h2 a j ha) (fun j hj => ?_)
    rw [gA_sAi]
    by_cases z : j = i
    · rw [if_pos ⟨rfl, z⟩, z]; exact h2 0 _ (by decide)
    · rw [if_neg (fun y => z y.2)]; exact h3 j (by omega)
theorem ok_shuffle : ST_shuffle RLx := by
  intro L d dm k n p1 p2 h
  have triv : ∀ v : Int32, ∃ (r : Int32) (d' dm' : Dt), some (v, d) = some (r, d') ∧ some (v, dm) = some (r, dm') ∧ RLx L d' dm' k n := fun v => ⟨v, d, dm, rfl, rfl, h⟩
  have hv := h.2.1.1
  have hP := hv.P
  have hb : BK d 6 (wOf dm) := h.2.1.2.1
  have l8 : L (32 * 0 + 8) = 24 := h.1.2.2.2.2.2.1
  have l9 : L (32 * 0 + 9) = 24 := h.1.2.2.2.2.2.2.1
  have l65 : L (32 * 2 + 1) = 24 := h.1.1.2.1
  obtain ⟨F9, hFU⟩ : ∃ G, FU = G + 1 := ⟨FU - 1, by unfold FU; omega⟩
  unfold t_X5_shuffle t_X6_shuffle
  rw [in_I, Int32.toInt_toInt64, show (1 : Int64).toInt = ((1 : Nat) : Int) from rfl, show (24 : Int64).toInt = ((24 : Nat) : Int) from rfl, ob, in_I, Int32.toInt_toInt64, show (1 : Int64).toInt = ((1 : Nat) : Int) from rfl, show (99 : Int64).toInt = ((99 : Nat) : Int) from rfl, ob]
  rcases cmp1 p1 1 24 1 24 rfl rfl with ⟨a, b⟩ | ⟨a, a2, b⟩ | ⟨a, a2, b, dd, hd1, hd, rfl⟩
  · rw [if_pos a, if_neg b, if_pos rfl]; exact triv _
  · have a3 : (24 : Int32) < p1 := by
      apply Int32.lt_iff_toInt_lt.mpr
      have : ¬ p1.toInt ≤ (24 : Int32).toInt := fun z => a2 (Int32.le_iff_toInt_le.mpr z)
      omega
    rw [if_neg a, if_pos a3, if_neg b, if_pos rfl]; exact triv _
  · have a3 : ¬ (24 : Int32) < nI dd := nI_nlt (a := 24) hd (by decide)
    rw [if_neg a, if_neg a3, if_pos b, if_neg (show ¬ (1 : Int32) = 0 by decide)]
    rcases cmp1 p2 1 99 1 99 rfl rfl with ⟨c, c2⟩ | ⟨c, c2, c3⟩ | ⟨c, c2, c3, nn, hn1, hn, rfl⟩
    · rw [if_pos c, if_neg c2, if_pos rfl]; exact triv _
    · rw [if_neg c, if_neg c2, if_neg c3, if_pos rfl]; exact triv _
    · rw [if_neg c, if_pos c2, if_pos c3, if_neg (show ¬ (1 : Int32) = 0 by decide)]
      have hfn := NP.fn hv h.2.2.1
      obtain ⟨d1, r1, r2, r3, r4⟩ := findLinks_q hv hb h.lb l8
      have nr : ∀ p, p < bP (wOf dm) → gA d1 (32 * 2 + 1) p = nI ((ix (wOf dm (152 + p)) - 1) + 1) ∧ ix (wOf dm (152 + p)) - 1 < 24 := fun p hp => by
        rw [r3 _ _ (by decide), h.2.1.2.2.2.2.1 p hp]
        exact ⟨(hfn p hp).1, by have := (hfn p hp).2; omega⟩
      rw [r1, ob, nearPairs_q (N := fun p => ix (wOf dm (152 + p)) - 1) hv l8 l65 r4 nr (by omega), ob, nearBy_q (N := fun p => ix (wOf dm (152 + p)) - 1) hv (fun p hp => ⟨(hfn p hp).1, by have := (hfn p hp).2; omega⟩) (by omega) hd1, ob, NQ_cut hv, l9, l65, gd_h (show cpok 24 24 0 0 24 = true by decide), bd_q, show ix 0 = 0 from rfl, show ix 24 = 24 from rfl]
      have hv0 := S2_le (f := NQ (wOf dm) (fun p => ix (wOf dm (152 + p)) - 1) dd) (N := bP (wOf dm)) hP.2 (bP (wOf dm)) 0
      generalize S2 (NQ (wOf dm) (fun p => ix (wOf dm (152 + p)) - 1) dd) (bP (wOf dm)) (bP (wOf dm)) 0 = v0 at hv0
      obtain ⟨em0, s1, s2, s3, s4⟩ := first_m (p1 := nI dd) (p2 := nI nn) (x3 := nI v0) 24 0 FU dm dm (by omega) (by unfold FU; omega) (fun _ => rfl) (fun _ _ _ => rfl) (fun j hj => by omega)
      obtain ⟨j0, hj0, ej0⟩ := nI_of (x := wOf dm 2) (fun q => by
        have q1 := Int32.lt_iff_toInt_lt.mp q
        have q2 := Int32.le_iff_toInt_le.mp h.2.1.2.2.2.1
        omega)
      let e0 := sR d1 (32 * 0 + 9) (va_cpy (gA d1 (32 * 2 + 1)) (gA d1 (32 * 0 + 9)) 0 0 24)
      have hnum : ∀ p, p < bP (wOf dm) → gA d1 (32 * 2 + 1) p = gA dm 0 (152 + p) := fun p hp => by
        rw [r3 _ _ (by decide)]; exact h.2.1.2.2.2.2.1 p hp
      have sr0 : SR d1 dm e0 em0 (bP (wOf dm)) := by
        refine ⟨⟨j0, hj0, ?_, ?_⟩, fun _ _ _ => rfl, fun a i h1 _ => ?_, s2, fun a i h1 _ => s3 a i h1, fun p hp => ?_, ?_, fun p hp => ?_, ?_⟩
        · show gF d1 2 2 = _
          rw [congrFun (r2 2) 2, h.2.1.2.2.1]; exact ej0
        · rw [s3 0 2 (by decide)]; exact ej0
        · show gA (sR d1 _ _) a i = _
          rw [gA_sRi, if_neg h1]
        · show gA (sR d1 _ _) (32 * 0 + 9) p = _
          rw [gA_sRi, if_pos rfl, pk_cpy_in (by omega) (by omega), Nat.zero_add, Nat.sub_zero, hnum p hp, s3 0 _ (by decide)]
        · exact PM_cg (f := fun p => gA dm 0 (152 + p)) h.2.2.1 (fun p _ => s3 0 _ (by decide))
        · show gA (sR d1 _ _) (32 * 2 + 1) p = _
          rw [gA_sRi, if_neg (by decide), hnum p hp, s4 p (by omega)]
        · exact PM_cg (f := fun p => gA dm 0 (152 + p)) h.2.2.1 (fun p hp => s4 p (by omega))
      have main : ∀ (m i F G v : Nat) (e em : Dt), i + m = nn → m < F → m < G → v ≤ 576 → SR d1 dm e em (bP (wOf dm)) → ∃ r e' em', lp (fun k x => t_X5_shuffle_76 L (nI dd) (nI nn) (fun x3 x4 d => k (x3, x4, d)) x.1 x.2.1 x.2.2) F (nI v, nI i, e) = some (r, e') ∧ lp (fun k x => t_X6_shuffle_70 LM (nI dd) (nI nn) (fun x3 x4 d => k (x3, x4, d)) x.1 x.2.1 x.2.2) G (nI v, nI i, em) = lp (fun k x => t_X6_shuffle_225 LM (nI dd) (nI nn) (fun x3 x4 d => k (x3, x4, d)) x.1 x.2.1 x.2.2) FU (r, 0, em') ∧ SR d1 dm e' em' (bP (wOf dm)) := by
        intro m
        induction m with
        | zero =>
          intro i F G v e em hi hF hG hvv hsr
          obtain ⟨F, rfl⟩ : ∃ F', F = F' + 1 := ⟨F - 1, by omega⟩
          obtain ⟨G, rfl⟩ : ∃ F', G = F' + 1 := ⟨G - 1, by omega⟩
          refine ⟨nI v, e, em, ?_, ?_, hsr⟩
          · show t_X5_shuffle_76 L (nI dd) (nI nn) (fun x3 x4 d => lp _ F (x3, x4, d)) (nI v) (nI i) e = _
            rw [t_X5_shuffle_76, if_pos (nI_le (by omega) (by omega))]
          · show t_X6_shuffle_70 LM (nI dd) (nI nn) (fun x3 x4 d => lp _ G (x3, x4, d)) (nI v) (nI i) em = _
            rw [t_X6_shuffle_70, if_pos (nI_le (by omega) (by omega))]
        | succ m ih =>
          intro i F G v e em hi hF hG hvv hsr
          obtain ⟨F, rfl⟩ : ∃ F', F = F' + 1 := ⟨F - 1, by omega⟩
          obtain ⟨G, rfl⟩ : ∃ F', G = F' + 1 := ⟨G - 1, by omega⟩
          have hP0 : gF e 6 0 = nI (bP (wOf dm)) := by
            rw [hsr.2.1 6 0 (by decide), congrFun (r2 6) 0, hb.1]; exact hP.1
          have hW0 : gA em (32 * 0 + 0) (ix 0) = nI (bP (wOf dm)) := (hsr.2.2.2.2.1 0 0 (by decide) (.inr (by omega))).trans hP.1
          -- mixed
          have mx : ∃ e' em', t_X5_mixTriedNumbers L e = some e' ∧ lp (fun k x => t_X6_shuffle_86 LM (nI dd) (nI nn) (fun x3 x4 d => lp (fun k x => t_X6_shuffle_70 LM (nI dd) (nI nn) (fun x3 x4 d => k (x3, x4, d)) x.1 x.2.1 x.2.2) G (x3, x4, d)) (fun x3 x4 x5 d => k (x3, x4, x5, d)) x.1 x.2.1 x.2.2.1 x.2.2.2) FU (nI v, nI i, nI (bP (wOf dm)) - 1, em) = (t_X6_nearBy LM em' (nI dd)).bind (fun v18 => lp (fun k x => t_X6_shuffle_166 LM (nI dd) (nI nn) (fun x3 x4 d => lp (fun k x => t_X6_shuffle_70 LM (nI dd) (nI nn) (fun x3 x4 d => k (x3, x4, d)) x.1 x.2.1 x.2.2) G (x3, x4, d)) (fun x3 x4 x5 x6 d => k (x3, x4, x5, x6, d)) x.1 x.2.1 x.2.2.1 x.2.2.2.1 x.2.2.2.2) FU (nI v, nI i, v18, 0, em')) ∧ SR d1 dm e' em' (bP (wOf dm)) := by
            unfold t_X5_mixTriedNumbers
            rw [hP0, bd_q]
            by_cases z : bP (wOf dm) = 0
            · rw [z]
              rw [z] at hsr
              rw [hFU]
              refine ⟨e, em, ?_, ?_, hsr⟩
              · show t_X5_mixTriedNumbers_13 L (fun x1 d => lp _ F9 (x1, d)) (nI 0 - 1) e = _
                rw [t_X5_mixTriedNumbers_13, if_pos (by decide)]
              · show t_X6_shuffle_86 LM (nI dd) (nI nn) _ (fun x3 x4 x5 d => lp _ F9 (x3, x4, x5, d)) (nI v) (nI i) (nI 0 - 1) em = _
                rw [t_X6_shuffle_86, if_pos (by decide), hFU]
            · have e1 : nI (bP (wOf dm)) - 1 = nI (bP (wOf dm) - 1) := by
                obtain ⟨q, hq⟩ : ∃ q, bP (wOf dm) = q + 1 := ⟨bP (wOf dm) - 1, by omega⟩
                rw [hq, nI_pred]; rfl
              rw [e1]
              exact mix_q hP.2 l9 _ (bP (wOf dm) - 1) FU FU e em (by omega) (by unfold FU; omega) (by unfold FU; omega) hsr
          obtain ⟨e', em', x1, x2, x3⟩ := mx
          have nb := x3.nbk
          obtain ⟨v1, v2, _⟩ := VB_nb nb hv
          have hfe : ∀ p, p < bP (wOf dm) → gA em' 0 (152 + p) = nI ((ix (gA em' 0 (152 + p)) - 1) + 1) ∧ ix (gA em' 0 (152 + p)) - 1 < 24 := fun p hp => by
            obtain ⟨q, q1, q2⟩ := x3.2.2.2.2.2.2.1.1 p hp
            have q2' : gA em' 0 (152 + p) = nI (q + 1) := q2
            rw [q2', ix_nI (by omega)]
            exact ⟨rfl, by omega⟩
          have lr : LR e' (32 * 0 + 8) (Ld (wOf dm)) := LR_cg r4 (fun i => x3.2.2.1 _ i (by decide) (by decide)) (fun _ _ => Iff.rfl)
          have np := nearPairs_q (N := fun p => ix (gA em' 0 (152 + p)) - 1) (L := L) (d := e') (a0 := 32 * 0 + 8) (a1 := 32 * 0 + 9) (dd := dd) hv l8 l9 lr (fun p hp => by
            rw [x3.2.2.2.2.2.1 p hp]; exact hfe p hp) (by omega)
          have nm := nearBy_q (dm := em') (N := fun p => ix (gA em' 0 (152 + p)) - 1) (dd := dd) v1 (fun p hp => hfe p (by rw [← v2]; exact hp)) (by omega) hd1
          rw [NQ_nb nb hv, v2] at nm
          rw [NQ_cut hv] at np
          have hle := S2_le (f := NQ (wOf dm) (fun p => ix (gA em' 0 (152 + p)) - 1) dd) (N := bP (wOf dm)) hP.2 (bP (wOf dm)) 0
          generalize S2 (NQ (wOf dm) (fun p => ix (gA em' 0 (152 + p)) - 1) dd) (bP (wOf dm)) (bP (wOf dm)) 0 = v' at np nm hle
          show ∃ r e' em', t_X5_shuffle_76 L (nI dd) (nI nn) (fun x3 x4 d => lp _ F (x3, x4, d)) (nI v) (nI i) e = some (r, e') ∧ t_X6_shuffle_70 LM (nI dd) (nI nn) (fun x3 x4 d => lp _ G (x3, x4, d)) (nI v) (nI i) em = _ ∧ _
          have ni : ¬ nI nn ≤ nI i := nI_ge (by omega) (by omega)
          rw [t_X5_shuffle_76, if_neg ni, x1, ob, np, ob, t_X6_shuffle_70, if_neg ni, LM0, gd_h (show inb 0 4128 = true by decide), hW0, bd_q, bd_q, x2, nm, ob]
          by_cases c : v ≤ v'
          · have x166 : lp (fun k x => t_X6_shuffle_166 LM (nI dd) (nI nn) (fun x3 x4 d => lp (fun k x => t_X6_shuffle_70 LM (nI dd) (nI nn) (fun x3 x4 d => k (x3, x4, d)) x.1 x.2.1 x.2.2) G (x3, x4, d)) (fun x3 x4 x5 x6 d => k (x3, x4, x5, x6, d)) x.1 x.2.1 x.2.2.1 x.2.2.2.1 x.2.2.2.2) FU (nI v, nI i, nI v', 0, em') = lp (fun k x => t_X6_shuffle_70 LM (nI dd) (nI nn) (fun x3 x4 d => k (x3, x4, d)) x.1 x.2.1 x.2.2) G (nI v, nI (i + 1), em') := by
              rw [hFU]
              show t_X6_shuffle_166 LM (nI dd) (nI nn) _ (fun x3 x4 x5 x6 d => lp _ F9 (x3, x4, x5, x6, d)) (nI v) (nI i) (nI v') 0 em' = _
              have cle : nI v ≤ nI v' := nI_le c (by omega)
              rw [t_X6_shuffle_166, if_neg (by decide), if_pos cle, t_X6_shuffle_203, if_pos cle, t_X6_shuffle_215, nI_1]
            rw [if_pos (nI_le c (by omega)), t_X5_shuffle_127, nI_1, x166]
            exact ih (i + 1) F G v e' em' (by omega) (by omega) (by omega) hvv x3
          · have nle : ¬ nI v ≤ nI v' := nI_ge (by omega) (by omega)
            obtain ⟨em2, y1, y2, y3, y4⟩ := best_m (p1 := nI dd) (p2 := nI nn) (x3 := nI v) (x4 := nI i) (x5 := nI v') (fun x3 x4 d => lp (fun k x => t_X6_shuffle_70 LM (nI dd) (nI nn) (fun x3 x4 d => k (x3, x4, d)) x.1 x.2.1 x.2.2) G (x3, x4, d)) nle 24 0 FU em' em' (by omega) (by unfold FU; omega) (fun _ => rfl) (fun _ _ _ => rfl) (fun j hj => by omega)
            rw [if_neg nle, l9, l65, gd_h (show cpok 24 24 0 0 24 = true by decide), t_X5_shuffle_127, nI_1, show ix 0 = 0 from rfl, show ix 24 = 24 from rfl]
            rw [show lp (fun k x => t_X6_shuffle_166 LM (nI dd) (nI nn) (fun x3 x4 d => lp (fun k x => t_X6_shuffle_70 LM (nI dd) (nI nn) (fun x3 x4 d => k (x3, x4, d)) x.1 x.2.1 x.2.2) G (x3, x4, d)) (fun x3 x4 x5 x6 d => k (x3, x4, x5, x6, d)) x.1 x.2.1 x.2.2.1 x.2.2.2.1 x.2.2.2.2) FU (nI v, nI i, nI v', 0, em') = _ from y1, nI_1]
            refine ih (i + 1) F G v' _ em2 (by omega) (by omega) (by omega) (by omega) ?_
            obtain ⟨⟨j, j1, j2, j3⟩, a2, a3, a4, a5, a6, a7, a8, a9⟩ := x3
            refine ⟨⟨j, j1, j2, (y3 0 2 (by decide)).trans j3⟩, a2, fun a q h1 h2 => by rw [gA_sRi, if_neg h2]; exact a3 a q h1 h2, fun o => (y2 o).trans (a4 o), fun a q h1 h2 => (y3 a q h1).trans (a5 a q h1 h2), fun p hp => ?_, PM_cg a7 (fun p _ => y3 0 _ (by decide)), fun p hp => ?_, PM_cg a7 (fun p hp => y4 p (by omega))⟩
            · rw [gA_sRi, if_neg (by decide), y3 0 _ (by decide)]; exact a6 p hp
            · rw [gA_sRi, if_pos rfl, pk_cpy_in (by omega) (by omega), Nat.zero_add, Nat.sub_zero, y4 p (by omega)]; rw [Nat.zero_add]; exact a6 p hp
      obtain ⟨r, e', em', m1, m2, m3⟩ := main nn 0 FU FU v0 e0 em0 (by omega) (by unfold FU; omega) (by unfold FU; omega) (by omega) sr0
      obtain ⟨em3, w1, w2, w3, w4⟩ := last_m (p1 := nI dd) (p2 := nI nn) (x3 := r) 24 0 FU em' em' (by omega) (by unfold FU; omega) (fun _ => rfl) (fun _ _ _ => rfl) (fun j hj => by omega)
      obtain ⟨⟨j, j1, j2, j3⟩, a2, a3, a4, a5, a6, a7, a8, a9⟩ := m3
      have ag : ∀ x, x ≠ 0 → x ≠ 2 → AG d e' x := fun x h0 h2 => ⟨fun i => (a2 x i (by omega)).trans (congrFun (r2 x) i), fun i hi q => (a3 _ q (by omega) (by omega)).trans (r3 _ q (by omega))⟩
      have hwm : ∀ a i, a ≠ 29 → (a ≠ 0 ∨ ¬ (i = 2 ∨ (152 ≤ i ∧ i < 176))) → gA em3 a i = gA dm a i := fun a i h1 h2 => (w3 a i (by omega)).trans (a5 a i h1 h2)
      have fm : ∀ i, gF em3 0 i = gF dm 0 i := fun i => (congrFun (w2 0) i).trans (congrFun (a4 0) i)
      have e2 : wOf em3 2 = nI j := (w3 0 2 (.inr (by omega))).trans j3
      refine ⟨r, e', em3, m1, s1.trans (m2.trans w1), h.md (SI_num h.2.1 (fun i _ h2 h3 => hwm 0 i (by decide) (.inr (by omega))) (ag 6 (by decide) (by decide)) (fun i hi => (a2 2 i (by omega)).trans (congrFun (r2 2) i)) (fun i q hi h1 h8 => (a3 _ q (by omega) (by omega)).trans (r3 _ q (by omega))) (j2.trans e2.symm) (by rw [e2]; exact nI_pos' j1) (fun p hp => ?_)) ?_ (fun x h0 _ h2 _ _ => ag x h0 h2) (TX_cg h.2.2.2.2.2.1 ((ag 1 (by decide) (by decide)).1 1) (fun i => (ag 1 (by decide) (by decide)).2 3 (by decide) i) (fm 4) (fun i => hwm 3 i (by decide) (.inl (by decide)))) ?_ (LGR_cg h.2.2.2.2.2.2.2.1 ((a2 0 4 (by decide)).trans (congrFun (r2 0) 4)) (fun i => (a3 _ i (by decide) (by decide)).trans (r3 _ i (by decide))) (fm 23) (fun i => hwm 24 i (by decide) (.inl (by decide)))) ⟨(fm 15).trans h.2.2.2.2.2.2.2.2.1.1, (fm 16).trans h.2.2.2.2.2.2.2.2.1.2⟩ (fun i hi => hwm 0 i (by decide) (.inr (by omega))) (fun i => hwm 1 i (by decide) (.inl (by decide))) (fm 21) (fun i => hwm 19 i (by decide) (.inl (by decide))) (fun i => hwm 20 i (by decide) (.inl (by decide))) ?_⟩
      · show _ = gA em3 0 (152 + p)
        rw [w4 p (by omega)]; exact a8 p hp
      · have hPe : bP (wOf em3) = bP (wOf dm) := by unfold bP; rw [show wOf em3 0 = wOf dm 0 from hwm 0 0 (by decide) (.inr (by omega))]
        have : PM (bP (wOf dm)) (fun p => wOf em3 (152 + p)) := PM_cg a9 (fun p hp => w4 p (by omega))
        unfold NP
        rw [hPe]
        exact this
      · rw [(ag 1 (by decide) (by decide)).1 2, fm 9]; exact h.2.2.2.2.2.2.1
      · refine .inr ⟨(a2 0 7 (by decide)).trans (congrFun (r2 0) 7), ?_⟩
        exact bk_cg (fun i h1 h2 => hwm 0 i (by decide) (.inr (by omega)))
