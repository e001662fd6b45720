/-! ===== a part's end; a new part ===== -/
theorem end_upd {d0 dm0 d dm d' dm' : Dt} {g g' p E nd x y : Nat} (h : INP d0 dm0 d dm g p) (hC0 : bC (rdm dm) p = 0) (hE1 : 1 ≤ E) (hE3 : E ≤ 3) (fd : ∀ o j, ¬ (o = 1 ∧ (j = 4 ∨ j = 9)) → gF d' o j = gF d o j) (ha : ∀ a i, a ≠ 39 → a ≠ 40 → ¬ ((a = 162 ∨ a = 163 ∨ a = 164 ∨ a = 165) ∧ i = p) → gA d' a i = gA d a i) (c2 : gA d' (32 * 5 + 2) p = nI E) (c3 : E = 3 → gA d' (32 * 5 + 3) p = nI nd ∧ gA d' (32 * 5 + 4) p = nI x ∧ gA d' (32 * 5 + 5) p = nI y) (fm : ∀ j, j ≠ 5 → j ≠ 6 → j ≠ 7 → j ≠ 14 → gF dm' 0 j = gF dm 0 j) (am : ∀ a i, a ≠ 2 → a ≠ 12 → a ≠ 13 → gA dm' a i = gA dm a i) (gmo : ∀ i, i ≠ 8 + p → i ≠ 80 + p → i ≠ 104 + p → i ≠ 128 + p → rdm dm' i = rdm dm i) (r8 : rdm dm' (8 + p) = nI E) (r3 : E = 3 → (rdm dm' (80 + p) = nI nd ∧ rdm dm' (104 + p) = nI x ∧ rdm dm' (128 + p) = nI y) ∧ (2 ≤ nd ∧ nd ≤ 6) ∧ (x < 24 ∧ y < 24) ∧ IGg dm' g' (nI x) ∧ IGg dm' g' (nI y)) (hgl : GLS d' dm' g') (hgg : g ≤ g') (hpre : ∀ i, i < g → gA dm' (32 * 0 + 12) i = gA dm (32 * 0 + 12) i) : GCs d0 dm0 d' dm' g' ∧ bP (rdm dm') = p + 1 := by
  obtain ⟨hG, hP, hE0, hgb⟩ := h
  have hG' := hG
  obtain ⟨a1, a2, a3, a4, a5, a6, a7, a8, a9, a10, a11⟩ := hG
  have p24 : p < 24 := by
    have := nb_ix a7.2.2.1 (by decide)
    have : bP (rdm dm) = ix (rdm dm 0) := rfl
    omega
  obtain ⟨⟨k1, k2, k3, k4, k5, k6⟩, ⟨v1, v2, v3, v4, v5, v6, v7⟩⟩ := a7.2.2.2.2.2.1 p (by omega)
  have N5 : bN (rdm dm) p < 5 := (nb_ix v2 (by decide)).2
  have eE : bE (rdm dm') p = E := by unfold bE; rw [r8, ix_nI (by omega)]
  have eN : bN (rdm dm') p = bN (rdm dm) p := by unfold bN; rw [gmo _ (by omega) (by omega) (by omega) (by omega)]
  have eC : bC (rdm dm') p = 0 := by unfold bC; rw [gmo _ (by omega) (by omega) (by omega) (by omega)]; exact hC0
  refine GC_upd (g' := g') (d' := d') (dm' := dm') hG' hP (a1.st (fun o j h5 h1 => fd o j (fun z => by have := h1 z.1; omega)) (fun a i h1 h2 => ha a i (by omega) (by omega) (by omega))) (a2.st (fun j hj => fm j hj.1 hj.2.1 hj.2.2.1 hj.2.2.2.2.2.2) (fun a i h => am a i h.1 h.2.1 h.2.2)) (fd 1 5 (by omega)) (fd 1 2 (by omega)) (fd 1 6 (by omega)) (fm 8 (by decide) (by decide) (by decide) (by decide)) (fm 9 (by decide) (by decide) (by decide) (by decide)) (fm 10 (by decide) (by decide) (by decide) (by decide)) ⟨fd 5 0 (by omega), fd 5 1 (by omega), fun j i hj hi => ha _ i (by omega) (by omega) (by omega), fun j i hj hi => ha _ i (by omega) (by omega) (by omega), fun j i hj hi => ha _ i (by omega) (by omega) (by omega)⟩ (fun i hi hn => gmo i (fun z => hn (by unfold PCl; omega)) (fun z => hn (by unfold PCl; omega)) (fun z => hn (by unfold PCl; omega)) (fun z => hn (by unfold PCl; omega))) ?_ ?_ ?_ hgl hgg hpre
  · refine ⟨?_, ?_, ?_, fun e => ?_, fun q hq => ?_, fun c hc => ?_⟩
    · rw [c2, r8]
    · rw [ha _ p (by omega) (by omega) (by omega), gmo _ (by omega) (by omega) (by omega) (by omega)]; exact k2
    · rw [ha _ p (by omega) (by omega) (by omega), gmo _ (by omega) (by omega) (by omega) (by omega)]; exact k3
    · rw [eE] at e
      have q := c3 e
      have q' := (r3 e).1
      exact ⟨q.1.trans q'.1.symm, q.2.1.trans q'.2.1.symm, q.2.2.trans q'.2.2.symm⟩
    · rw [eN] at hq
      rw [ha _ _ (by omega) (by omega) (by omega), ha _ _ (by omega) (by omega) (by omega), gmo _ (by omega) (by omega) (by omega) (by omega), gmo _ (by omega) (by omega) (by omega) (by omega)]
      exact k5 q hq
    · rw [eC] at hc; exact absurd hc (Nat.not_lt_zero _)
  · refine ⟨?_, ?_, ?_, fun _ => eC, fun e => ?_, fun q hq => ?_, fun c hc => ?_⟩
    · rw [r8]; exact ⟨E, by omega, rfl⟩
    · rw [gmo _ (by omega) (by omega) (by omega) (by omega)]; exact v2
    · rw [gmo _ (by omega) (by omega) (by omega) (by omega)]; exact v3
    · rw [eE] at e
      obtain ⟨⟨q1, q2, q3⟩, q4, q5, _⟩ := r3 e
      rw [q1, q2, q3, ix_nI (by omega)]
      exact ⟨⟨nd, by omega, rfl⟩, q4.1, ⟨x, q5.1, rfl⟩, ⟨y, q5.2, rfl⟩⟩
    · rw [eN] at hq
      have := v6 q hq
      unfold VE bK at this ⊢
      rw [gmo _ (by omega) (by omega) (by omega) (by omega), gmo _ (by omega) (by omega) (by omega) (by omega)]
      exact this
    · rw [eC] at hc; exact absurd hc (Nat.not_lt_zero _)
  · refine ⟨fun e => ?_, fun c hc => ?_⟩
    · rw [eE] at e
      obtain ⟨⟨q1, q2, q3⟩, _, _, q6⟩ := r3 e
      rw [q2, q3]
      exact q6
    · rw [eC] at hc; exact absurd hc (Nat.not_lt_zero _)
theorem addPart_q {L : Nat → Nat} {d : Dt} {p : Nat} (hl : LB L 5) (h0 : gF d 5 0 = nI p) (hp : p < 24) : t_X0_addPart L d 5 = some (nI p, sA (sA (sA (sF d 5 0 (nI (p + 1))) (32 * 5 + 2) p 0) (32 * 5 + 6) p 0) (32 * 5 + 9) p 0) := by
  obtain ⟨l2, _, _, _, l6, _, _, l9, _⟩ := hl
  unfold t_X0_addPart
  rw [h0, if_pos (show nI p < 24 from nI_lt (b := 24) hp (by decide)), bd_q, nI_1, bd_q, l2, gdi hp (by omega), bd_q, l6, gdi hp (by omega), bd_q, l9, gdi hp (by omega), bd_q, ix_nI (by omega)]
theorem part_new {d0 dm0 d dm : Dt} {g p : Nat} (h : GCs d0 dm0 d dm g) (hP : bP (rdm dm) = p) (hp : p < 24) (hg : g ≤ 6 * p) : INP d0 dm0 (sA (sA (sA (sF d 5 0 (nI (p + 1))) (32 * 5 + 2) p 0) (32 * 5 + 6) p 0) (32 * 5 + 9) p 0) (sA dm (32 * 0 + 2) 0 (nI (p + 1))) g p ∧ bN (rdm (sA dm (32 * 0 + 2) 0 (nI (p + 1)))) p = 0 ∧ bC (rdm (sA dm (32 * 0 + 2) 0 (nI (p + 1)))) p = 0 := by
  obtain ⟨a1, a2, a3, a4, a5, a6, a7, a8, a9, a10, a11⟩ := h
  obtain ⟨b1, b2, b3, b4, b5, b6, b7⟩ := a7
  generalize hd' : sA (sA (sA (sF d 5 0 (nI (p + 1))) (32 * 5 + 2) p 0) (32 * 5 + 6) p 0) (32 * 5 + 9) p 0 = d'
  generalize hm' : sA dm (32 * 0 + 2) 0 (nI (p + 1)) = dm'
  have gc : ∀ a i, ¬ ((a = 162 ∨ a = 166 ∨ a = 169) ∧ i = p) → gA d' a i = gA d a i := fun a i h => by
    rw [← hd', gA_sAi, if_neg (by omega), gA_sAi, if_neg (by omega), gA_sAi, if_neg (by omega)]; rfl
  have g2 : gA d' (32 * 5 + 2) p = 0 := by rw [← hd', gA_sAi, if_neg (by omega), gA_sAi, if_neg (by omega), gA_sAi, if_pos ⟨rfl, rfl⟩]
  have g6 : gA d' (32 * 5 + 6) p = 0 := by rw [← hd', gA_sAi, if_neg (by omega), gA_sAi, if_pos ⟨rfl, rfl⟩]
  have g9 : gA d' (32 * 5 + 9) p = 0 := by rw [← hd', gA_sAi, if_pos ⟨rfl, rfl⟩]
  have fd : ∀ o j, ¬ (o = 5 ∧ j = 0) → gF d' o j = gF d o j := fun o j hj => by rw [← hd']; exact gF_sFn hj
  have fd0 : gF d' 5 0 = nI (p + 1) := by rw [← hd', gF_sA, gF_sA, gF_sA, gF_sF1]
  have fm : ∀ j, gF dm' 0 j = gF dm 0 j := fun j => by rw [← hm']; rfl
  have am : ∀ a i, a ≠ 2 → gA dm' a i = gA dm a i := fun a i ha => by rw [← hm', gA_sAi, if_neg (by omega)]
  have r0 : rdm dm' 0 = nI (p + 1) := by
    show gA dm' (32 * 0 + 2) 0 = _
    rw [← hm', gA_sAi, if_pos ⟨rfl, rfl⟩]
  have ro : ∀ i, i ≠ 0 → rdm dm' i = rdm dm i := fun i hi => by
    show gA dm' (32 * 0 + 2) i = _
    rw [← hm', gA_sAi, if_neg (fun z => hi z.2)]; rfl
  have eP : bP (rdm dm') = p + 1 := by unfold bP; rw [r0, ix_nI (by omega)]
  obtain ⟨z1, z2, z3⟩ := b7 p (by omega) hp
  have eE : bE (rdm dm') p = 0 := by unfold bE; rw [ro _ (by omega), z1]; rfl
  have eN : bN (rdm dm') p = 0 := by unfold bN; rw [ro _ (by omega), z2]; rfl
  have eC : bC (rdm dm') p = 0 := by unfold bC; rw [ro _ (by omega), z3]; rfl
  have oE : ∀ q, bE (rdm dm') q = bE (rdm dm) q := fun q => by unfold bE; rw [ro _ (by omega)]
  have oN : ∀ q, bN (rdm dm') q = bN (rdm dm) q := fun q => by unfold bN; rw [ro _ (by omega)]
  have oC : ∀ q, bC (rdm dm') q = bC (rdm dm) q := fun q => by unfold bC; rw [ro _ (by omega)]
  refine ⟨⟨⟨a1.st (fun o j h5 _ => fd o j (fun z => h5 z.1)) (fun a i _ h => gc a i (by omega)), a2.st (fun j _ => fm j) (fun a i h => am a i h.1), (fd 1 5 (by omega)).trans a3, (fm 8).trans a4, by rw [fd 1 2 (by omega), fm 9]; exact a5, by rw [fd 1 6 (by omega), fm 10]; exact a6, ⟨fd0.trans r0.symm, by rw [fd 5 1 (by omega), ro 1 (by omega)]; exact b2, by rw [r0]; exact ⟨p + 1, by omega, rfl⟩, by rw [ro 1 (by omega)]; exact b4, by unfold bH; rw [ro 1 (by omega)]; exact b5, fun q hq => ?_, fun q h1 h2 => ?_⟩, fun q hq => ?_, ?_, by rw [ro 2 (by omega)]; exact a10, by rw [ro 3 (by omega)]; exact a11⟩, eP, eE, by omega⟩, eN, eC⟩
  · by_cases e : q = p
    · subst e
      refine ⟨⟨?_, ?_, ?_, fun e => ?_, fun k hk => ?_, fun c hc => ?_⟩, ⟨?_, ?_, ?_, fun e => absurd eE e, fun e => ?_, fun k hk => ?_, fun c hc => ?_⟩⟩
      · rw [g2, ro _ (by omega), z1]
      · rw [g6, ro _ (by omega), z2]
      · rw [g9, ro _ (by omega), z3]
      · rw [eE] at e; exact absurd e (by decide)
      · rw [eN] at hk; exact absurd hk (Nat.not_lt_zero _)
      · rw [eC] at hc; exact absurd hc (Nat.not_lt_zero _)
      · rw [ro _ (by omega), z1]; exact ⟨0, by decide, rfl⟩
      · rw [ro _ (by omega), z2]; exact ⟨0, by decide, rfl⟩
      · rw [ro _ (by omega), z3]; exact ⟨0, by decide, rfl⟩
      · rw [eE] at e; exact absurd e (by decide)
      · rw [eN] at hk; exact absurd hk (Nat.not_lt_zero _)
      · rw [eC] at hc; exact absurd hc (Nat.not_lt_zero _)
    · obtain ⟨⟨k1, k2, k3, k4, k5, k6⟩, ⟨v1, v2, v3, v4, v5, v6, v7⟩⟩ := b6 q (by omega)
      refine ⟨⟨?_, ?_, ?_, ?_, fun k hk => ?_, fun c hc => ?_⟩, ⟨?_, ?_, ?_, ?_, ?_, fun k hk => ?_, fun c hc => ?_⟩⟩
      · rw [gc _ q (by omega), ro _ (by omega)]; exact k1
      · rw [gc _ q (by omega), ro _ (by omega)]; exact k2
      · rw [gc _ q (by omega), ro _ (by omega)]; exact k3
      · rw [oE, gc _ q (by omega), gc _ q (by omega), gc _ q (by omega), ro (80 + q) (by omega), ro (104 + q) (by omega), ro (128 + q) (by omega)]; exact k4
      · rw [oN] at hk
        rw [gc _ _ (by omega), gc _ _ (by omega), ro (176 + (4 * q + k)) (by omega), ro (272 + (4 * q + k)) (by omega)]; exact k5 k hk
      · rw [oC] at hc
        rw [gc _ _ (by omega), gc _ _ (by omega), gc _ _ (by omega), ro (368 + (6 * q + c)) (by omega), ro (512 + (6 * q + c)) (by omega), ro (656 + (6 * q + c)) (by omega)]; exact k6 c hc
      · rw [ro _ (by omega)]; exact v1
      · rw [ro _ (by omega)]; exact v2
      · rw [ro _ (by omega)]; exact v3
      · rw [oE, oC]; exact v4
      · rw [oE, ro (80 + q) (by omega), ro (104 + q) (by omega), ro (128 + q) (by omega)]; exact v5
      · rw [oN] at hk
        have := v6 k hk
        unfold VE bK at this ⊢
        rw [ro (176 + (4 * q + k)) (by omega), ro (272 + (4 * q + k)) (by omega)]; exact this
      · rw [oC] at hc
        rw [ro (368 + (6 * q + c)) (by omega), ro (512 + (6 * q + c)) (by omega), ro (656 + (6 * q + c)) (by omega)]; exact v7 c hc
  · rw [eP] at h1
    rw [ro _ (by omega), ro _ (by omega), ro _ (by omega)]
    exact b7 q (by omega) h2
  · by_cases e : q = p
    · subst e
      exact ⟨fun e => by rw [eE] at e; exact absurd e (by decide), fun c hc => by rw [eC] at hc; exact absurd hc (Nat.not_lt_zero _)⟩
    · have i0 := a8 q (by omega)
      have mono : ∀ x, IGg dm g x → IGg dm' g x := fun x ⟨i, h1, h2⟩ => ⟨i, h1, (am _ i (by decide)).trans h2⟩
      refine ⟨fun e => ?_, fun c hc => ?_⟩
      · rw [oE] at e
        rw [ro (104 + q) (by omega), ro (128 + q) (by omega)]
        exact ⟨mono _ (i0.1 e).1, mono _ (i0.1 e).2⟩
      · rw [oC] at hc
        rw [ro (368 + (6 * q + c)) (by omega)]
        exact mono _ (i0.2 c hc)
  · obtain ⟨g1, gg2, g3, g4⟩ := a9
    refine ⟨(fd 1 9 (by omega)).trans g1, (fm 14).trans gg2, g3, fun i hi => ?_⟩
    rw [gc _ i (by omega), gc _ i (by omega), am _ i (by decide), am _ i (by decide)]
    exact g4 i hi
