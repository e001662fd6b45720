/-! ===== book ===== -/
theorem VB_of {d0 dm0 e em : Dt} {g : Nat} (hG : GCs d0 dm0 e em g) (hg : ∀ j, j < g → ∃ v, v < bP (rdm em) ∧ gA em (32 * 0 + 12) j = nI v) : VB (rdm em) := by
  obtain ⟨a1, a2, a3, a4, a5, a6, a7, a8, a9, a10, a11⟩ := hG
  obtain ⟨b1, b2, b3, b4, b5, b6, b7⟩ := a7
  have up : ∀ x, IGg em g x → NB x (bP (rdm em)) := fun x ⟨i, i1, i2⟩ => by
    obtain ⟨v, v1, v2⟩ := hg i i1
    exact ⟨v, v1, i2.symm.trans v2⟩
  refine ⟨b3, b4, b5, fun p hp => ?_⟩
  obtain ⟨_, ⟨v1, v2, v3, v4, v5, v6, v7⟩⟩ := b6 p hp
  obtain ⟨i1, i2⟩ := a8 p hp
  exact ⟨v1, v2, v3, v4, fun e => ⟨(v5 e).1, (v5 e).2.1, up _ (i1 e).1, up _ (i1 e).2⟩, v6, fun c hc => ⟨up _ (i2 c hc), (v7 c hc).2.1, (v7 c hc).2.2⟩⟩
theorem bk_end {L : Nat → Nat} {d dm e em : Dt} {k n : Nat} (h : RLx L d dm k n) (hb : BDs d dm e em) : ∃ (r : Int32) (d' dm' : Dt), (bd (sF e 1 1 0) (fun d2 => if gF e 1 5 = 0 then (t_X2_openBook L d2 2 5).bind (fun d4 => bd (sF d4 0 4 0) (fun d5 => bd (sF d5 0 7 0) (fun d6 => some (gF d6 6 0, d6)))) else some ((-10) - gF e 1 5, d2))) = some (r, d') ∧ t_X6_book_149 LM em = some (r, dm') ∧ RLx L d' dm' k n := by
  obtain ⟨pc, pm, t, t1, t2, t3, t4, t5⟩ := hb
  have nz : ¬ nI t = 0 := nI_ne0 (by omega) (by omega)
  have nle : ¬ nI t ≤ 0 := nI_ge (a := 0) (by omega) (by omega)
  have wq : wOf (sF em 0 4 0) = wOf dm := funext (fun i => pm.2 0 i (by decide))
  have ag : ∀ x, x ≠ 1 → x ≠ 5 → AG d (sF e 1 1 0) x := fun x h1 h5 => (pc.1 x h1 h5).trans (AG_sF h1)
  have fm : ∀ j, j ≠ 4 → (j ≠ 5 ∧ j ≠ 6 ∧ j ≠ 7 ∧ j ≠ 8 ∧ j ≠ 9 ∧ j ≠ 10 ∧ j ≠ 14) → gF (sF em 0 4 0) 0 j = gF dm 0 j := fun j h4 hj => by rw [gF_sFn (fun z => h4 z.2)]; exact pm.1 j hj
  unfold t_X6_book_149
  rw [bd_q, t3, if_neg nz, bd_q, gF_sFn (by omega), t4, if_neg nle]
  refine ⟨_, _, _, rfl, rfl, h.md ?_ (by rw [wq]; exact h.2.2.1) (fun x _ h1 _ h5 _ => ag x h1 h5) ⟨0, by decide, gF_sF1 _ _ _ _, gF_sF1 _ _ _ _, fun i hi => absurd hi (Nat.not_lt_zero _)⟩ ?_ (LGR_cg h.2.2.2.2.2.2.2.1 ((ag 0 (by decide) (by decide)).1 4) (fun i => (ag 0 (by decide) (by decide)).2 3 (by decide) i) (fm 23 (by decide) (by decide)) (fun i => pm.2 _ i (by decide))) ⟨(fm 15 (by decide) (by decide)).trans h.2.2.2.2.2.2.2.2.1.1, (fm 16 (by decide) (by decide)).trans h.2.2.2.2.2.2.2.2.1.2⟩ (fun i _ => pm.2 0 i (by decide)) (fun i => pm.2 1 i (by decide)) (fm 21 (by decide) (by decide)) (fun i => pm.2 19 i (by decide)) (fun i => pm.2 20 i (by decide)) (.inr ⟨(ag 0 (by decide) (by decide)).1 7, by rw [wq]⟩)⟩
  · rw [wq]; exact SI_congr (ag 2 (by decide) (by decide)) (ag 6 (by decide) (by decide)) (fun _ _ => rfl) h.2.1
  · rw [gF_sFn (by omega), gF_sFn (by omega)]; exact t5
theorem bk_open {L : Nat → Nat} {d dm e em : Dt} {k n g : Nat} (h : RLx L d dm k n) (hG : GCs d dm e em g) (hg : ∀ j, j < g → ∃ v, v < bP (rdm em) ∧ gA em (32 * 0 + 12) j = nI v) : ∃ (r : Int32) (d' dm' : Dt), (bd (sF e 1 1 0) (fun d2 => if gF e 1 5 = 0 then (t_X2_openBook L d2 2 5).bind (fun d4 => bd (sF d4 0 4 0) (fun d5 => bd (sF d5 0 7 0) (fun d6 => some (gF d6 6 0, d6)))) else some ((-10) - gF e 1 5, d2))) = some (r, d') ∧ t_X6_book_149 LM em = some (r, dm') ∧ RLx L d' dm' k n := by
  have hv := VB_of hG hg
  obtain ⟨pc, pm, a3, a4, a5, a6, a7, a8, a9, a10, a11⟩ := hG
  have ag : ∀ x, x ≠ 1 → x ≠ 5 → AG d (sF e 1 1 0) x := fun x h1 h5 => (pc.1 x h1 h5).trans (AG_sF h1)
  obtain ⟨d1, c1, c2, c3, c4, c5⟩ := copyB_r (L := L) (d := sF e 1 1 0) (b := 6) (b1 := 5) (by decide) h.lb h.1.2.2.2.1
  obtain ⟨e2, n1, n2, n3, n4⟩ := nums_c (L := L) h.1.1.2.1 (sF d1 2 3 0) 24 0 FU (sF d1 2 3 0) (by omega) (by unfold FU; omega) (fun _ => rfl) (fun _ _ _ => rfl) (fun j hj => absurd hj (Nat.not_lt_zero _))
  have ob2 : t_X2_openBook L (sF e 1 1 0) 2 5 = some e2 := by
    unfold t_X2_openBook
    rw [show t_X0_copyFrom L (sF e 1 1 0) (2 + 4) 5 = some d1 from c1, ob, bd_q]
    exact n1
  obtain ⟨m2, x1, x2, x3, x4⟩ := nums_m (sF em 0 4 0) 24 0 FU (sF em 0 4 0) (by omega) (by unfold FU; omega) (fun _ => rfl) (fun _ _ _ => rfl) (fun j => by rw [if_neg (by omega)])
  obtain ⟨m3, y1, y2, y3, y4⟩ := take_lp m2 1376 0 FU m2 (by omega) (by unfold FU; omega) (fun _ => rfl) (fun _ _ _ => rfl) (fun j => by rw [if_neg (Nat.not_lt_zero _)])
  have rf : t_X6_book_149 LM em = some (gA m2 2 0, sF m3 0 23 0) := by
    unfold t_X6_book_149
    rw [bd_q, gF_sFn (by omega), a4, if_pos (by decide)]
    exact x1.trans y1
  have g20 : gA m2 2 0 = rdm em 0 := by rw [x4, if_neg (by omega)]; rfl
  rw [bd_q, if_pos a3, ob2, ob, bd_q, bd_q, rf]
  have w' : ∀ i, i < 1376 → wOf (sF m3 0 23 0) i = if 152 ≤ i ∧ i < 176 then nI (i - 152 + 1) else rdm em i := fun i hi => by
    show gA m3 0 i = _
    rw [y4, if_pos hi, x4]
    rfl
  have wo' : ∀ i, i < 1376 → ¬ (152 ≤ i ∧ i < 176) → wOf (sF m3 0 23 0) i = rdm em i := fun i h1 h2 => by rw [w' i h1, if_neg h2]
  have nb : NBK (rdm em) (wOf (sF m3 0 23 0)) := fun i h1 _ h3 => wo' i (by omega) h3
  obtain ⟨v1, v2, v3⟩ := VB_nb nb hv
  have hP24 := hv.P.2
  -- object by object
  have f6 : ∀ o j, ¬ (o = 0 ∧ (j = 4 ∨ j = 7)) → ¬ (o = 2 ∧ j = 3) → gF (sF (sF e2 0 4 0) 0 7 0) o j = gF d1 o j := fun o j h1 h2 => by
    rw [gF_sFn (by omega), gF_sFn (by omega), n2, gF_sFn (by omega)]
  have r6 : ∀ a i, a ≠ 65 → gA (sF (sF e2 0 4 0) 0 7 0) a i = gA d1 a i := fun a i ha => n3 a i ha
  have agx : ∀ x, x ≠ 0 → x ≠ 1 → x ≠ 2 → x ≠ 5 → x ≠ 6 → AG d (sF (sF e2 0 4 0) 0 7 0) x := fun x h0 h1 h2 h5 h6 => ((ag x h1 h5).trans (c2 x h6)).trans ⟨fun j => f6 x j (by omega) (by omega), fun j hj i => r6 _ i (by omega)⟩
  have fq : gF (sF (sF e2 0 4 0) 0 7 0) 6 0 = rdm em 0 := by
    rw [f6 6 0 (by omega) (by omega), c3, gF_sFn (by omega)]; exact a7.1
  have fm : ∀ j, j ≠ 4 → j ≠ 23 → (j ≠ 5 ∧ j ≠ 6 ∧ j ≠ 7 ∧ j ≠ 8 ∧ j ≠ 9 ∧ j ≠ 10 ∧ j ≠ 14) → gF (sF m3 0 23 0) 0 j = gF dm 0 j := fun j h4 h23 hj => by
    rw [gF_sFn (fun z => h23 z.2), y2, x2, gF_sFn (fun z => h4 z.2)]; exact pm.1 j hj
  have am : ∀ a i, a ≠ 0 → (a ≠ 2 ∧ a ≠ 12 ∧ a ≠ 13) → gA (sF m3 0 23 0) a i = gA dm a i := fun a i h0 ha => by
    show gA m3 a i = _
    rw [y3 a i h0, x3 a i ha.1]
    exact pm.2 a i ha
  have hbk : BK (sF (sF e2 0 4 0) 0 7 0) 6 (rdm em) := by
    refine ⟨fq, ?_, fun p hp => ?_⟩
    · rw [f6 6 1 (by omega) (by omega), c4, gF_sFn (by omega)]; exact a7.2.1
    · obtain ⟨⟨k1, k2, k3, k4, k5, k6⟩, _⟩ := a7.2.2.2.2.2.1 p hp
      have hV := hv.2.2.2 p hp
      have N5 := hV.N.2
      have C7 := hV.C.2
      have cp : ∀ j m i, (j, m) ∈ cpl → i < m → gA (sF (sF e2 0 4 0) 0 7 0) (32 * 6 + j) i = gA e (32 * 5 + j) i := fun j m i h1 h2 => (r6 _ i (by omega)).trans (c5 j m i h1 h2)
      refine ⟨(cp 2 24 p (by decide) (by omega)).trans k1, (cp 6 24 p (by decide) (by omega)).trans k2, (cp 9 24 p (by decide) (by omega)).trans k3, fun e3 => ?_, fun q hq => ?_, fun c hc => ?_⟩
      · rw [cp 3 24 p (by decide) (by omega), cp 4 24 p (by decide) (by omega), cp 5 24 p (by decide) (by omega)]; exact k4 e3
      · rw [cp 7 96 _ (by decide) (by omega), cp 8 96 _ (by decide) (by omega)]; exact k5 q hq
      · rw [cp 10 144 _ (by decide) (by omega), cp 11 144 _ (by decide) (by omega), cp 12 144 _ (by decide) (by omega)]; exact k6 c hc
  have num : ∀ p, p < 24 → wOf (sF m3 0 23 0) (152 + p) = nI (p + 1) := fun p hp => by
    rw [w' _ (by omega), if_pos (by omega), show 152 + p - 152 + 1 = p + 1 by omega]
  have w2 : wOf (sF m3 0 23 0) 2 = wOf dm 2 := by rw [wo' 2 (by omega) (by omega)]; exact a10
  refine ⟨rdm em 0, sF (sF e2 0 4 0) 0 7 0, sF m3 0 23 0, by rw [fq], by rw [g20], h.md ⟨v1, BK_nb nb hv hbk, ?_, by rw [w2]; exact h.2.1.2.2.2.1, fun p hp => ?_, .inl ⟨?_, ?_⟩⟩ ⟨fun p hp => ?_, fun p q hp hq e => ?_⟩ agx ⟨0, by decide, ?_, ?_, fun i hi => absurd hi (Nat.not_lt_zero _)⟩ ?_ ⟨0, by decide, ?_, gF_sF1 _ _ _ _, fun i hi => absurd hi (Nat.not_lt_zero _)⟩ ⟨(fm 15 (by decide) (by decide) (by decide)).trans h.2.2.2.2.2.2.2.2.1.1, (fm 16 (by decide) (by decide) (by decide)).trans h.2.2.2.2.2.2.2.2.1.2⟩ (fun i hi => ?_) (fun i => am 1 i (by decide) (by decide)) (fm 21 (by decide) (by decide) (by decide)) (fun i => am 19 i (by decide) (by decide)) (fun i => am 20 i (by decide) (by decide)) (.inl (gF_sF1 _ _ _ _))⟩
  · rw [w2, f6 2 2 (by omega) (by omega), (c2 2 (by decide)).1 2, (ag 2 (by decide) (by decide)).1 2]; exact h.2.1.2.2.1
  · rw [v2] at hp
    rw [num p (by omega)]
    exact n4 p (by omega)
  · rw [gF_sFn (by omega), gF_sFn (by omega), n2, gF_sF1]
  · rw [wo' 3 (by omega) (by omega)]; exact a11
  · rw [v2] at hp ⊢
    exact ⟨p, hp, num p (by omega)⟩
  · rw [v2] at hp hq
    rw [num p (by omega), num q (by omega)] at e
    have := nI_inj (by omega) (by omega) e
    omega
  · rw [f6 1 1 (by omega) (by omega), (c2 1 (by decide)).1 1, gF_sF1]; rfl
  · rw [gF_sFn (by omega), y2, x2, gF_sF1]; rfl
  · rw [f6 1 2 (by omega) (by omega), (c2 1 (by decide)).1 2, gF_sFn (by omega), gF_sFn (by omega), y2, x2, gF_sFn (by omega)]; exact a5
  · rw [gF_sFn (by omega), gF_sF1]; rfl
  · show gA m3 0 i = _
    rw [y4, if_neg (by omega), x3 0 i (by decide)]
    exact pm.2 0 i (by decide)
