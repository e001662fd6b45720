/-! ===== effects of a part ===== -/
def rdm (dm : Dt) : Nat → Int32 := fun i => gA dm (32 * 0 + 2) i
def GCs (d0 dm0 d dm : Dt) (g : Nat) : Prop := PFc d0 d ∧ PFm dm0 dm ∧ gF d 1 5 = 0 ∧ gF dm 0 8 = 0 ∧ gF d 1 2 = gF dm 0 9 ∧ (gF d 1 6 = gF dm 0 10 ∧ (gF dm 0 10 = 0 ∨ gF dm 0 10 = 1)) ∧ DRF d (rdm dm) ∧ (∀ p, p < bP (rdm dm) → IGL dm g (rdm dm) p) ∧ GLS d dm g ∧ rdm dm 2 = wOf dm0 2 ∧ rdm dm 3 = -1
def WPS (n : Nat) (T : Nat → Nat) (d dm : Dt) (a : Nat) : Prop := skp n T a = a ∧ gF d 1 4 = nI a ∧ gF dm 0 5 = nI (a + wln n T a) ∧ CWd n T dm a
def INP (d0 dm0 d dm : Dt) (g p : Nat) : Prop := GCs d0 dm0 d dm g ∧ bP (rdm dm) = p + 1 ∧ bE (rdm dm) p = 0 ∧ g ≤ 6 * p + bC (rdm dm) p
theorem GC_upd {d0 dm0 d dm d' dm' : Dt} {g g' p : Nat} (h : GCs d0 dm0 d dm g) (hp : bP (rdm dm) = p + 1) (hc1 : PFc d0 d') (hm1 : PFm dm0 dm') (f5 : gF d' 1 5 = gF d 1 5) (f2 : gF d' 1 2 = gF d 1 2) (f6 : gF d' 1 6 = gF d 1 6) (e8 : gF dm' 0 8 = gF dm 0 8) (e9 : gF dm' 0 9 = gF dm 0 9) (e10 : gF dm' 0 10 = gF dm 0 10) (hc : CPc d d' p) (hr : ∀ i, i < 1376 → ¬ PCl p i → rdm dm' i = rdm dm i) (hb : BKp d' 5 (rdm dm') p) (hv : DVp (rdm dm') p) (hig : IGL dm' g' (rdm dm') p) (hgl : GLS d' dm' g') (hgg : g ≤ g') (hpre : ∀ i, i < g → gA dm' (32 * 0 + 12) i = gA dm (32 * 0 + 12) i) : GCs d0 dm0 d' dm' g' ∧ bP (rdm dm') = p + 1 := by
  obtain ⟨_, _, a3, a4, a5, a6, a7, a8, _, a10, a11⟩ := h
  obtain ⟨u1, u2⟩ := DRF_upd a7 hp hc hr hb hv
  have p24 : p < 24 := by
    have := nb_ix a7.2.2.1 (by decide)
    have : bP (rdm dm) = ix (rdm dm 0) := rfl
    omega
  refine ⟨⟨hc1, hm1, f5.trans a3, e8.trans a4, by rw [f2, e9]; exact a5, by rw [f6, e10]; exact a6, u1, fun q hq => ?_, hgl, ?_, ?_⟩, u2⟩
  · by_cases e : q = p
    · rw [e]; exact hig
    · exact IGL_upd (p := p) (by omega) p24 (a7.2.2.2.2.2.1 q (by omega)).2 hr hgg hpre (a8 q (by omega))
  · rw [hr 2 (by omega) (by unfold PCl; omega)]; exact a10
  · rw [hr 3 (by omega) (by unfold PCl; omega)]; exact a11
theorem GC_cur {d0 dm0 d dm d' dm' : Dt} {g : Nat} (h : GCs d0 dm0 d dm g) (kc : KCu d d') (km : KMu dm dm') : GCs d0 dm0 d' dm' g := by
  obtain ⟨a1, a2, a3, a4, a5, a6, a7, a8, a9, a10, a11⟩ := h
  have er : rdm dm' = rdm dm := funext (fun i => km.2 _ i)
  refine ⟨a1.k kc, a2.k km, (kc.1 1 5 (by omega)).trans a3, (km.1 8 (by decide) (by decide) (by decide)).trans a4, by rw [kc.1 1 2 (by omega), km.1 9 (by decide) (by decide) (by decide)]; exact a5, by rw [kc.1 1 6 (by omega), km.1 10 (by decide) (by decide) (by decide)]; exact a6, ?_, ?_, a9.k kc km, by rw [er]; exact a10, by rw [er]; exact a11⟩
  · rw [er]
    obtain ⟨b1, b2, b3, b4, b5, b6, b7⟩ := a7
    refine ⟨(kc.1 5 0 (by omega)).trans b1, (kc.1 5 1 (by omega)).trans b2, b3, b4, b5, fun p hp => ⟨?_, (b6 p hp).2⟩, b7⟩
    have := (b6 p hp).1
    unfold BKp at this ⊢
    simp only [kc.2]
    exact this
  · rw [er]
    intro p hp
    have := a8 p hp
    unfold IGL IGg at this ⊢
    simp only [km.2]
    exact this
theorem hp5 {L : Nat → Nat} {d : Dt} {p : Nat} (h0 : gF d 5 0 = nI (p + 1)) (hp : p < 24) : t_X0_hasPart L d 5 (nI p) = some 1 := by
  unfold t_X0_hasPart
  rw [if_neg (nI_pos (by omega)), h0, if_neg (nI_ge (by omega) (by omega))]
  exact if_neg (show ¬ nI 24 ≤ nI p from nI_ge (by omega) (by decide))
theorem kdn_cases (n : Nat) (T : Nat → Nat) (a : Nat) : kdn n T a = -1 ∨ ∃ κ, κ < 4 ∧ kdn n T a = nI κ ∧ wln n T a = 4 := by
  have l4 : slen.getD 2 0 = 4 ∧ slen.getD 3 0 = 4 ∧ slen.getD 4 0 = 4 ∧ slen.getD 5 0 = 4 := by decide +kernel
  have w4 : ∀ s, wd n T a s = true → wln n T a = slen.getD s 0 := fun s h => (of_decide_eq_true h).1
  unfold kdn
  by_cases h2 : wd n T a 2 = true
  · rw [if_pos h2]; exact .inr ⟨0, by decide, rfl, (w4 2 h2).trans l4.1⟩
  · rw [if_neg h2]
    by_cases h3 : wd n T a 3 = true
    · rw [if_pos h3]; exact .inr ⟨1, by decide, rfl, (w4 3 h3).trans l4.2.1⟩
    · rw [if_neg h3]
      by_cases h4 : wd n T a 4 = true
      · rw [if_pos h4]; exact .inr ⟨2, by decide, rfl, (w4 4 h4).trans l4.2.2.1⟩
      · rw [if_neg h4]
        by_cases h5 : wd n T a 5 = true
        · rw [if_pos h5]; exact .inr ⟨3, by decide, rfl, (w4 5 h5).trans l4.2.2.2⟩
        · rw [if_neg h5]; exact .inl rfl
/-- one effect more -/
theorem addEffect_q {L : Nat → Nat} {d : Dt} {p k : Nat} (hl : LB L 5) (h0 : gF d 5 0 = nI (p + 1)) (hp : p < 24) (h6 : gA d (32 * 5 + 6) p = nI k) (hk : k < 4) (x y : Int32) : t_X0_addEffect L d 5 (nI p) x y = some (sA (sA (sA d (32 * 5 + 7) (4 * p + k) x) (32 * 5 + 8) (4 * p + k) y) (32 * 5 + 6) p (nI (k + 1))) := by
  obtain ⟨_, _, _, _, l6, l7, l8, _⟩ := hl
  unfold t_X0_addEffect
  rw [hp5 h0 hp, ob, if_neg (show ¬ (1 : Int32) = 0 by decide), l6, gdi hp (by omega), ix_nI (by omega), h6, if_neg (show ¬ (4 : Int32) ≤ nI k from nI_ge (b := 4) hk (by decide)), gdi hp (by omega), bd_q, show nI p * 4 + nI k = nI (4 * p + k) by rw [show (4 : Int32) = nI 4 from rfl, nI_mulN, nI_add, Nat.mul_comm], l7, l8, gdi (show 4 * p + k < 96 by omega) (by omega), bd_q, gdi (show 4 * p + k < 96 by omega) (by omega), bd_q, gdi hp (by omega), gdi hp (by omega), bd_q, ix_nI (by omega)]
  rw [gA_sAi, if_neg (by omega), gA_sAi, if_neg (by omega), h6, nI_1]
theorem eff_upd {d0 dm0 d dm : Dt} {g p k κ v : Nat} (h : INP d0 dm0 d dm g p) (hk : bN (rdm dm) p = k) (hk4 : k < 4) (hκ : κ < 4) (hv9 : v < 10) (hv8 : κ < 2 → v < 8) : INP d0 dm0 (sA (sA (sA d (32 * 5 + 7) (4 * p + k) (nI κ)) (32 * 5 + 8) (4 * p + k) (nI v)) (32 * 5 + 6) p (nI (k + 1))) (sA (sA (sA dm (32 * 0 + 2) (176 + (4 * p + k)) (nI κ)) (32 * 0 + 2) (272 + (4 * p + k)) (nI v)) (32 * 0 + 2) (32 + p) (nI (k + 1))) g p ∧ bN (rdm (sA (sA (sA dm (32 * 0 + 2) (176 + (4 * p + k)) (nI κ)) (32 * 0 + 2) (272 + (4 * p + k)) (nI v)) (32 * 0 + 2) (32 + p) (nI (k + 1)))) p = k + 1 ∧ bC (rdm (sA (sA (sA dm (32 * 0 + 2) (176 + (4 * p + k)) (nI κ)) (32 * 0 + 2) (272 + (4 * p + k)) (nI v)) (32 * 0 + 2) (32 + p) (nI (k + 1)))) p = bC (rdm dm) p := by
  obtain ⟨hG, hP, hE0, hgb⟩ := h
  have hG' := hG
  obtain ⟨a1, a2, a3, a4, a5, a6, a7, a8, a9, a10, a11⟩ := hG
  have p24 : p < 24 := by
    have := nb_ix a7.2.2.1 (by decide)
    have : bP (rdm dm) = ix (rdm dm 0) := rfl
    omega
  obtain ⟨⟨k1, k2, k3, k4, k5, k6⟩, ⟨v1, v2, v3, v4, v5, v6, v7⟩⟩ := a7.2.2.2.2.2.1 p (by omega)
  have C7 : bC (rdm dm) p < 7 := (nb_ix v3 (by decide)).2
  generalize hd' : sA (sA (sA d (32 * 5 + 7) (4 * p + k) (nI κ)) (32 * 5 + 8) (4 * p + k) (nI v)) (32 * 5 + 6) p (nI (k + 1)) = d'
  generalize hm' : sA (sA (sA dm (32 * 0 + 2) (176 + (4 * p + k)) (nI κ)) (32 * 0 + 2) (272 + (4 * p + k)) (nI v)) (32 * 0 + 2) (32 + p) (nI (k + 1)) = dm'
  have gc : ∀ j i, gA d' (32 * 5 + j) i = if j = 6 ∧ i = p then nI (k + 1) else if j = 8 ∧ i = 4 * p + k then nI v else if j = 7 ∧ i = 4 * p + k then nI κ else gA d (32 * 5 + j) i := fun j i => by
    rw [← hd', gA_sAi, gA_sAi, gA_sAi]
    by_cases x1 : j = 6 ∧ i = p
    · rw [if_pos ⟨by omega, x1.2⟩, if_pos x1]
    · rw [if_neg (fun z => x1 ⟨by omega, z.2⟩), if_neg x1]
      by_cases x2 : j = 8 ∧ i = 4 * p + k
      · rw [if_pos ⟨by omega, x2.2⟩, if_pos x2]
      · rw [if_neg (fun z => x2 ⟨by omega, z.2⟩), if_neg x2]
        by_cases x3 : j = 7 ∧ i = 4 * p + k
        · rw [if_pos ⟨by omega, x3.2⟩, if_pos x3]
        · rw [if_neg (fun z => x3 ⟨by omega, z.2⟩), if_neg x3]
  have gm : ∀ i, rdm dm' i = if i = 32 + p then nI (k + 1) else if i = 272 + (4 * p + k) then nI v else if i = 176 + (4 * p + k) then nI κ else rdm dm i := fun i => by
    show gA dm' (32 * 0 + 2) i = _
    rw [← hm', gA_sAi, gA_sAi, gA_sAi]
    by_cases x1 : i = 32 + p
    · rw [if_pos ⟨rfl, x1⟩, if_pos x1]
    · rw [if_neg (fun z => x1 z.2), if_neg x1]
      by_cases x2 : i = 272 + (4 * p + k)
      · rw [if_pos ⟨rfl, x2⟩, if_pos x2]
      · rw [if_neg (fun z => x2 z.2), if_neg x2]
        by_cases x3 : i = 176 + (4 * p + k)
        · rw [if_pos ⟨rfl, x3⟩, if_pos x3]
        · rw [if_neg (fun z => x3 z.2), if_neg x3]; rfl
  have gmo : ∀ i, i ≠ 32 + p → i ≠ 272 + (4 * p + k) → i ≠ 176 + (4 * p + k) → rdm dm' i = rdm dm i := fun i x1 x2 x3 => by rw [gm, if_neg x1, if_neg x2, if_neg x3]
  have gco : ∀ j i, ¬ (j = 6 ∧ i = p) → ¬ ((j = 7 ∨ j = 8) ∧ i = 4 * p + k) → gA d' (32 * 5 + j) i = gA d (32 * 5 + j) i := fun j i x1 x2 => by rw [gc, if_neg x1, if_neg (by omega), if_neg (by omega)]
  have fd : ∀ o j, gF d' o j = gF d o j := fun o j => by rw [← hd']; rfl
  have fm : ∀ j, gF dm' 0 j = gF dm 0 j := fun j => by rw [← hm']; rfl
  have ad : ∀ a i, (a < 160 ∨ 192 ≤ a) → gA d' a i = gA d a i := fun a i ha => by rw [← hd', gA_sAi, if_neg (by omega), gA_sAi, if_neg (by omega), gA_sAi, if_neg (by omega)]
  have am : ∀ a i, a ≠ 2 → gA dm' a i = gA dm a i := fun a i ha => by rw [← hm', gA_sAi, if_neg (by omega), gA_sAi, if_neg (by omega), gA_sAi, if_neg (by omega)]
  have eE : bE (rdm dm') p = bE (rdm dm) p := by unfold bE; rw [gmo _ (by omega) (by omega) (by omega)]
  have eC : bC (rdm dm') p = bC (rdm dm) p := by unfold bC; rw [gmo _ (by omega) (by omega) (by omega)]
  have eN : bN (rdm dm') p = k + 1 := by unfold bN; rw [gm, if_pos rfl, ix_nI (by omega)]
  have key := GC_upd (g' := g) (d' := d') (dm' := dm') hG' hP (a1.st (fun o j _ _ => fd o j) (fun a i _ ha => ad a i ha)) (a2.st (fun j _ => fm j) (fun a i ha => am a i ha.1)) (fd 1 5) (fd 1 2) (fd 1 6) (fm 8) (fm 9) (fm 10) ⟨fd 5 0, fd 5 1, fun j i hj hi => gco j i (by omega) (by omega), fun j i hj hi => gco j i (by omega) (by omega), fun j i hj hi => gco j i (by omega) (by omega)⟩ (fun i hi hn => gmo i (fun z => hn (by unfold PCl; omega)) (fun z => hn (by unfold PCl; omega)) (fun z => hn (by unfold PCl; omega))) ?_ ?_ ?_ ?_ (Nat.le_refl _) (fun i _ => am _ i (by decide))
  · exact ⟨⟨key.1, key.2, eE.trans hE0, by rw [eC]; exact hgb⟩, eN, eC⟩
  · refine ⟨?_, ?_, ?_, fun e => ?_, fun q hq => ?_, fun c hc => ?_⟩
    · rw [gco 2 p (by omega) (by omega), gmo _ (by omega) (by omega) (by omega)]; exact k1
    · rw [gc, if_pos ⟨rfl, rfl⟩, gm, if_pos rfl]
    · rw [gco 9 p (by omega) (by omega), gmo _ (by omega) (by omega) (by omega)]; exact k3
    · rw [eE, hE0] at e; exact absurd e (by decide)
    · rw [eN] at hq
      by_cases z : q = k
      · subst z
        rw [gc, if_neg (by omega), if_neg (by omega), if_pos ⟨rfl, rfl⟩, gc, if_neg (by omega), if_pos ⟨rfl, rfl⟩, gm, if_neg (by omega), if_neg (by omega), if_pos rfl, gm, if_neg (by omega), if_pos rfl]
        exact ⟨rfl, rfl⟩
      · rw [gco 7 _ (by omega) (by omega), gco 8 _ (by omega) (by omega), gmo _ (by omega) (by omega) (by omega), gmo _ (by omega) (by omega) (by omega)]
        exact k5 q (by omega)
    · rw [eC] at hc
      rw [gco 10 _ (by omega) (by omega), gco 11 _ (by omega) (by omega), gco 12 _ (by omega) (by omega), gmo _ (by omega) (by omega) (by omega), gmo _ (by omega) (by omega) (by omega), gmo _ (by omega) (by omega) (by omega)]
      exact k6 c hc
  · refine ⟨?_, ?_, ?_, ?_, fun e => ?_, fun q hq => ?_, fun c hc => ?_⟩
    · rw [gmo _ (by omega) (by omega) (by omega)]; exact v1
    · rw [gm, if_pos rfl]; exact ⟨k + 1, by omega, rfl⟩
    · rw [gmo _ (by omega) (by omega) (by omega)]; exact v3
    · rw [eE, eC]; exact v4
    · rw [eE, hE0] at e; exact absurd e (by decide)
    · rw [eN] at hq
      unfold VE bK
      by_cases z : q = k
      · subst z
        rw [gm (176 + (4 * p + q)), if_neg (by omega), if_neg (by omega), if_pos rfl, gm (272 + (4 * p + q)), if_neg (by omega), if_pos rfl, ix_nI (by omega)]
        exact ⟨⟨κ, hκ, rfl⟩, ⟨v, hv9, rfl⟩, fun y => ⟨v, hv8 y, rfl⟩⟩
      · rw [gmo _ (by omega) (by omega) (by omega), gmo _ (by omega) (by omega) (by omega)]
        exact v6 q (by omega)
    · rw [eC] at hc
      rw [gmo _ (by omega) (by omega) (by omega), gmo _ (by omega) (by omega) (by omega), gmo _ (by omega) (by omega) (by omega)]
      exact v7 c hc
  · have i0 := a8 p (by omega)
    refine ⟨fun e => ?_, fun c hc => ?_⟩
    · rw [eE, hE0] at e; exact absurd e (by decide)
    · rw [eC] at hc
      rw [gmo _ (by omega) (by omega) (by omega)]
      obtain ⟨i, i1, i2⟩ := i0.2 c hc
      exact ⟨i, i1, (am _ i (by decide)).trans i2⟩
  · obtain ⟨g1, g2, g3, g4⟩ := a9
    refine ⟨(fd 1 9).trans g1, (fm 14).trans g2, g3, fun i hi => ?_⟩
    rw [ad _ i (by omega), ad _ i (by omega), am _ i (by decide), am _ i (by decide)]
    exact g4 i hi
