/-! ===== choices of a part ===== -/
theorem addChoice_q {L : Nat → Nat} {d : Dt} {p k : Nat} (hl : LB L 5) (h0 : gF d 5 0 = nI (p + 1)) (hp : p < 24) (h9 : gA d (32 * 5 + 9) p = nI k) (hk : k < 6) (x y z : Int32) : t_X0_addChoice L d 5 (nI p) x y z = some (sA (sA (sA (sA d (32 * 5 + 10) (6 * p + k) x) (32 * 5 + 11) (6 * p + k) y) (32 * 5 + 12) (6 * p + k) z) (32 * 5 + 9) p (nI (k + 1))) := by
  obtain ⟨_, _, _, _, _, _, _, l9, l10, l11, l12⟩ := hl
  unfold t_X0_addChoice
  rw [hp5 h0 hp, ob, if_neg (show ¬ (1 : Int32) = 0 by decide), l9, gdi hp (by omega), ix_nI (by omega), h9, if_neg (show ¬ (6 : Int32) ≤ nI k from nI_ge (b := 6) hk (by decide)), gdi hp (by omega), bd_q, show nI p * 6 + nI k = nI (6 * p + k) by rw [show (6 : Int32) = nI 6 from rfl, nI_mulN, nI_add, Nat.mul_comm], l10, l11, l12, gdi (show 6 * p + k < 144 by omega) (by omega), bd_q, gdi (show 6 * p + k < 144 by omega) (by omega), bd_q, gdi (show 6 * p + k < 144 by omega) (by omega), bd_q, gdi hp (by omega), gdi hp (by omega), bd_q, ix_nI (by omega)]
  rw [gA_sAi, if_neg (by omega), gA_sAi, if_neg (by omega), gA_sAi, if_neg (by omega), h9, nI_1]
/-- between go and its end -/
def QCh (d dm e em : Dt) (g y tg : Nat) (w1 w2 : Int32) : Prop := KGc d e ∧ GLS e em (g + 1) ∧ (∀ i, i < g → gA em (32 * 0 + 12) i = gA dm (32 * 0 + 12) i) ∧ gA em (32 * 0 + 12) g = nI tg ∧ ((∀ j, j ≠ 5 → j ≠ 6 → j ≠ 7 → j ≠ 14 → gF em 0 j = gF dm 0 j) ∧ ∀ a i, a ≠ 2 → a ≠ 12 → a ≠ 13 → gA em a i = gA dm a i) ∧ ∀ i, rdm em i = if i = 368 + y then nI tg else if i = 512 + y then w1 else if i = 656 + y then w2 else rdm dm i
theorem QCh.k {d dm e em e' em' : Dt} {g y tg : Nat} {w1 w2 : Int32} (h : QCh d dm e em g y tg w1 w2) (kc : KCu e e') (km : KMu em em') : QCh d dm e' em' g y tg w1 w2 := by
  obtain ⟨a, b, c, f, ⟨m1, m2⟩, r⟩ := h
  refine ⟨⟨fun o j hj => (kc.1 o j (by omega)).trans (a.1 o j hj), fun x i h1 h2 => (kc.2 x i).trans (a.2 x i h1 h2)⟩, b.k kc km, fun i hi => (km.2 _ i).trans (c i hi), (km.2 _ g).trans f, ⟨fun j h1 h2 h3 h4 => (km.1 j h1 h2 h3).trans (m1 j h1 h2 h3 h4), fun x i h1 h2 h3 => (km.2 x i).trans (m2 x i h1 h2 h3)⟩, fun i => ?_⟩
  show gA em' (32 * 0 + 2) i = _
  rw [km.2]
  exact r i
theorem GLS_2 {d dm : Dt} {g i : Nat} {v : Int32} (h : GLS d dm g) : GLS d (sA dm (32 * 0 + 2) i v) g := by
  obtain ⟨a, b, c, e⟩ := h
  refine ⟨a, b, c, fun j hj => ?_⟩
  rw [gA_sAi, if_neg (by omega), gA_sAi, if_neg (by omega)]
  exact e j hj
theorem QCh.w {d dm e em : Dt} {g y tg i : Nat} {w1 w2 w1' w2' v : Int32} (h : QCh d dm e em g y tg w1 w2) (hi : (i = 512 + y ∧ w1' = v ∧ w2' = w2) ∨ (i = 656 + y ∧ w1' = w1 ∧ w2' = v)) (hy : y < 144) : QCh d dm e (sA em (32 * 0 + 2) i v) g y tg w1' w2' := by
  obtain ⟨a, b, c, f, ⟨m1, m2⟩, r⟩ := h
  refine ⟨a, GLS_2 b, fun j hj => by rw [gA_sAi, if_neg (by omega)]; exact c j hj, by rw [gA_sAi, if_neg (by omega)]; exact f, ⟨m1, fun x j h1 h2 h3 => by rw [gA_sAi, if_neg (by omega)]; exact m2 x j h1 h2 h3⟩, fun j => ?_⟩
  show gA (sA em (32 * 0 + 2) i v) (32 * 0 + 2) j = _
  rw [gA_sAi, show gA em (32 * 0 + 2) j = rdm em j from rfl, r]
  rcases hi with ⟨rfl, rfl, rfl⟩ | ⟨rfl, rfl, rfl⟩
  · by_cases z : j = 512 + y
    · rw [if_pos ⟨rfl, z⟩, if_neg (by omega), if_pos z]
    · rw [if_neg (fun q => z q.2), if_neg z, if_neg z]
  · by_cases z : j = 656 + y
    · rw [if_pos ⟨rfl, z⟩, if_neg (by omega), if_neg (by omega), if_pos z]
    · rw [if_neg (fun q => z q.2), if_neg z, if_neg z]
theorem ch_upd {d0 dm0 d dm e em : Dt} {g p k tg : Nat} {w1 w2 : Int32} (h : INP d0 dm0 d dm g p) (hk : bC (rdm dm) p = k) (hk6 : k < 6) (ht : tg < 24) (h1 : VT w1) (h2 : VT w2) (hq : QCh d dm e em g (6 * p + k) tg w1 w2) : INP d0 dm0 (sA (sA (sA (sA e (32 * 5 + 10) (6 * p + k) (nI tg)) (32 * 5 + 11) (6 * p + k) w1) (32 * 5 + 12) (6 * p + k) w2) (32 * 5 + 9) p (nI (k + 1))) (sA em (32 * 0 + 2) (56 + p) (nI (k + 1))) (g + 1) p ∧ bC (rdm (sA em (32 * 0 + 2) (56 + p) (nI (k + 1)))) p = k + 1 := by
  obtain ⟨hG, hP, hE0, hgb⟩ := h
  have hG' := hG
  obtain ⟨a1, a2, a3, a4, a5, a6, a7, a8, a9, a10, a11⟩ := hG
  have p24 : p < 24 := by
    have := nb_ix a7.2.2.1 (by decide)
    have : bP (rdm dm) = ix (rdm dm 0) := rfl
    omega
  obtain ⟨⟨k1, k2, k3, k4, k5, k6⟩, ⟨v1, v2, v3, v4, v5, v6, v7⟩⟩ := a7.2.2.2.2.2.1 p (by omega)
  have N5 : bN (rdm dm) p < 5 := (nb_ix v2 (by decide)).2
  obtain ⟨q1, q2, q3, q4, ⟨q5, q6⟩, q7⟩ := hq
  generalize hd' : sA (sA (sA (sA e (32 * 5 + 10) (6 * p + k) (nI tg)) (32 * 5 + 11) (6 * p + k) w1) (32 * 5 + 12) (6 * p + k) w2) (32 * 5 + 9) p (nI (k + 1)) = d'
  generalize hm' : sA em (32 * 0 + 2) (56 + p) (nI (k + 1)) = dm'
  have gc : ∀ j i, gA d' (32 * 5 + j) i = if j = 9 ∧ i = p then nI (k + 1) else if j = 12 ∧ i = 6 * p + k then w2 else if j = 11 ∧ i = 6 * p + k then w1 else if j = 10 ∧ i = 6 * p + k then nI tg else gA d (32 * 5 + j) i := fun j i => by
    rw [← hd', gA_sAi, gA_sAi, gA_sAi, gA_sAi]
    by_cases x1 : j = 9 ∧ i = p
    · rw [if_pos ⟨by omega, x1.2⟩, if_pos x1]
    · rw [if_neg (fun z => x1 ⟨by omega, z.2⟩), if_neg x1]
      by_cases x2 : j = 12 ∧ i = 6 * p + k
      · rw [if_pos ⟨by omega, x2.2⟩, if_pos x2]
      · rw [if_neg (fun z => x2 ⟨by omega, z.2⟩), if_neg x2]
        by_cases x3 : j = 11 ∧ i = 6 * p + k
        · rw [if_pos ⟨by omega, x3.2⟩, if_pos x3]
        · rw [if_neg (fun z => x3 ⟨by omega, z.2⟩), if_neg x3]
          by_cases x4 : j = 10 ∧ i = 6 * p + k
          · rw [if_pos ⟨by omega, x4.2⟩, if_pos x4]
          · rw [if_neg (fun z => x4 ⟨by omega, z.2⟩), if_neg x4]; exact q1.2 _ i (by omega) (by omega)
  have gm : ∀ i, rdm dm' i = if i = 56 + p then nI (k + 1) else if i = 368 + (6 * p + k) then nI tg else if i = 512 + (6 * p + k) then w1 else if i = 656 + (6 * p + k) then w2 else rdm dm i := fun i => by
    show gA dm' (32 * 0 + 2) i = _
    rw [← hm', gA_sAi]
    by_cases x1 : i = 56 + p
    · rw [if_pos ⟨rfl, x1⟩, if_pos x1]
    · rw [if_neg (fun z => x1 z.2), if_neg x1]; exact q7 i
  have gmo : ∀ i, i ≠ 56 + p → i ≠ 368 + (6 * p + k) → i ≠ 512 + (6 * p + k) → i ≠ 656 + (6 * p + k) → rdm dm' i = rdm dm i := fun i x1 x2 x3 x4 => by rw [gm, if_neg x1, if_neg x2, if_neg x3, if_neg x4]
  have gco : ∀ j i, ¬ (j = 9 ∧ i = p) → ¬ ((j = 10 ∨ j = 11 ∨ j = 12) ∧ i = 6 * p + k) → gA d' (32 * 5 + j) i = gA d (32 * 5 + j) i := fun j i x1 x2 => by rw [gc, if_neg x1, if_neg (by omega), if_neg (by omega), if_neg (by omega)]
  have fd : ∀ o j, ¬ (o = 1 ∧ (j = 4 ∨ j = 9)) → gF d' o j = gF d o j := fun o j hj => by rw [← hd']; exact q1.1 o j hj
  have fm : ∀ j, j ≠ 5 → j ≠ 6 → j ≠ 7 → j ≠ 14 → gF dm' 0 j = gF dm 0 j := fun j h1 h2 h3 h4 => by rw [← hm']; exact q5 j h1 h2 h3 h4
  have ad : ∀ a i, (a < 39 ∨ 41 ≤ a) → (a < 160 ∨ 192 ≤ a) → gA d' a i = gA d a i := fun a i ha hb => by
    rw [← hd', gA_sAi, if_neg (by omega), gA_sAi, if_neg (by omega), gA_sAi, if_neg (by omega), gA_sAi, if_neg (by omega)]; exact q1.2 a i (by omega) (by omega)
  have am : ∀ a i, a ≠ 2 → a ≠ 12 → a ≠ 13 → gA dm' a i = gA dm a i := fun a i x1 x2 x3 => by rw [← hm', gA_sAi, if_neg (by omega)]; exact q6 a i x1 x2 x3
  have m12 : ∀ i, gA dm' (32 * 0 + 12) i = gA em (32 * 0 + 12) i := fun i => by rw [← hm', gA_sAi, if_neg (by omega)]
  have eE : bE (rdm dm') p = bE (rdm dm) p := by unfold bE; rw [gmo _ (by omega) (by omega) (by omega) (by omega)]
  have eN : bN (rdm dm') p = bN (rdm dm) p := by unfold bN; rw [gmo _ (by omega) (by omega) (by omega) (by omega)]
  have eC : bC (rdm dm') p = k + 1 := by unfold bC; rw [gm, if_pos rfl, ix_nI (by omega)]
  have key := GC_upd (g' := g + 1) (d' := d') (dm' := dm') hG' hP (a1.st (fun o j h5 h1 => fd o j (fun z => by have := h1 z.1; omega)) ad) (a2.st (fun j hj => fm j hj.1 hj.2.1 hj.2.2.1 hj.2.2.2.2.2.2) (fun a i ha => am a i ha.1 ha.2.1 ha.2.2)) (fd 1 5 (by omega)) (fd 1 2 (by omega)) (fd 1 6 (by omega)) (fm 8 (by decide) (by decide) (by decide) (by decide)) (fm 9 (by decide) (by decide) (by decide) (by decide)) (fm 10 (by decide) (by decide) (by decide) (by decide)) ⟨fd 5 0 (by omega), fd 5 1 (by omega), fun j i hj hi => gco j i (by omega) (by omega), fun j i hj hi => gco j i (by omega) (by omega), fun j i hj hi => gco j i (by omega) (by omega)⟩ (fun i hi hn => gmo i (fun z => hn (by unfold PCl; omega)) (fun z => hn (by unfold PCl; omega)) (fun z => hn (by unfold PCl; omega)) (fun z => hn (by unfold PCl; omega))) ?_ ?_ ?_ ?_ (by omega) (fun i hi => (m12 i).trans (q3 i hi))
  · exact ⟨⟨key.1, key.2, eE.trans hE0, by rw [eC]; omega⟩, eC⟩
  · refine ⟨?_, ?_, ?_, fun e => ?_, fun q hq => ?_, fun c hc => ?_⟩
    · rw [gco 2 p (by omega) (by omega), gmo _ (by omega) (by omega) (by omega) (by omega)]; exact k1
    · rw [gco 6 p (by omega) (by omega), gmo _ (by omega) (by omega) (by omega) (by omega)]; exact k2
    · rw [gc, if_pos ⟨rfl, rfl⟩, gm, if_pos rfl]
    · rw [eE, hE0] at e; exact absurd e (by decide)
    · rw [eN] at hq
      rw [gco 7 _ (by omega) (by omega), gco 8 _ (by omega) (by omega), gmo _ (by omega) (by omega) (by omega) (by omega), gmo _ (by omega) (by omega) (by omega) (by omega)]
      exact k5 q hq
    · rw [eC] at hc
      by_cases z : c = k
      · subst z
        rw [gc 10, if_neg (by omega), if_neg (by omega), if_neg (by omega), if_pos ⟨rfl, rfl⟩, gc 11, if_neg (by omega), if_neg (by omega), if_pos ⟨rfl, rfl⟩, gc 12, if_neg (by omega), if_pos ⟨rfl, rfl⟩, gm (368 + (6 * p + c)), if_neg (by omega), if_pos rfl, gm (512 + (6 * p + c)), if_neg (by omega), if_neg (by omega), if_pos rfl, gm (656 + (6 * p + c)), if_neg (by omega), if_neg (by omega), if_neg (by omega), if_pos rfl]
        exact ⟨rfl, rfl, rfl⟩
      · rw [gco 10 _ (by omega) (by omega), gco 11 _ (by omega) (by omega), gco 12 _ (by omega) (by omega), gmo _ (by omega) (by omega) (by omega) (by omega), gmo _ (by omega) (by omega) (by omega) (by omega), gmo _ (by omega) (by omega) (by omega) (by omega)]
        exact k6 c (by omega)
  · refine ⟨?_, ?_, ?_, ?_, fun e => ?_, fun q hq => ?_, fun c hc => ?_⟩
    · rw [gmo _ (by omega) (by omega) (by omega) (by omega)]; exact v1
    · rw [gmo _ (by omega) (by omega) (by omega) (by omega)]; exact v2
    · rw [gm, if_pos rfl]; exact ⟨k + 1, by omega, rfl⟩
    · rw [eE, hE0]; exact fun z => absurd rfl z
    · rw [eE, hE0] at e; exact absurd e (by decide)
    · rw [eN] at hq
      have := v6 q hq
      unfold VE bK at this ⊢
      rw [gmo _ (by omega) (by omega) (by omega) (by omega), gmo _ (by omega) (by omega) (by omega) (by omega)]
      exact this
    · rw [eC] at hc
      by_cases z : c = k
      · subst z
        rw [gm (368 + (6 * p + c)), if_neg (by omega), if_pos rfl, gm (512 + (6 * p + c)), if_neg (by omega), if_neg (by omega), if_pos rfl, gm (656 + (6 * p + c)), if_neg (by omega), if_neg (by omega), if_neg (by omega), if_pos rfl]
        exact ⟨⟨tg, ht, rfl⟩, h1, h2⟩
      · rw [gmo _ (by omega) (by omega) (by omega) (by omega), gmo _ (by omega) (by omega) (by omega) (by omega), gmo _ (by omega) (by omega) (by omega) (by omega)]
        exact v7 c (by omega)
  · have i0 := a8 p (by omega)
    refine ⟨fun e => ?_, fun c hc => ?_⟩
    · rw [eE, hE0] at e; exact absurd e (by decide)
    · rw [eC] at hc
      by_cases z : c = k
      · subst z
        rw [gm (368 + (6 * p + c)), if_neg (by omega), if_pos rfl]
        exact ⟨g, by omega, (m12 g).trans q4⟩
      · rw [gmo _ (by omega) (by omega) (by omega) (by omega)]
        obtain ⟨i, i1, i2⟩ := i0.2 c (by omega)
        exact ⟨i, by omega, ((m12 i).trans (q3 i i1)).trans i2⟩
  · rw [← hd', ← hm']
    obtain ⟨g1, g2, g3, g4⟩ := q2
    refine ⟨g1, g2, g3, fun i hi => ?_⟩
    rw [gA_sAi, if_neg (by omega), gA_sAi, if_neg (by omega), gA_sAi, if_neg (by omega), gA_sAi, if_neg (by omega), gA_sAi, if_neg (by omega), gA_sAi, if_neg (by omega), gA_sAi, if_neg (by omega), gA_sAi, if_neg (by omega), gA_sAi, if_neg (by omega), gA_sAi, if_neg (by omega)]
    exact g4 i hi
