/-! ===== the class's walk: all ways of a state, all states ===== -/
theorem sp_in {Rch B0 : Nat → Prop} {u : Nat → Int32} {bar nop : Int32} {fs o k : Nat} (hv : VB u) (ho6 : o ≠ 6) (hfs : fs ≤ k) (hR : ∀ q q', Rch q → Ed u bar nop q q' → Rch q') (p1 p4 x5 : Int32) (K6 : Int32 → Int32 → (Nat → Nat) → Dt → Option ((Int32 × (Nat → Nat) × Dt) × Nat × Nat)) : ∀ (n c F : Nat) (L : Nat → Nat) (d : Dt) (s : Nat) (X : Nat → Nat) (wc ap f : Nat), c + n = wys u (qp (X k)) → n < F → GLn L o → LB L 6 → BK d 6 u → GJ Rch B0 u bar nop fs L d o s X wc ap k c f →
    ∃ L' d' s' X' wc' ap' kc ns, lp (fun k x => t_X4_spread_92 o p1 bar nop p4 K6 (fun x5 x6 x7 x8 x9 L d => k (x5, x6, x7, x8, x9, L, d)) x.1 x.2.1 x.2.2.1 x.2.2.2.1 x.2.2.2.2.1 x.2.2.2.2.2.1 x.2.2.2.2.2.2) F (x5, nI k, nI (cc u (X k)), nI (wys u (qp (X k))), nI c, L, d) = al kc ns (K6 x5 (nI (k + 1)) L' d') ∧ CO o L L' kc ns ∧ GK Rch B0 u bar nop fs L' d' o s' X' wc' ap' (k + 1) ∧ SF o d d' ∧ s ≤ s' ∧ ∀ i, i < s → X' i = X i := by
  have hP := hv.P.2
  intro n
  induction n with
  | zero =>
    intro c F L d s X wc ap f hc hF hg hl hb h
    obtain ⟨F, rfl⟩ : ∃ G, F = G + 1 := ⟨F - 1, by omega⟩
    obtain ⟨⟨g1, g2, g3, g4, g5⟩, a2, a3, a4, a5, a6, a7, a8, a9, a10, a11, a12⟩ := h
    have hch := chS_le hg.1
    have hw := wys_lt hv (g4 k a12).1.1
    have hsl := sxf_len u bar nop (X k) c 0
    have ec : c = wys u (qp (X k)) := by omega
    refine ⟨L, sA d (32 * o + 8) (k + 1) (nI wc), s, X, wc, ap, 0, 0, ?_, CO.rf hg, ⟨⟨g1, g2, g3, fun i hi => ?_, fun x hx hi => ?_⟩, a2, fun i hi => ?_, fun _ => ?_, a8, a9, by omega, a10, fun g => ?_, a12⟩, ⟨fun x hx => AG_sA (j := 8) (by decide) hx, fun _ _ _ _ => rfl⟩, Nat.le_refl _, fun _ _ => rfl⟩
    · show t_X4_spread_92 o p1 bar nop p4 K6 (fun x5 x6 x7 x8 x9 L d => lp _ F (x5, x6, x7, x8, x9, L, d)) x5 (nI k) (nI (cc u (X k))) (nI (wys u (qp (X k)))) (nI c) L d = _
      rw [t_X4_spread_92, if_pos (nI_le (by omega) (by omega)), nI_1, gdi (by have := hg.2.1; omega) (by omega), bd_q, ix_nI (by omega), a8, al_0]
    · rw [gA_sAi, if_neg (fun y => by omega), gA_sAi, if_neg (fun y => by omega)]
      exact g4 i hi
    · rw [gA_sAi, if_neg (fun y => by omega)]
      exact g5 x hx hi
    · by_cases z : i = k
      · rw [z]
        refine ⟨f, ?_, ?_, ?_, fun j x hj => ?_⟩
        · rw [gA_sAi, if_neg (fun y => by omega)]; exact a4
        · rw [gA_sAi, if_pos ⟨rfl, rfl⟩]
          unfold sxs
          rw [← ec, ← a5]
        · unfold sxs
          rw [← ec]
          omega
        · unfold sxs at hj
          rw [← ec] at hj
          rw [gA_sAi, if_neg (fun y => by omega)]
          exact a7 j x hj
      · obtain ⟨f', y1, y2, y3, y4⟩ := a3 i (by omega)
        refine ⟨f', ?_, ?_, y3, fun j x hj => ?_⟩
        · rw [gA_sAi, if_neg (fun y => by omega)]; exact y1
        · rw [gA_sAi, if_neg (fun y => by omega)]; exact y2
        · rw [gA_sAi, if_neg (fun y => by omega)]; exact y4 j x hj
    · rw [gA_sAi, if_pos ⟨rfl, rfl⟩]
    · rw [a11 g]
      constructor
      · rintro (q | ⟨i, x, q1, q2, q3⟩)
        · exact .inl q
        · exact .inr ⟨i, x, q1, by rcases q2 with z | ⟨z, _⟩ <;> omega, q3⟩
      · rintro (q | ⟨i, x, q1, q2, q3⟩)
        · exact .inl q
        · refine .inr ⟨i, x, q1, ?_, q3⟩
          by_cases z : i = k
          · refine .inr ⟨z, ?_⟩
            have := q3.1
            rw [z] at this
            omega
          · exact .inl (by omega)
  | succ n ih =>
    intro c F L d s X wc ap f hc hF hg hl hb h
    obtain ⟨F, rfl⟩ : ∃ G, F = G + 1 := ⟨F - 1, by omega⟩
    have hk := h.2.2.2.2.2.2.2.2.2.2.2
    have hq := (h.1.2.2.2.1 k hk).1
    have hw := wys_lt hv hq.1
    have g := gl_eq hv hq.1 (c := c) (by omega)
    show ∃ L' d' s' X' wc' ap' kc ns, t_X4_spread_92 o p1 bar nop p4 K6 (fun x5 x6 x7 x8 x9 L d => lp _ F (x5, x6, x7, x8, x9, L, d)) x5 (nI k) (nI (cc u (X k))) (nI (wys u (qp (X k)))) (nI c) L d = _ ∧ _
    rw [t_X4_spread_92, if_neg (nI_ge (by omega) (by omega)), wayOut_c hv hb hl hq (by omega), ob]
    have skip : ¬ (wo u (X k) c = true ∧ gol u (qp (X k)) c ≠ nop) → ∃ L' d' s' X' wc' ap' kc ns, t_X4_spread_157 o p1 bar nop p4 K6 (fun x5 x6 x7 x8 x9 L d => lp (fun k x => t_X4_spread_92 o p1 bar nop p4 K6 (fun x5 x6 x7 x8 x9 L d => k (x5, x6, x7, x8, x9, L, d)) x.1 x.2.1 x.2.2.1 x.2.2.2.1 x.2.2.2.2.1 x.2.2.2.2.2.1 x.2.2.2.2.2.2) F (x5, x6, x7, x8, x9, L, d)) x5 (nI k) (nI (cc u (X k))) (nI (wys u (qp (X k)))) (nI c) L d = al kc ns (K6 x5 (nI (k + 1)) L' d') ∧ CO o L L' kc ns ∧ GK Rch B0 u bar nop fs L' d' o s' X' wc' ap' (k + 1) ∧ SF o d d' ∧ s ≤ s' ∧ ∀ i, i < s → X' i = X i := by
      intro no
      rw [t_X4_spread_157, nI_1]
      exact ih (c + 1) F L d s X wc ap f (by omega) (by omega) hg hl hb (h.shut no)
    by_cases ow : wo u (X k) c = true
    · rw [if_pos ow, if_neg (nI_m1 (by omega))]
      by_cases en : nI (gl u (X k) c) = nop
      · rw [if_pos en]
        exact skip (fun z => z.2 (g.1.trans en))
      · have hn : gol u (qp (X k)) c ≠ nop := fun z => en (g.1.symm.trans z)
        rw [if_neg en, bit_e _ (by omega), h.2.2.2.2.2.2.2.2.2.1, nx_or, bd_q]
        have hb2 : BK (sF d o 6 (nI (ap ||| 2 ^ gl u (X k) c))) 6 u := BK_ag hv (AG_sF (fun z => ho6 z.symm)) hb
        rw [goOn_c hv hb2 hl hq g.2, ob]
        obtain ⟨L1, d1, s1, X1, k1, n1, r1, r2, r3, r4, r5, r6⟩ := h.step hv hg hfs hR (by omega) ow hn
        cases hm : t_X4_meet L (sF d o 6 (nI (ap ||| 2 ^ gl u (X k) c))) o (nI (arrS u (gl u (X k) c) (com u bar (gl u (X k) c) (qt (X k)) (qh (X k))))) with
        | none => rw [hm] at r1; cases r1
        | some q24 =>
          rw [hm, ob] at r1
          rw [ob]
          obtain ⟨ka, na, y1, y2, y3⟩ := al_some r1
          rw [y1, ob]
          dsimp only
          rw [al_al, ← y2, ← y3, t_X4_spread_157, nI_1]
          have ek := r6 k hk
          obtain ⟨L2, d2, s2, X2, wc2, ap2, k2, n2, t1, t2, t3, t4, t5, t6⟩ := ih (c + 1) F L1 d1 s1 X1 (wc + 1) _ f (by rw [ek]; omega) (by omega) r2.1 (LB_LF r2.2.1 (fun z => ho6 z.symm) hl) (BK_ag hv (r4.1 6 (fun z => ho6 z.symm)) hb) r3
          rw [ek] at t1
          refine ⟨L2, d2, s2, X2, wc2, ap2, k2 + k1, n2 + n1, ?_, r2.tr t2, t3, r4.tr t4, by omega, fun i hi => (t6 i (by omega)).trans (r6 i hi)⟩
          rw [t1, al_al]
    · rw [if_neg ow, if_pos rfl]
      exact skip (fun z => ow z.1)
theorem sp_out {Rch B0 : Nat → Prop} {u : Nat → Int32} {bar nop : Int32} {fs o : Nat} (hv : VB u) (ho6 : o ≠ 6) (hR : ∀ q q', Rch q → Ed u bar nop q q' → Rch q') (p1 p4 : Int32) : ∀ (n k F : Nat) (x5 : Int32) (L : Nat → Nat) (d : Dt) (s : Nat) (X : Nat → Nat) (wc ap : Nat), 55297 ≤ k + n → n < F → fs ≤ k → GLn L o → LB L 6 → BK d 6 u → GK Rch B0 u bar nop fs L d o s X wc ap k → ((x5 = 1 ∧ ∃ i, i < s ∧ bE u (qp (X i)) = 1) ∨ (x5 = 0 ∧ ∀ i, fs ≤ i → i < k → bE u (qp (X i)) ≠ 1)) →
    ∃ r L' d' s' X' wc' ap' kc ns, lp (fun k x => t_X4_spread_6 o p1 bar nop p4 (fun x5 x6 L d => k (x5, x6, L, d)) x.1 x.2.1 x.2.2.1 x.2.2.2) F (x5, nI k, L, d) = some ((r, L', d'), kc, ns) ∧ CO o L L' kc ns ∧ SF o d d' ∧ s ≤ s' ∧ (∀ i, i < s → X' i = X i) ∧ ((GK Rch B0 u bar nop fs L' d' o s' X' wc' ap' s' ∧ ((r = 1 ∧ ∃ i, i < s' ∧ bE u (qp (X' i)) = 1) ∨ (r = 0 ∧ ∀ i, fs ≤ i → i < s' → bE u (qp (X' i)) ≠ 1))) ∨ (p4 ≠ 0 ∧ r = 1 ∧ GB L' d' o u s' X' ∧ (∀ i, i < s' → Rch (X' i)) ∧ ∃ i, i < s' ∧ bE u (qp (X' i)) = 1)) := by
  intro n
  induction n with
  | zero =>
    intro k F x5 L d s X wc ap hn hF hfs hg hl hb h
    have h1 := h.2.2.2.2.2.2.2.2.2
    have h2 := h.1.2.1
    have h3 := chS_le hg.1
    omega
  | succ n ih =>
    intro k F x5 L d s X wc ap hn hF hfs hg hl hb h hx
    obtain ⟨F, rfl⟩ : ∃ G, F = G + 1 := ⟨F - 1, by omega⟩
    have hks := h.2.2.2.2.2.2.2.2.2
    have hsL := h.1.2.1
    have hch := chS_le hg.1
    show ∃ r L' d' s' X' wc' ap' kc ns, t_X4_spread_6 o p1 bar nop p4 (fun x5 x6 L d => lp _ F (x5, x6, L, d)) x5 (nI k) L d = _ ∧ _
    rw [t_X4_spread_6, h.1.1]
    by_cases e : k = s
    · subst e
      rw [if_pos (nI_le (Nat.le_refl _) (by omega))]
      refine ⟨x5, L, d, k, X, wc, ap, 0, 0, ?_, CO.rf hg, SF.rf o d, Nat.le_refl _, fun _ _ => rfl, .inl ⟨h, hx⟩⟩
      rcases hx with ⟨z, _⟩ | ⟨z, _⟩ <;> (rw [z]; rfl)
    · have hk : k < s := by omega
      obtain ⟨b1, b2, b3⟩ := h.1.2.2.2.1 k hk
      have hw := wys_lt hv b1.1
      rw [if_neg (nI_ge hk (by omega)), if_neg (show ¬ (55296 : Int32) ≤ nI k from nI_ge (b := 55296) (by omega) (by decide)), gdi (by omega) (by omega), bd_q, ix_nI (by omega), b2, fateOf_q hv b1, ob]
      -- on with state k
      have on : ∀ x : Int32, ((x = 1 ∧ ∃ i, i < s ∧ bE u (qp (X i)) = 1) ∨ (x = 0 ∧ ∀ i, fs ≤ i → i < k + 1 → bE u (qp (X i)) ≠ 1)) → ∃ r L' d' s' X' wc' ap' kc ns, t_X4_spread_64 o p1 bar nop p4 (fun x5 x6 L d => lp (fun k x => t_X4_spread_6 o p1 bar nop p4 (fun x5 x6 L d => k (x5, x6, L, d)) x.1 x.2.1 x.2.2.1 x.2.2.2) F (x5, x6, L, d)) x (nI k) (nI (cc u (X k))) L d = some ((r, L', d'), kc, ns) ∧ CO o L L' kc ns ∧ SF o d d' ∧ s ≤ s' ∧ (∀ i, i < s → X' i = X i) ∧ ((GK Rch B0 u bar nop fs L' d' o s' X' wc' ap' s' ∧ ((r = 1 ∧ ∃ i, i < s' ∧ bE u (qp (X' i)) = 1) ∨ (r = 0 ∧ ∀ i, fs ≤ i → i < s' → bE u (qp (X' i)) ≠ 1))) ∨ (p4 ≠ 0 ∧ r = 1 ∧ GB L' d' o u s' X' ∧ (∀ i, i < s' → Rch (X' i)) ∧ ∃ i, i < s' ∧ bE u (qp (X' i)) = 1)) := by
        intro x hx'
        have hB6 : BK (sA d (32 * o + 8) k (nI wc)) 6 u := BK_ag hv (AG_sA (j := 8) (by decide) (fun z => ho6 z.symm)) hb
        rw [t_X4_spread_64, gdi (by have := hg.2.1; omega) (by omega), bd_q, ix_nI (by omega), h.2.2.2.2.1, partOf_c hv b1, ob, waysFrom_c hv hB6 hl b1.1, ob]
        have hJ : GJ Rch B0 u bar nop fs L (sA d (32 * o + 8) k (nI wc)) o s X wc ap k 0 wc := by
          obtain ⟨⟨g1, g2, g3, g4, g5⟩, a2, a3, a4, a5, a6, a7, a8, a9, a10⟩ := h
          refine ⟨⟨g1, g2, g3, fun i hi => ?_, fun x hx hi => ?_⟩, a2, fun i hi => ?_, ?_, rfl, a7, fun j x hj => ?_, a5, a6, a8, fun g => ?_, hk⟩
          · rw [gA_sAi, if_neg (fun y => by omega), gA_sAi, if_neg (fun y => by omega)]
            exact g4 i hi
          · rw [gA_sAi, if_neg (fun y => by omega)]
            exact g5 x hx hi
          · obtain ⟨f', y1, y2, y3, y4⟩ := a3 i hi
            refine ⟨f', ?_, ?_, y3, fun j x hj => ?_⟩
            · rw [gA_sAi, if_neg (fun y => by omega)]; exact y1
            · rw [gA_sAi]
              by_cases z : i + 1 = k
              · rw [if_pos ⟨rfl, z⟩, ← a4 (by omega), ← z]; exact y2
              · rw [if_neg (fun y => z y.2)]; exact y2
            · rw [gA_sAi, if_neg (fun y => by omega)]; exact y4 j x hj
          · rw [gA_sAi, if_pos ⟨rfl, rfl⟩]
          · exact absurd hj (by simp [sxf])
          · rw [a9 g]
            constructor
            · rintro (q | ⟨i, x, q1, q2, q3⟩)
              · exact .inl q
              · exact .inr ⟨i, x, q1, .inl q2, q3⟩
            · rintro (q | ⟨i, x, q1, q2, q3⟩)
              · exact .inl q
              · exact .inr ⟨i, x, q1, by rcases q2 with z | ⟨_, z⟩ <;> omega, q3⟩
        obtain ⟨L1, d1, s1, X1, wc1, ap1, k1, n1, r1, r2, r3, r4, r5, r6⟩ := sp_in hv ho6 hfs hR p1 p4 x (fun x5 x6 L d => lp (fun k x => t_X4_spread_6 o p1 bar nop p4 (fun x5 x6 L d => k (x5, x6, L, d)) x.1 x.2.1 x.2.2.1 x.2.2.2) F (x5, x6, L, d)) (wys u (qp (X k))) 0 FU L _ s X wc ap wc (by omega) (by unfold FU; omega) hg hl hB6 hJ
        have sf1 : SF o d d1 := SF.tr ⟨fun x hx => AG_sA (j := 8) (by decide) hx, fun _ _ _ _ => rfl⟩ r4
        obtain ⟨r, L2, d2, s2, X2, wc2, ap2, k2, n2, t1, t2, t3, t4, t5, t6⟩ := ih (k + 1) F x L1 d1 s1 X1 wc1 ap1 (by omega) (by omega) (by omega) r2.1 (LB_LF r2.2.1 (fun z => ho6 z.symm) hl) (BK_ag hv (sf1.1 6 (fun z => ho6 z.symm)) hb) r3 (by
          rcases hx' with ⟨z, i, hi, hw⟩ | ⟨z, hw⟩
          · exact .inl ⟨z, i, by omega, by rw [r6 i hi]; exact hw⟩
          · exact .inr ⟨z, fun i h1 h2 => by rw [r6 i (by omega)]; exact hw i h1 h2⟩)
        refine ⟨r, L2, d2, s2, X2, wc2, ap2, k2 + k1, n2 + n1, ?_, r2.tr t2, sf1.tr t3, by omega, fun i hi => (t5 i (by omega)).trans (r6 i hi), t6⟩
        refine Eq.trans r1 ?_
        rw [t1, al_e]
      have won : bE u (qp (X k)) = 1 ∨ (x5 = 1 ∧ ∃ i, i < s ∧ bE u (qp (X i)) = 1) → ∃ r L' d' s' X' wc' ap' kc ns, t_X4_spread_45 o p1 bar nop p4 (fun x5 x6 L d => lp (fun k x => t_X4_spread_6 o p1 bar nop p4 (fun x5 x6 L d => k (x5, x6, L, d)) x.1 x.2.1 x.2.2.1 x.2.2.2) F (x5, x6, L, d)) (nI k) (nI (cc u (X k))) L d = some ((r, L', d'), kc, ns) ∧ CO o L L' kc ns ∧ SF o d d' ∧ s ≤ s' ∧ (∀ i, i < s → X' i = X i) ∧ ((GK Rch B0 u bar nop fs L' d' o s' X' wc' ap' s' ∧ ((r = 1 ∧ ∃ i, i < s' ∧ bE u (qp (X' i)) = 1) ∨ (r = 0 ∧ ∀ i, fs ≤ i → i < s' → bE u (qp (X' i)) ≠ 1))) ∨ (p4 ≠ 0 ∧ r = 1 ∧ GB L' d' o u s' X' ∧ (∀ i, i < s' → Rch (X' i)) ∧ ∃ i, i < s' ∧ bE u (qp (X' i)) = 1)) := by
        intro hw'
        have hex : ∃ i, i < s ∧ bE u (qp (X i)) = 1 := by
          rcases hw' with z | z
          · exact ⟨k, hk, z⟩
          · exact z.2
        rw [t_X4_spread_45, t_X4_spread_50, if_neg (by decide)]
        by_cases z : p4 = 0
        · rw [if_pos z]
          exact on 1 (.inl ⟨rfl, hex⟩)
        · rw [if_neg z]
          exact ⟨1, L, d, s, X, wc, ap, 0, 0, rfl, CO.rf hg, SF.rf o d, Nat.le_refl _, fun _ _ => rfl, .inr ⟨z, rfl, h.1, h.2.1, hex⟩⟩
      rcases hx with ⟨z, hw'⟩ | ⟨z, hw'⟩
      · rw [z, if_neg (by decide)]
        exact won (.inr ⟨z, hw'⟩)
      · rw [z, if_pos rfl]
        by_cases wn : bE u (qp (X k)) = 1
        · rw [if_pos wn, if_pos rfl]
          exact won (.inl wn)
        · rw [if_neg wn, if_neg (by decide), t_X4_spread_50, if_pos rfl]
          refine on 0 (.inr ⟨rfl, fun i h1 h2 => ?_⟩)
          by_cases y : i = k
          · rw [y]; exact wn
          · exact hw' i h1 (by omega)
