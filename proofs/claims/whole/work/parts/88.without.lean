/-! ===== without ===== -/
theorem RLx.g10 {L L2 : Nat → Nat} {d d2 dm dm' : Dt} {k n k2 n2 : Nat} (h : RLx L d dm k n) (hf2 : FF 10 d d2) (hco2 : CO 10 L L2 k2 n2) (hi2 : GI L2 d2 10) (hf : FR dm dm') (hF : FAR dm') : RLx L2 d2 dm' (k + k2) (n + n2) :=
  h.gr (FF.cf hf2 (.inr rfl)) hf hF (FRE_10 h.2.2.2.2.2.2.2.2.2.2.1 hf2 hco2.2.1) hi2 (LF.le hco2.2.1 (.inr rfl)) (POT.co (.inr rfl) h.2.2.2.2.2.2.2.2.2.2.2.2 hco2)
theorem isThing_q {L : Nat → Nat} {d : Dt} (x : Int32) : t_X5_isThing L d x = some (if inb x 8 = true then 1 else 0) := by
  unfold t_X5_isThing
  rcases pk_ix x (n := 8) (by decide) with q | q | ⟨j, hj, rfl⟩
  · rw [if_pos q, if_neg (inb_neg (n := 8) (by decide) q)]
  · rw [if_neg (inb_ge (n := 8) (by decide) q)]
    by_cases z : x < 0
    · rw [if_pos z]
    · rw [if_neg z, if_pos (show (8 : Int32) ≤ x from q)]
  · rw [if_neg (nI_pos (by omega)), if_neg (show ¬ (8 : Int32) ≤ nI j from nI_ge (b := 8) hj (by decide)), if_pos (in_nI hj (by omega))]
theorem ok_without : ST_without RLx := by
  intro L d dm k n p1 p2 h
  have hv := h.ru.v
  have hbar := h.2.2.2.2.2.2.2.2.1
  have hfar := h.2.2.2.2.2.2.2.2.2.1
  have hvw := h.2.1.1
  have triv : ∀ v : Int32, ∃ (r : Int32) (L' : Nat → Nat) (d' : Dt) (kc ns : Nat) (dm' : Dt), some ((v, L, d), 0, 0) = some ((r, L', d'), kc, ns) ∧ some (v, dm) = some (r, dm') ∧ RLx L' d' dm' (k + kc) (n + ns) := fun v => ⟨v, L, d, 0, 0, dm, rfl, rfl, h⟩
  unfold t_X5_without t_X6_without
  rw [isThing_q, ob, in_k p1 7 7 rfl, ob, in_k p2 60 60 rfl, ob]
  by_cases c0 : inb p1 8 = true
  · obtain ⟨th, hth, rfl⟩ := inb_ex c0 (by decide)
    rw [if_pos c0, if_neg (show ¬ (1 : Int32) = 0 by decide), if_neg (show ¬ (1 : Int32) = 0 by decide)]
    rcases cmp60 p2 with ⟨a, b⟩ | ⟨a, a2, b⟩ | ⟨t, ht, rfl⟩
    · rw [if_pos a, if_neg b, if_pos rfl]; exact triv _
    · rw [if_neg a, if_neg a2, if_neg b, if_pos rfl]; exact triv _
    · have hP := hvw.P
      have hPu := h.ru.P
      have hH := hvw.H
      rw [if_neg (nI_pos (by omega)), if_pos (show nI t ≤ 60 from nI_le (b := 60) ht (by decide)), if_pos (in_nI (by omega) (by omega)), if_neg (show ¬ (1 : Int32) = 0 by decide), LM0, gd_h (show inb 0 4128 = true by decide), show gA dm (32 * 0 + 0) (ix 0) = wOf dm 0 from rfl, show gF d 6 0 = wOf dm 0 from h.2.1.2.1.1, hP.1]
      by_cases p0 : bP (wOf dm) = 0
      · rw [p0, if_pos (show nI 0 = 0 from rfl), if_pos (show nI 0 = 0 from rfl)]; exact triv _
      · rw [if_neg (nI_ne0 (by omega) (by omega)), if_neg (nI_ne0 (by omega) (by omega)), bd_q]
        obtain ⟨L1, d1, k1, n1, r1, r2, r3, r4, r5⟩ := build_q (bar := nI th) (nop := -1) (p3 := 0) hv (show (10 : Nat) ≠ 6 by decide) h.2.2.2.2.2.2.2.2.2.2.2.1 h.bkk h.lb
        rcases r5 with ⟨s, X, wc, ap, hB⟩ | ⟨q, _⟩
        · have hb1 : BK d1 6 (bk (wOf dm)) := BK_ag hv (r3 6 (by decide)) h.bkk
          have hl1 := LB_LF r2.2.1 (show 6 ≠ 10 by decide) h.lb
          obtain ⟨L2, d2, k2, n2, t1, t2, t3, t4, t5, t6⟩ := runTurns_q hv (show (10 : Nat) ≠ 6 by decide) r2.1 hb1 hl1 hB.1 ht (.inl hB.2.2.2.2.2.2.1)
          have hG := hB.1.of t3
          have hch := chS_le t2.1.1
          have hsz := hG.1.2.1
          have hini : ini (bk (wOf dm)) (nI th) (-1) = arv (bk (wOf dm)) (nI th) 0 0 (bH (bk (wOf dm))) := by
            unfold ini
            rw [if_neg (fun z => z.elim (fun y => p0 (by omega)) (by decide))]
          obtain ⟨mm, mm1, mm2⟩ := r2.1.2.2.2.1
          have hfd : ∃ v, t_X4_find L1 d1 10 (nI (arrS (bk (wOf dm)) 0 (com (bk (wOf dm)) (nI th) 0 0 (bH (bk (wOf dm)))))) = some v ∧ PLc X s (ini (bk (wOf dm)) (nI th) (-1)) v := by
            rw [hini]
            cases hx : arv (bk (wOf dm)) (nI th) 0 0 (bH (bk (wOf dm))) with
            | none => exact ⟨-1, find_lost (arrS_lt hv (t := 0) (by omega) ⟨0, by decide, rfl⟩ hv.H.2.2) (arv_none hx), rfl⟩
            | some q' =>
              obtain ⟨j, j1, j2⟩ := hB.2.2.1 q' ⟨0, by rw [hini, hx]; rfl⟩
              obtain ⟨b1, b2, b3⟩ := hB.1.1.2.2.2.1 j j1
              refine ⟨nI j, ?_, j, j1, j2, rfl⟩
              rw [arv_some hv (t := 0) (by omega) ⟨0, by decide, rfl⟩ hv.H.2.2 hx, ← j2, find_q hv b1 hB.1.1.2.2.1 (by omega), b3, nI_pred]
          obtain ⟨v, fd1, fd2⟩ := hfd
          rw [r1, ob]
          dsimp only
          rw [beginning_eq hv hb1 hl1 (by omega), ob, fd1, ob, t1, ob]
          dsimp only
          rw [oddsOf_c hG.1.1 t4 (by omega) t5 fd2, ob, al_e, al_e]
          -- the reference
          have hd1 : FB dm (sF dm 0 16 (nI th)) := FB_16
          have hr1 := hd1.ru h.ru
          have f1 : FAR (sF dm 0 16 (nI th)) := FAR_cg hfar (gF_sFn (by decide)) (fun _ => rfl) (fun _ => rfl)
          obtain ⟨e', s', Y, f, m, y1, y2, y3⟩ := spreadBeg_q (bar := nI th) (nop := -1) hr1 f1 (gF_sF1 _ _ _ _) ((gF_sFn (by decide)).trans hbar.1)
          have hr2 := y3.ru hr1
          have b16 : gF e' 0 16 = nI th := (y3.1 16 (by decide) (by decide) (by decide) (by decide)).trans (gF_sF1 _ _ _ _)
          have b15 : gF e' 0 15 = -1 := (y3.1 15 (by decide) (by decide) (by decide) (by decide)).trans ((gF_sFn (by decide)).trans hbar.1)
          obtain ⟨e2, z1, z2, z3⟩ := findOdds_q hr2 b16 b15 y2.li y2.clo t ht
          have hr3 := z2.fr.ru hr2
          obtain ⟨e3, w1, w2⟩ := stateAt_q hr3 (g := 0) (t := 0) (hh := bH (wOf dm)) (by omega) ⟨0, by decide, rfl⟩ hH.2.2
          rw [z2.1 15 (by decide) (by decide), b15, z2.1 16 (by decide) (by decide), b16, if_neg (show ¬ nI 0 = -1 by decide)] at w1
          have hbh : bH (bk (wOf dm)) = bH (wOf dm) := bk_H _
          rw [← hbh, ← hini] at w1
          have e1w : gA e2 (32 * 0 + 0) (ix 1) = nI (bH (bk (wOf dm))) := by
            have q : wOf e2 1 = wOf dm 1 := by
              rw [z2.fr.w, y3.w]; rfl
            rw [hbh]
            exact q.trans hH.1
          rw [y1, ob, z1, ob, gd_h (show inb 1 4128 = true by decide), e1w, show t_X6_stateAt LM e2 0 0 (nI (bH (bk (wOf dm)))) = _ from w1, ob]
          dsimp only
          rw [oddsAt_q hv y2.clo.1 (z3.nw (e' := e3) (fun i => w2.2 26 i)) _ (fun q hq => by
            obtain ⟨q1, q2, _⟩ := y2.2.1 q hq
            exact ⟨0, q1, q2⟩), ob, bd_q]
          have fbt : FB dm (sF e3 0 16 (-1)) := (((hd1.tr (FB.of y3)).tr (FB.of z2.fr)).tr (FB.of (FR.nw w2))).tr FB_16
          refine ⟨_, L2, d2, _, _, _, rfl, rfl, h.g10 (fun x hx => (r3 x hx).trans (t3.1 x hx)) (by rw [Nat.zero_add, Nat.zero_add]; exact r2.tr t2) (hG.1.gi hv t2.1) (fbt.fr ?_ ?_) (FAR_cg (((y2.fo z2).fo (FO.nw w2)).far hv) (gF_sFn (by decide)) (fun _ => rfl) (fun _ => rfl))⟩
          · rw [gF_sFn (by decide), w2.1 15 (by decide) (by decide), z2.1 15 (by decide) (by decide), b15, hbar.1]
          · rw [gF_sF1, hbar.2]
        · exact absurd rfl q
  · rw [if_neg c0, if_pos rfl, if_pos rfl]
    exact triv _
