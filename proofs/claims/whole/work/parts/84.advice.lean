/-! ===== advice ===== -/
theorem cmp1 (p1 a b : Int32) (A B : Nat) (ha : a.toInt = (A : Int)) (hb : b.toInt = (B : Int)) : (p1 < a ∧ ¬ ((A : Int) ≤ p1.toInt ∧ p1.toInt ≤ (B : Int))) ∨ (¬ p1 < a ∧ ¬ p1 ≤ b ∧ ¬ ((A : Int) ≤ p1.toInt ∧ p1.toInt ≤ (B : Int))) ∨ (¬ p1 < a ∧ p1 ≤ b ∧ ((A : Int) ≤ p1.toInt ∧ p1.toInt ≤ (B : Int)) ∧ ∃ t, A ≤ t ∧ t ≤ B ∧ p1 = nI t) := by
  by_cases c : p1 < a
  · have := Int32.lt_iff_toInt_lt.mp c
    exact .inl ⟨c, fun z => by omega⟩
  · have h1 : ¬ p1.toInt < a.toInt := fun z => c (Int32.lt_iff_toInt_lt.mpr z)
    by_cases c2 : p1 ≤ b
    · have h2 := Int32.le_iff_toInt_le.mp c2
      have h0 : ¬ p1 < 0 := fun z => by
        have := Int32.lt_iff_toInt_lt.mp z
        have h3 : (0 : Int32).toInt = 0 := rfl
        omega
      obtain ⟨j, hj, e⟩ := nI_of h0
      have e2 := nI_toInt hj
      rw [← e] at e2
      exact .inr (.inr ⟨c, c2, ⟨by omega, by omega⟩, j, by omega, by omega, e⟩)
    · have h2 : ¬ p1.toInt ≤ b.toInt := fun z => c2 (Int32.le_iff_toInt_le.mpr z)
      exact .inr (.inl ⟨c, c2, fun z => by omega⟩)
theorem ok_advice : ST_advice RLx := by
  intro L d dm k n p1 h
  have triv : ∀ v : Int32, ∃ (r : Int32) (L' : Nat → Nat) (d' : Dt) (kc ns : Nat) (dm' : Dt), some ((v, L, d), 0, 0) = some ((r, L', d'), kc, ns) ∧ some (v, dm) = some (r, dm') ∧ RLx L' d' dm' (k + kc) (n + ns) := fun v => ⟨v, L, d, 0, 0, dm, rfl, rfl, h⟩
  unfold t_X5_advice t_X6_advice
  rw [in_I, Int32.toInt_toInt64, show (1 : Int64).toInt = ((1 : Nat) : Int) from rfl, show (60 : Int64).toInt = ((60 : Nat) : Int) from rfl, ob]
  rcases cmp1 p1 1 60 1 60 rfl rfl with ⟨a, b⟩ | ⟨a, a2, b⟩ | ⟨a, a2, b, t, ht1, ht, rfl⟩
  · rw [if_pos a, if_neg b, if_pos rfl]; exact triv _
  · rw [if_neg a, if_neg a2, if_neg b, if_pos rfl]; exact triv _
  · rw [if_neg a, if_pos a2, if_pos b, if_neg (show ¬ (1 : Int32) = 0 by decide), LM0, gd_h (show inb 3 4128 = true by decide), gd_h (show inb 3 4128 = true by decide), show gA dm (32 * 0 + 0) (ix 3) = wOf dm 3 from rfl]
    rcases begun_cases h.2.1 with ⟨b0, w3⟩ | ⟨b1, hs⟩
    · rw [b0, w3, if_pos rfl, if_neg (show ¬ (0 : Int32) ≤ -1 by decide)]; exact triv _
    · obtain ⟨t', rfl⟩ : ∃ t', t = t' + 1 := ⟨t - 1, by omega⟩
      have hv := h.2.1.1
      have hu := h.ru.v
      obtain ⟨x, L1, d1, k1, n1, v, L2, d2, k2, n2, s, X, wc, b', ap, r1, r2, r3, r4, r5, r6, r7, r8, r9, r10, c, r11, r12⟩ := ready_q h hs
      have hb2 : BK d2 6 (bk (wOf dm)) := BK_ag hu (r4.1 6 (by decide) (by decide) (by decide)) h.bkk
      obtain ⟨L3, d3, k3, n3, t1, t2, t3, t4, t5, t6⟩ := runTurns_q hu (by decide) r3.1 hb2 (LB_LF r3.2.1 (by decide) h.lb) r7.1 (show t' ≤ 60 by omega) r7.2.2.2.2.2.2.2.2.1
      have hG := r7.of t3 t6
      have hb3 : BK d3 6 (bk (wOf dm)) := BK_ag hu (t3.1 6 (by decide)) hb2
      have hl3 := LB_LF t2.2.1 (show 6 ≠ 9 by decide) (LB_LF r3.2.1 (by decide) h.lb)
      have e4 : gF d3 2 4 = nI c := ((t3.1 2 (by decide)).1 4).trans r11
      have cf : CF d d3 := r4.tr (FF.cf t3.1 (.inl rfl))
      have co : CO 9 L L3 (k3 + k2 + k1) (n3 + n2 + n1) := by rw [Nat.add_assoc, Nat.add_assoc]; exact r3.tr t2
      have h7 : gF d3 0 7 = 1 := by rw [(t3.1 0 (by decide)).1 7]; exact r6
      have a10 := r5.trans (t3.1 10 (by decide))
      -- the class, up to the choice
      have cls : ∀ w, t_X5_bestChoice L3 d3 9 = some w → (t_X5_freshComeTo L d).bind (fun q4 => al q4.2.1 q4.2.2 ((t_X4_include q4.1.1 q4.1.2 9 (gF q4.1.2 2 4)).bind (fun q8 => al q8.2.1 q8.2.2 ((t_X4_runTurns q8.1.2.1 q8.1.2.2 9 (nI (t' + 1) - 1)).bind (fun q12 => al q12.2.1 q12.2.2 ((t_X5_bestChoice q12.1.1 q12.1.2 9).bind (fun v16 => some ((v16, q12.1.1, q12.1.2), 0, 0)))))))) = some ((w, L3, d3), k3 + k2 + k1, n3 + n2 + n1) := by
        intro w hw
        rw [r1, ob]
        dsimp only
        rw [r2, ob]
        dsimp only
        rw [nI_pred, t1, ob]
        dsimp only
        rw [hw, ob, al_e, al_e, al_e, Nat.zero_add, Nat.zero_add]
      obtain ⟨p, hh, t, hpl, s4, s5, s7⟩ := hs
      have hst := stands_eq hv hpl
      have hnw := nowState_q hv hpl
      have hpl' := hpl
      obtain ⟨h3, h4, h5, hp, htn, h9⟩ := hpl'
      have hP := hv.P.2
      have hf := fat_lt (wOf dm) p hh
      have slt := stF_lt (wOf dm) p t hh
      have hE := (hv.2.2.2 p hp).E
      have hpu : p < bP (bk (wOf dm)) := by rw [bk_P]; exact hp
      rw [b1, if_neg (show ¬ (1 : Int32) = 0 by decide), h3, if_pos (nI_pos' (by omega)), hst, ob, show (8 : Int32) + nI p = nI (8 + p) from nI_add 8 p, gdi (show 8 + p < 4128 by omega) (by omega), wg (by omega), hE.1]
      have e4s : gF d3 2 4 = nI (sc p (ix t) hh (fat (wOf dm) p hh)) := by
        rw [(t3.1 2 (by decide)).1 4, (r4.1 2 (by decide) (by decide) (by decide)).1 4]; exact s4
      -- nothing is to be advised
      have none' : t_X5_bestChoice L3 d3 9 = some (-1) → ∃ (r : Int32) (L' : Nat → Nat) (d' : Dt) (kc ns : Nat) (dm' : Dt), (t_X5_freshComeTo L d).bind (fun q4 => al q4.2.1 q4.2.2 ((t_X4_include q4.1.1 q4.1.2 9 (gF q4.1.2 2 4)).bind (fun q8 => al q8.2.1 q8.2.2 ((t_X4_runTurns q8.1.2.1 q8.1.2.2 9 (nI (t' + 1) - 1)).bind (fun q12 => al q12.2.1 q12.2.2 ((t_X5_bestChoice q12.1.1 q12.1.2 9).bind (fun v16 => some ((v16, q12.1.1, q12.1.2), 0, 0)))))))) = some ((r, L', d'), kc, ns) ∧ some ((-1 : Int32), dm) = some (r, dm') ∧ RLx L' d' dm' (k + kc) (n + ns) := by
        intro hw
        exact ⟨-1, L3, d3, _, _, dm, cls _ hw, rfl, h.g9 cf a10 co h7 ⟨_, _, _, _, _, hG⟩ (FR.refl dm) h.2.2.2.2.2.2.2.2.2.1⟩
      have bE_eq : bE (bk (wOf dm)) p = bE (wOf dm) p := bk_E _ (by omega)
      by_cases f0 : fat (wOf dm) p hh = 0
      · have h0 : ¬ hh = 0 := fun z => by unfold fat at f0; rw [if_pos z] at f0; exact absurd f0 (by decide)
        have e1 : bE (wOf dm) p ≠ 1 := fun z => by unfold fat at f0; rw [if_neg h0, if_pos z] at f0; exact absurd f0 (by decide)
        have e2 : bE (wOf dm) p ≠ 2 := fun z => by unfold fat at f0; rw [if_neg h0, if_neg e1, if_pos z] at f0; exact absurd f0 (by decide)
        by_cases e3 : bE (wOf dm) p = 3
        · have s0 : stF (wOf dm) p t hh = 0 := by unfold stF stn; rw [if_pos f0, if_pos e3]
          have c0 : bC (wOf dm) p = 0 := (hv.2.2.2 p hp).2.2.2.1 (by omega)
          rw [s0, if_pos (show nI 0 = 0 from rfl), e3, if_pos (show nI 3 = 3 from rfl)]
          refine none' (best_no (fun c _ => ?_))
          rw [e4s]
          refine isOpen_no hu hb3 hl3 hpu htn h9 (by omega) (.inr ?_)
          rw [bk_C _ (by omega), c0]
          intro z
          unfold inb at z
          simp only [Bool.and_eq_true, decide_eq_true_eq] at z
          omega
        · have e0 : bE (wOf dm) p = 0 := by omega
          have hxe : x = some (sq p (ix t) hh) := by
            have e := Option.some.inj (r9.symm.trans hnw)
            have hn : nwo (wOf dm) p t hh = some (sq p (ix t) hh) := by unfold nwo; rw [if_neg (by omega)]
            rw [hn] at e
            cases x with
            | none =>
              exfalso
              have hl := nwo_ok hp htn h9 hn
              have hq : sq p (ix t) hh < 61440 := by have := hl.1.1; have := hl.2.1; have h2 := hl.1; exact VQ_lt hv h2
              exact enc_some_ne hq (e.symm.trans enc_none)
            | some r =>
              have l1 := VQ_lt hu (r10 r rfl)
              have l2 : sq p (ix t) hh < 61440 := VQ_lt hv (nwo_ok hp htn h9 hn).1
              rw [enc_q, enc_q] at e
              rw [nI_inj (by omega) (by omega) e]
          have hq := nwo_ok hp htn h9 (show nwo (wOf dm) p t hh = some (sq p (ix t) hh) by unfold nwo; rw [if_neg (by omega)])
          subst hxe
          obtain ⟨i, i1, i2, i3⟩ := r8
          obtain ⟨cd1, cd2⟩ := r12
          have hqp : qp (X i) = p := by rw [i2]; exact hq.2.1
          have hf3 : ∀ j, j < s → od (bk (wOf dm)) (-1) t' (X j) ≤ 1000000 := fun j hj => od_le hu t' _ (hG.1.1.2.2.2.1 j hj).1
          have bc := best_c hu t2.1 hb3 hl3 hG.1 t4 t5 hf3 i1 (by rw [hqp, bE_eq]; exact e0) (by rw [i2, ← cd2]; exact e4)
          by_cases s0 : stF (wOf dm) p t hh = 0
          · rw [s0, if_pos (show nI 0 = 0 from rfl), if_neg (show ¬ nI (bE (wOf dm) p) = 3 from fun q => e3 (nI_inj (b := 3) (by omega) (by decide) q)), r9, ob]
            obtain ⟨e', s', Y, f, m, y1, y2, y3⟩ := spreadFrom_q h.ru h.2.2.2.2.2.2.2.2.2.1 h.2.2.2.2.2.2.2.2.1.2 h.2.2.2.2.2.2.2.2.1.1 (some (sq p (ix t) hh)) r10
            have hr' := y3.ru h.ru
            have b16 : gF e' 0 16 = -1 := (y3.1 16 (by decide) (by decide) (by decide) (by decide)).trans h.2.2.2.2.2.2.2.2.1.2
            have b15 : gF e' 0 15 = -1 := (y3.1 15 (by decide) (by decide) (by decide) (by decide)).trans h.2.2.2.2.2.2.2.2.1.1
            obtain ⟨e2', z1, z2, z3⟩ := findOdds_q hr' b16 b15 y2.li y2.clo t' (by omega)
            obtain ⟨q1, q2, _⟩ := y2.2.1 _ rfl
            obtain ⟨e3', w1, w2⟩ := advice_lp (nI (t' + 1)) (z2.fr.ru hr') ((z2.1 16 (by decide) (by decide)).trans b16) ((z2.1 15 (by decide) (by decide)).trans b15) y2.clo z3 (fun j hj => od_le hu t' _ (y2.clo.1 j hj)) q1
            rw [y1, ob, nI_pred, z1, ob, bd_q]
            rw [q2] at w1
            rw [i2] at bc
            have cl := cls _ bc
            rw [nI_pred] at cl
            refine ⟨_, L3, d3, _, _, e3', cl, ?_, h.g9 cf a10 co h7 ⟨_, _, _, _, _, hG⟩ ((y3.trans z2.fr).trans (FR.nw w2)) (((y2.fo z2).fo (FO.nw w2)).far hu)⟩
            exact w1
          · rw [if_neg (show ¬ nI (stF (wOf dm) p t hh) = 0 from nI_ne0 (by omega) (by omega))]
            refine none' ?_
            rw [bc]
            -- stuck: no way is open
            have st3 : stn (wOf dm) p t = 3 := by
              unfold stF at s0
              rw [if_pos f0] at s0
              unfold stn at s0 ⊢
              rw [if_neg e3] at s0 ⊢
              by_cases m : msk (wOf dm) p t (bC (wOf dm) p) 0 0 = 0
              · rw [if_pos m]
              · rw [if_neg m] at s0; exact absurd rfl s0
            have hVQi : VQ (bk (wOf dm)) (X i) := (hG.1.1.2.2.2.1 i i1).1
            have sq3 : stq (bk (wOf dm)) (X i) = 3 := by
              unfold stq
              rw [hqp, bE_eq, if_neg e1, bk_stn hv _ hp, i2, hq.2.2.1, st3]
            have nw' : ∀ c, c < wys (bk (wOf dm)) (qp (X i)) → ¬ wo (bk (wOf dm)) (X i) c = true := by
              rcases stq_cases hu hVQi with ⟨_, z⟩ | ⟨_, z, _⟩ | ⟨_, _, z⟩
              · omega
              · omega
              · exact z
            have bsn : ∀ (n c : Nat), c + n = wys (bk (wOf dm)) (qp (X i)) → bs (bk (wOf dm)) (-1) (od (bk (wOf dm)) (-1) t') (X i) n c none = none := by
              intro n
              induction n with
              | zero => intro c _; rfl
              | succ n ih =>
                intro c hc
                unfold bs
                rw [if_neg (nw' c (by omega))]
                exact ih (c + 1) (by omega)
            rw [bsn _ 0 (by omega)]
            rfl
      · rw [if_neg (show ¬ nI (stF (wOf dm) p t hh) = 0 from by
          unfold stF
          rw [if_neg f0]
          exact nI_ne0 (by omega) (by omega))]
        refine none' (best_no (fun c _ => ?_))
        rw [e4s]
        exact isOpen_no hu hb3 hl3 hpu htn h9 (by omega) (.inl f0)
