/-! ===== count, odds, fewest, surely ===== -/
theorem now_q {d dm : Dt} {u : Nat → Int32} (hv : VB (wOf dm)) (hu : u = bk (wOf dm)) (hs : SIb d 2 (wOf dm)) : ∃ x c, gF d 2 4 = nI c ∧ CD u x c ∧ t_X6_nowState LM dm = some (enc x) ∧ (∀ r, x = some r → VQ u r) ∧ ∃ p, wOf dm 3 = nI p ∧ p < bP (wOf dm) := by
  obtain ⟨p, h, t, hpl, s4, _⟩ := hs
  have hn := nowState_q hv hpl
  obtain ⟨h3, h4, h5, hp, ht, hh⟩ := hpl
  have h24 := hv.P.2
  have et := nb_ix ht (by decide)
  have hf := fat_lt (wOf dm) p h
  have hVQ : ∀ r, VQ (wOf dm) r → VQ u r := fun r hr => by
    have := hr.1
    rw [hu]
    exact ⟨by rw [bk_P]; exact hr.1, hr.2.1, by rw [bk_E _ (by omega)]; exact hr.2.2⟩
  refine ⟨nwo (wOf dm) p t h, _, s4, ?_, hn, fun r e => hVQ r (nwo_ok hp ht hh e).1, p, h3, hp⟩
  cases e : nwo (wOf dm) p t h with
  | none =>
    unfold nwo at e
    by_cases c : fat (wOf dm) p h = 2
    · refine ⟨?_, ?_⟩
      · unfold sc; omega
      · unfold sc; omega
    · rw [if_neg c] at e; cases e
  | some q =>
    obtain ⟨q1, q2, q3, q4⟩ := nwo_ok hp ht hh e
    refine ⟨hVQ q q1, ?_⟩
    unfold cc
    rw [q2, q3, q4, hu, bk_E _ (by omega)]
    congr 1
    unfold nwo at e
    by_cases c : fat (wOf dm) p h = 2
    · rw [if_pos c] at e; cases e
    · have h0 : ¬ h = 0 := fun z => c (by unfold fat; rw [if_pos z])
      have h2 := q1.2.2
      rw [q2] at h2
      unfold fat
      rw [if_neg h0, if_neg h2]
theorem allChoices_q {L : Nat → Nat} {d dm : Dt} (hv : VB (wOf dm)) (hb : BK d 6 (wOf dm)) (hl : LB L 6) : SAME (t_X0_allChoices L d 6) (t_X6_choices LM dm) := by
  have hP := hv.P
  have main : ∀ (n i F G : Nat) (a : Int32), i + n = bP (wOf dm) → n < F → n < G → SAME (lp (fun k x => t_X0_allChoices_4 L d 6 (fun x1 x2 => k (x1, x2)) x.1 x.2) F (a, nI i)) (lp (fun k x => t_X6_choices_4 LM dm (fun x1 x2 => k (x1, x2)) x.1 x.2) G (a, nI i)) := by
    intro n
    induction n with
    | zero =>
      intro i F G a hi hF hG
      obtain ⟨F, rfl⟩ : ∃ F', F = F' + 1 := ⟨F - 1, by omega⟩
      obtain ⟨G, rfl⟩ : ∃ F', G = F' + 1 := ⟨G - 1, by omega⟩
      show SAME (t_X0_allChoices_4 L d 6 (fun x1 x2 => lp _ F (x1, x2)) a (nI i)) (t_X6_choices_4 LM dm (fun x1 x2 => lp _ G (x1, x2)) a (nI i))
      rw [t_X0_allChoices_4, t_X6_choices_4, hb.1, LM0, gd_h (show inb 0 4128 = true by decide), show gA dm (32 * 0 + 0) (ix 0) = wOf dm 0 from rfl, hP.1, if_pos (nI_le (by omega) (by omega)), if_pos (nI_le (by omega) (by omega))]
      exact ⟨_, rfl, rfl⟩
    | succ n ih =>
      intro i F G a hi hF hG
      obtain ⟨F, rfl⟩ : ∃ F', F = F' + 1 := ⟨F - 1, by omega⟩
      obtain ⟨G, rfl⟩ : ∃ F', G = F' + 1 := ⟨G - 1, by omega⟩
      have hB := hb.2.2 i (by omega)
      show SAME (t_X0_allChoices_4 L d 6 (fun x1 x2 => lp _ F (x1, x2)) a (nI i)) (t_X6_choices_4 LM dm (fun x1 x2 => lp _ G (x1, x2)) a (nI i))
      rw [t_X0_allChoices_4, t_X6_choices_4, hb.1, LM0, gd_h (show inb 0 4128 = true by decide), show gA dm (32 * 0 + 0) (ix 0) = wOf dm 0 from rfl, hP.1, if_neg (nI_ge (by omega) (by omega)), if_neg (nI_ge (by omega) (by omega)), if_neg (show ¬ (24 : Int32) ≤ nI i from nI_ge (b := 24) (by omega) (by decide)), hl.2.2.2.2.2.2.2.1, gdi (show i < 24 by omega) (by omega), ix_nI (by omega), hB.2.2.1, bd_q, show (56 : Int32) + nI i = nI (56 + i) from nI_add 56 i, gdi (show 56 + i < 4128 by omega) (by omega), wg (by omega), bd_q, nI_1]
      exact ih _ _ _ _ (by omega) (by omega) (by omega)
  exact main (bP (wOf dm)) 0 FU FU 0 (by omega) (by unfold FU; omega) (by unfold FU; omega)
/-- both lists hold the same states -/
theorem RS.rc {u : Nat → Int32} {bar nop : Int32} {B : Nat → Prop} {e : Dt} {s : Nat} {Y f : Nat → Nat} {m : Nat} (h : RS u bar nop (ini u bar nop) B e s Y f m) : (∀ i, i < s → RC u bar nop (Y i)) ∧ ∀ q, RC u bar nop q → ∃ i, i < s ∧ Y i = q := by
  refine ⟨fun i hi => ⟨f i, (h.1.2.2.1 i hi).2.2.2.2⟩, fun q ⟨n, hn⟩ => ?_⟩
  obtain ⟨j, a, b, _⟩ := h.all n q hn
  exact ⟨j, a, b⟩
theorem ok_count : ST_count RLx := by
  intro L d dm k n p1 h
  have hv := h.2.1.1
  have hb := h.2.1.2.1
  unfold t_X5_count t_X6_count
  rw [LM0, gd_h (show inb 0 4128 = true by decide), gd_h (show inb 1 4128 = true by decide), show gA dm (32 * 0 + 0) (ix 0) = wOf dm 0 from rfl, show gA dm (32 * 0 + 0) (ix 1) = wOf dm 1 from rfl]
  have triv : ∀ v : Int32, ∃ (r : Int32) (L' : Nat → Nat) (d' : Dt) (kc ns : Nat) (dm' : Dt), some ((v, L, d), 0, 0) = some ((r, L', d'), kc, ns) ∧ some (v, dm) = some (r, dm') ∧ RLx L' d' dm' (k + kc) (n + ns) := fun v => ⟨v, L, d, 0, 0, dm, rfl, rfl, h⟩
  by_cases c0 : p1 = 0
  · rw [if_pos c0, if_pos c0, show gF d 6 0 = wOf dm 0 from hb.1]
    exact triv _
  · rw [if_neg c0, if_neg c0]
    by_cases c1 : p1 = 1
    · obtain ⟨r, a, b⟩ := allChoices_q hv hb h.lb
      rw [if_pos c1, if_pos c1, a, b, ob, ob]
      exact triv _
    · rw [if_neg c1, if_neg c1]
      by_cases c2 : p1 = 2
      · rw [if_pos c2, if_pos c2, show gF d 6 1 = wOf dm 1 from hb.2.1]
        exact triv _
      · rw [if_neg c2, if_neg c2]
        by_cases c3 : p1 = 3
        · obtain ⟨c, _, e1, e2, _⟩ := h.2.2.2.2.2.2.2.1
          rw [if_pos c3, if_pos c3, e1, e2]
          exact triv _
        · rw [if_neg c3, if_neg c3]
          by_cases c4 : p1 = 4
          · obtain ⟨c, _, e1, e2, _⟩ := h.2.2.2.2.2.1
            rw [if_pos c4, if_pos c4, e1, e2]
            exact triv _
          · rw [if_neg c4, if_neg c4]
            by_cases c5 : p1 = 5
            · rw [if_pos c5, if_pos c5]
              obtain ⟨L1, d1, k1, n1, s, X, wc, b, ap, r1, r2, r3, r4, r5, r6⟩ := fresh_q h.ru.v h.bkk h.lb h.2.2.2.2.2.2.2.2.2.2.1
              obtain ⟨e', s', Y, f, m, t1, t2, t3⟩ := spreadBeg_q h.ru h.2.2.2.2.2.2.2.2.2.1 h.2.2.2.2.2.2.2.2.1.2 h.2.2.2.2.2.2.2.2.1.1
              rw [r1, ob, t1, ob]
              dsimp only
              rw [al_e]
              have rc := t2.rc
              have hinj := r6.1.1.inj r2.1
              have e1 : b = s' := Nat.le_antisymm
                (same_len (X := X) (Y := Y) (fun i j hi hj => hinj i j (by have := r6.2.1; omega) (by have := r6.2.1; omega)) (fun i hi => rc.2 _ (r6.2.2.2.1 i hi)))
                (same_len (X := Y) (Y := X) t2.1.2.2.2.1 (fun i hi => r6.2.2.2.2.1 _ (rc.1 i hi)))
              refine ⟨_, _, _, _, _, e', rfl, ?_, h.g9 r3 r4 (by rw [Nat.zero_add, Nat.zero_add]; exact r2) r5 ⟨_, _, _, _, _, r6⟩ t3 (t2.far h.ru.v)⟩
              rw [t2.1.1, r6.2.2.1, e1]
            · rw [if_neg c5, if_neg c5]
              exact triv _
theorem begun_cases {d dm : Dt} (h : SI d 2 (wOf dm)) : (gF d 2 3 = 0 ∧ wOf dm 3 = -1) ∨ (gF d 2 3 = 1 ∧ SIb d 2 (wOf dm)) := h.2.2.2.2.2
/-- the class, ready for a question about now -/
theorem ready_q {L : Nat → Nat} {d dm : Dt} {k n : Nat} (h : RLx L d dm k n) (hs : SIb d 2 (wOf dm)) : ∃ x L1 d1 k1 n1 v L2 d2 k2 n2 s X wc b ap, t_X5_freshComeTo L d = some ((L1, d1), k1, n1) ∧ t_X4_include L1 d1 9 (gF d1 2 4) = some ((v, L2, d2), k2, n2) ∧ CO 9 L L2 (k2 + k1) (n2 + n1) ∧ CF d d2 ∧ AG d d2 10 ∧ gF d2 0 7 = 1 ∧ GSp L2 d2 (bk (wOf dm)) s X wc b ap ∧ PLc X s x v ∧ t_X6_nowState LM dm = some (enc x) ∧ (∀ r, x = some r → VQ (bk (wOf dm)) r) ∧ (∃ c, gF d2 2 4 = nI c ∧ CD (bk (wOf dm)) x c) := by
  obtain ⟨L1, d1, k1, n1, s, X, wc, b, ap, r1, r2, r3, r4, r5, r6⟩ := fresh_q h.ru.v h.bkk h.lb h.2.2.2.2.2.2.2.2.2.2.1
  obtain ⟨x, c, e4, cd, ns', vq, _⟩ := now_q h.2.1.1 rfl hs
  have a2 := r3.1 2 (by decide) (by decide) (by decide)
  have e4' : gF d1 2 4 = nI c := (a2.1 4).trans e4
  have hb1 : BK d1 6 (bk (wOf dm)) := BK_ag h.ru.v (r3.1 6 (by decide) (by decide) (by decide)) h.bkk
  obtain ⟨v, L2, d2, k2, n2, s2, X2, wc2, t1, t2, t3, t4, t5⟩ := include_q h.ru.v hb1 (LB_LF r2.2.1 (by decide) h.lb) r2.1 r6 cd
  refine ⟨x, L1, d1, k1, n1, v, L2, d2, k2, n2, s2, X2, wc2, b, ap, r1, by rw [e4']; exact t1, r2.tr t2, r3.tr (t3.cf (.inl rfl)), r4.trans (t3 10 (by decide)), ?_, t4, t5, ns', vq, c, ?_, cd⟩
  · rw [(t3 0 (by decide)).1 7]; exact r5
  · rw [(t3 2 (by decide)).1 4]; exact e4'
theorem cmp60 (p1 : Int32) : (p1 < 0 ∧ ¬ inb p1 61 = true) ∨ (¬ p1 < 0 ∧ ¬ p1 ≤ 60 ∧ ¬ inb p1 61 = true) ∨ ∃ t, t ≤ 60 ∧ p1 = nI t := by
  rcases pk_ix p1 (n := 61) (by decide) with q | q | ⟨j, hj, rfl⟩
  · exact .inl ⟨q, inb_neg (n := 61) (by decide) q⟩
  · refine .inr (.inl ⟨?_, ?_, inb_ge (n := 61) (by decide) q⟩)
    · intro z
      have h1 := Int32.lt_iff_toInt_lt.mp z
      have h2 := Int32.le_iff_toInt_le.mp q
      rw [nI_toInt (by decide)] at h2
      have : (0 : Int32).toInt = 0 := rfl
      omega
    · intro z
      have h1 := Int32.le_iff_toInt_le.mp z
      have h2 := Int32.le_iff_toInt_le.mp q
      rw [nI_toInt (by decide)] at h2
      have : (60 : Int32).toInt = 60 := rfl
      omega
  · exact .inr (.inr ⟨j, by omega, rfl⟩)
theorem ok_odds : ST_odds RLx := by
  intro L d dm k n p1 h
  have triv : ∀ v : Int32, ∃ (r : Int32) (L' : Nat → Nat) (d' : Dt) (kc ns : Nat) (dm' : Dt), some ((v, L, d), 0, 0) = some ((r, L', d'), kc, ns) ∧ some (v, dm) = some (r, dm') ∧ RLx L' d' dm' (k + kc) (n + ns) := fun v => ⟨v, L, d, 0, 0, dm, rfl, rfl, h⟩
  unfold t_X5_odds t_X6_odds
  rw [in_k p1 60 60 rfl, ob]
  rcases cmp60 p1 with ⟨a, b⟩ | ⟨a, a2, b⟩ | ⟨t, ht, rfl⟩
  · rw [if_pos a, if_neg b, if_pos rfl]; exact triv _
  · rw [if_neg a, if_neg a2, if_neg b, if_pos rfl]; exact triv _
  · rw [if_neg (nI_pos (by omega)), if_pos (show nI t ≤ 60 from nI_le (b := 60) ht (by decide)), if_pos (in_nI (by omega) (by omega)), if_neg (show ¬ (1 : Int32) = 0 by decide), LM0, gd_h (show inb 3 4128 = true by decide), show gA dm (32 * 0 + 0) (ix 3) = wOf dm 3 from rfl]
    rcases begun_cases h.2.1 with ⟨b0, w3⟩ | ⟨b1, hs⟩
    · rw [b0, w3, if_pos rfl, if_neg (show ¬ (0 : Int32) ≤ -1 by decide)]; exact triv _
    · obtain ⟨_, _, _, _, _, _, p, hp3, hpP⟩ := now_q h.2.1.1 rfl hs
      have hP24 := h.2.1.1.P.2
      obtain ⟨x, L1, d1, k1, n1, v, L2, d2, k2, n2, s, X, wc, b, ap, r1, r2, r3, r4, r5, r6, r7, r8, r9, r10, _⟩ := ready_q h hs
      have hb2 : BK d2 6 (bk (wOf dm)) := BK_ag h.ru.v (r4.1 6 (by decide) (by decide) (by decide)) h.bkk
      obtain ⟨L3, d3, k3, n3, t1, t2, t3, t4, t5, t6⟩ := runTurns_q h.ru.v (by decide) r3.1 hb2 (LB_LF r3.2.1 (by decide) h.lb) r7.1 ht r7.2.2.2.2.2.2.2.2.1
      have hG := r7.of t3 t6
      have hch := chS_le t2.1.1
      have hsz := hG.1.1.2.1
      rw [b1, if_neg (show ¬ (1 : Int32) = 0 by decide), r1, ob]
      dsimp only
      rw [r2, ob]
      dsimp only
      rw [t1, ob]
      dsimp only
      rw [oddsOf_c hG.1.1.1 t4 (by omega) t5 r8, ob, al_e, al_e, al_e]
      obtain ⟨e', s', Y, f, m, y1, y2, y3⟩ := spreadFrom_q h.ru h.2.2.2.2.2.2.2.2.2.1 h.2.2.2.2.2.2.2.2.1.2 h.2.2.2.2.2.2.2.2.1.1 x r10
      have hr' := y3.ru h.ru
      have b16 : gF e' 0 16 = -1 := (y3.1 16 (by decide) (by decide) (by decide) (by decide)).trans h.2.2.2.2.2.2.2.2.1.2
      have b15 : gF e' 0 15 = -1 := (y3.1 15 (by decide) (by decide) (by decide) (by decide)).trans h.2.2.2.2.2.2.2.2.1.1
      obtain ⟨e2, z1, z2, z3⟩ := findOdds_q hr' b16 b15 y2.li y2.clo t ht
      rw [hp3, if_pos (nI_pos' (by omega)), r9, ob, y1, ob, z1, ob, oddsAt_q h.ru.v (y2.clo.1) z3 x (fun q hq => by
        obtain ⟨q1, q2, _⟩ := y2.2.1 q hq
        exact ⟨0, q1, q2⟩), ob]
      have hf2 := y3.trans z2.fr
      refine ⟨_, L3, d3, _, _, e2, rfl, rfl, h.g9 (r4.tr (FF.cf t3.1 (.inl rfl))) (r5.trans (t3.1 10 (by decide))) (by rw [Nat.zero_add, Nat.zero_add, Nat.add_assoc, Nat.add_assoc]; exact r3.tr t2) (by rw [(t3.1 0 (by decide)).1 7]; exact r6) ⟨s, X, wc, b, ap, hG⟩ hf2 ((y2.fo z2).far h.ru.v)⟩
theorem ok_fewest : ST_fewest RLx := by
  intro L d dm k n h
  have triv : ∀ v : Int32, ∃ (r : Int32) (L' : Nat → Nat) (d' : Dt) (kc ns : Nat) (dm' : Dt), some ((v, L, d), 0, 0) = some ((r, L', d'), kc, ns) ∧ some (v, dm) = some (r, dm') ∧ RLx L' d' dm' (k + kc) (n + ns) := fun v => ⟨v, L, d, 0, 0, dm, rfl, rfl, h⟩
  unfold t_X5_fewest t_X6_fewest
  rw [LM0, gd_h (show inb 3 4128 = true by decide), show gA dm (32 * 0 + 0) (ix 3) = wOf dm 3 from rfl]
  rcases begun_cases h.2.1 with ⟨b0, w3⟩ | ⟨b1, hs⟩
  · rw [b0, w3, if_pos rfl, if_neg (show ¬ (0 : Int32) ≤ -1 by decide)]; exact triv _
  · obtain ⟨_, _, _, _, _, _, p, hp3, hpP⟩ := now_q h.2.1.1 rfl hs
    have hP24 := h.2.1.1.P.2
    obtain ⟨x, L1, d1, k1, n1, v, L2, d2, k2, n2, s, X, wc, b, ap, r1, r2, r3, r4, r5, r6, r7, r8, r9, r10, _⟩ := ready_q h hs
    obtain ⟨L3, d3, k3, n3, t1, t2, t3, t4⟩ := measure_q h.ru.v r3.1 r7.1 r7.2.2.2.2.2.2.2.2.2
    have hG := r7.nf t3 t4
    have hch := chS_le t2.1.1
    have hsz := hG.1.1.2.1
    obtain ⟨e', s', Y, f, m, y1, y2, y3⟩ := spreadFrom_q h.ru h.2.2.2.2.2.2.2.2.2.1 h.2.2.2.2.2.2.2.2.1.2 h.2.2.2.2.2.2.2.2.1.1 x r10
    obtain ⟨w, z1, z2⟩ := fewest_lp (y3.ru h.ru) y2
    have hcl : t_X4_turnsToWinOf L3 d3 9 v = some w := by
      unfold t_X4_turnsToWinOf
      cases x with
      | none =>
        have e : v = -1 := r8
        rw [e, if_pos (by decide)]
        rcases z2 with ⟨_, _, _, q, _⟩ | ⟨q, _⟩
        · exact q.elim
        · rw [q]
      | some q =>
        obtain ⟨j, j1, j2, j3⟩ := r8
        rw [j3, if_neg (nI_pos (by omega)), hG.1.1.1, if_neg (nI_ge j1 (by omega)), gdi (by have := t4.2.1; omega) (by omega), ix_nI (by omega)]
        have := t4.2.2 j j1
        rw [j2] at this
        rw [this.eq z2]
    rw [b1, if_neg (show ¬ (1 : Int32) = 0 by decide), r1, ob]
    dsimp only
    rw [r2, ob]
    dsimp only
    rw [t1, ob]
    dsimp only
    rw [hcl, ob, al_e, al_e, al_e, hp3, if_pos (nI_pos' (by omega)), r9, ob, y1, ob, bd_q]
    refine ⟨w, L3, d3, _, _, e', rfl, z1, h.g9 (r4.tr (FF.cf t3.1 (.inl rfl))) (r5.trans (t3.1 10 (by decide))) (by rw [Nat.zero_add, Nat.zero_add, Nat.add_assoc, Nat.add_assoc]; exact r3.tr t2) (by rw [(t3.1 0 (by decide)).1 7]; exact r6) ⟨s, X, wc, b, ap, hG⟩ y3 (y2.far h.ru.v)⟩
