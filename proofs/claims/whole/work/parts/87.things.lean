/-! ===== things; without ===== -/
theorem needed_c {u : Nat → Int32} {H : Nat} (hv : VB u) (hH : H < 256) : ∀ (n p F M : Nat) (L : Nat → Nat) (d : Dt), p + n = 8 → n < F → GI L d 10 → LB L 6 → BK d 6 u → (∀ g, M.testBit g = true ↔ (g < p ∧ H.testBit g = true ∧ ¬ WN u (nI g) (-1))) → ∃ M' L' d' kc ns, lp (fun k x => t_X5_neededThings_19 9 (fun x2 x3 x4 L d => k (x2, x3, x4, L, d)) x.1 x.2.1 x.2.2.1 x.2.2.2.1 x.2.2.2.2) F (nI H, nI M, nI p, L, d) = some ((nI M', L', d'), kc, ns) ∧ CO 10 L L' kc ns ∧ FF 10 d d' ∧ GI L' d' 10 ∧ ∀ g, M'.testBit g = true ↔ (g < 8 ∧ H.testBit g = true ∧ ¬ WN u (nI g) (-1)) := by
  intro n
  induction n with
  | zero =>
    intro p F M L d hp hF hi hl hb hM
    obtain ⟨F, rfl⟩ : ∃ G, F = G + 1 := ⟨F - 1, by omega⟩
    have : p = 8 := by omega
    subst this
    refine ⟨M, L, d, 0, 0, ?_, CO.rf hi.1, fun x _ => AG.refl d x, hi, hM⟩
    show t_X5_neededThings_19 9 (fun x2 x3 x4 L d => lp _ F (x2, x3, x4, L, d)) (nI H) (nI M) (nI 8) L d = _
    rw [t_X5_neededThings_19, if_pos (show (8 : Int32) ≤ nI 8 by decide)]
  | succ n ih =>
    intro p F M L d hp hF hi hl hb hM
    obtain ⟨F, rfl⟩ : ∃ G, F = G + 1 := ⟨F - 1, by omega⟩
    show ∃ M' L' d' kc ns, t_X5_neededThings_19 9 (fun x2 x3 x4 L d => lp _ F (x2, x3, x4, L, d)) (nI H) (nI M) (nI p) L d = _ ∧ _
    rw [t_X5_neededThings_19, if_neg (show ¬ (8 : Int32) ≤ nI p from nI_ge (b := 8) (by omega) (by decide))]
    have step : ∀ (M1 : Nat), (∀ g, M1.testBit g = true ↔ (M.testBit g = true ∨ (g = p ∧ H.testBit p = true ∧ ¬ WN u (nI p) (-1)))) → ∀ g, M1.testBit g = true ↔ (g < p + 1 ∧ H.testBit g = true ∧ ¬ WN u (nI g) (-1)) := by
      intro M1 h g
      rw [h g, hM g]
      constructor
      · rintro (⟨a, b⟩ | ⟨rfl, b⟩)
        · exact ⟨by omega, b⟩
        · exact ⟨by omega, b⟩
      · rintro ⟨a, b⟩
        by_cases z : g = p
        · rw [z] at b; exact .inr ⟨z, b⟩
        · exact .inl ⟨by omega, b⟩
    by_cases t : H.testBit p = true
    · rw [if_pos ((bit_test (by omega) (by omega)).mpr t)]
      obtain ⟨L1, d1, k1, n1, r1, r2, r3, r4, r5⟩ := build_won (bar := nI p) (nop := -1) hv hi hb hl
      rw [r1, ob]
      dsimp only
      have hl1 := LB_LF r2.2.1 (show 6 ≠ 10 by decide) hl
      have hb1 := BK_ag hv (r3 6 (by decide)) hb
      rcases r5 with ⟨z, w⟩ | ⟨z, w⟩
      · rw [z, if_neg (by decide), t_X5_neededThings_64, nI_1]
        obtain ⟨M', L2, d2, k2, n2, t1, t2, t3, t4, t5⟩ := ih (p + 1) F M L1 d1 (by omega) (by omega) r4 hl1 hb1 (step M (fun g => ⟨.inl, fun q => q.elim id (fun q => absurd w q.2.2)⟩))
        rw [t1, al_e]
        exact ⟨M', L2, d2, _, _, rfl, r2.tr t2, fun x hx => (r3 x hx).trans (t3 x hx), t4, t5⟩
      · rw [z, if_pos rfl, bit_e _ (by omega), nx_or, bd_q, t_X5_neededThings_64, nI_1]
        obtain ⟨M', L2, d2, k2, n2, t1, t2, t3, t4, t5⟩ := ih (p + 1) F (M ||| 2 ^ p) L1 d1 (by omega) (by omega) r4 hl1 hb1 (step _ (fun g => by
          rw [Nat.testBit_or, Bool.or_eq_true, Nat.testBit_two_pow, decide_eq_true_eq]
          exact ⟨fun q => q.elim .inl (fun q => .inr ⟨q.symm, t, w⟩), fun q => q.elim .inl (fun q => .inr q.1.symm)⟩))
        rw [t1, al_e]
        exact ⟨M', L2, d2, _, _, rfl, r2.tr t2, fun x hx => (r3 x hx).trans (t3 x hx), t4, t5⟩
    · rw [if_neg (fun z => t ((bit_test (by omega) (by omega)).mp z)), t_X5_neededThings_64, nI_1]
      exact ih (p + 1) F M L d (by omega) (by omega) hi hl hb (step M (fun g => ⟨.inl, fun q => q.elim id (fun q => absurd q.2.1 t)⟩))
theorem needed_m {u : Nat → Int32} {e : Dt} (p1 : Int32) (hr : RU u e) (hb : gF e 0 16 = -1) (hn : gF e 0 15 = -1) : ∀ (n p F M : Nat) (d : Dt), p + n = 8 → n < F → FB e d → FAR d → gF d 0 15 = -1 → (∀ g, M.testBit g = true ↔ (g < p ∧ ¬ WN u (nI g) (-1))) → ∃ M' e', lp (fun k x => t_X6_things_64 LM p1 (fun x3 x4 x5 d => k (x3, x4, x5, d)) x.1 x.2.1 x.2.2.1 x.2.2.2) F (nI M, 1, nI p, d) = some (nI M', e') ∧ FR e e' ∧ FAR e' ∧ ∀ g, M'.testBit g = true ↔ (g < 8 ∧ ¬ WN u (nI g) (-1)) := by
  intro n
  induction n with
  | zero =>
    intro p F M d hp hF hd hfar h15 hM
    obtain ⟨F, rfl⟩ : ∃ G, F = G + 1 := ⟨F - 1, by omega⟩
    have : p = 8 := by omega
    subst this
    refine ⟨M, sF d 0 16 (-1), ?_, (hd.tr FB_16).fr (by rw [gF_sFn (by decide), h15, hn]) (by rw [gF_sF1, hb]), FAR_cg hfar (gF_sFn (by decide)) (fun _ => rfl) (fun _ => rfl), hM⟩
    show t_X6_things_64 LM p1 (fun x3 x4 x5 d => lp _ F (x3, x4, x5, d)) (nI M) 1 (nI 8) d = _
    rw [t_X6_things_64, if_pos (show (8 : Int32) ≤ nI 8 by decide), t_X6_things_113, bd_q]
  | succ n ih =>
    intro p F M d hp hF hd hfar h15 hM
    obtain ⟨F, rfl⟩ : ∃ G, F = G + 1 := ⟨F - 1, by omega⟩
    have hd1 := hd.tr (FB_16 (v := nI p))
    obtain ⟨e2, v2, t1, t2, t3, t4, t5⟩ := won_m (bar := nI p) (nop := -1) (hd1.ru hr) (FAR_cg hfar (gF_sFn (by decide)) (fun _ => rfl) (fun _ => rfl)) (gF_sF1 _ _ _ _) ((gF_sFn (by decide)).trans h15)
    have hd2 := hd1.tr (FB.of t3)
    have h152 : gF e2 0 15 = -1 := (t3.1 15 (by decide) (by decide) (by decide) (by decide)).trans ((gF_sFn (by decide)).trans h15)
    show ∃ M' e', t_X6_things_64 LM p1 (fun x3 x4 x5 d => lp _ F (x3, x4, x5, d)) (nI M) 1 (nI p) d = _ ∧ _
    rw [t_X6_things_64, if_neg (show ¬ (8 : Int32) ≤ nI p from nI_ge (b := 8) (by omega) (by decide)), if_neg (by decide), bd_q, t1, ob, t2, ob]
    rcases t5 with ⟨y, x⟩ | ⟨y, x⟩
    · rw [y, if_neg (by decide), t_X6_things_99, t_X6_one, if_pos rfl, ob, bit_0 _ (by omega), or_z _ _ rfl, bd_q, nI_1]
      refine ih _ _ _ _ (by omega) (by omega) hd2 t4 h152 (fun g => ?_)
      rw [hM g]
      constructor
      · rintro ⟨a, b⟩; exact ⟨by omega, b⟩
      · rintro ⟨a, b⟩
        by_cases q : g = p
        · rw [q] at b; exact absurd x b
        · exact ⟨by omega, b⟩
    · rw [y, if_pos rfl, t_X6_things_99, t_X6_one, if_neg (by decide), ob, bit_e _ (by omega), nx_or, bd_q, nI_1]
      refine ih _ _ _ _ (by omega) (by omega) hd2 t4 h152 (fun g => ?_)
      rw [Nat.testBit_or, Bool.or_eq_true, hM g, Nat.testBit_two_pow, decide_eq_true_eq]
      constructor
      · rintro (⟨a, b⟩ | q)
        · exact ⟨by omega, b⟩
        · rw [← q]; exact ⟨by omega, x⟩
      · rintro ⟨a, b⟩
        by_cases q : g = p
        · exact .inr q.symm
        · exact .inl ⟨by omega, b⟩
/-- the reference: things had, or what comes behind -/
theorem had_m {u : Nat → Int32} {e : Dt} {s : Nat} {Y : Nat → Nat} (p1 : Int32) (hv : VB u) (hl : LI u e s Y) : ∃ M, lp (fun k x => t_X6_things_21 LM p1 (fun x2 x3 d => k (x2, x3, d)) x.1 x.2.1 x.2.2) FU (0, 0, e) = (if p1 = 0 then some (nI M, e) else (t_X6_hasWon LM e).bind (fun v6 => lp (fun k x => t_X6_things_64 LM p1 (fun x3 x4 x5 d => k (x3, x4, x5, d)) x.1 x.2.1 x.2.2.1 x.2.2.2) FU (0, v6, 0, e))) ∧ ∀ g, M.testBit g = true ↔ ∃ j, j < s ∧ HT (Y j) g := by
  obtain ⟨a1, a2, a3, a4⟩ := hl
  have main : ∀ (n i F M : Nat), i + n = s → n < F → (∀ g, M.testBit g = true ↔ ∃ j, j < i ∧ HT (Y j) g) → ∃ M', lp (fun k x => t_X6_things_21 LM p1 (fun x2 x3 d => k (x2, x3, d)) x.1 x.2.1 x.2.2) F (nI M, nI i, e) = (if p1 = 0 then some (nI M', e) else (t_X6_hasWon LM e).bind (fun v6 => lp (fun k x => t_X6_things_64 LM p1 (fun x3 x4 x5 d => k (x3, x4, x5, d)) x.1 x.2.1 x.2.2.1 x.2.2.2) FU (0, v6, 0, e))) ∧ ∀ g, M'.testBit g = true ↔ ∃ j, j < s ∧ HT (Y j) g := by
    intro n
    induction n with
    | zero =>
      intro i F M hi hF hM
      obtain ⟨F, rfl⟩ : ∃ G, F = G + 1 := ⟨F - 1, by omega⟩
      have : i = s := by omega
      subst this
      refine ⟨M, ?_, hM⟩
      show t_X6_things_21 LM p1 (fun x2 x3 d => lp _ F (x2, x3, d)) (nI M) (nI i) e = _
      rw [t_X6_things_21, a1, if_pos (nI_le (by omega) (by omega))]
    | succ n ih =>
      intro i F M hi hF hM
      obtain ⟨F, rfl⟩ : ∃ G, F = G + 1 := ⟨F - 1, by omega⟩
      obtain ⟨b1, b2⟩ := a3 i (by omega)
      have b2' : gA e (32 * 0 + 19) i = nI (Y i) := b2
      show ∃ M', t_X6_things_21 LM p1 (fun x2 x3 d => lp _ F (x2, x3, d)) (nI M) (nI i) e = _ ∧ _
      rw [t_X6_things_21, a1, if_neg (nI_ge (by omega) (by omega)), LM19, gdi (by omega) (by omega), ix_nI (by omega), b2', thingsOf_q (VQ_lt hv b1), ob, qt, nx_or, bd_q, nI_1]
      refine ih _ _ _ (by omega) (by omega) (fun g => ?_)
      rw [Nat.testBit_or, Bool.or_eq_true, hM g]
      constructor
      · rintro (⟨j, q1, q2⟩ | q)
        · exact ⟨j, by omega, q2⟩
        · exact ⟨i, by omega, q⟩
      · rintro ⟨j, q1, q2⟩
        by_cases y : j = i
        · rw [y] at q2; exact .inr q2
        · exact .inl ⟨j, by omega, q2⟩
  exact main s 0 FU 0 (by omega) (by unfold FU; omega) (fun g => by
    rw [Nat.zero_testBit]
    exact ⟨fun z => (by cases z), fun ⟨j, z, _⟩ => by omega⟩)
theorem HT_lt {q g : Nat} (h : HT q g) : g < 8 := by
  unfold HT at h
  rcases Nat.lt_or_ge g 8 with z | z
  · exact z
  · have : q / 10 % 256 < 2 ^ g := Nat.lt_of_lt_of_le (Nat.mod_lt _ (by decide)) (show 2 ^ 8 ≤ 2 ^ g from Nat.pow_le_pow_right (by decide) z)
    rw [Nat.testBit_lt_two_pow this] at h
    cases h
theorem ok_things : ST_things RLx := by
  intro L d dm k n p1 h
  have hv := h.ru.v
  have hbar := h.2.2.2.2.2.2.2.2.1
  have hfar := h.2.2.2.2.2.2.2.2.2.1
  have triv : ∀ v : Int32, ∃ (r : Int32) (L' : Nat → Nat) (d' : Dt) (kc ns : Nat) (dm' : Dt), some ((v, L, d), 0, 0) = some ((r, L', d'), kc, ns) ∧ some (v, dm) = some (r, dm') ∧ RLx L' d' dm' (k + kc) (n + ns) := fun v => ⟨v, L, d, 0, 0, dm, rfl, rfl, h⟩
  obtain ⟨L1, d1, k1, n1, s, X, wc, b, ap, r1, r2, r3, r4, r5, r6⟩ := fresh_q hv h.bkk h.lb h.2.2.2.2.2.2.2.2.2.2.1
  obtain ⟨e', s', Y, f, m, t1, t2, t3⟩ := spreadBeg_q h.ru hfar hbar.2 hbar.1
  have rc := t2.rc
  obtain ⟨H, y1, y2⟩ := had_m p1 hv t2.li
  obtain ⟨H', z1, z2, z3⟩ := hadThings_q hv r2.1 r6.1.1 r6.2.1 r6.2.2.1
  have eH : H' = H := by
    apply bits_eq
    intro g
    rw [z3 g, y2 g]
    constructor
    · rintro ⟨i, i1, i2⟩
      obtain ⟨j, j1, j2⟩ := rc.2 _ (r6.2.2.2.1 i i1)
      exact ⟨j, j1, by rw [j2]; exact i2⟩
    · rintro ⟨i, i1, i2⟩
      obtain ⟨j, j1, j2⟩ := r6.2.2.2.2.1 _ (rc.1 i i1)
      exact ⟨j, j1, by rw [j2]; exact i2⟩
  unfold t_X5_things t_X6_things
  rw [in_k p1 1 1 rfl, ob]
  by_cases c0 : p1 = 0
  · rw [if_pos c0, c0, if_pos (show inb 0 (1 + 1) = true by decide), if_neg (show ¬ (1 : Int32) = 0 by decide), r1, ob, t1, ob]
    dsimp only
    rw [c0] at y1
    rw [z1, ob, al_e, y1, if_pos rfl]
    exact ⟨_, _, _, _, _, e', rfl, by rw [eH], h.g9 r3 r4 (by rw [Nat.zero_add, Nat.zero_add]; exact r2) r5 ⟨_, _, _, _, _, r6⟩ t3 (t2.far hv)⟩
  · rw [if_neg c0]
    by_cases c1 : p1 = 1
    · rw [if_pos c1, c1, if_pos (show inb 1 (1 + 1) = true by decide), if_neg (show ¬ (1 : Int32) = 0 by decide), r1, ob, t1, ob]
      dsimp only
      rw [c1] at y1
      rw [y1, if_neg (by decide)]
      have b16 : gF e' 0 16 = -1 := (t3.1 16 (by decide) (by decide) (by decide) (by decide)).trans hbar.2
      have b15 : gF e' 0 15 = -1 := (t3.1 15 (by decide) (by decide) (by decide) (by decide)).trans hbar.1
      obtain ⟨v, w1, w2⟩ := hasWon_q (t3.ru h.ru) t2
      rw [w1, ob]
      have wn : WN (bk (wOf dm)) (-1) (-1) ↔ ∃ i, i < b ∧ bE (bk (wOf dm)) (qp (X i)) = 1 := by
        constructor
        · rintro ⟨q, q1, q2⟩
          obtain ⟨i, i1, i2⟩ := r6.2.2.2.2.1 q q1
          exact ⟨i, i1, by rw [i2]; exact q2⟩
        · rintro ⟨i, i1, i2⟩
          exact ⟨X i, r6.2.2.2.1 i i1, i2⟩
      unfold t_X5_neededThings
      rcases r6.2.2.2.2.2.2.2.1 with ⟨z, w⟩ | ⟨z, w⟩
      · have v1 : v = 1 := by
          rcases w2 with q | ⟨q, q2⟩
          · exact q.1
          · exfalso
            obtain ⟨q', a, a2⟩ := wn.mpr w
            obtain ⟨j, j1, j2⟩ := rc.2 q' a
            exact q2 j j1 (by rw [j2]; exact a2)
        have hb1 : BK d1 6 (bk (wOf dm)) := BK_ag hv (r3.1 6 (by decide) (by decide) (by decide)) h.bkk
        obtain ⟨M', L2, d2, k2, n2, x1, x2, x3, x4, x5⟩ := needed_c hv z2 8 0 FU 0 L1 d1 (by omega) (by unfold FU; omega) (GI_LF h.2.2.2.2.2.2.2.2.2.2.2.1 r2.2.1 (by decide) r4) (LB_LF r2.2.1 (by decide) h.lb) hb1 (fun g => by
          rw [Nat.zero_testBit]
          exact ⟨fun z => (by cases z), fun z => by omega⟩)
        obtain ⟨M2, e2, q1, q2, q3, q4⟩ := needed_m 1 (t3.ru h.ru) b16 b15 8 0 FU 0 e' (by omega) (by unfold FU; omega) (FB.rf e') (t2.far hv) b15 (fun g => by
          rw [Nat.zero_testBit]
          exact ⟨fun z => (by cases z), fun z => by omega⟩)
        rw [z, if_neg (by decide), z1, ob, show lp (fun k x => t_X5_neededThings_19 9 (fun x2 x3 x4 L d => k (x2, x3, x4, L, d)) x.1 x.2.1 x.2.2.1 x.2.2.2.1 x.2.2.2.2) FU (nI H', 0, 0, L1, d1) = _ from x1, ob]
        dsimp only
        rw [al_e, al_e, v1]
        have eM : M' = M2 := by
          apply bits_eq
          intro g
          rw [x5 g, q4 g]
          constructor
          · rintro ⟨a, _, a3⟩
            exact ⟨a, a3⟩
          · rintro ⟨a, a3⟩
            refine ⟨a, ?_, a3⟩
            by_cases q : H'.testBit g = true
            · exact q
            · exfalso
              obtain ⟨q', ⟨nn, u1⟩, u2⟩ := wn.mpr w
              refine a3 ⟨q', ⟨nn, bar_thing hv a (fun q2 hq2 ht => ?_) nn q' u1⟩, u2⟩
              obtain ⟨i, i1, i2⟩ := r6.2.2.2.2.1 q2 hq2
              exact q ((z3 g).mpr ⟨i, i1, by rw [i2]; exact ht⟩)
        refine ⟨_, L2, d2, _, _, e2, rfl, ?_, ?_⟩
        · rw [eM]
          exact q1
        · have := h.g910 r3 r4 r2 r5 ⟨_, _, _, _, _, r6⟩ x3 x2 x4 (t3.trans q2) q3
          rw [Nat.zero_add, Nat.zero_add]
          exact this
      · have v0 : v = 0 := by
          rcases w2 with ⟨_, j, j1, j2⟩ | q
          · exfalso
            obtain ⟨i, i1, i2⟩ := r6.2.2.2.2.1 _ (rc.1 j j1)
            exact w i i1 (by rw [i2]; exact j2)
          · exact q.1
        rw [z, if_pos rfl, ob]
        dsimp only
        rw [al_e, al_e, v0]
        have hz : lp (fun k x => t_X6_things_64 LM 1 (fun x3 x4 x5 d => k (x3, x4, x5, d)) x.1 x.2.1 x.2.2.1 x.2.2.2) FU (0, 0, 0, e') = some (0, sF e' 0 16 (-1)) := by
          show t_X6_things_64 LM 1 (fun x3 x4 x5 d => lp _ 999999 (x3, x4, x5, d)) 0 0 0 e' = _
          rw [t_X6_things_64, if_neg (by decide), if_pos rfl, t_X6_things_113, bd_q]
        rw [hz]
        refine ⟨_, L1, d1, _, _, _, rfl, rfl, h.g9 r3 r4 (by first | exact r2 | (rw [Nat.zero_add, Nat.zero_add]; exact r2) | (rw [Nat.zero_add, Nat.zero_add, Nat.zero_add, Nat.zero_add]; exact r2)) r5 ⟨_, _, _, _, _, r6⟩ (((FB.of t3).tr FB_16).fr (by rw [gF_sFn (by decide), b15, hbar.1]) (by rw [gF_sF1, hbar.2])) (FAR_cg (t2.far hv) (gF_sFn (by decide)) (fun _ => rfl) (fun _ => rfl))⟩
    · rw [if_neg c1]
      have ni : ¬ inb p1 (1 + 1) = true := by
        intro z
        obtain ⟨i, hi, e⟩ := inb_ex z (by decide)
        have : i = 0 ∨ i = 1 := by omega
        rcases this with y | y
        · rw [y] at e; exact c0 e
        · rw [y] at e; exact c1 e
      rw [if_neg ni, if_pos rfl]
      exact triv _
