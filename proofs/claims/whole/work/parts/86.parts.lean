/-! ===== parts; things; without ===== -/
theorem ok_parts : ST_parts RLx := by
  intro L d dm k n p1 h
  have hv := h.ru.v
  have hbar := h.2.2.2.2.2.2.2.2.1
  have hfar := h.2.2.2.2.2.2.2.2.2.1
  have triv : ∀ v : Int32, ∃ (r : Int32) (L' : Nat → Nat) (d' : Dt) (kc ns : Nat) (dm' : Dt), some ((v, L, d), 0, 0) = some ((r, L', d'), kc, ns) ∧ some (v, dm) = some (r, dm') ∧ RLx L' d' dm' (k + kc) (n + ns) := fun v => ⟨v, L, d, 0, 0, dm, rfl, rfl, h⟩
  obtain ⟨L1, d1, k1, n1, s, X, wc, b, ap, r1, r2, r3, r4, r5, r6⟩ := fresh_q hv h.bkk h.lb h.2.2.2.2.2.2.2.2.2.2.1
  obtain ⟨e', s', Y, f, m, t1, t2, t3⟩ := spreadBeg_q h.ru hfar hbar.2 hbar.1
  have rc := t2.rc
  have hVX : ∀ i, i < b → VQ (bk (wOf dm)) (X i) := fun i hi => (r6.1.1.2.2.2.1 i (by have := r6.2.1; omega)).1
  have hapl := ap_lt hv hVX r6.2.2.2.2.2.2.1
  unfold t_X5_parts t_X6_parts
  by_cases c0 : p1 = 0
  · rw [if_pos c0, if_pos c0, r1, ob, t1, ob]
    dsimp only
    rw [al_e]
    obtain ⟨M, y1, y2, y3⟩ := partsFound_q (t3.ru h.ru) t2
    rw [y1, ob]
    have eM : ap = M := by
      apply bits_eq
      intro g
      rw [r6.2.2.2.2.2.2.1 g, y3 g, t2.1.2.2.2.2.2.2.2.2.2.2 g]
      constructor
      · rintro (⟨a1, a2, rfl⟩ | ⟨i, x, i1, a1, a2, a3, a4⟩)
        · have hi : ini (bk (wOf dm)) (-1) (-1) = arv (bk (wOf dm)) (-1) 0 0 (bH (bk (wOf dm))) := by
            unfold ini; rw [if_neg (fun z => z.elim a1 (by decide))]
          cases e : arv (bk (wOf dm)) (-1) 0 0 (bH (bk (wOf dm))) with
          | none => exact .inl (.inl ⟨a1, by decide, e, rfl⟩)
          | some r =>
            obtain ⟨q1, q2, _⟩ := t2.2.1 r (hi.trans e)
            refine .inr ⟨0, q1, ?_⟩
            rw [q2]
            exact (arv_ok hv (Nat.pos_of_ne_zero a1) ⟨0, by decide, rfl⟩ hv.H.2.2 e).2
        · obtain ⟨j, j1, j2⟩ := rc.2 _ (r6.2.2.2.1 i i1)
          have hq := hVX i i1
          have gg := gl_eq hv hq.1 a1
          cases e : nxm (bk (wOf dm)) (-1) (-1) (X i) x with
          | none => exact .inl (.inr ⟨j, x, .inl j1, j1, by rw [j2]; exact ⟨a1, a2, a3, e, a4⟩⟩)
          | some q' =>
            have hE := nxm_Ed a1 a2 e
            obtain ⟨j', y1, y2⟩ := t2.clo.2 j j1 q' (by rw [j2]; exact hE)
            refine .inr ⟨j', y1, ?_⟩
            rw [y2]
            have e2 : nxs (bk (wOf dm)) (-1) (X i) (gl (bk (wOf dm)) (X i) x) = some q' := by
              unfold nxm at e
              rw [if_neg a3] at e
              exact e
            rw [(arv_ok hv gg.2 (qt_NB _) (qh_le _) e2).2]
            exact a4
      · rintro ((⟨a1, a2, _, a4⟩ | ⟨i, x, _, i1, a1, a2, a3, _, a4⟩) | ⟨i, i1, i2⟩)
        · exact .inl ⟨a1, a2, a4⟩
        · obtain ⟨j, j1, j2⟩ := r6.2.2.2.2.1 _ (rc.1 i i1)
          exact .inr ⟨j, x, j1, by rw [j2]; exact ⟨a1, a2, a3, a4⟩⟩
        · obtain ⟨nn, hn⟩ := rc.1 i i1
          revert hn
          cases hi : ini (bk (wOf dm)) (-1) (-1) with
          | none => exact fun z => z.elim
          | some r =>
            intro hn
            have hP : bP (bk (wOf dm)) ≠ 0 := fun z => by unfold ini at hi; rw [if_pos (.inl z)] at hi; cases hi
            cases nn with
            | zero =>
              have e : Y i = r := hn
              have hi' : arv (bk (wOf dm)) (-1) 0 0 (bH (bk (wOf dm))) = some r := by
                unfold ini at hi
                rw [if_neg (fun z => z.elim hP (by decide))] at hi
                exact hi
              refine .inl ⟨hP, by decide, ?_⟩
              rw [← i2, e]
              exact (arv_ok hv (Nat.pos_of_ne_zero hP) ⟨0, by decide, rfl⟩ hv.H.2.2 hi').2
            | succ nn =>
              obtain ⟨q', a, c, c1, c2, c3, c4⟩ := hn
              have hq' : VQ (bk (wOf dm)) q' := RR.ok hv (ini_ok hv hi) nn q' a
              obtain ⟨j, j1, j2⟩ := r6.2.2.2.2.1 q' ⟨nn, by rw [hi]; exact a⟩
              have gg := gl_eq hv hq'.1 c1
              refine .inr ⟨j, c, j1, ?_⟩
              rw [j2]
              refine ⟨c1, c2, c3, ?_⟩
              rw [← i2]
              exact (arv_ok hv gg.2 (qt_NB _) (qh_le _) c4).2.symm
    refine ⟨_, _, _, _, _, e', rfl, ?_, h.g9 r3 r4 (by rw [Nat.zero_add, Nat.zero_add]; exact r2) r5 ⟨_, _, _, _, _, r6⟩ t3 (t2.far hv)⟩
    rw [r6.2.2.2.2.2.1, eM]
  · rw [if_neg c0, if_neg c0]
    by_cases c1 : p1 = 1
    · rw [if_pos c1, if_pos c1, r1, ob]
      dsimp only
      obtain ⟨M, e2, y1, y2, y3, y4⟩ := must_m h.ru hfar hbar.2 hbar.1
      rw [y1, ob]
      unfold t_X5_mustParts
      have wn : WN (bk (wOf dm)) (-1) (-1) ↔ ∃ i, i < b ∧ bE (bk (wOf dm)) (qp (X i)) = 1 := by
        constructor
        · rintro ⟨q, q1, q2⟩
          obtain ⟨i, i1, i2⟩ := r6.2.2.2.2.1 q q1
          exact ⟨i, i1, by rw [i2]; exact q2⟩
        · rintro ⟨i, i1, i2⟩
          exact ⟨X i, r6.2.2.2.1 i i1, i2⟩
      rcases r6.2.2.2.2.2.2.2.1 with ⟨z, w⟩ | ⟨z, w⟩
      · have hb1 : BK d1 6 (bk (wOf dm)) := BK_ag hv (r3.1 6 (by decide) (by decide) (by decide)) h.bkk
        obtain ⟨M', L2, d2, k2, n2, z1, z2, z3, z4, z5⟩ := must_c hv hapl.2 24 0 FU 0 L1 d1 (by omega) (by unfold FU; omega) (GI_LF h.2.2.2.2.2.2.2.2.2.2.2.1 r2.2.1 (by decide) r4) (LB_LF r2.2.1 (by decide) h.lb) hb1 r6.2.2.2.2.2.1 (fun g => by
          rw [Nat.zero_testBit]
          exact ⟨fun z => (by cases z), fun z => by omega⟩)
        rw [z, if_neg (by decide), show lp (fun k x => t_X5_mustParts_13 9 (fun x2 x3 L d => k (x2, x3, L, d)) x.1 x.2.1 x.2.2.1 x.2.2.2) FU (0, 0, L1, d1) = _ from z1, ob]
        dsimp only
        rw [al_e, al_e]
        have eM : M' = M := by
          apply bits_eq
          intro g
          rw [z5 g, y4 g]
          constructor
          · rintro ⟨a, a2, a3⟩
            exact ⟨wn.mpr w, hapl.1 g a2, a3⟩
          · rintro ⟨a, a2, a3⟩
            have h24 : g < 24 := by have := hv.P.2; omega
            refine ⟨h24, ?_, a3⟩
            by_cases q : ap.testBit g = true
            · exact q
            · exfalso
              obtain ⟨q', ⟨nn, q1⟩, q2⟩ := a
              exact a3 ⟨q', ⟨nn, bar_part r6.2.2.2.2.1 r6.2.2.2.2.2.2.1 hv q h24 nn q' q1⟩, q2⟩
        refine ⟨_, L2, d2, _, _, e2, rfl, by rw [eM], ?_⟩
        have := h.g910 r3 r4 r2 r5 ⟨_, _, _, _, _, r6⟩ z3 z2 z4 y2 y3
        rw [Nat.zero_add, Nat.zero_add]
        exact this
      · rw [z, if_pos rfl, ob]
        dsimp only
        rw [al_e, al_e]
        have eM : M = 0 := by
          apply bits_eq
          intro g
          rw [y4 g, Nat.zero_testBit]
          refine ⟨fun q => ?_, fun q => by cases q⟩
          obtain ⟨i, i1, i2⟩ := wn.mp q.1
          exact absurd i2 (w i i1)
        refine ⟨_, L1, d1, _, _, e2, rfl, by rw [eM]; rfl, h.g9 r3 r4 (by first | exact r2 | (rw [Nat.zero_add, Nat.zero_add]; exact r2) | (rw [Nat.zero_add, Nat.zero_add, Nat.zero_add, Nat.zero_add]; exact r2)) r5 ⟨_, _, _, _, _, r6⟩ y2 y3⟩
    · rw [if_neg c1, if_neg c1]
      by_cases c2 : p1 = 2
      · rw [if_pos c2, if_pos c2, r1, ob]
        dsimp only
        obtain ⟨M, L2, d2, k2, n2, z1, z2, z3, z4, z5⟩ := trapParts_q hv r2.1 r6
        rw [z1, ob]
        dsimp only
        rw [al_e, al_e]
        have b16 : gF e' 0 16 = -1 := (t3.1 16 (by decide) (by decide) (by decide) (by decide)).trans hbar.2
        have b15 : gF e' 0 15 = -1 := (t3.1 15 (by decide) (by decide) (by decide) (by decide)).trans hbar.1
        obtain ⟨M2, e2, y1, y2, y3, y4⟩ := traps_lp (t3.ru h.ru) b16 b15 t2.li t2.clo
        have hT : t_X6_traps LM dm = some (nI M2, e2) := by
          unfold t_X6_traps
          rw [t1, ob]
          exact y1
        rw [hT, ob]
        have eM : M = M2 := by
          apply bits_eq
          intro g
          rw [z5 g, y4 g]
          constructor
          · rintro ⟨i, i1, i2, i3⟩
            obtain ⟨j, j1, j2⟩ := rc.2 _ (r6.2.2.2.1 i i1)
            exact ⟨j, j1, by rw [j2]; exact i2, by rw [j2]; exact i3⟩
          · rintro ⟨i, i1, i2, i3⟩
            obtain ⟨j, j1, j2⟩ := r6.2.2.2.2.1 _ (rc.1 i i1)
            exact ⟨j, j1, by rw [j2]; exact i2, by rw [j2]; exact i3⟩
        refine ⟨_, L2, d2, _, _, e2, rfl, by rw [eM], h.g9 (r3.tr (FF.cf z3 (.inl rfl))) (r4.trans (z3 10 (by decide))) (by rw [Nat.zero_add, Nat.zero_add]; exact r2.tr z2) (by rw [(z3 0 (by decide)).1 7]; exact r5) ⟨_, _, _, _, _, z4⟩ (t3.trans y2.fr) ((t2.fo y2).far hv)⟩
      · rw [if_neg c2, if_neg c2]
        by_cases c3 : p1 = 3
        · rw [if_pos c3, if_pos c3, r1, ob]
          dsimp only
          obtain ⟨M, z1, z2⟩ := holeParts_q hv r2.1 r6.1 r6.2.1 r6.2.2.1
          obtain ⟨M2, y1, y2, y3⟩ := holes_lp (t3.ru h.ru) t2.li
          rw [z1, ob, al_e]
          have hT : t_X6_holes LM dm = some (nI M2, e') := by
            unfold t_X6_holes
            rw [t1, ob]
            exact y1
          rw [hT, ob]
          have eM : M = M2 := by
            apply bits_eq
            intro g
            rw [z2 g, y3 g]
            constructor
            · rintro ⟨i, i1, i2, i3⟩
              obtain ⟨j, j1, j2⟩ := rc.2 _ (r6.2.2.2.1 i i1)
              exact ⟨j, j1, by rw [j2]; exact i2, by rw [j2]; exact i3⟩
            · rintro ⟨i, i1, i2, i3⟩
              obtain ⟨j, j1, j2⟩ := r6.2.2.2.2.1 _ (rc.1 i i1)
              exact ⟨j, j1, by rw [j2]; exact i2, by rw [j2]; exact i3⟩
          refine ⟨_, _, _, _, _, e', rfl, by rw [eM], h.g9 r3 r4 (by rw [Nat.zero_add, Nat.zero_add]; exact r2) r5 ⟨_, _, _, _, _, r6⟩ t3 (t2.far hv)⟩
        · rw [if_neg c3, if_neg c3]
          exact triv _
/-! a thing that nobody has bars nobody -/
def cl (k : Nat) (x : Int32) : Int32 := x &&& (((1 : Int32) <<< (nI k &&& 31)) ^^^ (-1))
theorem cl_or (k : Nat) (x y : Int32) : cl k (x ||| y) = cl k x ||| cl k y := by
  unfold cl
  apply Int32.toBitVec_inj.mp
  simp only [Int32.toBitVec_and, Int32.toBitVec_or]
  apply BitVec.eq_of_getLsbD_eq
  intro i hi
  simp only [BitVec.getLsbD_and, BitVec.getLsbD_or]
  cases x.toBitVec.getLsbD i <;> cases y.toBitVec.getLsbD i <;> simp
theorem cl_and (k : Nat) (x y : Int32) : cl k (x &&& y) = cl k x &&& y := by
  unfold cl
  rw [Int32.and_assoc, Int32.and_comm y, ← Int32.and_assoc]
theorem cl_bit : ∀ k, k < 8 → ∀ v, v < 8 → cl k ((1 : Int32) <<< (nI v &&& 31)) = if v = k then 0 else (1 : Int32) <<< (nI v &&& 31) := by decide +kernel
theorem cl_t : ∀ k, k < 8 → ∀ a, a < 256 → (cl k (nI a) = nI a ↔ ¬ a.testBit k = true) := by decide +kernel
theorem arr_cl {w : Nat → Int32} {p : Nat} (hv : VP w p) {k : Nat} (hk : k < 8) : ∀ (n c : Nat) (t : Int32) (h : Nat), c + n ≤ bN w p → arr w (nI k) p n c (cl k t) h = (cl k (arr w (-1) p n c t h).1, (arr w (-1) p n c t h).2) := by
  intro n
  induction n with
  | zero => intro c t h _; rfl
  | succ n ih =>
    intro c t h hc
    have he := hv.2.2.2.2.2.1 c (by omega)
    unfold arr
    by_cases h0 : h = 0
    · rw [if_pos h0, if_pos h0]
    · rw [if_neg h0, if_neg h0]
      by_cases k0 : bK w p c = 0
      · have e8 := nb_ix (he.2.2 (by omega)) (by decide)
        have hm1 : ¬ w (272 + (4 * p + c)) = -1 := by rw [e8.1]; exact nI_m1 (by omega)
        rw [if_pos k0, if_pos k0, if_neg hm1]
        have : cl k t ||| (if w (272 + (4 * p + c)) = nI k then 0 else (1 : Int32) <<< (w (272 + (4 * p + c)) &&& 31)) = cl k (t ||| (1 : Int32) <<< (w (272 + (4 * p + c)) &&& 31)) := by
          rw [cl_or, e8.1, cl_bit k hk _ e8.2]
          by_cases z : ix (w (272 + (4 * p + c))) = k
          · rw [if_pos z, if_pos (by rw [z])]
          · rw [if_neg z, if_neg (fun y => z (nI_inj (by omega) (by omega) y))]
        rw [this]
        exact ih _ _ _ (by omega)
      · rw [if_neg k0, if_neg k0]
        by_cases k1 : bK w p c = 1
        · rw [if_pos k1, if_pos k1, ← cl_and]
          exact ih _ _ _ (by omega)
        · rw [if_neg k1, if_neg k1]
          by_cases k2 : bK w p c = 2
          · rw [if_pos k2, if_pos k2]
            exact ih _ _ _ (by omega)
          · rw [if_neg k2, if_neg k2]
            exact ih _ _ _ (by omega)
/-- coming to a part with the thing barred, if one neither has it nor gets it -/
theorem arv_cl {u : Nat → Int32} (hv : VB u) {k g : Nat} (hk : k < 8) (hg : g < bP u) {t : Int32} {h : Nat} (ht : NB t 256) (hh : h ≤ 9) (h1 : cl k t = t) (h2 : ∀ q, arv u (-1) g t h = some q → ¬ HT q k) : arv u (nI k) g t h = arv u (-1) g t h := by
  have hV := hv.2.2.2 g hg
  have e := arr_cl hV hk (bN u g) 0 t h (by omega)
  rw [h1] at e
  have ok := com_ok hv (bar := -1) hg ht hh
  have e' : com u (nI k) g t h = (cl k (com u (-1) g t h).1, (com u (-1) g t h).2) := e
  unfold arv at h2 ⊢
  rw [e']
  by_cases c : (com u (-1) g t h).2 = 0 ∨ bE u g = 2
  · rw [if_pos c, if_pos c]
  · rw [if_neg c, if_neg c]
    rw [if_neg c] at h2
    have e1 := nb_ix ok.1 (by decide)
    have n1 := h2 _ rfl
    have : cl k (com u (-1) g t h).1 = (com u (-1) g t h).1 := by
      rw [e1.1]
      refine (cl_t k hk _ e1.2).mpr (fun z => n1 ?_)
      unfold HT
      have e3 := sq_qt (p := g) e1.2 ok.2
      unfold qt at e3
      have := nI_inj (by omega) (by omega) e3
      rw [this]
      exact z
    rw [this]
theorem bar_thing {u : Nat → Int32} (hv : VB u) {k : Nat} (hk : k < 8) (hn : ∀ q, RC u (-1) (-1) q → ¬ HT q k) : ∀ (n q : Nat), RO u (-1) (-1) (ini u (-1) (-1)) n q → RO u (nI k) (-1) (ini u (nI k) (-1)) n q := by
  intro n
  cases hi : ini u (-1) (-1) with
  | none => intro q hq; exact hq.elim
  | some r =>
    have hP : bP u ≠ 0 := fun z => by unfold ini at hi; rw [if_pos (.inl z)] at hi; cases hi
    have hi' : arv u (-1) 0 0 (bH u) = some r := by
      unfold ini at hi
      rw [if_neg (fun z => z.elim hP (by decide))] at hi
      exact hi
    have hi2 : ini u (nI k) (-1) = some r := by
      unfold ini
      rw [if_neg (fun z => z.elim hP (by decide)), arv_cl (t := 0) hv hk (Nat.pos_of_ne_zero hP) ⟨0, by decide, rfl⟩ hv.H.2.2 (by
        refine (cl_t k hk 0 (by decide)).mpr ?_
        rw [Nat.zero_testBit]; decide) (fun q e => hn q ⟨0, by
        rw [hi]
        have : some q = some r := e.symm.trans hi'
        cases this
        rfl⟩)]
      exact hi'
    rw [hi2]
    induction n with
    | zero => intro q hq; exact hq
    | succ n ih =>
      intro q hq
      obtain ⟨q', a, c, c1, c2, c3, c4⟩ := hq
      have hrc : RC u (-1) (-1) q' := ⟨n, by rw [hi]; exact a⟩
      have hq' : VQ u q' := RR.ok hv (ini_ok hv hi) n q' a
      have gg := gl_eq hv hq'.1 c1
      refine ⟨q', ih q' a, c, c1, c2, c3, ?_⟩
      have e : nxs u (nI k) q' (gl u q' c) = nxs u (-1) q' (gl u q' c) := arv_cl hv hk gg.2 (qt_NB q') (qh_le q') ((cl_t k hk _ (by omega)).mpr (hn q' hrc)) (fun q2 e2 => by
        refine hn q2 (hrc.step ⟨c, c1, c2, c3, e2⟩))
      rw [e]
      exact c4
