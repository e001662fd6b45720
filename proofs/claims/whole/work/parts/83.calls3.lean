/-! ===== surely, advice ===== -/
theorem oo_le1 {u : Nat → Int32} (hv : VB u) {bar : Int32} {x : Option Nat} (hx : ∀ r, x = some r → VQ u r) (t : Nat) : oo (od u bar t) x ≤ 1000000 := by
  cases x with
  | none => exact Nat.zero_le _
  | some q => exact od_le hv t q (hx q rfl)
theorem surely_c {u : Nat → Int32} {s : Nat} {X : Nat → Nat} {wc b ap : Nat} {x : Option Nat} {v : Int32} (hv : VB u) (hx : ∀ r, x = some r → VQ u r) (hp : PLc X s x v) : ∀ (n r F : Nat) (L : Nat → Nat) (d : Dt), r + n = 61 → n < F → GLn L 9 → LB L 6 → BK d 6 u → GSp L d u s X wc b ap → (∀ r', r' < r → oo (od u (-1) r') x ≠ 1000000) → ∃ w L' d' kc ns, lp (fun k x => t_X5_surely_32 (fun x2 x3 L d => k (x2, x3, L, d)) x.1 x.2.1 x.2.2.1 x.2.2.2) F (v, nI r, L, d) = some ((w, L', d'), kc, ns) ∧ CO 9 L L' kc ns ∧ FF 9 d d' ∧ GSp L' d' u s X wc b ap ∧ SRES u (-1) x w := by
  intro n
  induction n with
  | zero =>
    intro r F L d hr hF hg hl hb hG hN
    obtain ⟨F, rfl⟩ : ∃ G, F = G + 1 := ⟨F - 1, by omega⟩
    refine ⟨-1, L, d, 0, 0, ?_, CO.rf hg, fun y _ => AG.refl d y, hG, .inr ⟨rfl, fun t ht => hN t (by omega)⟩⟩
    show t_X5_surely_32 (fun x2 x3 L d => lp _ F (x2, x3, L, d)) v (nI r) L d = _
    rw [t_X5_surely_32, if_pos (show (60 : Int32) < nI r from nI_lt (a := 60) (by omega) (by omega))]
  | succ n ih =>
    intro r F L d hr hF hg hl hb hG hN
    obtain ⟨F, rfl⟩ : ∃ G, F = G + 1 := ⟨F - 1, by omega⟩
    obtain ⟨L3, d3, k3, n3, t1, t2, t3, t4, t5, t6⟩ := runTurns_q hv (by decide) hg hb hl hG.1 (show r ≤ 60 by omega) hG.2.2.2.2.2.2.2.2.1
    have hG3 := hG.of t3 t6
    have hch := chS_le t2.1.1
    have hsz := hG3.1.1.2.1
    have le := oo_le1 hv (bar := -1) hx r
    show ∃ w L' d' kc ns, t_X5_surely_32 (fun x2 x3 L d => lp _ F (x2, x3, L, d)) v (nI r) L d = _ ∧ _
    rw [t_X5_surely_32, if_neg (show ¬ (60 : Int32) < nI r from nI_nlt (a := 60) (by omega) (by decide)), t1, ob]
    dsimp only
    rw [oddsOf_c hG3.1.1.1 t4 (by omega) t5 hp, ob]
    by_cases z : oo (od u (-1) r) x = 1000000
    · rw [z, if_pos (show nI 1000000 = 1000000 from rfl), al_e]
      exact ⟨nI r, L3, d3, _, _, rfl, by rw [Nat.zero_add, Nat.zero_add]; exact t2, t3.1, hG3, .inl ⟨r, by omega, rfl, z, hN⟩⟩
    · rw [if_neg (show ¬ nI (oo (od u (-1) r) x) = 1000000 from fun w => z (nI_inj (b := 1000000) (by omega) (by decide) w)), nI_1]
      obtain ⟨w, L4, d4, k4, n4, y1, y2, y3, y4, y5⟩ := ih (r + 1) F L3 d3 (by omega) (by omega) t2.1 (LB_LF t2.2.1 (by decide) hl) (BK_ag hv (t3.1 6 (by decide)) hb) hG3 (fun r' hr' => by
        by_cases y : r' = r
        · rw [y]; exact z
        · exact hN r' (by omega))
      rw [y1, al_e]
      exact ⟨w, L4, d4, _, _, rfl, t2.tr y2, fun y hy => (t3.1 y hy).trans (y3 y hy), y4, y5⟩
theorem ok_surely : ST_surely RLx := by
  intro L d dm k n h
  have triv : ∀ v : Int32, ∃ (r : Int32) (L' : Nat → Nat) (d' : Dt) (kc ns : Nat) (dm' : Dt), some ((v, L, d), 0, 0) = some ((r, L', d'), kc, ns) ∧ some (v, dm) = some (r, dm') ∧ RLx L' d' dm' (k + kc) (n + ns) := fun v => ⟨v, L, d, 0, 0, dm, rfl, rfl, h⟩
  unfold t_X5_surely t_X6_surely
  rw [LM0, gd_h (show inb 3 4128 = true by decide), show gA dm (32 * 0 + 0) (ix 3) = wOf dm 3 from rfl]
  rcases begun_cases h.2.1 with ⟨b0, w3⟩ | ⟨b1, hs⟩
  · rw [b0, w3, if_pos rfl, if_neg (show ¬ (0 : Int32) ≤ -1 by decide)]; exact triv _
  · obtain ⟨_, _, _, _, _, _, p, hp3, hpP⟩ := now_q h.2.1.1 rfl hs
    have hP24 := h.2.1.1.P.2
    obtain ⟨x, L1, d1, k1, n1, v, L2, d2, k2, n2, s, X, wc, b, ap, r1, r2, r3, r4, r5, r6, r7, r8, r9, r10, _⟩ := ready_q h hs
    have hb2 : BK d2 6 (bk (wOf dm)) := BK_ag h.ru.v (r4.1 6 (by decide) (by decide) (by decide)) h.bkk
    obtain ⟨w, L3, d3, k3, n3, t1, t2, t3, t4, t5⟩ := surely_c h.ru.v r10 r8 61 0 FU L2 d2 (by omega) (by unfold FU; omega) r3.1 (LB_LF r3.2.1 (by decide) h.lb) hb2 r7 (fun r' hr' => by omega)
    obtain ⟨e', s', Y, f, m, y1, y2, y3⟩ := spreadFrom_q h.ru h.2.2.2.2.2.2.2.2.2.1 h.2.2.2.2.2.2.2.2.1.2 h.2.2.2.2.2.2.2.2.1.1 x r10
    have b16 : gF e' 0 16 = -1 := (y3.1 16 (by decide) (by decide) (by decide) (by decide)).trans h.2.2.2.2.2.2.2.2.1.2
    have b15 : gF e' 0 15 = -1 := (y3.1 15 (by decide) (by decide) (by decide) (by decide)).trans h.2.2.2.2.2.2.2.2.1.1
    obtain ⟨w', e2, z1, z2, z3⟩ := surely_lp (y3.ru h.ru) b16 b15 y2.li y2.clo x (fun q hq => by
      obtain ⟨q1, q2, _⟩ := y2.2.1 q hq
      exact ⟨0, q1, q2⟩)
    rw [b1, if_neg (show ¬ (1 : Int32) = 0 by decide), r1, ob]
    dsimp only
    rw [r2, ob]
    dsimp only
    rw [show lp (fun k x => t_X5_surely_32 (fun x2 x3 L d => k (x2, x3, L, d)) x.1 x.2.1 x.2.2.1 x.2.2.2) FU (v, 0, L2, d2) = _ from t1, al_e, al_e, hp3, if_pos (nI_pos' (by omega)), r9, ob, y1, ob]
    refine ⟨w, L3, d3, _, _, e2, rfl, by rw [z1, t5.eq z3], h.g9 (r4.tr (FF.cf t3 (.inl rfl))) (r5.trans (t3 10 (by decide))) (by rw [Nat.add_assoc, Nat.add_assoc]; exact r3.tr t2) (by rw [(t3 0 (by decide)).1 7]; exact r6) ⟨s, X, wc, b, ap, t4⟩ (y3.trans z2.fr) ((y2.fo z2).far h.ru.v)⟩
/-- the best of the ways: its number and odds -/
def bs (u : Nat → Int32) (bar : Int32) (f : Nat → Nat) (q : Nat) : Nat → Nat → Option (Nat × Nat) → Option (Nat × Nat)
  | 0, _, a => a
  | n + 1, c, a => bs u bar f q n (c + 1) (if wo u q c = true then (match a with
    | none => some (c, oo f (nxs u bar q (gl u q c)))
    | some (b, m) => if oo f (nxs u bar q (gl u q c)) ≤ m then some (b, m) else some (c, oo f (nxs u bar q (gl u q c)))) else a)
def encB (a : Option (Nat × Nat)) : Int32 := match a with
  | none => -1
  | some (b, _) => nI b
def encC (a : Option (Nat × Nat)) : Int32 := match a with
  | none => -1
  | some (_, m) => nI m
def encM (a : Option (Nat × Nat)) : Int32 := match a with
  | none => 0
  | some (_, m) => nI m
/-- small enough -/
def aok (a : Option (Nat × Nat)) : Prop := ∀ b m, a = some (b, m) → b ≤ 6 ∧ m ≤ 1000000
/-- the class: the open choices alone are asked -/
theorem best_c {L : Nat → Nat} {d : Dt} {u : Nat → Int32} {s : Nat} {X f : Nat → Nat} {wc i : Nat} (hv : VB u) (hg : GLn L 9) (hb : BK d 6 u) (hl : LB L 6) (h : GC u (-1) (-1) L d 9 s X wc) (hs : s ≤ L (32 * 9 + 11)) (hr : RW d (32 * 9 + 11) s X f) (hf : ∀ j, j < s → f (X j) ≤ 1000000) (hi : i < s) (e0 : bE u (qp (X i)) = 0) (h4 : gF d 2 4 = nI (cc u (X i))) : t_X5_bestChoice L d 9 = some (encB (bs u (-1) f (X i) (wys u (qp (X i))) 0 none)) := by
  have hq := (h.1.2.2.2.1 i hi).1
  have hp := hq.1
  have hP := hv.P.2
  have hclo := h.clo
  have hw6 := wys_lt hv hp
  have hch := chS_le hg.1
  have hsL := h.1.2.1
  have ew : wys u (qp (X i)) = bC u (qp (X i)) := by
    unfold wys
    rw [if_neg (by omega), if_pos e0]
  have ecc : cc u (X i) = sc (qp (X i)) (ix (qt (X i))) (qh (X i)) 0 := cc_going (by omega)
  obtain ⟨mm, mm1, mm2⟩ := hg.2.2.2.1
  have hok : OK u (-1) f (X i) := fun q' hE => by
    obtain ⟨j, j1, j2⟩ := hclo.2 i hi q' hE
    rw [← j2]; exact hf j j1
  have no : ∀ c, c < 6 → ¬ (c < wys u (qp (X i)) ∧ wo u (X i) c = true) → t_X0_isOpen L d 6 (gF d 2 4) (nI c) = some 0 := by
    intro c hc hn
    rw [h4, ecc]
    by_cases z : c < wys u (qp (X i))
    · rw [isOpen_eq hv hb hl hp (qt_NB _) (qh_le _) (by omega), if_neg]
      intro y
      exact hn ⟨z, (wo_iff u (X i) c).mpr (.inr y)⟩
    · refine isOpen_no hv hb hl hp (qt_NB _) (qh_le _) (by decide) (.inr ?_)
      exact inb_ge (by omega) (nI_le (by omega) (by omega))
  have main : ∀ (n c F : Nat) (a : Option (Nat × Nat)), c + n = 6 → n < F → aok a → lp (fun k x => t_X5_bestChoice_7 L d 9 (fun x2 x3 x4 => k (x2, x3, x4)) x.1 x.2.1 x.2.2) F (encB a, encC a, nI c) = some (encB (bs u (-1) f (X i) (wys u (qp (X i)) - c) c a)) := by
    intro n
    induction n with
    | zero =>
      intro c F a hc hF ha
      obtain ⟨F, rfl⟩ : ∃ G, F = G + 1 := ⟨F - 1, by omega⟩
      show t_X5_bestChoice_7 L d 9 (fun x2 x3 x4 => lp _ F (x2, x3, x4)) (encB a) (encC a) (nI c) = _
      rw [t_X5_bestChoice_7, if_pos (show (6 : Int32) ≤ nI c from nI_le (a := 6) (by omega) (by omega)), show wys u (qp (X i)) - c = 0 by omega]
      rfl
    | succ n ih =>
      intro c F a hc hF ha
      obtain ⟨F, rfl⟩ : ∃ G, F = G + 1 := ⟨F - 1, by omega⟩
      show t_X5_bestChoice_7 L d 9 (fun x2 x3 x4 => lp _ F (x2, x3, x4)) (encB a) (encC a) (nI c) = _
      rw [t_X5_bestChoice_7, if_neg (show ¬ (6 : Int32) ≤ nI c from nI_ge (b := 6) (by omega) (by decide))]
      by_cases hw : c < wys u (qp (X i))
      · have er : wys u (qp (X i)) - c = (wys u (qp (X i)) - (c + 1)) + 1 := by omega
        rw [er]
        unfold bs
        by_cases ow : wo u (X i) c = true
        · have g := gl_eq hv hp hw
          have lo := oo_le hv hq hok hw ow
          have op : t_X0_isOpen L d 6 (gF d 2 4) (nI c) = some 1 := by
            rw [h4, ecc, isOpen_eq hv hb hl hp (qt_NB _) (qh_le _) (by omega), if_pos]
            rcases (wo_iff u (X i) c).mp ow with y | y
            · omega
            · exact y
          have fo : ∃ v, t_X4_find L d 9 (nI (arrS u (gl u (X i) c) (com u (-1) (gl u (X i) c) (qt (X i)) (qh (X i))))) = some v ∧ PLc X s (nxs u (-1) (X i) (gl u (X i) c)) v := by
            cases hx : nxs u (-1) (X i) (gl u (X i) c) with
            | none => exact ⟨-1, find_lost (arrS_lt hv g.2 (qt_NB _) (qh_le _)) (arv_none hx), rfl⟩
            | some q' =>
              have hE : Ed u (-1) (-1) (X i) q' := ⟨c, hw, ow, gol_m1 hv hq hw, hx⟩
              obtain ⟨j, j1, j2⟩ := hclo.2 i hi q' hE
              obtain ⟨b1, b2, b3⟩ := h.1.2.2.2.1 j j1
              refine ⟨nI j, ?_, j, j1, j2, rfl⟩
              rw [arv_some hv g.2 (qt_NB _) (qh_le _) hx, ← j2, find_q hv b1 h.1.2.2.1 (by omega), b3, nI_pred]
          obtain ⟨v, fo1, fo2⟩ := fo
          rw [op, ob, if_neg (by decide), h4, wayOut_c hv hb hl hq hw, ob, if_pos ow, goOn_c hv hb hl hq g.2, ob, fo1, ob, oddsOf_c h.1.1 hs (by omega) hr fo2, ob, if_pos ow]
          have i1 := ih (c + 1) F
          cases a with
          | none =>
            rw [if_neg (show ¬ nI (oo f (nxs u (-1) (X i) (gl u (X i) c))) ≤ encC none from fun z => by
              have h1 := Int32.le_iff_toInt_le.mp z
              rw [nI_toInt (by omega)] at h1
              have : (encC none).toInt = -1 := rfl
              omega), t_X5_bestChoice_99, nI_1]
            exact i1 (some (c, oo f (nxs u (-1) (X i) (gl u (X i) c)))) (by omega) (by omega) (fun b m e => by cases e; exact ⟨by omega, lo⟩)
          | some bm =>
            obtain ⟨b, m⟩ := bm
            obtain ⟨l1, l2⟩ := ha b m rfl
            dsimp only
            by_cases le : oo f (nxs u (-1) (X i) (gl u (X i) c)) ≤ m
            · rw [if_pos (show nI (oo f (nxs u (-1) (X i) (gl u (X i) c))) ≤ encC (some (b, m)) from nI_le le (by omega)), t_X5_bestChoice_99, nI_1, if_pos le]
              exact i1 (some (b, m)) (by omega) (by omega) ha
            · rw [if_neg (show ¬ nI (oo f (nxs u (-1) (X i) (gl u (X i) c))) ≤ encC (some (b, m)) from nI_ge (by omega) (by omega)), t_X5_bestChoice_99, nI_1, if_neg le]
              exact i1 (some (c, oo f (nxs u (-1) (X i) (gl u (X i) c)))) (by omega) (by omega) (fun b m e => by cases e; exact ⟨by omega, lo⟩)
        · rw [no c (by omega) (fun z => ow z.2), ob, if_pos rfl, t_X5_bestChoice_99, nI_1, if_neg ow]
          exact ih (c + 1) F a (by omega) (by omega) ha
      · rw [no c (by omega) (fun z => hw z.1), ob, if_pos rfl, t_X5_bestChoice_99, nI_1, show wys u (qp (X i)) - c = wys u (qp (X i)) - (c + 1) by omega]
        have := ih (c + 1) F a (by omega) (by omega) ha
        rw [this, show wys u (qp (X i)) - (c + 1) = 0 by omega]
        rfl
  unfold t_X5_bestChoice
  rw [bd_q, bd_q]
  exact main 6 0 FU none (by omega) (by unfold FU; omega) (fun b m e => by cases e)
/-- no choice is open -/
theorem best_no {L : Nat → Nat} {d : Dt} (h : ∀ c, c < 6 → t_X0_isOpen L d 6 (gF d 2 4) (nI c) = some 0) : t_X5_bestChoice L d 9 = some (-1) := by
  have main : ∀ (n c F : Nat), c + n = 6 → n < F → lp (fun k x => t_X5_bestChoice_7 L d 9 (fun x2 x3 x4 => k (x2, x3, x4)) x.1 x.2.1 x.2.2) F (-1, -1, nI c) = some (-1) := by
    intro n
    induction n with
    | zero =>
      intro c F hc hF
      obtain ⟨F, rfl⟩ : ∃ G, F = G + 1 := ⟨F - 1, by omega⟩
      show t_X5_bestChoice_7 L d 9 (fun x2 x3 x4 => lp _ F (x2, x3, x4)) (-1) (-1) (nI c) = _
      rw [t_X5_bestChoice_7, if_pos (show (6 : Int32) ≤ nI c from nI_le (a := 6) (by omega) (by omega))]
    | succ n ih =>
      intro c F hc hF
      obtain ⟨F, rfl⟩ : ∃ G, F = G + 1 := ⟨F - 1, by omega⟩
      show t_X5_bestChoice_7 L d 9 (fun x2 x3 x4 => lp _ F (x2, x3, x4)) (-1) (-1) (nI c) = _
      rw [t_X5_bestChoice_7, if_neg (show ¬ (6 : Int32) ≤ nI c from nI_ge (b := 6) (by omega) (by decide)), h c (by omega), ob, if_pos rfl, t_X5_bestChoice_99, nI_1]
      exact ih _ _ (by omega) (by omega)
  unfold t_X5_bestChoice
  rw [bd_q, bd_q]
  exact main 6 0 FU (by omega) (by unfold FU; omega)
theorem advice_lp {u : Nat → Int32} {e : Dt} {s : Nat} {Y f : Nat → Nat} (p1 : Int32) (hr : RU u e) (hb : gF e 0 16 = -1) (hn : gF e 0 15 = -1) (hc : CLo u (-1) (-1) s Y) (h : OT e s Y f) (hf : ∀ i, i < s → f (Y i) ≤ 1000000) {i : Nat} (hi : i < s) : ∃ e', lp (fun k x => t_X6_advice_79 LM p1 (fun x2 x3 x4 x5 d => k (x2, x3, x4, x5, d)) x.1 x.2.1 x.2.2.1 x.2.2.2.1 x.2.2.2.2) FU (nI (Y i), -1, 0, 0, e) = some (encB (bs u (-1) f (Y i) (wys u (qp (Y i))) 0 none), e') ∧ NWd e e' := by
  have hv := hr.v
  have hq := hc.1 i hi
  have hw6 := wys_lt hv hq.1
  have hok : OK u (-1) f (Y i) := fun q' hE => by
    obtain ⟨j, h1, h2⟩ := hc.2 i hi q' hE
    rw [← h2]
    exact hf j h1
  have hx : ∀ c, c < wys u (qp (Y i)) → wo u (Y i) c = true → ∀ q, nxs u (-1) (Y i) (gl u (Y i) c) = some q → ∃ j, j < s ∧ Y j = q := fun c h1 h2 q h3 => hc.2 i hi q ⟨c, h1, h2, gol_m1 hv hq h1, h3⟩
  have main : ∀ (n c F : Nat) (a : Option (Nat × Nat)) (d : Dt), c + n = wys u (qp (Y i)) → n < F → aok a → NWd e d → ∃ e', lp (fun k x => t_X6_advice_79 LM p1 (fun x2 x3 x4 x5 d => k (x2, x3, x4, x5, d)) x.1 x.2.1 x.2.2.1 x.2.2.2.1 x.2.2.2.2) F (nI (Y i), encB a, encM a, nI c, d) = some (encB (bs u (-1) f (Y i) n c a), e') ∧ NWd e e' := by
    intro n
    induction n with
    | zero =>
      intro c F a d hc' hF ha hd
      obtain ⟨F, rfl⟩ : ∃ G, F = G + 1 := ⟨F - 1, by omega⟩
      refine ⟨d, ?_, hd⟩
      show t_X6_advice_79 LM p1 (fun x2 x3 x4 x5 d => lp _ F (x2, x3, x4, x5, d)) (nI (Y i)) (encB a) (encM a) (nI c) d = _
      rw [t_X6_advice_79, waysOf_q (hd.ru hr) hq, ob, if_pos (nI_le (by omega) (by omega))]
      rfl
    | succ n ih =>
      intro c F a d hc' hF ha hd
      obtain ⟨F, rfl⟩ : ∃ G, F = G + 1 := ⟨F - 1, by omega⟩
      show ∃ e', t_X6_advice_79 LM p1 (fun x2 x3 x4 x5 d => lp _ F (x2, x3, x4, x5, d)) (nI (Y i)) (encB a) (encM a) (nI c) d = _ ∧ _
      rw [t_X6_advice_79, waysOf_q (hd.ru hr) hq, ob, if_neg (nI_ge (by omega) (by omega)), isWay_q (hd.ru hr) hq (by omega), ob]
      unfold bs
      by_cases ow : wo u (Y i) c = true
      · obtain ⟨d1, s1, s2⟩ := wayTo_o (hd.ru hr) ((hd.1 16 (by decide) (by decide)).trans hb) ((hd.1 15 (by decide) (by decide)).trans hn) hq (c := c) (by omega)
        have o0 := oddsAt_q hv hc.1 (h.nw (e' := d1) (fun i => (s2.2 26 i).trans (hd.2 26 i))) _ (hx c (by omega) ow)
        have l0 := oo_le hv hq hok (c := c) (by omega) ow
        rw [if_pos ow, if_neg (by decide), s1, ob]
        dsimp only
        rw [o0, ob, if_pos ow, t_X6_advice_114, if_neg (nI_pos (by omega))]
        cases a with
        | none =>
          rw [if_pos (show encB none < 0 by decide), t_X6_advice_132, t_X6_advice_139, nI_1]
          exact ih _ _ (some (c, oo f (nxs u (-1) (Y i) (gl u (Y i) c)))) _ (by omega) (by omega) (fun b m e => by cases e; exact ⟨by omega, l0⟩) (hd.trans s2)
        | some bm =>
          obtain ⟨b, m⟩ := bm
          obtain ⟨l1, l2⟩ := ha b m rfl
          dsimp only
          rw [if_neg (show ¬ encB (some (b, m)) < 0 from nI_pos (by omega))]
          by_cases le : oo f (nxs u (-1) (Y i) (gl u (Y i) c)) ≤ m
          · rw [if_pos (show nI (oo f (nxs u (-1) (Y i) (gl u (Y i) c))) ≤ encM (some (b, m)) from nI_le le (by omega)), if_pos le, t_X6_advice_139, nI_1]
            exact ih _ _ (some (b, m)) _ (by omega) (by omega) ha (hd.trans s2)
          · rw [if_neg (show ¬ nI (oo f (nxs u (-1) (Y i) (gl u (Y i) c))) ≤ encM (some (b, m)) from nI_ge (by omega) (by omega)), if_neg le, t_X6_advice_132, t_X6_advice_139, nI_1]
            exact ih _ _ (some (c, oo f (nxs u (-1) (Y i) (gl u (Y i) c)))) _ (by omega) (by omega) (fun b m e => by cases e; exact ⟨by omega, l0⟩) (hd.trans s2)
      · rw [if_neg ow, if_pos rfl, if_neg ow, t_X6_advice_114, if_pos (by decide), t_X6_advice_139, nI_1]
        exact ih _ _ a _ (by omega) (by omega) ha hd
  exact main (wys u (qp (Y i))) 0 FU none e (by omega) (by unfold FU; omega) (fun b m e => by cases e) (NWd.refl e)
