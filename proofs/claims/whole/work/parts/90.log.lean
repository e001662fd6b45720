/-! ===== the relation kept over small changes; log, clear ===== -/
theorem RLx.md {L : Nat → Nat} {d d' dm dm' : Dt} {k n : Nat} (h : RLx L d dm k n) (hs : SI d' 2 (wOf dm')) (hn : NP (wOf dm')) (ha : ∀ x, x ≠ 0 → x ≠ 1 → x ≠ 2 → x ≠ 5 → x ≠ 6 → AG d d' x) (htx : TX d' dm') (hft : gF d' 1 2 = gF dm' 0 9) (hlg : LGR d' dm') (hb : gF dm' 0 15 = -1 ∧ gF dm' 0 16 = -1) (himg : ∀ i, 1376 ≤ i → gA dm' 0 i = gA dm 0 i) (hk : ∀ i, gA dm' 1 i = gA dm 1 i) (h21 : gF dm' 0 21 = gF dm 0 21) (h19 : ∀ i, gA dm' 19 i = gA dm 19 i) (h20 : ∀ i, gA dm' 20 i = gA dm 20 i) (hfr : gF d' 0 7 = 0 ∨ (gF d' 0 7 = gF d 0 7 ∧ bk (wOf dm') = bk (wOf dm))) : RLx L d' dm' k n := by
  obtain ⟨a1, a2, a3, a4, a5, a6, a7, a8, a9, a10, a11, a12, a13⟩ := h
  have ag : ∀ x, x ≠ 0 → x ≠ 1 → x ≠ 2 → x ≠ 5 → x ≠ 6 → AG d d' x := ha
  refine ⟨a1, hs, hn, ?_, ?_, htx, hft, hlg, hb, FAR_cg a10 h21 h19 h20, ⟨GI_cg a11.1 (ag 9 (by decide) (by decide) (by decide) (by decide) (by decide)), ?_⟩, GI_cg a12 (ag 10 (by decide) (by decide) (by decide) (by decide) (by decide)), a13⟩
  · exact IM_cg a4 (ag 3 (by decide) (by decide) (by decide) (by decide) (by decide)) (ag 7 (by decide) (by decide) (by decide) (by decide) (by decide)) (fun j _ => himg _ (by omega)) (hk 0)
  · exact IM_cg a5 (ag 4 (by decide) (by decide) (by decide) (by decide) (by decide)) (ag 8 (by decide) (by decide) (by decide) (by decide) (by decide)) (fun j _ => himg _ (by omega)) (hk 1)
  · rcases hfr with z | ⟨z, z2⟩
    · exact .inl z
    · rw [z, z2]
      rcases a11.2 with y | ⟨y, s, X, wc, b, ap, y2⟩
      · exact .inl y
      · exact .inr ⟨y, s, X, wc, b, ap, GS_cg y2 (ag 9 (by decide) (by decide) (by decide) (by decide) (by decide))⟩
theorem TX_cg {d d' dm dm' : Dt} (h : TX d dm) (h1 : gF d' 1 1 = gF d 1 1) (h2 : ∀ i, gA d' (32 * 1 + 3) i = gA d (32 * 1 + 3) i) (h3 : gF dm' 0 4 = gF dm 0 4) (h4 : ∀ i, gA dm' (32 * 0 + 3) i = gA dm (32 * 0 + 3) i) : TX d' dm' := by
  obtain ⟨n, a, b, c, e⟩ := h
  refine ⟨n, a, h1.trans b, h3.trans c, fun i hi => ?_⟩
  obtain ⟨x, x1, x2, x3⟩ := e i hi
  exact ⟨x, x1, (h4 i).trans x2, (h2 i).trans x3⟩
theorem LGR_cg {d d' dm dm' : Dt} (h : LGR d dm) (h1 : gF d' 0 4 = gF d 0 4) (h2 : ∀ i, gA d' (32 * 0 + 3) i = gA d (32 * 0 + 3) i) (h3 : gF dm' 0 23 = gF dm 0 23) (h4 : ∀ i, gA dm' (32 * 0 + 24) i = gA dm (32 * 0 + 24) i) : LGR d' dm' := by
  obtain ⟨n, a, b, c, e⟩ := h
  refine ⟨n, a, h1.trans b, h3.trans c, fun i hi => ?_⟩
  rw [h2, h4]
  exact e i hi
/-- all but objects 0 and 2 are as they were, and the reference, but for its log -/
theorem RLx.l2 {L : Nat → Nat} {d d' dm dm' : Dt} {k n : Nat} (h : RLx L d dm k n) (hs : SI d' 2 (wOf dm)) (ha : ∀ x, x ≠ 0 → x ≠ 2 → AG d d' x) (h7 : gF d' 0 7 = gF d 0 7) (hlg : LGR d' dm') (hf : ∀ j, j ≠ 17 → j ≠ 18 → j ≠ 23 → gF dm' 0 j = gF dm 0 j) (hA : ∀ a i, a ≠ 24 → gA dm' a i = gA dm a i) : RLx L d' dm' k n := by
  have hw : wOf dm' = wOf dm := by
    funext i
    exact hA 0 i (by decide)
  have a1 := ha 1 (by decide) (by decide)
  refine h.md (by rw [hw]; exact hs) (by rw [hw]; exact h.2.2.1) (fun x h0 _ h2 _ _ => ha x h0 h2) (TX_cg h.2.2.2.2.2.1 (a1.1 1) (fun i => a1.2 3 (by decide) i) (hf 4 (by decide) (by decide) (by decide)) (fun i => hA 3 i (by decide))) ?_ hlg ⟨(hf 15 (by decide) (by decide) (by decide)).trans h.2.2.2.2.2.2.2.2.1.1, (hf 16 (by decide) (by decide) (by decide)).trans h.2.2.2.2.2.2.2.2.1.2⟩ (fun i _ => hA 0 i (by decide)) (fun i => hA 1 i (by decide)) (hf 21 (by decide) (by decide) (by decide)) (fun i => hA 19 i (by decide)) (fun i => hA 20 i (by decide)) (.inr ⟨h7, by rw [hw]⟩)
  rw [a1.1 2, hf 9 (by decide) (by decide) (by decide)]
  exact h.2.2.2.2.2.2.1
theorem LM24 : LM (32 * 0 + 24) = 60 := rfl
theorem ok_log : ST_log RLx := by
  intro L d dm k n p1 h
  have hv := h.2.1.1
  have hb := h.2.1.2.1
  have hP := hv.P
  obtain ⟨c, c1, c2, c3, c4⟩ := h.2.2.2.2.2.2.2.1
  unfold t_X5_log t_X6_log
  rw [show t_X0_hasPart L d 6 p1 = _ from hasPart_eq hv hb p1, ob, noPart_eq hv, ob]
  by_cases hx : inb p1 (bP (wOf dm)) = true
  · obtain ⟨p, hp, rfl⟩ := inb_ex hx (by omega)
    rw [if_pos hx, if_pos hx, if_neg (show ¬ (1 : Int32) = 0 by decide), if_pos rfl, c2, c3]
    by_cases c5 : c = 60
    · rw [c5, if_neg (show ¬ nI 60 < 60 by decide), if_pos (show nI 60 = 60 from rfl)]
      exact ⟨_, d, dm, rfl, rfl, h⟩
    · rw [if_pos (show nI c < 60 from nI_lt (b := 60) (by omega) (by decide)), if_neg (show ¬ nI c = 60 from fun z => c5 (nI_inj (b := 60) (by omega) (by decide) z)), h.1.2.2.2.2.1, gdi (show c < 60 by omega) (by omega), LM24, gdi (show c < 60 by omega) (by omega), ix_nI (by omega), bd_q, gF_sA, c2, nI_1, bd_q, gF_sF1, bd_q, gF_sA, c3, nI_1, bd_q, gF_sF1]
      refine ⟨_, _, _, rfl, rfl, h.l2 ?_ (fun x h0 _ => (AG_sA (j := 3) (by decide) h0).trans (AG_sF h0)) (gF_sFn (by decide)) ⟨c + 1, by omega, gF_sF1 _ _ _ _, gF_sF1 _ _ _ _, fun i hi => ?_⟩ (fun j _ _ h23 => gF_sFn (fun y => h23 y.2)) (fun a i ha => by rw [gA_sF, gA_sAi, if_neg (fun y => ha y.1)])⟩
      · exact SI_congr ((AG_sA (o' := 0) (j := 3) (by decide) (by decide)).trans (AG_sF (by decide))) ((AG_sA (o' := 0) (j := 3) (by decide) (by decide)).trans (AG_sF (by decide))) (fun _ _ => rfl) h.2.1
      · rw [gA_sF, gA_sF, gA_sAi, gA_sAi]
        by_cases z : i = c
        · rw [if_pos ⟨rfl, z⟩, if_pos ⟨rfl, z⟩]
          exact ⟨rfl, p, by omega, rfl⟩
        · rw [if_neg (fun y => z y.2), if_neg (fun y => z y.2)]
          exact c4 i (by omega)
  · rw [if_neg hx, if_neg hx, if_pos rfl, if_neg (by decide)]
    exact ⟨_, d, dm, rfl, rfl, h⟩
theorem ok_clear : ST_clear RLx := by
  intro L d dm k n h
  obtain ⟨c, c1, c2, c3, c4⟩ := h.2.2.2.2.2.2.2.1
  unfold t_X5_clear t_X6_clear
  rw [bd_q, bd_q, bd_q, bd_q, c2, c3]
  exact ⟨_, _, _, rfl, rfl, h.l2 (SI_congr (AG_sF (by decide)) (AG_sF (by decide)) (fun _ _ => rfl) h.2.1) (fun x h0 _ => AG_sF h0) (gF_sFn (by decide)) ⟨0, by omega, gF_sF1 _ _ _ _, gF_sF1 _ _ _ _, fun i hi => by omega⟩ (fun j _ _ h23 => gF_sFn (fun y => h23 y.2)) (fun _ _ _ => rfl)⟩
/-! judge -/
def GOp (u : Nat → Int32) (q p : Nat) : Prop := ∃ c, c < wys u (qp q) ∧ wo u q c = true ∧ gl u q c = p
theorem canGo_q {L : Nat → Nat} {d : Dt} {u : Nat → Int32} (hv : VB u) (hb : BK d 6 u) (hl : LB L 6) {q p : Nat} (hq : VQ u q) (hp : p < 24) : ∃ v, t_X0_canGo L d 6 (nI (cc u q)) (nI p) = some v ∧ ((v = 1 ∧ GOp u q p ∧ p < bP u) ∨ (v = 0 ∧ ¬ GOp u q p)) := by
  have hP := hv.P.2
  have hw6 := wys_lt hv hq.1
  unfold t_X0_canGo
  rw [hasPart_eq hv hb, ob]
  by_cases hx : inb (nI p) (bP u) = true
  · have hpp : p < bP u := by
      obtain ⟨i, hi, e⟩ := inb_ex hx (by omega)
      rw [nI_inj (by omega) (by omega) e]; exact hi
    rw [if_pos hx, if_neg (by decide), partOf_c hv hq, ob, waysFrom_c hv hb hl hq.1, ob]
    have main : ∀ (n c F : Nat), c + n = wys u (qp q) → n < F → (∀ c', c' < c → ¬ (wo u q c' = true ∧ gl u q c' = p)) → ∃ v, lp (fun k x => t_X0_canGo_22 L d 6 (nI (cc u q)) (nI p) (fun x3 x4 => k (x3, x4)) x.1 x.2) F (nI (wys u (qp q)), nI c) = some v ∧ ((v = 1 ∧ GOp u q p ∧ p < bP u) ∨ (v = 0 ∧ ¬ GOp u q p)) := by
      intro n
      induction n with
      | zero =>
        intro c F hc hF hno
        obtain ⟨F, rfl⟩ : ∃ G, F = G + 1 := ⟨F - 1, by omega⟩
        refine ⟨0, ?_, .inr ⟨rfl, fun ⟨c', a, b⟩ => hno c' (by omega) b⟩⟩
        show t_X0_canGo_22 L d 6 (nI (cc u q)) (nI p) (fun x3 x4 => lp _ F (x3, x4)) (nI (wys u (qp q))) (nI c) = _
        rw [t_X0_canGo_22, if_pos (nI_le (by omega) (by omega))]
      | succ n ih =>
        intro c F hc hF hno
        obtain ⟨F, rfl⟩ : ∃ G, F = G + 1 := ⟨F - 1, by omega⟩
        have gg := gl_eq hv hq.1 (c := c) (by omega)
        show ∃ v, t_X0_canGo_22 L d 6 (nI (cc u q)) (nI p) (fun x3 x4 => lp _ F (x3, x4)) (nI (wys u (qp q))) (nI c) = _ ∧ _
        rw [t_X0_canGo_22, if_neg (nI_ge (by omega) (by omega)), wayOut_c hv hb hl hq (by omega), ob, nI_1]
        by_cases ow : wo u q c = true
        · rw [if_pos ow]
          by_cases e : gl u q c = p
          · rw [e, if_pos rfl]
            exact ⟨1, rfl, .inl ⟨rfl, ⟨c, by omega, ow, e⟩, hpp⟩⟩
          · rw [if_neg (fun z => e (nI_inj (by omega) (by omega) z))]
            refine ih (c + 1) F (by omega) (by omega) (fun c' h1 h2 => ?_)
            by_cases z : c' = c
            · rw [z] at h2; exact e h2.2
            · exact hno c' (by omega) h2
        · rw [if_neg ow, if_neg (fun z => nI_m1 (by omega) z.symm)]
          refine ih (c + 1) F (by omega) (by omega) (fun c' h1 h2 => ?_)
          by_cases z : c' = c
          · rw [z] at h2; exact ow h2.1
          · exact hno c' (by omega) h2
    exact main _ 0 FU (Nat.zero_add _) (by unfold FU; omega) (fun c' h => by omega)
  · rw [if_neg hx, if_pos rfl]
    refine ⟨0, rfl, .inr ⟨rfl, ?_⟩⟩
    rintro ⟨c, c1, c2, c3⟩
    have gg := gl_eq hv hq.1 c1
    exact hx (in_nI (by omega) (by omega))
/-- over: nothing can come -/
theorem canGo_over {L : Nat → Nat} {d : Dt} {u : Nat → Int32} (hv : VB u) (hb : BK d 6 u) (hl : LB L 6) {c p : Nat} (hc : c < 2 ^ 19) (h4 : c % 4 ≠ 0) (hp : p < 24) : t_X0_canGo L d 6 (nI c) (nI p) = some 0 := by
  have hP := hv.P.2
  have wo' : ∀ x, t_X0_wayOut L d 6 (nI c) x = some (-1) := by
    intro x
    have op : t_X0_isOpen L d 6 (nI c) x = some 0 := by
      unfold t_X0_isOpen
      rw [partOf_eq hc, ob, isOver_eq (by omega), ob, if_neg h4, if_neg (by decide)]
    unfold t_X0_wayOut
    rw [partOf_eq hc, ob, op, ob, if_pos rfl, isOver_eq (by omega), ob, if_neg h4, if_neg (by decide)]
  have wf : ∃ m, m ≤ 6 ∧ t_X0_waysFrom L d 6 (nI (c / 16384)) = some (nI m) := by
    by_cases z : c / 16384 < bP u
    · exact ⟨_, wys_lt hv z, waysFrom_c hv hb hl z⟩
    · refine ⟨0, by omega, ?_⟩
      unfold t_X0_waysFrom
      rw [hasPart_eq hv hb, ob, if_neg (inb_ge (by omega) (nI_le (by omega) (by omega))), if_pos rfl]
      rfl
  obtain ⟨m, m1, m2⟩ := wf
  unfold t_X0_canGo
  rw [hasPart_eq hv hb, ob]
  by_cases hx : inb (nI p) (bP u) = true
  · rw [if_pos hx, if_neg (by decide), partOf_eq hc, ob, m2, ob]
    have main : ∀ (n i F : Nat), i + n = m → n < F → lp (fun k x => t_X0_canGo_22 L d 6 (nI c) (nI p) (fun x3 x4 => k (x3, x4)) x.1 x.2) F (nI m, nI i) = some 0 := by
      intro n
      induction n with
      | zero =>
        intro i F hi hF
        obtain ⟨F, rfl⟩ : ∃ G, F = G + 1 := ⟨F - 1, by omega⟩
        show t_X0_canGo_22 L d 6 (nI c) (nI p) (fun x3 x4 => lp _ F (x3, x4)) (nI m) (nI i) = _
        rw [t_X0_canGo_22, if_pos (nI_le (by omega) (by omega))]
      | succ n ih =>
        intro i F hi hF
        obtain ⟨F, rfl⟩ : ∃ G, F = G + 1 := ⟨F - 1, by omega⟩
        show t_X0_canGo_22 L d 6 (nI c) (nI p) (fun x3 x4 => lp _ F (x3, x4)) (nI m) (nI i) = _
        rw [t_X0_canGo_22, if_neg (nI_ge (by omega) (by omega)), wo', ob, if_neg (fun z => nI_m1 (by omega) z.symm), nI_1]
        exact ih _ _ (by omega) (by omega)
    exact main m 0 FU (Nat.zero_add _) (by unfold FU; omega)
  · rw [if_neg hx, if_pos rfl]
theorem leadsTo_q {u : Nat → Int32} {dm : Dt} (hr : RU u dm) {q p : Nat} (hq : VQ u q) (hp : p < 24) : ∃ v, t_X6_leadsTo LM dm (nI q) (nI p) = some v ∧ ((v = 1 ∧ GOp u q p) ∨ (v = 0 ∧ ¬ GOp u q p)) := by
  have hv := hr.v
  have hP := hv.P.2
  have hw6 := wys_lt hv hq.1
  have main : ∀ (n c F : Nat) (x : Int32), c + n = wys u (qp q) → n < F → ((x = 1 ∧ GOp u q p) ∨ (x = 0 ∧ ∀ c', c' < c → ¬ (wo u q c' = true ∧ gl u q c' = p))) → ∃ v, lp (fun k x => t_X6_leadsTo_5 LM dm (nI q) (nI p) (fun x3 x4 => k (x3, x4)) x.1 x.2) F (x, nI c) = some v ∧ ((v = 1 ∧ GOp u q p) ∨ (v = 0 ∧ ¬ GOp u q p)) := by
    intro n
    induction n with
    | zero =>
      intro c F x hc hF hx
      obtain ⟨F, rfl⟩ : ∃ G, F = G + 1 := ⟨F - 1, by omega⟩
      refine ⟨x, ?_, ?_⟩
      · show t_X6_leadsTo_5 LM dm (nI q) (nI p) (fun x3 x4 => lp _ F (x3, x4)) x (nI c) = _
        rw [t_X6_leadsTo_5, waysOf_q hr hq, ob, if_pos (nI_le (by omega) (by omega))]
        rcases hx with ⟨z, _⟩ | ⟨z, _⟩ <;> (rw [z]; rfl)
      · rcases hx with z | ⟨z, z2⟩
        · exact .inl z
        · exact .inr ⟨z, fun ⟨c', a, b⟩ => z2 c' (by omega) b⟩
    | succ n ih =>
      intro c F x hc hF hx
      obtain ⟨F, rfl⟩ : ∃ G, F = G + 1 := ⟨F - 1, by omega⟩
      have gg := gl_eq hv hq.1 (c := c) (by omega)
      show ∃ v, t_X6_leadsTo_5 LM dm (nI q) (nI p) (fun x3 x4 => lp _ F (x3, x4)) x (nI c) = _ ∧ _
      rw [t_X6_leadsTo_5, waysOf_q hr hq, ob, if_neg (nI_ge (by omega) (by omega))]
      rcases hx with ⟨z, z2⟩ | ⟨z, z2⟩
      · rw [z, if_neg (by decide), t_X6_leadsTo_40, t_X6_leadsTo_45, nI_1]
        exact ih _ _ _ (by omega) (by omega) (.inl ⟨rfl, z2⟩)
      · have no : ¬ (wo u q c = true ∧ gl u q c = p) → ∀ c', c' < c + 1 → ¬ (wo u q c' = true ∧ gl u q c' = p) := fun h c' h1 => by
          by_cases y : c' = c
          · rw [y]; exact h
          · exact z2 c' (by omega)
        rw [z, if_pos rfl, isWay_q hr hq (by omega), ob]
        by_cases ow : wo u q c = true
        · rw [if_pos ow, if_neg (by decide), goalOf_q hr hq (by omega), ob]
          by_cases e : gl u q c = p
          · rw [e, if_pos rfl, t_X6_leadsTo_40, t_X6_leadsTo_45, nI_1]
            exact ih _ _ _ (by omega) (by omega) (.inl ⟨rfl, c, by omega, ow, e⟩)
          · rw [if_neg (fun y => e (nI_inj (by omega) (by omega) y)), t_X6_leadsTo_44, t_X6_leadsTo_45, nI_1]
            exact ih _ _ _ (by omega) (by omega) (.inr ⟨rfl, no (fun y => e y.2)⟩)
        · rw [if_neg ow, if_pos rfl, t_X6_leadsTo_44, t_X6_leadsTo_45, nI_1]
          exact ih _ _ _ (by omega) (by omega) (.inr ⟨rfl, no (fun y => ow y.1)⟩)
  exact main (wys u (qp q)) 0 FU 0 (by omega) (by unfold FU; omega) (.inr ⟨rfl, fun c' h => by omega⟩)
theorem CD_arv {u : Nat → Int32} (hv : VB u) {bar t : Int32} {g h : Nat} (hg : g < bP u) (ht : NB t 256) (hh : h ≤ 9) : CD u (arv u bar g t h) (arrS u g (com u bar g t h)) := by
  cases e : arv u bar g t h with
  | none => exact ⟨arrS_lt hv hg ht hh, arv_none e⟩
  | some q => exact ⟨(arv_ok hv hg ht hh e).1, arv_some hv hg ht hh e⟩
theorem ok_judge : ST_judge RLx := by
  intro L d dm k n h
  have hv := h.ru.v
  have hvw := h.2.1.1
  have hb := h.bkk
  have hl := h.lb
  have hPw := hvw.P
  have hPu := h.ru.P
  have hbar := h.2.2.2.2.2.2.2.2.1
  obtain ⟨cn, c1, c2, c3, c4⟩ := h.2.2.2.2.2.2.2.1
  have nwr : ∀ e, NWd dm e → RLx L d e k n := fun e he => h.fr (FR.nw he) (FAR_cg h.2.2.2.2.2.2.2.2.2.1 (he.1 21 (by decide) (by decide)) (fun i => he.2 19 i) (fun i => he.2 20 i))
  -- from the second on
  have main : ∀ (nn i F G : Nat) (x : Option Nat) (c : Nat) (e : Dt), i + nn = cn → 1 ≤ i → nn < F → nn < G → CD (bk (wOf dm)) x c → NWd dm e → ∃ r dm', lp (fun k x => t_X5_judge_43 L d (fun x2 x3 => k (x2, x3)) x.1 x.2) F (nI c, nI i) = some r ∧ lp (fun k x => t_X6_judge_5 LM (fun x1 x2 d => k (x1, x2, d)) x.1 x.2.1 x.2.2) G (enc x, nI i, e) = some (r, dm') ∧ NWd dm dm' := by
    intro nn
    induction nn with
    | zero =>
      intro i F G x c e hi h1 hF hG hcd he
      obtain ⟨F, rfl⟩ : ∃ F', F = F' + 1 := ⟨F - 1, by omega⟩
      obtain ⟨G, rfl⟩ : ∃ F', G = F' + 1 := ⟨G - 1, by omega⟩
      refine ⟨-1, e, ?_, ?_, he⟩
      · show t_X5_judge_43 L d (fun x2 x3 => lp _ F (x2, x3)) (nI c) (nI i) = _
        rw [t_X5_judge_43, c2, if_pos (nI_le (by omega) (by omega))]
      · show t_X6_judge_5 LM (fun x1 x2 d => lp _ G (x1, x2, d)) (enc x) (nI i) e = _
        rw [t_X6_judge_5, he.1 23 (by decide) (by decide), c3, if_pos (nI_le (by omega) (by omega))]
    | succ nn ih =>
      intro i F G x c e hi h1 hF hG hcd he
      obtain ⟨F, rfl⟩ : ∃ F', F = F' + 1 := ⟨F - 1, by omega⟩
      obtain ⟨G, rfl⟩ : ∃ F', G = F' + 1 := ⟨G - 1, by omega⟩
      obtain ⟨e1, p, hp, e2⟩ := c4 i (by omega)
      have e24 : gA e (32 * 0 + 24) i = nI p := (he.2 24 i).trans e2
      rw [e2] at e1
      show ∃ r dm', t_X5_judge_43 L d (fun x2 x3 => lp _ F (x2, x3)) (nI c) (nI i) = some r ∧ t_X6_judge_5 LM (fun x1 x2 d => lp _ G (x1, x2, d)) (enc x) (nI i) e = some (r, dm') ∧ NWd dm dm'
      rw [t_X5_judge_43, c2, if_neg (nI_ge (by omega) (by omega)), if_neg (show ¬ (60 : Int32) ≤ nI i from nI_ge (b := 60) (by omega) (by decide)), h.1.2.2.2.2.1, gdi (show i < 60 by omega) (by omega), gdi (show i < 60 by omega) (by omega), ix_nI (by omega), e1, t_X6_judge_5, he.1 23 (by decide) (by decide), c3, if_neg (nI_ge (by omega) (by omega)), LM24, gdi (show i < 60 by omega) (by omega), ix_nI (by omega), e24, bd_q, if_neg (nI_ne0 (by omega) (by omega))]
      have hre := he.ru h.ru
      cases x with
      | none =>
        rw [canGo_over hv hb hl hcd.1 (by have := hcd.2; omega) hp, ob, if_pos rfl, if_pos enc_none]
        exact ⟨_, e, rfl, rfl, he⟩
      | some q =>
        obtain ⟨hq, ec⟩ := hcd
        have hlt := VQ_lt hv hq
        rw [if_neg (enc_some_ne hlt), enc_q, standsAt_q hre hq, ob]
        obtain ⟨v, v1, v2⟩ := leadsTo_q hre hq hp
        rcases stq_cases hv hq with ⟨w1, w2⟩ | ⟨w1, w2, w3⟩ | ⟨w1, w2, w3⟩
        · rw [w2, if_neg (show ¬ nI 1 = 0 by decide), canGo_over hv hb hl (by rw [ec]; exact cc_lt hv hq) (by rw [ec, cc_fate, if_pos w1]; decide) hp, ob, if_pos rfl]
          exact ⟨_, e, rfl, rfl, he⟩
        · obtain ⟨v', y1, y2⟩ := canGo_q hv hb hl hq hp
          rw [w2, if_pos (show nI 0 = 0 from rfl), v1, ob, ec, y1, ob]
          rcases y2 with ⟨z, z2, z3⟩ | ⟨z, z2⟩
          · have v1' : v = 1 := by
              rcases v2 with q | q
              · exact q.1
              · exact absurd z2 q.2
            obtain ⟨e', s1, s2⟩ := stateAt_q hre (g := p) (t := qt q) (hh := qh q) z3 (qt_NB q) (qh_le q)
            rw [he.1 15 (by decide) (by decide), hbar.1, he.1 16 (by decide) (by decide), hbar.2, if_neg (nI_m1 (by omega))] at s1
            rw [z, if_neg (by decide), v1', if_neg (by decide), goOn_c hv hb hl hq z3, ob, t_X6_judge_65, if_neg (nI_ne0 (by omega) (by omega)), thingsOf_q hlt, ob, healthOf_q hlt, ob, s1, ob, t_X6_judge_97, nI_1]
            exact ih (i + 1) F G _ _ e' (by omega) (by omega) (by omega) (by omega) (CD_arv hv z3 (qt_NB q) (qh_le q)) (he.trans s2)
          · have v0 : v = 0 := by
              rcases v2 with q | q
              · exact absurd q.2 z2
              · exact q.1
            rw [z, if_pos rfl, v0, if_pos rfl]
            exact ⟨_, e, rfl, rfl, he⟩
        · obtain ⟨v', y1, y2⟩ := canGo_q hv hb hl hq hp
          rw [w2, if_neg (show ¬ nI 3 = 0 by decide), ec, y1, ob]
          rcases y2 with ⟨z, ⟨c', a1, a2, _⟩, _⟩ | ⟨z, z2⟩
          · exact absurd a2 (w3 c' a1)
          · rw [z, if_pos rfl]
            exact ⟨_, e, rfl, rfl, he⟩
  unfold t_X5_judge t_X6_judge
  rw [c2, bd_q]
  by_cases z0 : cn = 0
  · rw [z0, if_pos (show nI 0 = 0 from rfl)]
    refine ⟨_, dm, rfl, ?_, h⟩
    show t_X6_judge_5 LM (fun x1 x2 d => lp _ 999999 (x1, x2, d)) (-2) 0 dm = _
    rw [t_X6_judge_5, c3, z0, if_pos (show nI 0 ≤ 0 by decide)]
  · obtain ⟨e1, p, hp, e2⟩ := c4 0 (by omega)
    have hH := hvw.H
    rw [e2] at e1
    have e2' : gA dm (32 * 0 + 24) (ix 0) = nI p := e2
    have e1' : gA d (32 * 0 + 3) (ix 0) = nI p := e1
    rw [if_neg (nI_ne0 (by omega) (by omega)), show gF d 6 0 = wOf dm 0 from h.2.1.2.1.1, hPw.1, h.1.2.2.2.2.1, gd_h (show inb 0 60 = true by decide), e1']
    have step : ∀ K : Int32 → Int32 → Dt → Option (Int32 × Dt), t_X6_judge_5 LM K (-2) 0 dm = if nI p = 0 then (if nI (bP (wOf dm)) = 0 then some (0, dm) else t_X6_judge_65 LM K (-2) 0 (nI p) dm) else some (0, dm) := by
      intro K
      rw [t_X6_judge_5, c3, if_neg (show ¬ nI cn ≤ 0 from nI_nle (by omega) (by omega)), LM24, gd_h (show inb 0 60 = true by decide), e2', bd_q, if_pos rfl, LM0, gd_h (show inb 0 4128 = true by decide), show gA dm (32 * 0 + 0) (ix 0) = wOf dm 0 from rfl, hPw.1]
    show ∃ r dm', _ ∧ t_X6_judge_5 LM (fun x1 x2 d => lp _ 999999 (x1, x2, d)) (-2) 0 dm = some (r, dm') ∧ _
    rw [step]
    by_cases zP : bP (wOf dm) = 0
    · rw [zP, if_pos (show nI 0 = 0 from rfl), if_pos (show nI 0 = 0 from rfl), ite_self]
      exact ⟨_, dm, rfl, rfl, h⟩
    · have nP : ¬ nI (bP (wOf dm)) = 0 := nI_ne0 (by omega) (by omega)
      rw [if_neg nP, if_neg nP]
      by_cases zp : p = 0
      · have hbh : bH (bk (wOf dm)) = bH (wOf dm) := bk_H _
        obtain ⟨e', s1, s2⟩ := stateAt_q h.ru (g := 0) (t := 0) (hh := bH (wOf dm)) (by omega) ⟨0, by decide, rfl⟩ hH.2.2
        rw [hbar.1, hbar.2, if_neg (show ¬ nI 0 = -1 by decide), ← hbh] at s1
        rw [zp, if_pos (show nI 0 = 0 from rfl), if_pos (show nI 0 = 0 from rfl), beginning_eq hv hb hl (by omega), ob, t_X6_judge_65, if_pos rfl, LM0, gd_h (show inb 1 4128 = true by decide), show gA dm (32 * 0 + 0) (ix 1) = wOf dm 1 from rfl, hH.1, ← hbh, show t_X6_stateAt LM dm 0 0 (nI (bH (bk (wOf dm)))) = _ from s1, ob, t_X6_judge_97]
        have m1 := main (cn - 1) 1 FU 999999 (arv (bk (wOf dm)) (-1) 0 0 (bH (bk (wOf dm)))) (arrS (bk (wOf dm)) 0 (com (bk (wOf dm)) (-1) 0 0 (bH (bk (wOf dm))))) e' (by omega) (by omega) (by unfold FU; omega) (by omega) (CD_arv hv (by omega) ⟨0, by decide, rfl⟩ hv.H.2.2) s2
        obtain ⟨r, dm', q1, q2, q3⟩ := m1
        exact ⟨r, dm', q1, q2, nwr dm' q3⟩
      · have np : ¬ nI p = 0 := nI_ne0 (by omega) (by omega)
        rw [if_neg np, if_neg np]
        exact ⟨_, dm, rfl, rfl, h⟩
