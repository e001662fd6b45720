/-! ===== the class's graph: forget, build ===== -/
/-- what a graph always keeps: its places by slots are those of its states -/
def GI (L : Nat → Nat) (d : Dt) (o : Nat) : Prop := GLn L o ∧ ∃ s, s ≤ L (32 * o + 7) ∧ gF d o 4 = nI s ∧ (∀ i, i < s → ∃ c, c < 2 ^ 19 ∧ gA d (32 * o + 7) i = nI c) ∧ ∀ x, x < L (32 * o + 10) → gA d (32 * o + 10) x = 0 ∨ ∃ i c, i < s ∧ c < 2 ^ 19 ∧ gA d (32 * o + 7) i = nI c ∧ c / 64 * 9 + c / 4 % 16 = x + 1
theorem GB.gi {L : Nat → Nat} {d : Dt} {o : Nat} {u : Nat → Int32} {s : Nat} {X : Nat → Nat} (hv : VB u) (hg : GLn L o) (h : GB L d o u s X) : GI L d o := by
  obtain ⟨h1, h2, h3, h4, h5⟩ := h
  refine ⟨hg, s, h2, h1, fun i hi => ⟨_, cc_lt hv (h4 i hi).1, (h4 i hi).2.1⟩, fun x hx => ?_⟩
  by_cases e : ∃ i, i < s ∧ sl (X i) = x
  · obtain ⟨i, hi, ei⟩ := e
    exact .inr ⟨i, _, hi, cc_lt hv (h4 i hi).1, (h4 i hi).2.1, by rw [cc_sl u (h4 i hi).1.2.1, ei]⟩
  · exact .inl (h5 x hx (fun i hi z => e ⟨i, hi, z⟩))
/-- what forgetting, building leaves -/
def FF (o : Nat) (d d' : Dt) : Prop := ∀ x, x ≠ o → AG d d' x
theorem forget_q {L : Nat → Nat} {d : Dt} {o : Nat} {u : Nat → Int32} (hv : VB u) (ho6 : o ≠ 6) (h : GI L d o) (hb : BK d 6 u) : ∃ L' d' kc ns, t_X4_forget L d o = some ((L', d'), kc, ns) ∧ CO o L L' kc ns ∧ FF o d d' ∧ GB L' d' o u 0 (fun _ => 0) ∧ gF d' o 5 = 0 ∧ gF d' o 6 = 0 ∧ gF d' o 13 = -1 ∧ gF d' o 16 = 0 := by
  obtain ⟨hg, s, h1, h2, h3, h4⟩ := h
  have hP := hv.P
  have hch := chS_le hg.1
  obtain ⟨m, m1, m2⟩ := hg.2.2.2.1
  -- the end
  have en : ∀ (L1 : Nat → Nat) (d1 : Dt), 2304 * bP u ≤ L1 (32 * o + 10) → (∀ x, x < L1 (32 * o + 10) → gA d1 (32 * o + 10) x = 0) → ∃ d', t_X4_forget_74 o L1 d1 = some ((L1, d'), 0, 0) ∧ FF o d1 d' ∧ GB L1 d' o u 0 (fun _ => 0) ∧ gF d' o 5 = 0 ∧ gF d' o 6 = 0 ∧ gF d' o 13 = -1 ∧ gF d' o 16 = 0 := by
    intro L1 d1 l1 z1
    refine ⟨sF (sF (sF (sF (sF d1 o 4 0) o 5 0) o 6 0) o 13 (-1)) o 16 0, ?_, fun x hx => ((((AG_sF hx).trans (AG_sF hx)).trans (AG_sF hx)).trans (AG_sF hx)).trans (AG_sF hx), ⟨?_, Nat.zero_le _, l1, fun i hi => by omega, fun x hx _ => z1 x hx⟩, ?_, ?_, ?_, ?_⟩
    · unfold t_X4_forget_74 t_X4_forgetResults
      rw [bd_q, bd_q, bd_q, bd_q, bd_q, ob]
    · rw [gF_sFn (by omega), gF_sFn (by omega), gF_sFn (by omega), gF_sFn (by omega), gF_sF1]; rfl
    · rw [gF_sFn (by omega), gF_sFn (by omega), gF_sFn (by omega), gF_sF1]
    · rw [gF_sFn (by omega), gF_sFn (by omega), gF_sF1]
    · rw [gF_sFn (by omega), gF_sF1]
    · rw [gF_sF1]
  have main : ∀ (n i F : Nat) (e : Dt), i + n = s → n < F → FF o d e → gF e o 4 = nI s → (∀ i, gA e (32 * o + 7) i = gA d (32 * o + 7) i) → (∀ x, x < L (32 * o + 10) → gA e (32 * o + 10) x = 0 ∨ ∃ j c, i ≤ j ∧ j < s ∧ c < 2 ^ 19 ∧ gA d (32 * o + 7) j = nI c ∧ c / 64 * 9 + c / 4 % 16 = x + 1) → ∃ L' d' kc ns, lp (fun k x => t_X4_forget_2 o (fun x1 L d => k (x1, L, d)) x.1 x.2.1 x.2.2) F (nI i, L, e) = some ((L', d'), kc, ns) ∧ CO o L L' kc ns ∧ FF o d d' ∧ GB L' d' o u 0 (fun _ => 0) ∧ gF d' o 5 = 0 ∧ gF d' o 6 = 0 ∧ gF d' o 13 = -1 ∧ gF d' o 16 = 0 := by
    intro n
    induction n with
    | zero =>
      intro i F e hi hF hf e4 e7 ez
      obtain ⟨F, rfl⟩ : ∃ G, F = G + 1 := ⟨F - 1, by omega⟩
      have zz : ∀ x, x < L (32 * o + 10) → gA e (32 * o + 10) x = 0 := fun x hx => by
        rcases ez x hx with q | ⟨j, c, q1, q2, _⟩
        · exact q
        · omega
      have b6 : gF e 6 0 = nI (bP u) := by
        rw [(hf 6 (fun z => ho6 z.symm)).1 0, hb.1]; exact hP.1
      show ∃ L' d' kc ns, t_X4_forget_2 o (fun x1 L d => lp _ F (x1, L, d)) (nI i) L e = _ ∧ _
      rw [t_X4_forget_2, e4, if_pos (nI_le (by omega) (by omega)), b6, show (2304 : Int32) = nI 2304 from rfl, nI_mulN, bd_q]
      by_cases le : bP u * 2304 ≤ L (32 * o + 10)
      · rw [if_pos (nI_le le (by omega))]
        obtain ⟨d', r1, r2, r3⟩ := en L e (by omega) zz
        exact ⟨L, d', 0, 0, r1, CO.rf hg, fun x hx => (hf x hx).trans (r2 x hx), r3⟩
      · rw [if_neg (nI_ge (by omega) (by omega)), gd_h (inb_l (by omega)), ix_nI (by omega), bd_q, bd_q]
        have l10 : upL L (32 * o + 10) (bP u * 2304) (32 * o + 10) = bP u * 2304 := upL_s _ _ _
        have lx : ∀ a, a ≠ 32 * o + 10 → upL L (32 * o + 10) (bP u * 2304) a = L a := fun a ha => upL_n ha
        obtain ⟨d', r1, r2, r3⟩ := en (upL L (32 * o + 10) (bP u * 2304)) (sR e (32 * o + 10) (fun _ => 0)) (by rw [l10]; omega) (fun x _ => by rw [gA_sRi, if_pos rfl])
        refine ⟨_, d', 0 + 1, 0 + bP u * 2304, by rw [r1, al_e], ⟨?_, fun a ha => lx a (by omega), ?_, by omega⟩, fun x hx => ((hf x hx).trans (AG_sR (j := 10) (by decide) hx)).trans (r2 x hx), r3⟩
        · obtain ⟨c1, c2, c3, c4, c5, c6, c7⟩ := hg
          exact ⟨by rw [lx _ (by omega)]; exact c1, by rw [lx _ (by omega), lx _ (by omega)]; exact c2, by rw [lx _ (by omega)]; exact c3, ⟨bP u, by omega, by rw [l10]; omega⟩, by rw [lx _ (by omega)]; exact c5, by rw [lx _ (by omega)]; exact c6, by rw [lx _ (by omega)]; exact c7⟩
        · unfold PT
          rw [l10, lx (32 * o + 7) (by omega), lx (32 * o + 9) (by omega), lx (32 * o + 11) (by omega), lx (32 * o + 12) (by omega), lx (32 * o + 15) (by omega)]
          omega
    | succ n ih =>
      intro i F e hi hF hf e4 e7 ez
      obtain ⟨F, rfl⟩ : ∃ G, F = G + 1 := ⟨F - 1, by omega⟩
      obtain ⟨c, c1, c2⟩ := h3 i (by omega)
      show ∃ L' d' kc ns, t_X4_forget_2 o (fun x1 L d => lp _ F (x1, L, d)) (nI i) L e = _ ∧ _
      rw [t_X4_forget_2, e4, if_neg (nI_ge (by omega) (by omega)), gdi (by omega) (by omega), ix_nI (by omega), e7, c2, slotOf_c c1, ob]
      have skip : (∀ x, x < L (32 * o + 10) → c / 64 * 9 + c / 4 % 16 ≠ x + 1) → ∃ L' d' kc ns, t_X4_forget_40 o (fun x1 L d => lp (fun k x => t_X4_forget_2 o (fun x1 L d => k (x1, L, d)) x.1 x.2.1 x.2.2) F (x1, L, d)) (nI i) L e = some ((L', d'), kc, ns) ∧ CO o L L' kc ns ∧ FF o d d' ∧ GB L' d' o u 0 (fun _ => 0) ∧ gF d' o 5 = 0 ∧ gF d' o 6 = 0 ∧ gF d' o 13 = -1 ∧ gF d' o 16 = 0 := by
        intro hs
        rw [t_X4_forget_40, nI_1]
        refine ih _ _ _ (by omega) (by omega) hf e4 e7 (fun x hx => ?_)
        rcases ez x hx with q | ⟨j, c', q1, q2, q3, q4, q5⟩
        · exact .inl q
        · by_cases z : j = i
          · rw [z, c2] at q4
            have := nI_inj (by omega) (by omega) q4
            rw [← this] at q5
            exact absurd q5 (hs x hx)
          · exact .inr ⟨j, c', by omega, q2, q3, q4, q5⟩
      by_cases z : c / 64 * 9 + c / 4 % 16 = 0
      · rw [z, if_pos (by decide)]
        exact skip (fun x _ => by omega)
      · obtain ⟨y, ey⟩ : ∃ y, c / 64 * 9 + c / 4 % 16 = y + 1 := ⟨c / 64 * 9 + c / 4 % 16 - 1, by omega⟩
        rw [ey, nI_pred, if_neg (nI_pos (by omega))]
        by_cases le : L (32 * o + 10) ≤ y
        · rw [if_pos (nI_le le (by omega))]
          exact skip (fun x hx => by omega)
        · rw [if_neg (nI_ge (by omega) (by omega)), gdi (by omega) (by omega), bd_q, ix_nI (by omega), t_X4_forget_40, nI_1]
          refine ih _ _ _ (by omega) (by omega) (fun x hx => (hf x hx).trans (AG_sA (j := 10) (by decide) hx)) e4 (fun j => by rw [gA_sAi, if_neg (fun q => by omega)]; exact e7 j) (fun x hx => ?_)
          rw [gA_sAi]
          by_cases z2 : x = y
          · exact .inl (if_pos ⟨rfl, z2⟩)
          · rw [if_neg (fun q => z2 q.2)]
            rcases ez x hx with q | ⟨j, c', q1, q2, q3, q4, q5⟩
            · exact .inl q
            · by_cases z3 : j = i
              · rw [z3, c2] at q4
                have := nI_inj (by omega) (by omega) q4
                rw [← this] at q5
                omega
              · exact .inr ⟨j, c', by omega, q2, q3, q4, q5⟩
  exact main s 0 FU d (by omega) (by unfold FU; omega) (fun x _ => AG.refl d x) h2 (fun _ => rfl) (fun x hx => by
    rcases h4 x hx with q | ⟨i, c, q1, q2, q3, q4⟩
    · exact .inl q
    · exact .inr ⟨i, c, by omega, q1, q2, q3, q4⟩)
/-- all ways stand in the rows -/
def GC (u : Nat → Int32) (bar nop : Int32) (L : Nat → Nat) (d : Dt) (o s : Nat) (X : Nat → Nat) (wc : Nat) : Prop := GB L d o u s X ∧ (∀ i, i < s → WYi d o u bar nop s X wc i) ∧ (0 < s → gA d (32 * o + 8) s = nI wc) ∧ gF d o 5 = nI wc ∧ wc ≤ L (32 * o + 9) ∧ wc ≤ 6 * s
theorem GK.gc {Rch B0 : Nat → Prop} {u : Nat → Int32} {bar nop : Int32} {fs : Nat} {L : Nat → Nat} {d : Dt} {o s : Nat} {X : Nat → Nat} {wc ap : Nat} (h : GK Rch B0 u bar nop fs L d o s X wc ap s) : GC u bar nop L d o s X wc := by
  obtain ⟨a1, a2, a3, a4, a5, a6, a7, _⟩ := h
  exact ⟨a1, a3, a4, a5, a6, a7⟩
theorem GC.clo {u : Nat → Int32} {bar nop : Int32} {L : Nat → Nat} {d : Dt} {o s : Nat} {X : Nat → Nat} {wc : Nat} (h : GC u bar nop L d o s X wc) : CLo u bar nop s X := by
  refine ⟨fun i hi => (h.1.2.2.2.1 i hi).1, fun i hi q' hE => ?_⟩
  obtain ⟨f, y1, y2, y3, y4⟩ := h.2.1 i hi
  obtain ⟨c, c1, c2, c3, c4⟩ := hE
  have mem : ∀ (n c0 : Nat), c0 ≤ c → c < c0 + n → some q' ∈ sxf u bar nop (X i) n c0 := by
    intro n
    induction n with
    | zero => intro c0 h1 h2; omega
    | succ n ih =>
      intro c0 h1 h2
      unfold sxf
      by_cases z : c0 = c
      · rw [z, if_pos ⟨c2, c3⟩, c4]; simp
      · have := ih (c0 + 1) (by omega) (by omega)
        split
        · exact List.mem_cons_of_mem _ this
        · exact this
  obtain ⟨j, hj⟩ := List.getElem?_of_mem (mem (wys u (qp (X i))) 0 (by omega) (by omega))
  obtain ⟨j', a, b, _⟩ := y4 j (some q') hj
  exact ⟨j', a, b⟩
def RC (u : Nat → Int32) (bar nop : Int32) (q : Nat) : Prop := ∃ n, RO u bar nop (ini u bar nop) n q
theorem RC.step {u : Nat → Int32} {bar nop : Int32} {q q' : Nat} (h : RC u bar nop q) (he : Ed u bar nop q q') : RC u bar nop q' := by
  obtain ⟨n, hn⟩ := h
  exact ⟨n + 1, hn.step he⟩
theorem RC.all {u : Nat → Int32} {bar nop : Int32} {s : Nat} {X : Nat → Nat} (hc : CLo u bar nop s X) (h0 : ∀ r, ini u bar nop = some r → ∃ j, j < s ∧ X j = r) {q : Nat} (h : RC u bar nop q) : ∃ j, j < s ∧ X j = q := by
  obtain ⟨n, hn⟩ := h
  revert hn
  cases hi : ini u bar nop with
  | none => exact fun h => h.elim
  | some r =>
    have base := h0 r hi
    revert q
    induction n with
    | zero =>
      intro q hq
      have : q = r := hq
      rw [this]; exact base
    | succ n ih =>
      intro q hq
      obtain ⟨q', h1, h2⟩ := hq
      obtain ⟨j, j1, j2⟩ := ih h1
      exact hc.2 j j1 q (by rw [j2]; exact h2)
def BA (u : Nat → Int32) (nop : Int32) (g : Nat) : Prop := bP u ≠ 0 ∧ nop ≠ 0 ∧ g = 0
/-- a graph that was built to its end -/
def GBu (u : Nat → Int32) (bar nop : Int32) (L : Nat → Nat) (d : Dt) (o s : Nat) (X : Nat → Nat) (wc ap : Nat) : Prop := GC u bar nop L d o s X wc ∧ (∀ i, i < s → RC u bar nop (X i)) ∧ (∀ q, RC u bar nop q → ∃ i, i < s ∧ X i = q) ∧ gF d o 0 = nI s ∧ gF d o 1 = nI ap ∧ (∀ g, ap.testBit g = true ↔ (BA u nop g ∨ ∃ i x, i < s ∧ AW u nop (X i) x g)) ∧ gF d o 13 = -1 ∧ gF d o 16 = 0 ∧ ((gF d o 2 = 1 ∧ ∃ i, i < s ∧ bE u (qp (X i)) = 1) ∨ (gF d o 2 = 0 ∧ ∀ i, i < s → bE u (qp (X i)) ≠ 1))
theorem build_q {L : Nat → Nat} {d : Dt} {o : Nat} {u : Nat → Int32} {bar nop p3 : Int32} (hv : VB u) (ho6 : o ≠ 6) (h : GI L d o) (hb : BK d 6 u) (hl : LB L 6) : ∃ L' d' kc ns, t_X4_build L d o bar nop p3 = some ((L', d'), kc, ns) ∧ CO o L L' kc ns ∧ FF o d d' ∧ GI L' d' o ∧ ((∃ s X wc ap, GBu u bar nop L' d' o s X wc ap) ∨ (p3 ≠ 0 ∧ gF d' o 2 = 1 ∧ ∃ q, RC u bar nop q ∧ bE u (qp q) = 1)) := by
  obtain ⟨L1, d1, k1, n1, r1, r2, r3, r4, r5, r6, r7, r8⟩ := forget_q hv ho6 h hb
  have hP := hv.P.2
  have hg1 := r2.1
  have h6 : (6 : Nat) ≠ o := fun z => ho6 z.symm
  have hl1 := LB_LF r2.2.1 h6 hl
  have hb1 := BK_ag hv (r3 6 h6) hb
  have hb5 : BK (sF d1 o 2 0) 6 u := BK_ag hv (AG_sF h6) hb1
  unfold t_X4_build
  rw [r1, ob]
  dsimp only
  rw [bd_q, show t_X0_hasPart L1 (sF d1 o 2 0) 6 0 = t_X0_hasPart L1 (sF d1 o 2 0) 6 (nI 0) from rfl, hasPart_eq hv hb5, ob]
  -- nothing to walk
  have none' : ini u bar nop = none → (∀ g, ¬ BA u nop g) → ∃ L' d' kc ns, al k1 n1 (t_X4_build_54 o bar nop p3 L1 (sF d1 o 2 0)) = some ((L', d'), kc, ns) ∧ CO o L L' kc ns ∧ FF o d d' ∧ GI L' d' o ∧ ((∃ s X wc ap, GBu u bar nop L' d' o s X wc ap) ∨ (p3 ≠ 0 ∧ gF d' o 2 = 1 ∧ ∃ q, RC u bar nop q ∧ bE u (qp q) = 1)) := by
    intro hi hA
    have g4 : gF (sF d1 o 2 0) o 4 = nI 0 := (gF_sFn (by omega)).trans r4.1
    have g6 : gF (sF d1 o 2 0) o 6 = nI 0 := (gF_sFn (by omega)).trans r6
    have hGB : GB L1 (sF (sF (sF d1 o 2 0) o 0 (nI 0)) o 1 (nI 0)) o u 0 (fun _ => 0) := ⟨by rw [gF_sFn (by omega), gF_sFn (by omega)]; exact g4, r4.2.1, r4.2.2.1, fun i hi => by omega, r4.2.2.2.2⟩
    refine ⟨L1, sF (sF (sF d1 o 2 0) o 0 (nI 0)) o 1 (nI 0), 0 + k1, 0 + n1, ?_, by rw [Nat.zero_add, Nat.zero_add]; exact r2, fun x hx => (r3 x hx).trans (((AG_sF hx).trans (AG_sF hx)).trans (AG_sF hx)), hGB.gi hv hg1, .inl ⟨0, fun _ => 0, 0, 0, ⟨hGB, fun i hi => by omega, fun h => by omega, ?_, by omega, by omega⟩, fun i hi => by omega, fun q hq => ?_, ?_, gF_sF1 _ _ _ _, fun g => ?_, ?_, ?_, .inr ⟨?_, fun i hi => by omega⟩⟩⟩
    · unfold t_X4_build_54
      rw [g4, bd_q, gF_sFn (by omega), g6, bd_q, al_e]
    · rw [gF_sFn (by omega), gF_sFn (by omega), gF_sFn (by omega), r5]; rfl
    · obtain ⟨n, hn⟩ := hq
      rw [hi] at hn
      exact hn.elim
    · rw [gF_sFn (by omega), gF_sF1]
    · rw [Nat.zero_testBit]
      constructor
      · intro h; cases h
      · rintro (q | ⟨i, x, q, _⟩)
        · exact absurd q (hA g)
        · omega
    · rw [gF_sFn (by omega), gF_sFn (by omega), gF_sFn (by omega), r7]
    · rw [gF_sFn (by omega), gF_sFn (by omega), gF_sFn (by omega), r8]
    · rw [gF_sFn (by omega), gF_sFn (by omega), gF_sF1]
  by_cases p0 : bP u = 0
  · rw [p0, if_neg (show ¬ inb (nI 0) 0 = true by decide), if_pos rfl]
    exact none' (by unfold ini; rw [if_pos (.inl p0)]) (fun g h => h.1 p0)
  · rw [if_pos (in_nI (by omega) (by omega)), if_neg (by decide)]
    by_cases n0 : nop = 0
    · rw [if_pos n0]
      exact none' (by unfold ini; rw [if_pos (.inr n0)]) (fun g h => h.2.1 n0)
    · have hini : ini u bar nop = arv u bar 0 0 (bH u) := by unfold ini; rw [if_neg (fun z => z.elim p0 n0)]
      have hH := hv.H
      rw [if_neg n0, bd_q]
      generalize hD : sF (sF d1 o 2 0) o 6 1 = D
      have sD : FF o d1 D := by rw [← hD]; exact fun x hx => (AG_sF hx).trans (AG_sF hx)
      have hbD : BK D 6 u := BK_ag hv (sD 6 h6) hb1
      have fD : ∀ j, j ≠ 2 → j ≠ 6 → gF D o j = gF d1 o j := fun j a b => by rw [← hD, gF_sFn (fun y => b y.2), gF_sFn (fun y => a y.2)]
      have aD : ∀ a i, gA D a i = gA d1 a i := fun a i => by rw [← hD]; rfl
      have e6 : gF D o 6 = nI 1 := by rw [← hD]; exact gF_sF1 _ _ _ _
      have hGD : GB L1 D o u 0 (fun _ => 0) := ⟨(fD 4 (by decide) (by decide)).trans r4.1, r4.2.1, r4.2.2.1, fun i hi => by omega, fun x hx hi => by rw [aD]; exact r4.2.2.2.2 x hx hi⟩
      rw [beginning_eq hv hbD hl1 (by omega), ob]
      -- behind the first meeting
      have go : ∀ (L2 : Nat → Nat) (d2 : Dt) (s2 : Nat) (X2 : Nat → Nat) (v : Int32) (k2 n2 : Nat), CO o L1 L2 k2 n2 → GB L2 d2 o u s2 X2 → (∀ i, i < s2 → RC u bar nop (X2 i)) → MF o L1 D L2 d2 → (∀ r, ini u bar nop = some r → 0 < s2 ∧ X2 0 = r) → ∃ L' d' kc ns, al k1 n1 (al k2 n2 ((t_X4_spread L2 d2 o 0 bar nop p3).bind (fun q15 => al q15.2.1 q15.2.2 (gd (isB q15.1.1) (bd (sF q15.1.2.2 o 2 q15.1.1) (fun d19 => t_X4_build_54 o bar nop p3 q15.1.2.1 d19)))))) = some ((L', d'), kc, ns) ∧ CO o L L' kc ns ∧ FF o d d' ∧ GI L' d' o ∧ ((∃ s X wc ap, GBu u bar nop L' d' o s X wc ap) ∨ (p3 ≠ 0 ∧ gF d' o 2 = 1 ∧ ∃ q, RC u bar nop q ∧ bE u (qp q) = 1)) := by
        intro L2 d2 s2 X2 v k2 n2 c2 b2 rc2 m2 root2
        obtain ⟨m2a, m2b, m2c, m2d, m2e, m2f⟩ := m2
        have hgk : GK (RC u bar nop) (BA u nop) u bar nop 0 L2 d2 o s2 X2 0 1 0 := by
          refine ⟨b2, rc2, fun i hi => by omega, fun h => by omega, ?_, by omega, by omega, ?_, fun g => ?_, by omega⟩
          · rw [m2b 5 (by decide), fD 5 (by decide) (by decide), r5]; rfl
          · rw [m2b 6 (by decide), e6]
          · constructor
            · intro h
              have h1 : (2 ^ 0).testBit g = true := h
              rw [Nat.testBit_two_pow, decide_eq_true_eq] at h1
              exact .inl ⟨p0, n0, h1.symm⟩
            · rintro (⟨_, _, rfl⟩ | ⟨i, x, _, q, _⟩)
              · decide
              · omega
        have ff2 : FF o d d2 := fun x hx => ((r3 x hx).trans (sD x hx)).trans (m2a x hx)
        obtain ⟨r, L3, d3, s3, X3, wc3, ap3, k3, n3, t1, t2, t3, t4, t5, t6⟩ := sp_out hv ho6 (fun q q' h he => h.step he) 0 p3 55297 0 FU 0 L2 d2 s2 X2 0 1 (by omega) (by unfold FU; omega) (by omega) c2.1 (LB_LF c2.2.1 h6 hl1) (BK_ag hv (ff2 6 h6) hb) hgk (.inr ⟨rfl, fun i _ hi => by omega⟩)
        have t1' : t_X4_spread L2 d2 o 0 bar nop p3 = some ((r, L3, d3), k3, n3) := t1
        have r01 : r = 0 ∨ r = 1 := by
          rcases t6 with ⟨_, q | q⟩ | q
          · exact .inr q.1
          · exact .inl q.1
          · exact .inr q.2.1
        have hB : isB r = true := by rcases r01 with z | z <;> (rw [z]; rfl)
        have hGB3 : GB L3 d3 o u s3 X3 := by
          rcases t6 with q | q
          · exact q.1.1
          · exact q.2.2.1
        have g4 : gF (sF d3 o 2 r) o 4 = nI s3 := (gF_sFn (by omega)).trans hGB3.1
        generalize hap : gF d3 o 6 = ap6
        have g6 : gF (sF (sF d3 o 2 r) o 0 (nI s3)) o 6 = ap6 := by rw [gF_sFn (by omega), gF_sFn (by omega)]; exact hap
        have fE : ∀ j, j ≠ 0 → j ≠ 1 → j ≠ 2 → gF (sF (sF (sF d3 o 2 r) o 0 (nI s3)) o 1 ap6) o j = gF d3 o j := fun j a b c => by rw [gF_sFn (fun y => b y.2), gF_sFn (fun y => a y.2), gF_sFn (fun y => c y.2)]
        have hGBe : GB L3 (sF (sF (sF d3 o 2 r) o 0 (nI s3)) o 1 ap6) o u s3 X3 := ⟨(fE 4 (by decide) (by decide) (by decide)).trans hGB3.1, hGB3.2⟩
        have e2 : gF (sF (sF (sF d3 o 2 r) o 0 (nI s3)) o 1 ap6) o 2 = r := by rw [gF_sFn (by omega), gF_sFn (by omega), gF_sF1]
        refine ⟨L3, sF (sF (sF d3 o 2 r) o 0 (nI s3)) o 1 ap6, 0 + k3 + k2 + k1, 0 + n3 + n2 + n1, ?_, ?_, fun x hx => (((ff2 x hx).trans (t3.1 x hx)).trans (AG_sF hx)).trans ((AG_sF hx).trans (AG_sF hx)), hGBe.gi hv t2.1, ?_⟩
        · rw [t1', ob]
          dsimp only
          rw [gd_h hB, bd_q]
          unfold t_X4_build_54
          rw [g4, bd_q, g6, bd_q, al_e, al_e, al_e]
        · have := (r2.tr c2).tr t2
          rw [Nat.zero_add, Nat.zero_add, Nat.add_assoc, Nat.add_assoc]
          exact this
        · rcases t6 with ⟨hk, hw⟩ | ⟨z1, z2, z3, z4, i, z5, z6⟩
          · have hgc := hk.gc
            have hgc2 : GC u bar nop L3 (sF (sF (sF d3 o 2 r) o 0 (nI s3)) o 1 ap6) o s3 X3 wc3 := ⟨hGBe, hgc.2.1, hgc.2.2.1, (fE 5 (by decide) (by decide) (by decide)).trans hgc.2.2.2.1, hgc.2.2.2.2⟩
            have eap : ap6 = nI ap3 := hap.symm.trans hk.2.2.2.2.2.2.2.1
            refine .inl ⟨s3, X3, wc3, ap3, hgc2, hk.2.1, fun q hq => RC.all hgc2.clo (fun r' hr' => ?_) hq, ?_, ?_, fun g => ?_, ?_, ?_, ?_⟩
            · obtain ⟨y1, y2⟩ := root2 r' hr'
              exact ⟨0, by omega, (t5 0 y1).trans y2⟩
            · rw [gF_sFn (by omega), gF_sF1]
            · rw [gF_sF1]; exact eap
            · rw [hk.2.2.2.2.2.2.2.2.1 g]
              constructor
              · rintro (q | ⟨i, x, q1, q2, q3⟩)
                · exact .inl q
                · exact .inr ⟨i, x, q2, q3⟩
              · rintro (q | ⟨i, x, q2, q3⟩)
                · exact .inl q
                · exact .inr ⟨i, x, by omega, q2, q3⟩
            · rw [fE 13 (by decide) (by decide) (by decide), t3.2 13 (by decide) (by decide) (by decide), m2b 13 (by decide), fD 13 (by decide) (by decide), r7]
            · rw [fE 16 (by decide) (by decide) (by decide), t3.2 16 (by decide) (by decide) (by decide), m2b 16 (by decide), fD 16 (by decide) (by decide), r8]
            · rw [e2]
              rcases hw with q | ⟨q, q2⟩
              · exact .inl q
              · exact .inr ⟨q, fun i hi => q2 i (by omega) hi⟩
          · exact .inr ⟨z1, e2.trans z2, X3 i, z4 i z5, z6⟩
      cases hx : arv u bar 0 0 (bH u) with
      | none =>
        have al' := arv_none hx
        have lt := arrS_lt hv (bar := bar) (g := 0) (t := 0) (h := bH u) (by omega) ⟨0, by decide, rfl⟩ hH.2.2
        rw [meet_lost lt al', ob]
        exact go L1 D 0 (fun _ => 0) (-1) 0 0 (CO.rf hg1) hGD (fun i hi => by omega) (MF.rf o L1 D) (fun r hr => by rw [hini, hx] at hr; cases hr)
      | some q' =>
        have ac := arv_some hv (g := 0) (t := 0) (by omega) ⟨0, by decide, rfl⟩ hH.2.2 hx
        have hq' := (arv_ok hv (g := 0) (t := 0) (by omega) ⟨0, by decide, rfl⟩ hH.2.2 hx).1
        rw [ac]
        obtain ⟨L2, d2, k2, n2, m1, m2, m3, m4, _⟩ := meet_new hv hg1 hGD hq' (fun i hi => by omega)
        rw [m1, ob]
        refine go L2 d2 1 (apn (fun _ => 0) 0 q') (nI 0) k2 n2 m2 m3 (fun i hi => ?_) m4 (fun r hr => ⟨by omega, ?_⟩)
        · have : i = 0 := by omega
          rw [this, apn_s]
          refine ⟨0, ?_⟩
          rw [hini, hx]
          rfl
        · rw [hini, hx] at hr
          cases hr
          exact apn_s _ _ _
