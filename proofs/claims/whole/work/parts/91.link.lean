/-! ===== link, unlink ===== -/
/-- cells of the choices of part p -/
def CHp (p i : Nat) : Prop := i = 56 + p ∨ (368 + 6 * p ≤ i ∧ i < 374 + 6 * p) ∨ (512 + 6 * p ≤ i ∧ i < 518 + 6 * p) ∨ (656 + 6 * p ≤ i ∧ i < 662 + 6 * p)
theorem VB_ch {w w' : Nat → Int32} {p m : Nat} (hv : VB w) (hp : p < bP w) (hw : ∀ i, i < 800 → (i < 2 ∨ 8 ≤ i) → ¬ CHp p i → w' i = w i) (hm : w' (56 + p) = nI m) (hm6 : m ≤ 6) (he : bE w p ≠ 0 → m = 0) (hc : ∀ c, c < m → NB (w' (368 + (6 * p + c))) (bP w) ∧ VT (w' (512 + (6 * p + c))) ∧ VT (w' (656 + (6 * p + c)))) : VB w' ∧ bP w' = bP w ∧ bC w' p = m ∧ (∀ p', p' < 24 → bE w' p' = bE w p' ∧ bN w' p' = bN w p') ∧ ∀ p', p' < 24 → p' ≠ p → bC w' p' = bC w p' := by
  have hP24 := hv.P.2
  have hP : bP w' = bP w := by unfold bP; rw [hw 0 (by omega) (by omega) (by unfold CHp; omega)]
  have hE : ∀ p', p' < 24 → bE w' p' = bE w p' := fun p' h => by unfold bE; rw [hw _ (by omega) (by omega) (by unfold CHp; omega)]
  have hN : ∀ p', p' < 24 → bN w' p' = bN w p' := fun p' h => by unfold bN; rw [hw _ (by omega) (by omega) (by unfold CHp; omega)]
  have hC : bC w' p = m := by unfold bC; rw [hm, ix_nI (by omega)]
  have hC' : ∀ p', p' < 24 → p' ≠ p → bC w' p' = bC w p' := fun p' h h2 => by unfold bC; rw [hw _ (by omega) (by omega) (by unfold CHp; omega)]
  refine ⟨⟨?_, ?_, ?_, fun p' hp' => ?_⟩, hP, hC, fun p' h => ⟨hE p' h, hN p' h⟩, hC'⟩
  · rw [hw 0 (by omega) (by omega) (by unfold CHp; omega)]; exact hv.1
  · rw [hw 1 (by omega) (by omega) (by unfold CHp; omega)]; exact hv.2.1
  · unfold bH; rw [hw 1 (by omega) (by omega) (by unfold CHp; omega)]; exact hv.2.2.1
  · rw [hP] at hp'
    have hV := hv.2.2.2 p' hp'
    have N5 := hV.N.2
    have C7 := hV.C.2
    obtain ⟨a, b, c, e, f, g, k⟩ := hV
    refine ⟨?_, ?_, ?_, ?_, ?_, ?_, ?_⟩
    · rw [hw _ (by omega) (by omega) (by unfold CHp; omega)]; exact a
    · rw [hw _ (by omega) (by omega) (by unfold CHp; omega)]; exact b
    · by_cases z : p' = p
      · rw [z, hm]; exact ⟨m, by omega, rfl⟩
      · rw [hw _ (by omega) (by omega) (by unfold CHp; omega)]; exact c
    · rw [hE p' (by omega)]
      by_cases z : p' = p
      · rw [z, hC]; exact he
      · rw [hC' p' (by omega) z]; exact e
    · rw [hE p' (by omega), hP, hw (80 + p') (by omega) (by omega) (by unfold CHp; omega), hw (104 + p') (by omega) (by omega) (by unfold CHp; omega), hw (128 + p') (by omega) (by omega) (by unfold CHp; omega)]; exact f
    · intro q hq
      rw [hN p' (by omega)] at hq
      have := g q hq
      unfold VE bK at this ⊢
      rw [hw (176 + (4 * p' + q)) (by omega) (by omega) (by unfold CHp; omega), hw (272 + (4 * p' + q)) (by omega) (by omega) (by unfold CHp; omega)]
      exact this
    · intro q hq
      unfold VC
      rw [hP]
      by_cases z : p' = p
      · rw [z, hC] at hq
        rw [z]
        exact hc q hq
      · rw [hC' p' (by omega) z] at hq
        have := k q hq
        unfold VC at this
        rw [hw (368 + (6 * p' + q)) (by omega) (by omega) (by unfold CHp; omega), hw (512 + (6 * p' + q)) (by omega) (by omega) (by unfold CHp; omega), hw (656 + (6 * p' + q)) (by omega) (by omega) (by unfold CHp; omega)]
        exact this
/-- the choices of part p are others, on both sides -/
theorem SI_ch {d d' dm dm' : Dt} {p m : Nat} (hs : SI d 2 (wOf dm)) (hp : p < bP (wOf dm)) (hw : ∀ i, i < 1376 → ¬ CHp p i → wOf dm' i = wOf dm i) (hm : wOf dm' (56 + p) = nI m) (hm6 : m ≤ 6) (he : bE (wOf dm) p ≠ 0 → m = 0) (hc : ∀ c, c < m → NB (wOf dm' (368 + (6 * p + c))) (bP (wOf dm)) ∧ VT (wOf dm' (512 + (6 * p + c))) ∧ VT (wOf dm' (656 + (6 * p + c)))) (ha : AG d d' 2) (hF : ∀ j, gF d' 6 j = gF d 6 j) (hr : ∀ j i, j < 9 → gA d' (32 * 6 + j) i = gA d (32 * 6 + j) i) (h9 : ∀ p', p' ≠ p → gA d' (32 * 6 + 9) p' = gA d (32 * 6 + 9) p') (h9p : gA d' (32 * 6 + 9) p = nI m) (hx : ∀ j i, 10 ≤ j → j < 13 → ¬ (6 * p ≤ i ∧ i < 6 * p + 6) → gA d' (32 * 6 + j) i = gA d (32 * 6 + j) i) (hcc : ∀ c, c < m → gA d' (32 * 6 + 10) (6 * p + c) = wOf dm' (368 + (6 * p + c)) ∧ gA d' (32 * 6 + 11) (6 * p + c) = wOf dm' (512 + (6 * p + c)) ∧ gA d' (32 * 6 + 12) (6 * p + c) = wOf dm' (656 + (6 * p + c))) : SI d' 2 (wOf dm') := by
  obtain ⟨hv, hk, h2, h0, hn, hs⟩ := hs
  have hP24 := hv.P.2
  obtain ⟨v1, v2, v3, v4, v5⟩ := VB_ch hv hp (fun i a b c => hw i (by omega) c) hm hm6 he hc
  have hk' : BK d 6 (wOf dm) := hk
  refine ⟨v1, ⟨?_, ?_, fun p' hp' => ?_⟩, ?_, ?_, ?_, ?_⟩
  · show gF d' 6 0 = _
    rw [hF, hw 0 (by omega) (by unfold CHp; omega)]; exact hk'.1
  · show gF d' 6 1 = _
    rw [hF, hw 1 (by omega) (by unfold CHp; omega)]; exact hk'.2.1
  · rw [v2] at hp'
    have hV := hv.2.2.2 p' hp'
    have N5 := hV.N.2
    have C7 := hV.C.2
    obtain ⟨a, b', c, e, f, g⟩ := hk'.2.2 p' hp'
    refine ⟨?_, ?_, ?_, ?_, ?_, ?_⟩
    · rw [hr 2 _ (by decide), hw _ (by omega) (by unfold CHp; omega)]; exact a
    · rw [hr 6 _ (by decide), hw _ (by omega) (by unfold CHp; omega)]; exact b'
    · by_cases z : p' = p
      · rw [z]; exact h9p.trans hm.symm
      · rw [h9 p' z, hw _ (by omega) (by unfold CHp; omega)]; exact c
    · rw [(v4 p' (by omega)).1, hr 3 _ (by decide), hr 4 _ (by decide), hr 5 _ (by decide), hw (80 + p') (by omega) (by unfold CHp; omega), hw (104 + p') (by omega) (by unfold CHp; omega), hw (128 + p') (by omega) (by unfold CHp; omega)]; exact e
    · intro q hq
      rw [(v4 p' (by omega)).2] at hq
      rw [hr 7 _ (by decide), hr 8 _ (by decide), hw (176 + (4 * p' + q)) (by omega) (by unfold CHp; omega), hw (272 + (4 * p' + q)) (by omega) (by unfold CHp; omega)]
      exact f q hq
    · intro q hq
      by_cases z : p' = p
      · rw [z, v3] at hq
        rw [z]
        exact hcc q hq
      · rw [v5 p' (by omega) z] at hq
        rw [hx 10 _ (by decide) (by decide) (by omega), hx 11 _ (by decide) (by decide) (by omega), hx 12 _ (by decide) (by decide) (by omega), hw (368 + (6 * p' + q)) (by omega) (by unfold CHp; omega), hw (512 + (6 * p' + q)) (by omega) (by unfold CHp; omega), hw (656 + (6 * p' + q)) (by omega) (by unfold CHp; omega)]
        exact g q hq
  · rw [ha.1, hw 2 (by omega) (by unfold CHp; omega)]; exact h2
  · rw [hw 2 (by omega) (by unfold CHp; omega)]; exact h0
  · intro q hq
    rw [v2] at hq
    rw [ha.2 1 (by decide), hw _ (by omega) (by unfold CHp; omega)]
    exact hn q hq
  · rw [ha.1, hw 3 (by omega) (by unfold CHp; omega)]
    rcases hs with q | ⟨q, p', x, t, ⟨q3, q4, q5, q6, q7, q8⟩, r1, r2, r3⟩
    · exact .inl q
    · refine .inr ⟨q, p', x, t, ⟨?_, ?_, ?_, ?_, q7, q8⟩, ?_, ?_, ?_⟩
      · rw [hw 3 (by omega) (by unfold CHp; omega)]; exact q3
      · rw [hw 4 (by omega) (by unfold CHp; omega)]; exact q4
      · rw [hw 5 (by omega) (by unfold CHp; omega)]; exact q5
      · rw [v2]; exact q6
      · rw [ha.1]
        have : fat (wOf dm') p' x = fat (wOf dm) p' x := by unfold fat; rw [(v4 p' (by omega)).1]
        rw [this]; exact r1
      · rw [ha.1, hw 6 (by omega) (by unfold CHp; omega)]; exact r2
      · intro i hi
        rw [ha.2 7 (by decide), hw _ (by omega) (by unfold CHp; omega)]
        exact r3 i hi
/-- link and unlink keep the rest -/
theorem RLx.lk {L : Nat → Nat} {d d' dm dm' : Dt} {k n p : Nat} (h : RLx L d dm k n) (hs : SI d' 2 (wOf dm')) (hp : p < 24) (ha : ∀ x, x ≠ 0 → x ≠ 6 → AG d d' x) (h0 : ∀ j, j ≠ 7 → gF d' 0 j = gF d 0 j) (h0r : ∀ j i, j < 32 → gA d' (32 * 0 + j) i = gA d (32 * 0 + j) i) (h7 : gF d' 0 7 = 0) (hf : ∀ j, gF dm' 0 j = gF dm 0 j) (hA : ∀ a i, a ≠ 0 → gA dm' a i = gA dm a i) (hw : ∀ i, ¬ CHp p i → gA dm' 0 i = gA dm 0 i) : RLx L d' dm' k n := by
  have a1 := ha 1 (by decide) (by decide)
  refine h.md hs (NP_cg h.2.1.1 (hw 0 (by unfold CHp; omega)) (fun q hq => hw _ (by unfold CHp; omega)) h.2.2.1) (fun x x0 _ _ _ x6 => ha x x0 x6) (TX_cg h.2.2.2.2.2.1 (a1.1 1) (fun i => a1.2 3 (by decide) i) (hf 4) (fun i => hA 3 i (by decide))) ?_ (LGR_cg h.2.2.2.2.2.2.2.1 (h0 4 (by decide)) (fun i => h0r 3 i (by decide)) (hf 23) (fun i => hA 24 i (by decide))) ⟨(hf 15).trans h.2.2.2.2.2.2.2.2.1.1, (hf 16).trans h.2.2.2.2.2.2.2.2.1.2⟩ (fun i hi => hw i (by unfold CHp; omega)) (fun i => hA 1 i (by decide)) (hf 21) (fun i => hA 19 i (by decide)) (fun i => hA 20 i (by decide)) (.inl h7)
  rw [a1.1 2, hf 9]
  exact h.2.2.2.2.2.2.1
theorem isThingOrNone_q {L : Nat → Nat} {d : Dt} (x : Int32) : t_X5_isThingOrNone L d x = some (if x = -1 ∨ inb x 8 = true then 1 else 0) := by
  unfold t_X5_isThingOrNone
  rw [isThing_q, ob]
  by_cases c : x = -1
  · rw [if_pos c, if_pos (.inl c)]
  · rw [if_neg c]
    by_cases e : inb x 8 = true
    · rw [if_pos e, if_neg (by decide), if_pos (.inr e)]
    · rw [if_neg e, if_pos rfl, if_neg (fun z => z.elim c e)]
theorem noThing_q {L : Nat → Nat} {d : Dt} (x : Int32) : t_X6_noThing L d x = some (if x = -1 ∨ inb x 8 = true then 0 else 1) := by
  unfold t_X6_noThing
  rw [in_k x 7 7 rfl, ob]
  by_cases c : x = -1
  · rw [if_pos c, if_pos (.inl c)]
  · rw [if_neg c]
    by_cases e : inb x 8 = true
    · rw [if_pos e, if_neg (by decide), if_pos (.inr e)]
    · rw [if_neg e, if_pos rfl, if_neg (fun z => z.elim c e)]
theorem VT_of {x : Int32} (h : x = -1 ∨ inb x 8 = true) : VT x := by
  rcases h with z | z
  · exact .inl z
  · obtain ⟨i, hi, e⟩ := inb_ex z (by decide)
    exact .inr ⟨i, hi, e⟩
theorem ok_link : ST_link RLx := by
  intro L d dm k n p1 p2 p3 p4 h
  have hv := h.2.1.1
  have hb : BK d 6 (wOf dm) := h.2.1.2.1
  have hl := h.lb
  have hP := hv.P
  have triv : ∀ v : Int32, ∃ (r : Int32) (d' dm' : Dt), some (v, d) = some (r, d') ∧ some (v, dm) = some (r, dm') ∧ RLx L d' dm' k n := fun v => ⟨v, d, dm, rfl, rfl, h⟩
  unfold t_X5_link t_X6_link
  rw [hasPart_eq hv hb p1, ob, noPart_eq hv, ob]
  by_cases x1 : inb p1 (bP (wOf dm)) = true
  · rw [if_pos x1, if_pos x1, if_neg (show ¬ (1 : Int32) = 0 by decide), if_pos rfl, hasPart_eq hv hb p2, ob, noPart_eq hv, ob]
    by_cases x2 : inb p2 (bP (wOf dm)) = true
    · rw [if_pos x2, if_pos x2, if_neg (show ¬ (1 : Int32) = 0 by decide), if_pos rfl, isThingOrNone_q, ob, noThing_q, ob]
      by_cases x3 : p3 = -1 ∨ inb p3 8 = true
      · rw [if_pos x3, if_pos x3, if_neg (show ¬ (1 : Int32) = 0 by decide), if_pos rfl, isThingOrNone_q, ob, noThing_q, ob]
        by_cases x4 : p4 = -1 ∨ inb p4 8 = true
        · obtain ⟨p, hp, rfl⟩ := inb_ex x1 (by omega)
          have hV := hv.2.2.2 p hp
          have hE := hV.E
          have hC := hV.C
          have hB := hb.2.2 p hp
          rw [if_pos x4, if_pos x4, if_neg (show ¬ (1 : Int32) = 0 by decide), if_pos rfl, hl.1, gdi (show p < 24 by omega) (by omega), ix_nI (show p < 2 ^ 31 by omega), hB.1, LM0, show (8 : Int32) + nI p = nI (8 + p) from nI_add 8 p, gdi (show 8 + p < 4128 by omega) (by omega), wg (by omega), hE.1]
          by_cases e0 : bE (wOf dm) p = 0
          · rw [e0, if_pos (show nI 0 = 0 from rfl), if_pos (show nI 0 = 0 from rfl), hl.2.2.2.2.2.2.2.1, gdi (show p < 24 by omega) (by omega), hB.2.2.1, show (56 : Int32) + nI p = nI (56 + p) from nI_add 56 p, gdi (show 56 + p < 4128 by omega) (by omega), wg (by omega), bd_q, hC.1]
            by_cases c6 : bC (wOf dm) p = 6
            · rw [c6, if_neg (show ¬ nI 6 < 6 by decide), if_pos (show nI 6 = 6 from rfl)]
              exact triv _
            · have c5 : bC (wOf dm) p < 6 := by omega
              have e1 : nI p * 6 + nI (bC (wOf dm) p) = nI (6 * p + bC (wOf dm) p) := by
                show nI p * nI 6 + nI _ = _
                rw [nI_mulN, nI_add]; congr 1; omega
              have e2 : (6 : Int32) * nI p + nI (bC (wOf dm) p) = nI (6 * p + bC (wOf dm) p) := by
                show nI 6 * nI p + nI _ = _
                rw [nI_mulN, nI_add]
              have cls : t_X0_addChoice L d 6 (nI p) p2 p3 p4 = some (sA (sA (sA (sA d (32 * 6 + 10) (6 * p + bC (wOf dm) p) p2) (32 * 6 + 11) (6 * p + bC (wOf dm) p) p3) (32 * 6 + 12) (6 * p + bC (wOf dm) p) p4) (32 * 6 + 9) p (nI (bC (wOf dm) p + 1))) := by
                unfold t_X0_addChoice
                rw [hasPart_eq hv hb, ob, if_pos x1, if_neg (show ¬ (1 : Int32) = 0 by decide), hl.2.2.2.2.2.2.2.1, gdi (show p < 24 by omega) (by omega), ix_nI (show p < 2 ^ 31 by omega), hB.2.2.1, hC.1, if_neg (show ¬ (6 : Int32) ≤ nI (bC (wOf dm) p) from nI_ge (b := 6) c5 (by decide)), gdi (show p < 24 by omega) (by omega), e1, bd_q, hl.2.2.2.2.2.2.2.2.1, gdi (show 6 * p + bC (wOf dm) p < 144 by omega) (by omega), bd_q, hl.2.2.2.2.2.2.2.2.2.1, gdi (show 6 * p + bC (wOf dm) p < 144 by omega) (by omega), bd_q, hl.2.2.2.2.2.2.2.2.2.2, gdi (show 6 * p + bC (wOf dm) p < 144 by omega) (by omega), bd_q, gdi (show p < 24 by omega) (by omega), gdi (show p < 24 by omega) (by omega), ix_nI (show 6 * p + bC (wOf dm) p < 2 ^ 31 by omega), gA_sAi, if_neg (fun y => absurd y.1 (by decide)), gA_sAi, if_neg (fun y => absurd y.1 (by decide)), gA_sAi, if_neg (fun y => absurd y.1 (by decide)), hB.2.2.1, hC.1, nI_1, bd_q]
              generalize hm : bC (wOf dm) p = m at c5 e1 e2 cls
              rw [if_pos (show nI m < 6 from nI_lt (b := 6) c5 (by decide)), cls, ob, bd_q, gdi (show p < 24 by omega) (by omega), if_neg (show ¬ nI m = 6 from fun z => absurd (nI_inj (b := 6) (by omega) (by decide) z) (by omega)), e2, bd_q, show (368 : Int32) + nI (6 * p + m) = nI (368 + (6 * p + m)) from nI_add 368 _, gdi (show 368 + (6 * p + m) < 4128 by omega) (by omega), bd_q, show (512 : Int32) + nI (6 * p + m) = nI (512 + (6 * p + m)) from nI_add 512 _, gdi (show 512 + (6 * p + m) < 4128 by omega) (by omega), bd_q, show (656 : Int32) + nI (6 * p + m) = nI (656 + (6 * p + m)) from nI_add 656 _, gdi (show 656 + (6 * p + m) < 4128 by omega) (by omega), bd_q, gdi (show 56 + p < 4128 by omega) (by omega), bd_q, nI_1, ix_nI (show 368 + (6 * p + m) < 2 ^ 31 by omega), ix_nI (show 512 + (6 * p + m) < 2 ^ 31 by omega), ix_nI (show 656 + (6 * p + m) < 2 ^ 31 by omega), ix_nI (show 56 + p < 2 ^ 31 by omega), gA_sF, gA_sAi, if_pos ⟨rfl, rfl⟩]
              let d' := sF (sA (sA (sA (sA d (32 * 6 + 10) (6 * p + m) p2) (32 * 6 + 11) (6 * p + m) p3) (32 * 6 + 12) (6 * p + m) p4) (32 * 6 + 9) p (nI (m + 1))) 0 7 0
              let dm' := sA (sA (sA (sA dm (32 * 0 + 0) (368 + (6 * p + m)) p2) (32 * 0 + 0) (512 + (6 * p + m)) p3) (32 * 0 + 0) (656 + (6 * p + m)) p4) (32 * 0 + 0) (56 + p) (nI (m + 1))
              have gw : ∀ i, gA dm' 0 i = if i = 56 + p then nI (m + 1) else if i = 656 + (6 * p + m) then p4 else if i = 512 + (6 * p + m) then p3 else if i = 368 + (6 * p + m) then p2 else gA dm 0 i := by
                intro i
                show wOf (sA (sA (sA (sA dm 0 (368 + (6 * p + m)) p2) 0 (512 + (6 * p + m)) p3) 0 (656 + (6 * p + m)) p4) 0 (56 + p) (nI (m + 1))) i = _
                rw [wOf_sA, wOf_sA, wOf_sA, wOf_sA]
                rfl
              have gr : ∀ j i, gA d' (32 * 6 + j) i = if j = 9 ∧ i = p then nI (m + 1) else if j = 12 ∧ i = 6 * p + m then p4 else if j = 11 ∧ i = 6 * p + m then p3 else if j = 10 ∧ i = 6 * p + m then p2 else gA d (32 * 6 + j) i := by
                intro j i
                show gA (sA (sA (sA (sA d (32 * 6 + 10) (6 * p + m) p2) (32 * 6 + 11) (6 * p + m) p3) (32 * 6 + 12) (6 * p + m) p4) (32 * 6 + 9) p (nI (m + 1))) (32 * 6 + j) i = _
                rw [gA_sAi, gA_sAi, gA_sAi, gA_sAi]
                simp only [Nat.add_left_cancel_iff]
              have hx : ∀ i, ¬ CHp p i → gA dm' 0 i = gA dm 0 i := fun i hi => by
                unfold CHp at hi
                rw [gw, if_neg (by omega), if_neg (by omega), if_neg (by omega), if_neg (by omega)]
              obtain ⟨q2, hq2, eq2⟩ := inb_ex x2 (by omega)
              refine ⟨_, d', dm', rfl, rfl, h.lk (p := p) (SI_ch (m := m + 1) h.2.1 hp (fun i _ hi => hx i hi) ?_ (by omega) (fun z => absurd e0 z) (fun c hc => ?_) ?_ ?_ (fun j i hj => ?_) (fun p' hp' => ?_) ?_ (fun j i h1 h2 h3 => ?_) (fun c hc => ?_)) (by omega) (fun x x0 x6 => ?_) (fun j hj => gF_sFn (fun y => hj y.2)) (fun j i hj => ?_) (gF_sF1 _ _ _ _) (fun _ => rfl) (fun a i ha => ?_) hx⟩
              · show gA dm' 0 (56 + p) = _
                rw [gw, if_pos rfl]
              · show NB (gA dm' 0 _) _ ∧ VT (gA dm' 0 _) ∧ VT (gA dm' 0 _)
                by_cases z : c = m
                · rw [z]
                  rw [gw (368 + (6 * p + m)), if_neg (by omega), if_neg (by omega), if_neg (by omega), if_pos rfl, gw (512 + (6 * p + m)), if_neg (by omega), if_neg (by omega), if_pos rfl, gw (656 + (6 * p + m)), if_neg (by omega), if_pos rfl]
                  exact ⟨⟨q2, hq2, eq2⟩, VT_of x3, VT_of x4⟩
                · have := hV.2.2.2.2.2.2 c (by omega)
                  rw [gw (368 + (6 * p + c)), if_neg (by omega), if_neg (by omega), if_neg (by omega), if_neg (by omega), gw (512 + (6 * p + c)), if_neg (by omega), if_neg (by omega), if_neg (by omega), if_neg (by omega), gw (656 + (6 * p + c)), if_neg (by omega), if_neg (by omega), if_neg (by omega), if_neg (by omega)]
                  exact this
              · exact (((AG_sA (o' := 6) (j := 10) (by decide) (by decide)).trans (AG_sA (o' := 6) (j := 11) (by decide) (by decide))).trans ((AG_sA (o' := 6) (j := 12) (by decide) (by decide)).trans (AG_sA (o' := 6) (j := 9) (by decide) (by decide)))).trans (AG_sF (by decide))
              · intro j; exact gF_sFn (by omega)
              · rw [gr, if_neg (by omega), if_neg (by omega), if_neg (by omega), if_neg (by omega)]
              · rw [gr, if_neg (by omega), if_neg (by omega), if_neg (by omega), if_neg (by omega)]
              · rw [gr, if_pos ⟨rfl, rfl⟩]
              · rw [gr, if_neg (by omega), if_neg (by omega), if_neg (by omega), if_neg (by omega)]
              · show _ = gA dm' 0 _ ∧ _ = gA dm' 0 _ ∧ _ = gA dm' 0 _
                by_cases z : c = m
                · rw [z]
                  rw [gw (368 + (6 * p + m)), if_neg (by omega), if_neg (by omega), if_neg (by omega), if_pos rfl, gw (512 + (6 * p + m)), if_neg (by omega), if_neg (by omega), if_pos rfl, gw (656 + (6 * p + m)), if_neg (by omega), if_pos rfl]
                  refine ⟨?_, ?_, ?_⟩
                  · rw [gr, if_neg (by omega), if_neg (by omega), if_neg (by omega), if_pos ⟨rfl, rfl⟩]
                  · rw [gr, if_neg (by omega), if_neg (by omega), if_pos ⟨rfl, rfl⟩]
                  · rw [gr, if_neg (by omega), if_pos ⟨rfl, rfl⟩]
                · have := hB.2.2.2.2.2 c (by omega)
                  rw [gw (368 + (6 * p + c)), if_neg (by omega), if_neg (by omega), if_neg (by omega), if_neg (by omega), gw (512 + (6 * p + c)), if_neg (by omega), if_neg (by omega), if_neg (by omega), if_neg (by omega), gw (656 + (6 * p + c)), if_neg (by omega), if_neg (by omega), if_neg (by omega), if_neg (by omega)]
                  refine ⟨?_, ?_, ?_⟩
                  · rw [gr, if_neg (by omega), if_neg (by omega), if_neg (by omega), if_neg (by omega)]; exact this.1
                  · rw [gr, if_neg (by omega), if_neg (by omega), if_neg (by omega), if_neg (by omega)]; exact this.2.1
                  · rw [gr, if_neg (by omega), if_neg (by omega), if_neg (by omega), if_neg (by omega)]; exact this.2.2
              · exact (((AG_sA (o' := 6) (j := 10) (by decide) x6).trans (AG_sA (o' := 6) (j := 11) (by decide) x6)).trans ((AG_sA (o' := 6) (j := 12) (by decide) x6).trans (AG_sA (o' := 6) (j := 9) (by decide) x6))).trans (AG_sF x0)
              · show gA (sA (sA (sA (sA d (32 * 6 + 10) (6 * p + m) p2) (32 * 6 + 11) (6 * p + m) p3) (32 * 6 + 12) (6 * p + m) p4) (32 * 6 + 9) p (nI (m + 1))) (32 * 0 + j) i = _
                rw [gA_sAi, if_neg (by omega), gA_sAi, if_neg (by omega), gA_sAi, if_neg (by omega), gA_sAi, if_neg (by omega)]
              · show gA (sA (sA (sA (sA dm 0 (368 + (6 * p + m)) p2) 0 (512 + (6 * p + m)) p3) 0 (656 + (6 * p + m)) p4) 0 (56 + p) (nI (m + 1))) a i = _
                rw [gA_sAi, if_neg (by omega), gA_sAi, if_neg (by omega), gA_sAi, if_neg (by omega), gA_sAi, if_neg (by omega)]
          · have n0 : ¬ nI (bE (wOf dm) p) = 0 := nI_ne0 (by omega) (by omega)
            rw [if_neg n0, if_neg n0]
            exact triv _
        · rw [if_neg x4, if_neg x4, if_pos rfl, if_neg (show ¬ (1 : Int32) = 0 by decide)]
          exact triv _
      · rw [if_neg x3, if_neg x3, if_pos rfl, if_neg (show ¬ (1 : Int32) = 0 by decide)]
        exact triv _
    · rw [if_neg x2, if_neg x2, if_pos rfl, if_neg (show ¬ (1 : Int32) = 0 by decide)]
      exact triv _
  · rw [if_neg x1, if_neg x1, if_pos rfl, if_neg (show ¬ (1 : Int32) = 0 by decide)]
    exact triv _
