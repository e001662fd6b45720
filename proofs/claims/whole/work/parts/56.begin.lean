/-! ===== begin ===== -/
theorem begins_lp {d : Dt} : ∀ (n i F : Nat) (e : Dt), i + n = 576 → n < F → ∃ e', lp (fun k x => t_X6_begins_29 LM (fun x1 d => k (x1, d)) x.1 x.2) F (nI i, e) = (t_X6_enter LM e' 0).bind (fun d9 => some d9) ∧ (∀ j, gF e' 0 j = gF e 0 j) ∧ (∀ a k, gA e' a k = if a = 0 ∧ 800 + i ≤ k ∧ k < 1376 then 0 else gA e a k) := by
  intro n
  induction n with
  | zero =>
    intro i F e hi hF
    obtain ⟨F, rfl⟩ : ∃ G, F = G + 1 := ⟨F - 1, by omega⟩
    refine ⟨e, ?_, fun _ => rfl, fun a k => by rw [if_neg (fun q => by omega)]⟩
    show t_X6_begins_29 LM (fun x1 d => lp _ F (x1, d)) (nI i) e = _
    rw [t_X6_begins_29, if_pos (show (576 : Int32) ≤ nI i from nI_le (a := 576) (by omega) (by omega))]
  | succ n ih =>
    intro i F e hi hF
    obtain ⟨F, rfl⟩ : ∃ G, F = G + 1 := ⟨F - 1, by omega⟩
    obtain ⟨e', r1, r2, r3⟩ := ih (i + 1) F (sA e 0 (800 + i) 0) (by omega) (by omega)
    refine ⟨e', ?_, r2, ?_⟩
    · show t_X6_begins_29 LM (fun x1 d => lp _ F (x1, d)) (nI i) e = _
      rw [t_X6_begins_29, if_neg (show ¬ (576 : Int32) ≤ nI i from nI_ge (b := 576) (by omega) (by decide)), LM0, show (800 : Int32) + nI i = nI (800 + i) from nI_add 800 i, gdi (show 800 + i < 4128 by omega) (by omega), bd_q, ix_nI (by omega), nI_1]
      exact r1
    · intro a k
      rw [r3, gA_sAi]
      by_cases z : a = 0 ∧ 800 + (i + 1) ≤ k ∧ k < 1376
      · rw [if_pos z, if_pos ⟨z.1, by omega, z.2.2⟩]
      · rw [if_neg z]
        by_cases y : a = 0 ∧ k = 800 + i
        · rw [if_pos y, if_pos ⟨y.1, by omega, by omega⟩]
        · rw [if_neg y, if_neg (fun q => by
            by_cases u : k = 800 + i
            · exact y ⟨q.1, u⟩
            · exact z ⟨q.1, by omega, q.2.2⟩)]
theorem call_begin {L : Nat → Nat} {d dm : Dt} (hs : SI d 2 (wOf dm)) (hl : LS2 L 2) (hb : gF dm 0 16 = -1) : WR d dm (t_X5_begin L d) (t_X6_begin LM dm) := by
  have hs0 := hs
  obtain ⟨hv, hk, g2, g0, gn, _⟩ := hs
  have hP := hv.P
  have hH := hv.H
  have hk6 : BK d 6 (wOf dm) := hk
  unfold t_X5_begin t_X6_begin
  rw [LM0, gd_h (show inb 0 4128 = true by decide), show gA dm (32 * 0 + 0) (ix 0) = wOf dm 0 from rfl, hk6.1, hP.1]
  by_cases z : bP (wOf dm) = 0
  · rw [z, if_pos (show nI 0 = 0 from rfl), if_pos (show nI 0 = 0 from rfl)]
    exact WR_same hs0 _
  · rw [if_neg (nI_ne0 (by omega) (by omega)), if_neg (nI_ne0 (by omega) (by omega))]
    obtain ⟨e', r1, r2, r3⟩ := begins_lp (d := dm) 576 0 FU (sA (sA (sA dm 0 4 0) 0 5 (wOf dm 1)) 0 6 0) (by omega) (by unfold FU; omega)
    have w1 : ∀ k, wOf e' k = if 800 ≤ k ∧ k < 1376 then 0 else if k = 6 then 0 else if k = 5 then wOf dm 1 else if k = 4 then 0 else wOf dm k := by
      intro k
      show gA e' 0 k = _
      rw [r3]
      by_cases y : 800 ≤ k ∧ k < 1376
      · rw [if_pos ⟨rfl, by omega, y.2⟩, if_pos y]
      · rw [if_neg (fun q => y ⟨by omega, q.2.2⟩), if_neg y]
        show wOf (sA (sA (sA dm 0 4 0) 0 5 (wOf dm 1)) 0 6 0) k = _
        rw [wOf_sA, wOf_sA, wOf_sA]
    have h8 : ∀ i, i < 800 → (i < 2 ∨ 8 ≤ i) → wOf e' i = wOf dm i := by
      intro i hi q
      rw [w1, if_neg (by omega), if_neg (by omega), if_neg (by omega), if_neg (by omega)]
    have hv2 := VB_congr h8 hv
    have hP2 := bP_congr h8
    have b2 : gF e' 0 16 = -1 := (r2 16).trans hb
    have en := enter_eq hv2 (q := 0) (h := bH (wOf dm)) (t := 0) (by omega) (by rw [w1]; rfl) (by rw [w1]; exact hH.1) hH.2.2
    rw [b2] at en
    have ok := com_ok hv2 (bar := -1) (p := 0) (t := 0) (h := bH (wOf dm)) (by omega) ⟨0, by decide, rfl⟩ hH.2.2
    have rb : t_X6_begins LM dm = some (pl e' 0 (com (wOf e') (-1) 0 0 (bH (wOf dm))).1 (com (wOf e') (-1) 0 0 (bH (wOf dm))).2) := by
      unfold t_X6_begins
      rw [LM0, gd_h (show inb 4 4128 = true by decide), bd_q, gd_h (show inb 1 4128 = true by decide), gd_h (show inb 5 4128 = true by decide), bd_q, gd_h (show inb 6 4128 = true by decide), bd_q]
      refine Eq.trans r1 ?_
      rw [show t_X6_enter LM e' 0 = _ from en, ob]
    let d3 := fil (sF (sF d 2 3 1) 2 5 0) (32 * 2 + 7) 576 0
    have a3 : ∀ o, o ≠ 2 → AG d d3 o := fun o ho => ((AG_sF ho).trans (AG_sF ho)).trans (AG_fil (by decide) ho)
    have hk2 : BK d3 6 (wOf e') := BK_congr (a3 6 (by decide)) h8 hv hk6
    have bg := beginning_eq (L := L) hv2 hk2 hl.1 (bar := -1) (by omega)
    have bH2 : bH (wOf e') = bH (wOf dm) := by unfold bH; rw [h8 1 (by decide) (by decide)]
    rw [bH2] at bg
    have cb : t_X2_beginReading L d 2 = some (sF d3 2 4 (nI (arrS (wOf e') 0 (com (wOf e') (-1) 0 0 (bH (wOf dm)))))) := by
      unfold t_X2_beginReading
      rw [bd_q, bd_q, fill_eq 0 (by rw [hl.2.2.1]; decide), ob, hl.2.2.1]
      show (t_X0_beginning L d3 6 (-1)).bind _ = _
      rw [bg, ob]
      rfl
    rw [rb, ob, cb, ob]
    generalize com (wOf e') (-1) 0 0 (bH (wOf dm)) = c at ok
    obtain ⟨t', h'⟩ := c
    have h8' : ∀ i, i < 800 → (i < 2 ∨ 8 ≤ i) → wOf (pl e' 0 t' h') i = wOf dm i := fun i hi h => (PL_h8 i hi h).trans (h8 i hi h)
    have hP3 := bP_congr h8'
    have aA : ∀ o, o ≠ 2 → AG d (sF d3 2 4 (nI (arrS (wOf e') 0 (t', h')))) o := fun o ho => (a3 o ho).trans (AG_sF ho)
    have hpl : PL (wOf (pl e' 0 t' h')) 0 t' h' := ⟨by rw [wOf_pl]; rfl, by rw [wOf_pl]; rfl, by rw [wOf_pl]; rfl, by omega, ok.1, ok.2⟩
    have s4 : gF (sF d3 2 4 (nI (arrS (wOf e') 0 (t', h')))) 2 4 = nI (sc 0 (ix t') h' (fat (wOf (pl e' 0 t' h')) 0 h')) := by
      rw [gF_sF1, fat_congr (w := wOf e') (w' := wOf (pl e' 0 t' h')) PL_h8 (by decide)]
      rfl
    have hv3 := VB_congr h8' hv
    have hk3 := BK_congr (aA 6 (by decide)) h8' hv hk6
    have k2 : wOf (pl e' 0 t' h') 2 = wOf dm 2 := by rw [wOf_pl, if_neg (by decide), if_neg (by decide), if_neg (by decide), w1]; rfl
    rw [show t_X6_stands LM (pl e' 0 (t', h').1 (t', h').2) = _ from stands_eq hv3 hpl, ob, standing2_eq hv3 hk3 hl.1 hpl s4, ob]
    refine ⟨_, _, _, rfl, rfl, ⟨hv3, hk3, ?_, ?_, ?_, .inr ⟨rfl, 0, h', t', hpl, s4, ?_, ?_⟩⟩, aA, ?_⟩
    · exact g2.trans k2.symm
    · exact (congrArg (fun x => (0 : Int32) ≤ x) k2).mpr g0
    · intro i hi
      have hi' : i < bP (wOf dm) := by rw [← hP3]; exact hi
      rw [show wOf (pl e' 0 (t', h').1 (t', h').2) (152 + i) = wOf dm (152 + i) from h8' _ (by omega) (by omega)]
      exact gn i hi'
    · show (0 : Int32) = wOf (pl e' 0 t' h') 6
      rw [wOf_pl, if_neg (by decide), if_neg (by decide), if_neg (by decide), w1]
      rfl
    · intro i hi
      show gA d3 (32 * 2 + 7) i = wOf (pl e' 0 t' h') (800 + i)
      rw [wOf_pl, if_neg (by omega), if_neg (by omega), if_neg (by omega), w1, if_pos ⟨by omega, by omega⟩]
      show gA (fil _ (32 * 2 + 7) 576 0) (32 * 2 + 7) i = 0
      rw [gA_fil, if_pos ⟨rfl, hi⟩]
    · refine MG.trans ⟨fun j _ _ => r2 j, ?_⟩ (MG_pl e' 0 t' h')
      intro a i q
      rw [r3, if_neg (fun y => by omega), gA_sAi, if_neg (fun y => by omega), gA_sAi, if_neg (fun y => by omega), gA_sAi, if_neg (fun y => by omega)]
