/-! ===== playing: enter, turn to, on both sides ===== -/
/-- the reference, entered part p with things t and health h -/
def pl (d : Dt) (p : Nat) (t : Int32) (h : Nat) : Dt := sA (sA (sA (nw d t h) 0 4 t) 0 5 (nI h)) 0 3 (nI p)
/-- what entering leaves of the reference -/
def MG (d d' : Dt) : Prop := (∀ j, j ≠ 17 → j ≠ 18 → gF d' 0 j = gF d 0 j) ∧ ∀ a i, (a ≠ 0 ∨ 1376 ≤ i ∨ i < 2 ∨ (8 ≤ i ∧ i < 800)) → gA d' a i = gA d a i
theorem MG.refl (d : Dt) : MG d d := ⟨fun _ _ _ => rfl, fun _ _ _ => rfl⟩
theorem MG.trans {d d' d'' : Dt} (h : MG d d') (h2 : MG d' d'') : MG d d'' := ⟨fun j a b => (h2.1 j a b).trans (h.1 j a b), fun a i q => (h2.2 a i q).trans (h.2 a i q)⟩
theorem MG_sA {d : Dt} {i : Nat} {v : Int32} (h : (2 ≤ i ∧ i < 8) ∨ (800 ≤ i ∧ i < 1376)) : MG d (sA d 0 i v) := ⟨fun _ _ _ => rfl, fun a j q => by rw [gA_sAi, if_neg (fun e => by omega)]⟩
theorem MG_nw (d : Dt) (t : Int32) (h : Nat) : MG d (nw d t h) := ⟨fun j a b => nw_o a b, fun _ _ _ => rfl⟩
theorem MG_pl (d : Dt) (p : Nat) (t : Int32) (h : Nat) : MG d (pl d p t h) := ((MG_nw d t h).trans (MG_sA (by decide))).trans ((MG_sA (by decide)).trans (MG_sA (by decide)))
theorem wOf_sA (d : Dt) (i : Nat) (v : Int32) (j : Nat) : wOf (sA d 0 i v) j = if j = i then v else wOf d j := by
  show gA (sA d 0 i v) 0 j = _
  rw [gA_sAi]
  by_cases h : j = i
  · rw [if_pos ⟨rfl, h⟩, if_pos h]
  · rw [if_neg (fun q => h q.2), if_neg h]; rfl
theorem wOf_pl (d : Dt) (p : Nat) (t : Int32) (h j : Nat) : wOf (pl d p t h) j = if j = 3 then nI p else if j = 5 then nI h else if j = 4 then t else wOf d j := by
  unfold pl
  rw [wOf_sA, wOf_sA, wOf_sA]
  rfl
theorem enter_eq {dm : Dt} (hv : VB (wOf dm)) {q h : Nat} {t : Int32} (hq : q < bP (wOf dm)) (h4 : wOf dm 4 = t) (h5 : wOf dm 5 = nI h) (hh : h ≤ 9) : t_X6_enter LM dm (nI q) = some (pl dm q (com (wOf dm) (gF dm 0 16) q t h).1 (com (wOf dm) (gF dm 0 16) q t h).2) := by
  unfold t_X6_enter
  rw [LM0, gd_h (show inb 4 4128 = true by decide), gd_h (show inb 5 4128 = true by decide), show gA dm (32 * 0 + 0) (ix 4) = wOf dm 4 from rfl, show gA dm (32 * 0 + 0) (ix 5) = wOf dm 5 from rfl, h4, h5, come_eq hv hq hh, ob, gd_h (show inb 4 4128 = true by decide), bd_q, gd_h (show inb 5 4128 = true by decide), bd_q, gd_h (show inb 3 4128 = true by decide), bd_q, gF_sA, nw17, nw18]
  rfl
/-- same book, another place -/
theorem PL_h8 {dm : Dt} {p h : Nat} {t : Int32} : ∀ i, i < 800 → (i < 2 ∨ 8 ≤ i) → wOf (pl dm p t h) i = wOf dm i := by
  intro i _ hi
  rw [wOf_pl, if_neg (by omega), if_neg (by omega), if_neg (by omega)]
theorem turn_eq {L : Nat → Nat} {d dm : Dt} (hs : SI d 2 (wOf dm)) (hl : LS2 L 2) (hb : gF dm 0 16 = -1) {p h q : Nat} {t : Int32} (hp : PL (wOf dm) p t h) (h0 : 1 ≤ h) (hq : q < bP (wOf dm)) (b1 : gF d 2 3 = 1) (s4 : gF d 2 4 = nI (sc p (ix t) h (fat (wOf dm) p h))) (s5 : gF d 2 5 = wOf dm 6) (s7 : ∀ i, i < 576 → gA d (32 * 2 + 7) i = wOf dm (800 + i)) :
    ∃ d' dm', t_X2_turnTo L d 2 (nI q) = some d' ∧ t_X6_goTo LM dm (nI q) = some dm' ∧ SI d' 2 (wOf dm') ∧ gF d' 2 3 = 1 ∧ SIb d' 2 (wOf dm') ∧ (∀ o, o ≠ 2 → AG d d' o) ∧ gF d' 2 6 = gF d 2 6 ∧ MG dm dm' := by
  obtain ⟨hv, hk, g2, g0, gn, _⟩ := hs
  obtain ⟨h3, h4, h5, hpp, ht, hh⟩ := hp
  have hP := hv.P
  have hf := fat_lt (wOf dm) p h
  have e1 : nI p * 24 + nI q = nI (24 * p + q) := by
    show nI p * nI 24 + nI q = _
    rw [nI_mulN, nI_add]; congr 1; omega
  have e2 : ((800 : Int32) + 24 * nI p) + nI q = nI (800 + (24 * p + q)) := by
    show (nI 800 + nI 24 * nI p) + nI q = _
    rw [nI_mulN, nI_add, nI_add, Nat.add_assoc]
  -- the reference
  let m1 := sA dm 0 (800 + (24 * p + q)) (wOf dm (800 + (24 * p + q)) + 1)
  let m2 := sA m1 0 6 (wOf dm 6 + 1)
  have w2 : ∀ i, wOf m2 i = if i = 6 then wOf dm 6 + 1 else if i = 800 + (24 * p + q) then wOf dm (800 + (24 * p + q)) + 1 else wOf dm i := by
    intro i
    show wOf (sA m1 0 6 _) i = _
    rw [wOf_sA]
    show (if i = 6 then _ else wOf (sA dm 0 (800 + (24 * p + q)) _) i) = _
    rw [wOf_sA]
  have h8 : ∀ i, i < 800 → (i < 2 ∨ 8 ≤ i) → wOf m2 i = wOf dm i := by
    intro i hi h8
    rw [w2, if_neg (by omega), if_neg (by omega)]
  have hv2 : VB (wOf m2) := VB_congr h8 hv
  have hP2 : bP (wOf m2) = bP (wOf dm) := bP_congr h8
  have b2 : gF m2 0 16 = -1 := hb
  have en := enter_eq hv2 (q := q) (h := h) (t := t) (by rw [hP2]; exact hq) (by rw [w2, if_neg (by decide), if_neg (by omega)]; exact h4) (by rw [w2, if_neg (by decide), if_neg (by omega)]; exact h5) hh
  rw [b2] at en
  have ok := com_ok hv2 (bar := -1) (p := q) (by rw [hP2]; exact hq) ht hh
  have goT : t_X6_goTo LM dm (nI q) = some (pl m2 q (com (wOf m2) (-1) q t h).1 (com (wOf m2) (-1) q t h).2) := by
    unfold t_X6_goTo
    rw [LM0, gd_h (show inb 3 4128 = true by decide), show gA dm (32 * 0 + 0) (ix 3) = wOf dm 3 from rfl, h3, e2, gdi (show 800 + (24 * p + q) < 4128 by omega) (by omega), gdi (show 800 + (24 * p + q) < 4128 by omega) (by omega), bd_q, ix_nI (show 800 + (24 * p + q) < 2 ^ 31 by omega), gd_h (show inb 6 4128 = true by decide), gd_h (show inb 6 4128 = true by decide), bd_q]
    have e6 : gA (sA dm (32 * 0 + 0) (800 + (24 * p + q)) (gA dm (32 * 0 + 0) (800 + (24 * p + q)) + 1)) (32 * 0 + 0) (ix 6) = wOf dm 6 := by
      show wOf (sA dm 0 (800 + (24 * p + q)) _) 6 = _
      rw [wOf_sA, if_neg (by omega)]
    rw [e6]
    show (t_X6_enter LM m2 (nI q)).bind _ = _
    rw [en, ob]
  -- the class
  let d1 := sA d (32 * 2 + 7) (24 * p + q) (gA d (32 * 2 + 7) (24 * p + q) + 1)
  let d2 := sF d1 2 5 (gF d 2 5 + 1)
  have a6 : ∀ o, o ≠ 2 → AG d d2 o := fun o ho => (AG_sA (by decide) ho).trans (AG_sF ho)
  have hk2 : BK d2 6 (wOf m2) := BK_congr (a6 6 (by decide)) h8 hv hk
  have goO := goOn_eq hv2 hk2 hl.1 (p := p) (q := q) (h := h) (f := fat (wOf dm) p h) (t := t) (bar := -1) (by omega) (by rw [hP2]; exact hq) ht h0 hh (by omega)
  have tuT : t_X2_turnTo L d 2 (nI q) = some (sF d2 2 4 (nI (arrS (wOf m2) q (com (wOf m2) (-1) q t h)))) := by
    unfold t_X2_turnTo
    rw [s4, st_part (by omega) ht hh (by omega), ob, hasPart_in hv hk hpp, ob, if_neg (by decide), hasPart_in hv hk hq, ob, if_neg (by decide), e1, hl.2.2.1, gdi (show 24 * p + q < 576 by omega) (by omega), gdi (show 24 * p + q < 576 by omega) (by omega), bd_q, ix_nI (by omega), bd_q]
    show (t_X0_goOn L d2 (2 + 4) (gF d2 2 4) (nI q) (-1)).bind _ = _
    rw [show gF d2 2 4 = gF d 2 4 from rfl, s4, goO, ob]
    rfl
  generalize com (wOf m2) (-1) q t h = c at ok goT tuT
  obtain ⟨t', h'⟩ := c
  have h8' : ∀ i, i < 800 → (i < 2 ∨ 8 ≤ i) → wOf (pl m2 q t' h') i = wOf dm i := fun i hi h => (PL_h8 i hi h).trans (h8 i hi h)
  have hP3 : bP (wOf (pl m2 q t' h')) = bP (wOf dm) := bP_congr h8'
  have aA : ∀ o, o ≠ 2 → AG d (sF d2 2 4 (nI (arrS (wOf m2) q (t', h')))) o := fun o ho => (a6 o ho).trans (AG_sF ho)
  have sib : SIb (sF d2 2 4 (nI (arrS (wOf m2) q (t', h')))) 2 (wOf (pl m2 q t' h')) := by
    refine ⟨q, h', t', ⟨?_, ?_, ?_, ?_, ok.1, ok.2⟩, ?_, ?_, ?_⟩
    · rw [wOf_pl]; rfl
    · rw [wOf_pl]; rfl
    · rw [wOf_pl]; rfl
    · rw [hP3]; exact hq
    · rw [gF_sF1]
      show nI (sc q (ix t') h' (fat (wOf m2) q h')) = _
      rw [fat_congr (w := wOf m2) (w' := wOf (pl m2 q t' h')) PL_h8 (by omega)]
    · rw [gF_sFn (by decide), wOf_pl, if_neg (by decide), if_neg (by decide), if_neg (by decide), w2, if_pos rfl, ← s5]
      exact gF_sF1 _ _ _ _
    · intro i hi
      rw [wOf_pl, if_neg (by omega), if_neg (by omega), if_neg (by omega), w2, if_neg (by omega)]
      show gA d1 (32 * 2 + 7) i = _
      by_cases z : i = 24 * p + q
      · rw [if_pos (by omega), z]
        show gA (sA d (32 * 2 + 7) (24 * p + q) _) (32 * 2 + 7) (24 * p + q) = _
        rw [gA_sAi, if_pos ⟨rfl, rfl⟩, s7 _ (by omega)]
      · rw [if_neg (by omega)]
        show gA (sA d (32 * 2 + 7) (24 * p + q) _) (32 * 2 + 7) i = _
        rw [gA_sAi, if_neg (fun e => z e.2)]
        exact s7 i hi
  refine ⟨_, _, tuT, goT, ⟨VB_congr h8' hv, BK_congr (aA 6 (by decide)) h8' hv hk, ?_, ?_, ?_, .inr ⟨b1, sib⟩⟩, b1, sib, aA, rfl, ((MG_sA (by omega)).trans (MG_sA (by decide))).trans (MG_pl _ _ _ _)⟩
  · rw [wOf_pl, if_neg (by decide), if_neg (by decide), if_neg (by decide), w2, if_neg (by decide), if_neg (by omega)]
    exact g2
  · rw [wOf_pl, if_neg (by decide), if_neg (by decide), if_neg (by decide), w2, if_neg (by decide), if_neg (by omega)]
    exact g0
  · intro i hi
    rw [hP3] at hi
    rw [h8' _ (by omega) (by omega)]
    exact gn i hi
