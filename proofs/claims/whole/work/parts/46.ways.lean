/-! ===== stands, ways out, on both sides ===== -/
theorem openWays_eq {dm : Dt} (hv : VB (wOf dm)) {p h : Nat} {t : Int32} (hp : p < bP (wOf dm)) (ht : NB t 256) (hh : h ≤ 9) (e3 : bE (wOf dm) p ≠ 3) : t_X6_openWays LM dm (nI (sq p (ix t) h)) = some (msk (wOf dm) p t (wys (wOf dm) p) 0 0) :=
  openWays_lp hv hp ht hh e3 (wys (wOf dm) p) 0 FU 0 (by omega) (by
    have hC := (hv.2.2.2 p hp).C
    unfold wys FU
    rw [if_neg e3]
    split <;> omega)
theorem openWays_roll {dm : Dt} (hv : VB (wOf dm)) {p h : Nat} {t : Int32} (hp : p < bP (wOf dm)) (ht : NB t 256) (hh : h ≤ 9) (e3 : bE (wOf dm) p = 3) : t_X6_openWays LM dm (nI (sq p (ix t) h)) = some 3 := by
  have et := nb_ix ht (by decide)
  have hw : wys (wOf dm) p = 2 := by unfold wys; rw [if_pos e3]
  have st : ∀ (c : Nat) (m : Int32) (K : Int32 → Int32 → Option Int32), c < 2 → t_X6_openWays_4 LM dm (nI (sq p (ix t) h)) K m (nI c) = K (m ||| ((1 : Int32) <<< (nI c &&& 31))) (nI (c + 1)) := by
    intro c m K hc
    rw [t_X6_openWays_4, waysOf_eq hv hp et.2 hh, ob, hw, if_neg (nI_ge hc (by decide)), isWay_eq hv hp ht hh (by omega), ob, if_pos (.inl e3), t_X6_one, if_neg (by decide), ob, bd_q, nI_1]
  unfold t_X6_openWays
  show t_X6_openWays_4 LM dm (nI (sq p (ix t) h)) (fun x2 x3 => lp _ 999999 (x2, x3)) 0 (nI 0) = _
  rw [st 0 _ _ (by decide)]
  show t_X6_openWays_4 LM dm (nI (sq p (ix t) h)) (fun x2 x3 => lp _ 999998 (x2, x3)) _ (nI (0 + 1)) = _
  rw [st (0 + 1) _ _ (by decide)]
  show t_X6_openWays_4 LM dm (nI (sq p (ix t) h)) (fun x2 x3 => lp _ 999997 (x2, x3)) _ (nI (0 + 1 + 1)) = _
  rw [t_X6_openWays_4, waysOf_eq hv hp et.2 hh, ob, hw, if_pos (nI_le (by decide) (by decide))]
  decide
/-- where a state of part p stands that is not over -/
def stn (w : Nat → Int32) (p : Nat) (t : Int32) : Nat := if bE w p = 3 then 0 else if msk w p t (bC w p) 0 0 = 0 then 3 else 0
theorem standing_eq {L : Nat → Nat} {d : Dt} {b : Nat} {w : Nat → Int32} (hv : VB w) (hb : BK d b w) (hl : LB L b) {p h f : Nat} {t : Int32} (hp : p < bP w) (ht : NB t 256) (hh : h ≤ 9) (hf : f < 4) : t_X0_standing L d b (nI (sc p (ix t) h f)) = some (nI (if f = 0 then stn w p t else f)) := by
  have hP := hv.P
  unfold t_X0_standing
  rw [st_over (by omega) ht hh hf, ob]
  by_cases f0 : f = 0
  · subst f0
    rw [if_pos rfl, if_pos rfl, if_pos rfl, st_part (by omega) ht hh hf, ob, isRoll_eq hv hb hl hp, ob, openChoices_eq hv hb hl hp ht hh, ob]
    unfold stn
    by_cases e : bE w p = 3
    · rw [if_pos e, if_pos e, if_neg (by decide)]; rfl
    · rw [if_neg e, if_neg e, if_pos rfl]
      by_cases m : msk w p t (bC w p) 0 0 = 0
      · rw [if_pos m, if_pos m]; rfl
      · rw [if_neg m, if_neg m]; rfl
  · rw [if_neg f0, if_neg (by decide), st_fate (by omega) ht hh hf, if_neg f0]
    rfl
theorem standsAt_eq {dm : Dt} (hv : VB (wOf dm)) {p h : Nat} {t : Int32} (hp : p < bP (wOf dm)) (ht : NB t 256) (hh : h ≤ 9) (e2 : bE (wOf dm) p ≠ 2) : t_X6_standsAt LM dm (nI (sq p (ix t) h)) = some (nI (if bE (wOf dm) p = 1 then 1 else stn (wOf dm) p t)) := by
  have hP := hv.P
  have hV := hv.2.2.2 p hp
  have hE := hV.E
  have et := nb_ix ht (by decide)
  unfold t_X6_standsAt stn
  rw [sq_part (by omega) et.2 hh, ob, LM0, show (8 : Int32) + nI p = nI (8 + p) from nI_add 8 p, gdi (show 8 + p < 4128 by omega) (by omega), wg (by omega), hE.1]
  by_cases e1 : bE (wOf dm) p = 1
  · rw [if_pos e1, e1]; rfl
  · rw [if_neg e1, if_neg (show ¬ nI (bE (wOf dm) p) = 1 from fun q => e1 (nI_inj (b := 1) (by omega) (by decide) q))]
    by_cases e3 : bE (wOf dm) p = 3
    · rw [if_pos e3, openWays_roll hv hp ht hh e3]; rfl
    · have e0 : bE (wOf dm) p = 0 := by omega
      rw [if_neg e3, openWays_eq hv hp ht hh e3, ob, show wys (wOf dm) p = bC (wOf dm) p by unfold wys; rw [if_neg e3, if_pos e0]]
      by_cases m : msk (wOf dm) p t (bC (wOf dm) p) 0 0 = 0
      · rw [if_pos m, if_pos m]; rfl
      · rw [if_neg m, if_neg m]; rfl
/-- where way c out of part p leads -/
def gol (w : Nat → Int32) (p c : Nat) : Int32 := if bE w p = 3 then (if c = 0 then w (104 + p) else w (128 + p)) else w (368 + (6 * p + c))
theorem gol_ok {w : Nat → Int32} (hv : VB w) {p c : Nat} (hp : p < bP w) (hc : c < wys w p) : NB (gol w p c) (bP w) := by
  have hV := hv.2.2.2 p hp
  unfold gol
  unfold wys at hc
  by_cases e : bE w p = 3
  · have := hV.2.2.2.2.1 e
    rw [if_pos e]
    split
    · exact this.2.2.1
    · exact this.2.2.2
  · rw [if_neg e]
    rw [if_neg e] at hc
    exact (hV.2.2.2.2.2.2 c (by split at hc <;> omega)).1
theorem goalOf_eq {dm : Dt} (hv : VB (wOf dm)) {p h c t : Nat} (hp : p < bP (wOf dm)) (ht : t < 256) (hh : h ≤ 9) (hc : c < wys (wOf dm) p) : t_X6_goalOf LM dm (nI (sq p t h)) (nI c) = some (gol (wOf dm) p c) := by
  have hP := hv.P
  have hV := hv.2.2.2 p hp
  have hE := hV.E
  have hC := hV.C
  have hc7 : c < 7 := by
    unfold wys at hc
    split at hc
    · omega
    · split at hc <;> omega
  have e1 : ((368 : Int32) + 6 * nI p) + nI c = nI (368 + (6 * p + c)) := by
    show (nI 368 + nI 6 * nI p) + nI c = _
    rw [nI_mulN, nI_add, nI_add, Nat.add_assoc]
  unfold t_X6_goalOf gol
  rw [sq_part (by omega) ht hh, ob, LM0, e1, show (8 : Int32) + nI p = nI (8 + p) from nI_add 8 p, show (104 : Int32) + nI p = nI (104 + p) from nI_add 104 p, show (128 : Int32) + nI p = nI (128 + p) from nI_add 128 p, gdi (show 8 + p < 4128 by omega) (by omega), gdi (show 104 + p < 4128 by omega) (by omega), gdi (show 128 + p < 4128 by omega) (by omega), gdi (show 368 + (6 * p + c) < 4128 by omega) (by omega), wg (by omega), wg (by omega), wg (by omega), wg (by omega), hE.1]
  by_cases e : bE (wOf dm) p = 3
  · rw [if_pos e, e, if_pos (show nI 3 = 3 from rfl)]
    by_cases c0 : c = 0
    · rw [if_pos c0, c0]; rfl
    · rw [if_neg c0, if_neg (nI_ne0 (by omega) (by omega))]
  · rw [if_neg e, if_neg (show ¬ nI (bE (wOf dm) p) = 3 from fun q => e (nI_inj (b := 3) (by omega) (by decide) q))]
/-- the class: way c out of a state that is not over; none if it is closed -/
theorem wayOut_eq {L : Nat → Nat} {d : Dt} {b : Nat} {w : Nat → Int32} (hv : VB w) (hb : BK d b w) (hl : LB L b) {p h c : Nat} {t : Int32} (hp : p < bP w) (ht : NB t 256) (hh : h ≤ 9) (hc : c < wys w p) : t_X0_wayOut L d b (nI (sc p (ix t) h 0)) (nI c) = some (if bE w p = 3 ∨ opn w p t c = true then gol w p c else -1) := by
  have hP := hv.P
  have hV := hv.2.2.2 p hp
  have hC := hV.C
  have hB := hb.2.2 p hp
  unfold t_X0_wayOut gol
  rw [st_part (by omega) ht hh (by decide), ob]
  by_cases e : bE w p = 3
  · have c0 : bC w p = 0 := hV.2.2.2.1 (by omega)
    have c2 : c < 2 := by unfold wys at hc; rw [if_pos e] at hc; exact hc
    have hr := hB.2.2.2.1 e
    rw [isOpen_no hv hb hl hp ht hh (by decide) (.inr (by rw [c0]; unfold inb; intro q; simp only [Bool.and_eq_true, decide_eq_true_eq] at q; omega)), ob, if_pos rfl, st_over (by omega) ht hh (by decide), ob, if_pos rfl, if_pos rfl, isRoll_eq hv hb hl hp, ob, if_pos e, if_neg (by decide), if_neg (nI_pos (by omega)), if_pos (show nI c ≤ 1 from nI_le (b := 1) (by omega) (by decide)), if_pos (show bE w p = 3 ∨ opn w p t c = true from .inl e), if_pos e, hl.2.2.1, hl.2.2.2.1, gdi (show p < 24 by omega) (by omega), gdi (show p < 24 by omega) (by omega), ix_nI (by omega), hr.2.1, hr.2.2]
    by_cases z : c = 0
    · rw [if_pos z, z]; rfl
    · rw [if_neg z, if_neg (nI_ne0 (by omega) (by omega))]
  · have hc' : c < bC w p := by
      unfold wys at hc
      rw [if_neg e] at hc
      split at hc <;> omega
    have hq := hB.2.2.2.2.2 c hc'
    have e1 : nI p * 6 + nI c = nI (6 * p + c) := by
      show nI p * nI 6 + nI c = _
      rw [nI_mulN, nI_add]; congr 1; omega
    rw [isOpen_eq hv hb hl hp ht hh hc', ob, if_neg e]
    by_cases o : opn w p t c = true
    · rw [if_pos o, if_neg (by decide), if_pos (show bE w p = 3 ∨ opn w p t c = true from .inr o), e1, hl.2.2.2.2.2.2.2.2.1, gdi (by omega) (by omega), ix_nI (by omega), hq.1]
    · rw [if_neg o, if_pos rfl, if_neg (show ¬ (bE w p = 3 ∨ opn w p t c = true) from fun q => q.elim e o), st_over (by omega) ht hh (by decide), ob, if_pos rfl, if_pos rfl, isRoll_eq hv hb hl hp, ob, if_neg e, if_pos rfl]
