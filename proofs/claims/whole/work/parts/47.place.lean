/-! ===== arriving as a state; the situation; now ===== -/
theorem com_ok {w : Nat → Int32} (hv : VB w) {bar : Int32} {p : Nat} (hp : p < bP w) {t : Int32} {h : Nat} (ht : NB t 256) (hh : h ≤ 9) : NB (com w bar p t h).1 256 ∧ (com w bar p t h).2 ≤ 9 := arr_ok (hv.2.2.2 p hp) (bN w p) 0 t h (by omega) ht hh
theorem goOn_eq {L : Nat → Nat} {d : Dt} {b : Nat} {w : Nat → Int32} (hv : VB w) (hb : BK d b w) (hl : LB L b) {p q h f : Nat} {t bar : Int32} (hp : p < 24) (hq : q < bP w) (ht : NB t 256) (h0 : 1 ≤ h) (hh : h ≤ 9) (hf : f < 4) : t_X0_goOn L d b (nI (sc p (ix t) h f)) (nI q) bar = some (nI (arrS w q (com w bar q t h))) := by
  unfold t_X0_goOn
  rw [st_things hp ht hh hf, ob, st_health hp ht hh hf, ob, arrive_eq hv hb hl hq ht h0 hh, ob]
theorem beginning_eq {L : Nat → Nat} {d : Dt} {b : Nat} {w : Nat → Int32} (hv : VB w) (hb : BK d b w) (hl : LB L b) {bar : Int32} (hp : 0 < bP w) : t_X0_beginning L d b bar = some (nI (arrS w 0 (com w bar 0 0 (bH w)))) := by
  have hH := hv.H
  unfold t_X0_beginning
  rw [hb.2.1, hH.1]
  have := arrive_eq hv hb hl hp (bar := bar) (t := 0) ⟨0, by decide, rfl⟩ hH.2.1 hH.2.2
  rw [show t_X0_arrive L d b 0 0 (nI (bH w)) bar = _ from this, ob]
theorem stateOf_t {L : Nat → Nat} {d : Dt} {p h : Nat} {t : Int32} (ht : NB t 256) : t_X6_stateOf L d (nI p) t (nI h) = some (nI (sq p (ix t) h)) := by
  have s2 := stateOf_eq (L := L) (d := d) (p := p) (h := h) (t := ix t)
  rw [← (nb_ix ht (by decide)).1] at s2
  exact s2
theorem stateAt_eq {dm : Dt} (hv : VB (wOf dm)) {p h : Nat} {t : Int32} (hp : p < bP (wOf dm)) (ht : NB t 256) (hh : h ≤ 9) (hb : gF dm 0 15 ≠ nI p) : t_X6_stateAt LM dm (nI p) t (nI h) = some (if (com (wOf dm) (gF dm 0 16) p t h).2 = 0 ∨ bE (wOf dm) p = 2 then -2 else nI (sq p (ix (com (wOf dm) (gF dm 0 16) p t h).1) (com (wOf dm) (gF dm 0 16) p t h).2), nw dm (com (wOf dm) (gF dm 0 16) p t h).1 (com (wOf dm) (gF dm 0 16) p t h).2) := by
  have hP := hv.P
  have hE := (hv.2.2.2 p hp).E
  have ok := com_ok hv (bar := gF dm 0 16) hp ht hh
  unfold t_X6_stateAt
  rw [if_neg (fun q => hb q.symm), come_eq hv hp hh, ob]
  generalize com (wOf dm) (gF dm 0 16) p t h = c at ok
  obtain ⟨t', h'⟩ := c
  show (if (if h' = 0 then (0 : Int32) else 1) = 0 then _ else _) = _
  by_cases z : h' = 0
  · rw [if_pos z, if_pos rfl, if_pos (show (t', h').2 = 0 ∨ bE (wOf dm) p = 2 from .inl z)]
  · rw [if_neg z, if_neg (by decide), LM0, show (8 : Int32) + nI p = nI (8 + p) from nI_add 8 p, gdi (show 8 + p < 4128 by omega) (by omega), nw_A, wg (by omega), hE.1]
    by_cases e2 : bE (wOf dm) p = 2
    · rw [if_pos (show (t', h').2 = 0 ∨ bE (wOf dm) p = 2 from .inr e2), e2]; rfl
    · rw [if_neg (show ¬ nI (bE (wOf dm) p) = 2 from fun q => e2 (nI_inj (b := 2) (by omega) (by decide) q)), if_neg (show ¬ ((t', h').2 = 0 ∨ bE (wOf dm) p = 2) from fun q => q.elim z e2), nw17, nw18, stateOf_t ok.1, ob]
/-- where the reference's reader stands: place p, things t, health h -/
def PL (w : Nat → Int32) (p : Nat) (t : Int32) (h : Nat) : Prop := w 3 = nI p ∧ w 4 = t ∧ w 5 = nI h ∧ p < bP w ∧ NB t 256 ∧ h ≤ 9
def stF (w : Nat → Int32) (p : Nat) (t : Int32) (h : Nat) : Nat := if fat w p h = 0 then stn w p t else fat w p h
theorem fat_lt (w : Nat → Int32) (p h : Nat) : fat w p h < 3 := by
  unfold fat
  split
  · decide
  · split
    · decide
    · split <;> decide
theorem wgl {dm : Dt} (i : Nat) : gA dm (32 * 0 + 0) i = wOf dm i := rfl
theorem stands_eq {dm : Dt} (hv : VB (wOf dm)) {p h : Nat} {t : Int32} (hq : PL (wOf dm) p t h) : t_X6_stands LM dm = some (nI (stF (wOf dm) p t h)) := by
  have hP := hv.P
  obtain ⟨h3, h4, h5, hp, ht, hh⟩ := hq
  have hE := (hv.2.2.2 p hp).E
  have e := nb_ix ht (by decide)
  unfold t_X6_stands stF fat
  rw [LM0, gd_h (show inb 3 4128 = true by decide), bd_q, gd_h (show inb 5 4128 = true by decide), show gA dm (32 * 0 + 0) (ix 3) = wOf dm 3 from rfl, show gA dm (32 * 0 + 0) (ix 5) = wOf dm 5 from rfl, show gA dm (32 * 0 + 0) (ix 4) = wOf dm 4 from rfl, h3, h4, h5]
  by_cases z : h = 0
  · rw [z, if_pos (show nI 0 = 0 from rfl), if_pos rfl]; rfl
  · rw [if_neg (nI_ne0 (by omega) (by omega)), if_neg z, show (8 : Int32) + nI p = nI (8 + p) from nI_add 8 p, gdi (show 8 + p < 4128 by omega) (by omega), wg (by omega), hE.1, gd_h (show inb 4 4128 = true by decide), gd_h (show inb 5 4128 = true by decide)]
    by_cases e2 : bE (wOf dm) p = 2
    · rw [e2]; rfl
    · rw [if_neg (show ¬ nI (bE (wOf dm) p) = 2 from fun q => e2 (nI_inj (b := 2) (by omega) (by decide) q)), if_neg e2]
      rw [stateOf_t ht, ob, standsAt_eq hv hp ht hh e2, ob]
      by_cases e1 : bE (wOf dm) p = 1
      · rw [if_pos e1, if_pos e1]; rfl
      · rw [if_neg e1, if_neg e1, if_pos rfl]
