/-! ===== where a state stands, on both sides ===== -/
/-- the reference's number of a state -/
def sq (p t h : Nat) : Nat := (p * 256 + t) * 10 + h
theorem sq_lt {p t h : Nat} (hp : p < 24) (ht : t < 256) (hh : h ≤ 9) : sq p t h < 61440 := by unfold sq; omega
theorem sq_part {L : Nat → Nat} {d : Dt} {p h t : Nat} (hp : p < 24) (ht : t < 256) (hh : h ≤ 9) : t_X6_partOf L d (nI (sq p t h)) = some (nI p) := by
  have := sq_lt hp ht hh
  unfold t_X6_partOf
  rw [show (2560 : Int32) = nI 2560 from rfl, pk_div (by omega) (by decide) (by decide)]
  unfold sq
  congr 2
  omega
theorem sq_things {L : Nat → Nat} {d : Dt} {p h t : Nat} (hp : p < 24) (ht : t < 256) (hh : h ≤ 9) : t_X6_thingsOf L d (nI (sq p t h)) = some (nI t) := by
  have := sq_lt hp ht hh
  unfold t_X6_thingsOf
  rw [show (10 : Int32) = nI 10 from rfl, show (256 : Int32) = nI 256 from rfl, pk_div (by omega) (by decide) (by decide), pk_div (by omega) (by decide) (by decide), nI_mulN, nI_subN (by omega)]
  unfold sq
  congr 2
  omega
theorem sq_health {L : Nat → Nat} {d : Dt} {p h t : Nat} (hp : p < 24) (ht : t < 256) (hh : h ≤ 9) : t_X6_healthOf L d (nI (sq p t h)) = some (nI h) := by
  have := sq_lt hp ht hh
  unfold t_X6_healthOf
  rw [show (10 : Int32) = nI 10 from rfl, pk_div (by omega) (by decide) (by decide), nI_mulN, nI_subN (by omega)]
  unfold sq
  congr 2
  omega
theorem stateOf_eq {L : Nat → Nat} {d : Dt} {p h t : Nat} : t_X6_stateOf L d (nI p) (nI t) (nI h) = some (nI (sq p t h)) := by
  unfold t_X6_stateOf
  rw [show (10 : Int32) = nI 10 from rfl, show (256 : Int32) = nI 256 from rfl, nI_mulN, nI_add, nI_mulN, nI_add]
  rfl
/-- ways out of part p: how many -/
def wys (w : Nat → Int32) (p : Nat) : Nat := if bE w p = 3 then 2 else if bE w p = 0 then bC w p else 0
theorem waysOf_eq {dm : Dt} (hv : VB (wOf dm)) {p h t : Nat} (hp : p < bP (wOf dm)) (ht : t < 256) (hh : h ≤ 9) : t_X6_waysOf LM dm (nI (sq p t h)) = some (nI (wys (wOf dm) p)) := by
  have hP := hv.P
  have hV := hv.2.2.2 p hp
  have hE := hV.E
  unfold t_X6_waysOf wys
  rw [sq_part (by omega) ht hh, ob, LM0, show (8 : Int32) + nI p = nI (8 + p) from nI_add 8 p, show (56 : Int32) + nI p = nI (56 + p) from nI_add 56 p, gdi (show 8 + p < 4128 by omega) (by omega), gdi (show 8 + p < 4128 by omega) (by omega), gdi (show 56 + p < 4128 by omega) (by omega), wg (by omega), wg (by omega), hE.1, hV.C.1]
  by_cases e : bE (wOf dm) p = 3
  · rw [if_pos e, e]; rfl
  · rw [if_neg e, if_neg (show ¬ nI (bE (wOf dm) p) = 3 from fun q => e (nI_inj (b := 3) (by omega) (by decide) q))]
    by_cases e0 : bE (wOf dm) p = 0
    · rw [if_pos e0, if_pos (show nI (bE (wOf dm) p) = 0 by rw [e0]; rfl)]
    · rw [if_neg e0, if_neg (nI_ne0 (by omega) (by omega))]; rfl
theorem isWay_eq {dm : Dt} (hv : VB (wOf dm)) {p h c : Nat} {t : Int32} (hp : p < bP (wOf dm)) (ht : NB t 256) (hh : h ≤ 9) (hc : c < wys (wOf dm) p) : t_X6_isWay LM dm (nI (sq p (ix t) h)) (nI c) = some (if bE (wOf dm) p = 3 ∨ opn (wOf dm) p t c = true then 1 else 0) := by
  have hP := hv.P
  have hV := hv.2.2.2 p hp
  have hE := hV.E
  have et := nb_ix ht (by decide)
  unfold t_X6_isWay
  rw [sq_part (by omega) et.2 hh, ob, LM0, show (8 : Int32) + nI p = nI (8 + p) from nI_add 8 p, gdi (show 8 + p < 4128 by omega) (by omega), wg (by omega), hE.1]
  by_cases e : bE (wOf dm) p = 3
  · rw [if_pos (show bE (wOf dm) p = 3 ∨ opn (wOf dm) p t c = true from .inl e), e]; rfl
  · rw [if_neg (show ¬ nI (bE (wOf dm) p) = 3 from fun q => e (nI_inj (b := 3) (by omega) (by decide) q)), sq_things (by omega) et.2 hh, ob, ← et.1]
    have hc' : c < bC (wOf dm) p := by
      unfold wys at hc
      rw [if_neg e] at hc
      split at hc <;> omega
    rw [isOpenChoice_eq hv hp hc', ob]
    by_cases o : opn (wOf dm) p t c = true
    · rw [if_pos o, if_pos (show bE (wOf dm) p = 3 ∨ opn (wOf dm) p t c = true from .inr o)]; rfl
    · rw [if_neg o, if_neg (show ¬ (bE (wOf dm) p = 3 ∨ opn (wOf dm) p t c = true) from fun q => q.elim e o)]; rfl
theorem or_z (m x : Int32) (h : x = 0) : m ||| x = m := by
  rw [h]
  exact Int32.or_zero
theorem openWays_lp {dm : Dt} (hv : VB (wOf dm)) {p h : Nat} {t : Int32} (hp : p < bP (wOf dm)) (ht : NB t 256) (hh : h ≤ 9) (e3 : bE (wOf dm) p ≠ 3) : ∀ (n c F : Nat) (m : Int32), c + n = wys (wOf dm) p → n < F → lp (fun k x => t_X6_openWays_4 LM dm (nI (sq p (ix t) h)) (fun x2 x3 => k (x2, x3)) x.1 x.2) F (m, nI c) = some (msk (wOf dm) p t n c m) := by
  have hP := hv.P
  have hV := hv.2.2.2 p hp
  have hC := hV.C
  have et := nb_ix ht (by decide)
  have hw : wys (wOf dm) p < 7 := by
    unfold wys
    rw [if_neg e3]
    split <;> omega
  intro n
  induction n with
  | zero =>
    intro c F m hc hF
    obtain ⟨F, rfl⟩ : ∃ G, F = G + 1 := ⟨F - 1, by omega⟩
    show t_X6_openWays_4 LM dm (nI (sq p (ix t) h)) (fun x2 x3 => lp _ F (x2, x3)) m (nI c) = _
    rw [t_X6_openWays_4, waysOf_eq hv hp et.2 hh, ob, if_pos (nI_le (by omega) (by omega))]
    rfl
  | succ n ih =>
    intro c F m hc hF
    obtain ⟨F, rfl⟩ : ∃ G, F = G + 1 := ⟨F - 1, by omega⟩
    show t_X6_openWays_4 LM dm (nI (sq p (ix t) h)) (fun x2 x3 => lp _ F (x2, x3)) m (nI c) = _
    rw [t_X6_openWays_4, waysOf_eq hv hp et.2 hh, ob, if_neg (nI_ge (by omega) (by omega)), isWay_eq hv hp ht hh (by omega), ob]
    unfold msk
    by_cases o : opn (wOf dm) p t c = true
    · rw [if_pos (show bE (wOf dm) p = 3 ∨ opn (wOf dm) p t c = true from .inr o), if_pos o, t_X6_one, if_neg (by decide), ob, bd_q, nI_1]
      exact ih _ _ _ (by omega) (by omega)
    · rw [if_neg (show ¬ (bE (wOf dm) p = 3 ∨ opn (wOf dm) p t c = true) from fun q => q.elim e3 o), if_neg o, t_X6_one, if_pos rfl, ob, bd_q, nI_1]
      have z : ∀ c, c < 7 → (0 : Int32) <<< (nI c &&& 31) = 0 := by decide +kernel
      rw [or_z _ _ (z c (by omega))]
      exact ih _ _ _ (by omega) (by omega)
