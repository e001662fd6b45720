/-! ===== a state of play: part p, things t, health h, fate f ===== -/
theorem st_part {L : Nat → Nat} {d : Dt} {p h f : Nat} {t : Int32} (hp : p < 24) (ht : NB t 256) (hh : h ≤ 9) (hf : f < 4) : t_X3_partOf L d (nI (sc p (ix t) h f)) = some (nI p) := by
  have e := nb_ix ht (by decide)
  have := sc_part (p := p) e.2 (show h < 16 by omega) hf
  rw [partOf_eq (by unfold sc; omega), this]
theorem st_over {L : Nat → Nat} {d : Dt} {p h f : Nat} {t : Int32} (hp : p < 24) (ht : NB t 256) (hh : h ≤ 9) (hf : f < 4) : t_X3_isOver L d (nI (sc p (ix t) h f)) = some (if f = 0 then 0 else 1) := by
  have e := nb_ix ht (by decide)
  rw [isOver_eq (by unfold sc; omega), sc_fate hf]
theorem st_things {L : Nat → Nat} {d : Dt} {p h f : Nat} {t : Int32} (hp : p < 24) (ht : NB t 256) (hh : h ≤ 9) (hf : f < 4) : t_X3_thingsOf L d (nI (sc p (ix t) h f)) = some t := by
  have e := nb_ix ht (by decide)
  rw [thingsOf_eq (by unfold sc; omega), sc_things e.2 (by omega) hf, ← e.1]
theorem st_health {L : Nat → Nat} {d : Dt} {p h f : Nat} {t : Int32} (hp : p < 24) (ht : NB t 256) (hh : h ≤ 9) (hf : f < 4) : t_X3_healthOf L d (nI (sc p (ix t) h f)) = some (nI h) := by
  have e := nb_ix ht (by decide)
  rw [healthOf_eq (by unfold sc; omega), sc_health (by omega) hf]
theorem st_fate {L : Nat → Nat} {d : Dt} {p h f : Nat} {t : Int32} (hp : p < 24) (ht : NB t 256) (hh : h ≤ 9) (hf : f < 4) : t_X3_fateOf L d (nI (sc p (ix t) h f)) = some (nI f) := by
  have e := nb_ix ht (by decide)
  rw [fateOf_eq (by unfold sc; omega), sc_fate hf]
/-- is thing v of t had? is choice c open? -/
def hs (t v : Int32) : Bool := decide (((t >>> (v &&& 31)) &&& 1) = 1)
def opn (w : Nat → Int32) (p : Nat) (t : Int32) (c : Nat) : Bool := (decide (w (512 + (6 * p + c)) = -1) || hs t (w (512 + (6 * p + c)))) && (decide (w (656 + (6 * p + c)) = -1) || !hs t (w (656 + (6 * p + c))))
theorem and1 (x : Int32) : x &&& 1 = 0 ∨ x &&& 1 = 1 := by
  obtain ⟨j, hj, e⟩ := pk_andE x (m := 1) 1 (by decide)
  rw [e]
  have : j = 0 ∨ j = 1 := by omega
  rcases this with rfl | rfl
  · exact .inl rfl
  · exact .inr rfl
theorem hs_1 {t v : Int32} : (((t >>> (v &&& 31)) &&& 1) = 1) ↔ hs t v = true := by unfold hs; rw [decide_eq_true_eq]
theorem hs_0 {t v : Int32} : (((t >>> (v &&& 31)) &&& 1) = 0) ↔ hs t v = false := by
  unfold hs
  rw [decide_eq_false_iff_not]
  constructor
  · intro h q; rw [h] at q; exact absurd q (by decide)
  · intro h
    rcases and1 (t >>> (v &&& 31)) with e | e
    · exact e
    · exact absurd e h
theorem has_eq {L : Nat → Nat} {d : Dt} (t v : Int32) : t_X6_has L d t v = some (if hs t v = true then 1 else 0) := by
  unfold t_X6_has
  by_cases h : hs t v = true
  · rw [if_pos (hs_1.mpr h), if_pos h]
  · rw [if_neg (fun q => h (hs_1.mp q)), if_neg h]
theorem VT.neg {x : Int32} (h : VT x) : x < 0 ↔ x = -1 := by
  rcases h with rfl | ⟨i, hi, rfl⟩
  · exact ⟨fun _ => rfl, fun _ => by decide⟩
  · constructor
    · intro q; exact absurd q (nI_pos (by omega))
    · intro q
      have h1 : ¬ nI i < 0 := nI_pos (by omega)
      rw [q] at h1
      exact absurd (by decide) h1
theorem isOpen_eq {L : Nat → Nat} {d : Dt} {b : Nat} {w : Nat → Int32} (hv : VB w) (hb : BK d b w) (hl : LB L b) {p h c : Nat} {t : Int32} (hp : p < bP w) (ht : NB t 256) (hh : h ≤ 9) (hc : c < bC w p) : t_X0_isOpen L d b (nI (sc p (ix t) h 0)) (nI c) = some (if opn w p t c = true then 1 else 0) := by
  have hP := hv.P
  have hV := hv.2.2.2 p hp
  have hC := hV.C
  have hB := (hb.2.2 p hp).2.2.2.2.2 c hc
  have e1 : nI p * 6 + nI c = nI (6 * p + c) := by
    show nI p * nI 6 + nI c = _
    rw [nI_mulN, nI_add]; congr 1; omega
  unfold t_X0_isOpen
  rw [st_part (by omega) ht hh (by decide), ob, st_over (by omega) ht hh (by decide), ob, if_pos rfl, if_pos rfl, hasChoice_eq hv hb hl hp, ob, if_pos (in_nI hc (by omega)), if_neg (by decide), st_things (by omega) ht hh (by decide), ob, e1, hl.2.2.2.2.2.2.2.2.2.1, gdi (by omega) (by omega), bd_q, hl.2.2.2.2.2.2.2.2.2.2, gdi (by omega) (by omega), bd_q, ix_nI (by omega), hB.2.1, hB.2.2]
  unfold t_X0_isOpen_72 opn
  by_cases a1 : w (512 + (6 * p + c)) = -1
  · rw [if_pos a1]
    by_cases a2 : w (656 + (6 * p + c)) = -1
    · rw [if_pos a2, decide_eq_true a1, decide_eq_true a2]; rfl
    · rw [if_neg a2, decide_eq_true a1, decide_eq_false a2]
      by_cases a3 : hs t (w (656 + (6 * p + c))) = true
      · rw [if_neg (fun q => by rw [hs_0.mp q] at a3; cases a3), a3]; rfl
      · have a3' : hs t (w (656 + (6 * p + c))) = false := by simpa using a3
        rw [if_pos (hs_0.mpr a3'), a3']; rfl
  · rw [if_neg a1, decide_eq_false a1]
    by_cases a4 : hs t (w (512 + (6 * p + c))) = true
    · rw [if_pos (hs_1.mpr a4), a4]
      by_cases a2 : w (656 + (6 * p + c)) = -1
      · rw [if_pos a2, decide_eq_true a2]; rfl
      · rw [if_neg a2, decide_eq_false a2]
        by_cases a3 : hs t (w (656 + (6 * p + c))) = true
        · rw [if_neg (fun q => by rw [hs_0.mp q] at a3; cases a3), a3]; rfl
        · have a3' : hs t (w (656 + (6 * p + c))) = false := by simpa using a3
          rw [if_pos (hs_0.mpr a3'), a3']; rfl
    · rw [if_neg (fun q => a4 (hs_1.mp q))]
      have a4' : hs t (w (512 + (6 * p + c))) = false := by simpa using a4
      rw [a4']; rfl
theorem isOpen_no {L : Nat → Nat} {d : Dt} {b : Nat} {w : Nat → Int32} (hv : VB w) (hb : BK d b w) (hl : LB L b) {p h f : Nat} {t x : Int32} (hp : p < bP w) (ht : NB t 256) (hh : h ≤ 9) (hf : f < 4) (hc : f ≠ 0 ∨ ¬ inb x (bC w p) = true) : t_X0_isOpen L d b (nI (sc p (ix t) h f)) x = some 0 := by
  have hP := hv.P
  unfold t_X0_isOpen
  rw [st_part (by omega) ht hh hf, ob, st_over (by omega) ht hh hf, ob]
  by_cases f0 : f = 0
  · have hq : ¬ inb x (bC w p) = true := by
      rcases hc with q | q
      · exact absurd f0 q
      · exact q
    rw [if_pos f0, if_pos rfl, hasChoice_eq hv hb hl hp, ob, if_neg hq, if_pos rfl]
  · rw [if_neg f0, if_neg (by decide)]
theorem isOpenChoice_eq {dm : Dt} (hv : VB (wOf dm)) {p c : Nat} {t : Int32} (hp : p < bP (wOf dm)) (hc : c < bC (wOf dm) p) : t_X6_isOpenChoice LM dm (nI p) (nI c) t = some (if opn (wOf dm) p t c = true then 1 else 0) := by
  have hP := hv.P
  have hV := hv.2.2.2 p hp
  have hC := hV.C
  have hq := hV.2.2.2.2.2.2 c hc
  have e1 : ((512 : Int32) + 6 * nI p) + nI c = nI (512 + (6 * p + c)) := by
    show (nI 512 + nI 6 * nI p) + nI c = _
    rw [nI_mulN, nI_add, nI_add, Nat.add_assoc]
  have e2 : ((656 : Int32) + 6 * nI p) + nI c = nI (656 + (6 * p + c)) := by
    show (nI 656 + nI 6 * nI p) + nI c = _
    rw [nI_mulN, nI_add, nI_add, Nat.add_assoc]
  unfold t_X6_isOpenChoice
  rw [LM0, e1, e2, gdi (show 512 + (6 * p + c) < 4128 by omega) (by omega), bd_q, gdi (show 656 + (6 * p + c) < 4128 by omega) (by omega), bd_q, wg (by omega), wg (by omega)]
  unfold t_X6_isOpenChoice_48 opn
  rw [has_eq, has_eq, ob, ob]
  by_cases a1 : wOf dm (512 + (6 * p + c)) = -1
  · rw [if_pos (hq.2.1.neg.mpr a1)]
    by_cases a2 : wOf dm (656 + (6 * p + c)) = -1
    · rw [if_pos (hq.2.2.neg.mpr a2), decide_eq_true a1, decide_eq_true a2]; rfl
    · rw [if_neg (fun q => a2 (hq.2.2.neg.mp q)), decide_eq_true a1, decide_eq_false a2]
      cases hs t (wOf dm (656 + (6 * p + c))) <;> rfl
  · rw [if_neg (fun q => a1 (hq.2.1.neg.mp q)), decide_eq_false a1]
    by_cases a2 : wOf dm (656 + (6 * p + c)) = -1
    · rw [if_pos (hq.2.2.neg.mpr a2), decide_eq_true a2]
      cases hs t (wOf dm (512 + (6 * p + c))) <;> rfl
    · rw [if_neg (fun q => a2 (hq.2.2.neg.mp q)), decide_eq_false a2]
      cases hs t (wOf dm (512 + (6 * p + c))) <;> cases hs t (wOf dm (656 + (6 * p + c))) <;> rfl
/-! ===== the open choices as bits ===== -/
def msk (w : Nat → Int32) (p : Nat) (t : Int32) : Nat → Nat → Int32 → Int32
  | 0, _, m => m
  | n + 1, c, m => msk w p t n (c + 1) (if opn w p t c = true then m ||| ((1 : Int32) <<< (nI c &&& 31)) else m)
theorem openChoices_lp {L : Nat → Nat} {d : Dt} {b : Nat} {w : Nat → Int32} (hv : VB w) (hb : BK d b w) (hl : LB L b) {p h : Nat} {t : Int32} (hp : p < bP w) (ht : NB t 256) (hh : h ≤ 9) : ∀ (n c F : Nat) (m : Int32), c + n = bC w p → n < F → lp (fun k x => t_X0_openChoices_10 L d b (nI (sc p (ix t) h 0)) (fun x2 x3 x4 => k (x2, x3, x4)) x.1 x.2.1 x.2.2) F (m, nI p, nI c) = some (msk w p t n c m) := by
  have hP := hv.P
  have hC := (hv.2.2.2 p hp).C
  intro n
  induction n with
  | zero =>
    intro c F m hc hF
    obtain ⟨F, rfl⟩ : ∃ G, F = G + 1 := ⟨F - 1, by omega⟩
    show t_X0_openChoices_10 L d b (nI (sc p (ix t) h 0)) (fun x2 x3 x4 => lp _ F (x2, x3, x4)) m (nI p) (nI c) = _
    have hn : ¬ inb (nI c) (bC w p) = true := by
      intro q
      obtain ⟨i, hi, e⟩ := inb_ex q (by omega)
      have := nI_inj (by omega) (by omega) e
      omega
    rw [t_X0_openChoices_10, hasChoice_eq hv hb hl hp, ob, if_neg hn, if_pos rfl]
    rfl
  | succ n ih =>
    intro c F m hc hF
    obtain ⟨F, rfl⟩ : ∃ G, F = G + 1 := ⟨F - 1, by omega⟩
    show t_X0_openChoices_10 L d b (nI (sc p (ix t) h 0)) (fun x2 x3 x4 => lp _ F (x2, x3, x4)) m (nI p) (nI c) = _
    rw [t_X0_openChoices_10, hasChoice_eq hv hb hl hp, ob, if_pos (in_nI (by omega) (by omega)), if_neg (by decide), if_neg (show ¬ (6 : Int32) ≤ nI c from nI_ge (b := 6) (by omega) (by decide)), isOpen_eq hv hb hl hp ht hh (by omega), ob]
    unfold msk
    by_cases o : opn w p t c = true
    · rw [if_pos o, if_neg (by decide), bd_q, if_pos o, t_X0_openChoices_44, nI_1]
      exact ih _ _ _ (by omega) (by omega)
    · rw [if_neg o, if_pos rfl, if_neg o, t_X0_openChoices_44, nI_1]
      exact ih _ _ _ (by omega) (by omega)
theorem openChoices_eq {L : Nat → Nat} {d : Dt} {b : Nat} {w : Nat → Int32} (hv : VB w) (hb : BK d b w) (hl : LB L b) {p h : Nat} {t : Int32} (hp : p < bP w) (ht : NB t 256) (hh : h ≤ 9) : t_X0_openChoices L d b (nI (sc p (ix t) h 0)) = some (msk w p t (bC w p) 0 0) := by
  have hP := hv.P
  unfold t_X0_openChoices
  rw [st_part (by omega) ht hh (by decide), ob]
  exact openChoices_lp hv hb hl hp ht hh (bC w p) 0 FU 0 (by omega) (by have := (hv.2.2.2 p hp).C.2; unfold FU; omega)
theorem openChoices_over {L : Nat → Nat} {d : Dt} {b : Nat} {w : Nat → Int32} (hv : VB w) (hb : BK d b w) (hl : LB L b) {p h f : Nat} {t : Int32} (hp : p < bP w) (ht : NB t 256) (hh : h ≤ 9) (hf : f < 4) (f0 : f ≠ 0) : t_X0_openChoices L d b (nI (sc p (ix t) h f)) = some 0 := by
  have hP := hv.P
  have hC := (hv.2.2.2 p hp).C
  unfold t_X0_openChoices
  rw [st_part (by omega) ht hh hf, ob]
  have main : ∀ (n c F : Nat), c + n = bC w p → n < F → lp (fun k x => t_X0_openChoices_10 L d b (nI (sc p (ix t) h f)) (fun x2 x3 x4 => k (x2, x3, x4)) x.1 x.2.1 x.2.2) F (0, nI p, nI c) = some 0 := by
    intro n
    induction n with
    | zero =>
      intro c F hc hF
      obtain ⟨F, rfl⟩ : ∃ G, F = G + 1 := ⟨F - 1, by omega⟩
      show t_X0_openChoices_10 L d b (nI (sc p (ix t) h f)) (fun x2 x3 x4 => lp _ F (x2, x3, x4)) 0 (nI p) (nI c) = _
      have hn : ¬ inb (nI c) (bC w p) = true := by
        intro q
        obtain ⟨i, hi, e⟩ := inb_ex q (by omega)
        have := nI_inj (by omega) (by omega) e
        omega
      rw [t_X0_openChoices_10, hasChoice_eq hv hb hl hp, ob, if_neg hn, if_pos rfl]
    | succ n ih =>
      intro c F hc hF
      obtain ⟨F, rfl⟩ : ∃ G, F = G + 1 := ⟨F - 1, by omega⟩
      show t_X0_openChoices_10 L d b (nI (sc p (ix t) h f)) (fun x2 x3 x4 => lp _ F (x2, x3, x4)) 0 (nI p) (nI c) = _
      rw [t_X0_openChoices_10, hasChoice_eq hv hb hl hp, ob, if_pos (in_nI (by omega) (by omega)), if_neg (by decide), if_neg (show ¬ (6 : Int32) ≤ nI c from nI_ge (b := 6) (by omega) (by decide)), isOpen_no hv hb hl hp ht hh hf (.inl f0), ob, if_pos rfl, t_X0_openChoices_44, nI_1]
      exact ih _ _ (by omega) (by omega)
  exact main (bC w p) 0 FU (by omega) (by unfold FU; omega)
