/-! ===== the situation o of the class against a row w; now, number ===== -/
/-- reading has begun: place, things, health, turns and moves are the same -/
def SIb (d : Dt) (o : Nat) (w : Nat → Int32) : Prop := ∃ p h t, PL w p t h ∧ gF d o 4 = nI (sc p (ix t) h (fat w p h)) ∧ gF d o 5 = w 6 ∧ ∀ i, i < 576 → gA d (32 * o + 7) i = w (800 + i)
def SI (d : Dt) (o : Nat) (w : Nat → Int32) : Prop := VB w ∧ BK d (o + 4) w ∧ gF d o 2 = w 2 ∧ 0 ≤ w 2 ∧ (∀ p, p < bP w → gA d (32 * o + 1) p = w (152 + p)) ∧ ((gF d o 3 = 0 ∧ w 3 = -1) ∨ (gF d o 3 = 1 ∧ SIb d o w))
def LS2 (L : Nat → Nat) (o : Nat) : Prop := LB L (o + 4) ∧ L (32 * o + 1) = 24 ∧ L (32 * o + 7) = 576 ∧ L (32 * o + 8) = 24
theorem call_number {L : Nat → Nat} {d dm : Dt} (h : SI d 2 (wOf dm)) (hl : LS2 L 2) (x : Int32) : SAME (t_X5_number L d x) (t_X6_number LM dm x) := by
  obtain ⟨hv, hb, _, _, hn, _⟩ := h
  have hP := hv.P
  unfold t_X5_number t_X6_number
  rw [hasPart_eq hv hb, noPart_eq hv]
  by_cases hx : inb x (bP (wOf dm)) = true
  · obtain ⟨p, hp, rfl⟩ := inb_ex hx (by omega)
    rw [if_pos hx, if_pos hx, ob, ob, if_neg (by decide), if_pos rfl, hl.2.1, gdi (show p < 24 by omega) (by omega), LM0, show (152 : Int32) + nI p = nI (152 + p) from nI_add 152 p, gdi (show 152 + p < 4128 by omega) (by omega), wg (by omega), ix_nI (by omega), hn p hp]
    exact ⟨_, rfl, rfl⟩
  · rw [if_neg hx, if_neg hx]
    exact ⟨_, rfl, rfl⟩
theorem standing2_eq {L : Nat → Nat} {d : Dt} {o : Nat} {w : Nat → Int32} (hv : VB w) (hb : BK d (o + 4) w) (hl : LB L (o + 4)) {p h : Nat} {t : Int32} (hq : PL w p t h) (hs : gF d o 4 = nI (sc p (ix t) h (fat w p h))) : t_X2_standing L d o = some (nI (stF w p t h)) := by
  unfold t_X2_standing stF
  rw [hs, standing_eq hv hb hl hq.2.2.2.1 hq.2.2.2.2.1 hq.2.2.2.2.2 (by have := fat_lt w p h; omega), ob]
/-- the open choices now, as bits -/
def opN (w : Nat → Int32) (p : Nat) (t : Int32) (h : Nat) : Int32 := if fat w p h = 0 then msk w p t (bC w p) 0 0 else 0
theorem openNow_eq {dm : Dt} (hv : VB (wOf dm)) {p h : Nat} {t : Int32} (hq : PL (wOf dm) p t h) : t_X6_openNow LM dm = some (opN (wOf dm) p t h) := by
  have hP := hv.P
  have hst := stands_eq hv hq
  obtain ⟨h3, h4, h5, hp, ht, hh⟩ := hq
  have hV := hv.2.2.2 p hp
  have hC := hV.C
  have e3 : gA dm (32 * 0 + 0) (ix 3) = nI p := h3
  have e4 : gA dm (32 * 0 + 0) (ix 4) = t := h4
  by_cases s0 : stF (wOf dm) p t h = 0
  · have main : ∀ (n c F : Nat) (m : Int32), c + n = bC (wOf dm) p → n < F → lp (fun k x => t_X6_openNow_4 LM dm (fun x1 x2 => k (x1, x2)) x.1 x.2) F (m, nI c) = some (msk (wOf dm) p t n c m) := by
      intro n
      induction n with
      | zero =>
        intro c F m hc hF
        obtain ⟨F, rfl⟩ : ∃ G, F = G + 1 := ⟨F - 1, by omega⟩
        show t_X6_openNow_4 LM dm (fun x1 x2 => lp _ F (x1, x2)) m (nI c) = _
        rw [t_X6_openNow_4, LM0, gd_h (show inb 3 4128 = true by decide), e3, show (56 : Int32) + nI p = nI (56 + p) from nI_add 56 p, gdi (show 56 + p < 4128 by omega) (by omega), wg (by omega), hC.1, if_pos (nI_le (by omega) (by omega))]
        rfl
      | succ n ih =>
        intro c F m hc hF
        obtain ⟨F, rfl⟩ : ∃ G, F = G + 1 := ⟨F - 1, by omega⟩
        show t_X6_openNow_4 LM dm (fun x1 x2 => lp _ F (x1, x2)) m (nI c) = _
        rw [t_X6_openNow_4, LM0, gd_h (show inb 3 4128 = true by decide), e3, show (56 : Int32) + nI p = nI (56 + p) from nI_add 56 p, gdi (show 56 + p < 4128 by omega) (by omega), wg (by omega), hC.1, if_neg (nI_ge (by omega) (by omega)), hst, ob, if_pos (show nI (stF (wOf dm) p t h) = 0 by rw [s0]; rfl), gd_h (show inb 3 4128 = true by decide), gd_h (show inb 4 4128 = true by decide), e4, isOpenChoice_eq hv hp (by omega), ob]
        unfold msk
        by_cases o : opn (wOf dm) p t c = true
        · rw [if_pos o, if_pos o, t_X6_one, if_neg (by decide), ob, bd_q, nI_1]
          exact ih _ _ _ (by omega) (by omega)
        · rw [if_neg o, if_neg o, t_X6_one, if_pos rfl, ob, bd_q, nI_1]
          have z : ∀ c, c < 7 → (0 : Int32) <<< (nI c &&& 31) = 0 := by decide +kernel
          rw [or_z _ _ (z c (by omega))]
          exact ih _ _ _ (by omega) (by omega)
    have r := main (bC (wOf dm) p) 0 FU 0 (by omega) (by unfold FU; omega)
    have f0 : fat (wOf dm) p h = 0 := by
      unfold stF at s0
      by_cases q : fat (wOf dm) p h = 0
      · exact q
      · rw [if_neg q] at s0; exact absurd s0 q
    unfold opN
    rw [if_pos f0]
    exact r
  · have r : opN (wOf dm) p t h = 0 := by
      unfold opN
      by_cases f0 : fat (wOf dm) p h = 0
      · rw [if_pos f0]
        unfold stF at s0
        rw [if_pos f0] at s0
        unfold stn at s0
        by_cases e : bE (wOf dm) p = 3
        · rw [if_pos e] at s0; exact absurd rfl s0
        · rw [if_neg e] at s0
          by_cases m : msk (wOf dm) p t (bC (wOf dm) p) 0 0 = 0
          · exact m
          · rw [if_neg m] at s0; exact absurd rfl s0
      · rw [if_neg f0]
    have slt : stF (wOf dm) p t h < 4 := by
      have := fat_lt (wOf dm) p h
      unfold stF stn
      split
      · split
        · decide
        · split <;> decide
      · omega
    rw [r]
    show t_X6_openNow_4 LM dm (fun x1 x2 => lp _ 999999 (x1, x2)) 0 (nI 0) = _
    rw [t_X6_openNow_4, LM0, gd_h (show inb 3 4128 = true by decide), e3, show (56 : Int32) + nI p = nI (56 + p) from nI_add 56 p, gdi (show 56 + p < 4128 by omega) (by omega), wg (by omega), hst, ob, if_neg (show ¬ nI (stF (wOf dm) p t h) = 0 from nI_ne0 (by omega) (by omega)), ite_self]
theorem in_k {L : Nat → Nat} {d : Dt} (x : Int32) (b : Int64) (k : Nat) (hb : b.toInt = (k : Int)) : t_X6_in L d x.toInt64 0 b = some (if inb x (k + 1) = true then 1 else 0) := by
  rw [in_I, Int32.toInt_toInt64, hb, show (0 : Int64).toInt = 0 from rfl]
  congr 1
  by_cases h : inb x (k + 1) = true
  · rw [if_pos h, if_pos]
    simp only [inb, Bool.and_eq_true, decide_eq_true_eq] at h
    omega
  · rw [if_neg h, if_neg]
    intro q
    apply h
    simp only [inb, Bool.and_eq_true, decide_eq_true_eq]
    omega
theorem inb_neg {x : Int32} {n : Nat} (hn : n < 2 ^ 31) (h : x < 0) : ¬ inb x n = true := by
  intro q
  obtain ⟨i, hi, rfl⟩ := inb_ex q hn
  exact nI_pos (by omega) h
theorem inb_ge {x : Int32} {n : Nat} (hn : n < 2 ^ 31) (h : nI n ≤ x) : ¬ inb x n = true := by
  intro q
  obtain ⟨i, hi, rfl⟩ := inb_ex q hn
  exact nI_ge hi hn h
theorem call_now {L : Nat → Nat} {d dm : Dt} (h : SI d 2 (wOf dm)) (hl : LS2 L 2) (x : Int32) : SAME (t_X5_now L d x) (t_X6_now LM dm x) := by
  obtain ⟨hv, hb, _, _, _, hs⟩ := h
  have hP := hv.P
  unfold t_X5_now t_X6_now
  rw [in_k x 5 5 rfl, ob, LM0, gd_h (show inb 3 4128 = true by decide), gd_h (show inb 4 4128 = true by decide), gd_h (show inb 5 4128 = true by decide), gd_h (show inb 6 4128 = true by decide), show gA dm (32 * 0 + 0) (ix 3) = wOf dm 3 from rfl, show gA dm (32 * 0 + 0) (ix 4) = wOf dm 4 from rfl, show gA dm (32 * 0 + 0) (ix 5) = wOf dm 5 from rfl, show gA dm (32 * 0 + 0) (ix 6) = wOf dm 6 from rfl, gd_h (show inb 3 4128 = true by decide)]
  rcases pk_ix x (n := 6) (by decide) with q | q | ⟨j, hj, rfl⟩
  · rw [if_pos q, if_neg (inb_neg (n := 6) (by decide) q), if_pos rfl]
    exact ⟨_, rfl, rfl⟩
  · have h2 := Int32.le_iff_toInt_le.mp q
    rw [nI_toInt (by decide)] at h2
    have n1 : ¬ x ≤ 5 := fun e => by
      have h1 := Int32.le_iff_toInt_le.mp e
      have : (5 : Int32).toInt = 5 := rfl
      omega
    rw [if_neg n1, ite_self, if_neg (inb_ge (n := 6) (by decide) q), if_pos rfl]
    exact ⟨_, rfl, rfl⟩
  · rw [if_neg (nI_pos (by omega)), if_pos (show nI j ≤ 5 from nI_le (b := 5) (by omega) (by decide)), if_pos (show inb (nI j) (5 + 1) = true from in_nI hj (by omega)), if_neg (show ¬ (1 : Int32) = 0 by decide)]
    rcases hs with ⟨b0, w3⟩ | ⟨b1, p, h, t, hq, s4, s5, _⟩
    · rw [b0, w3, if_pos rfl, if_neg (show ¬ (0 : Int32) ≤ -1 by decide)]
      exact ⟨_, rfl, rfl⟩
    · have hq' := hq
      obtain ⟨h3, h4, h5, hp, ht, hh⟩ := hq'
      have hf := fat_lt (wOf dm) p h
      have oc : t_X0_openChoices L d 6 (gF d 2 4) = some (opN (wOf dm) p t h) := by
        rw [s4]
        unfold opN
        by_cases f0 : fat (wOf dm) p h = 0
        · rw [if_pos f0, f0]
          exact openChoices_eq hv hb hl.1 hp ht hh
        · rw [if_neg f0]
          exact openChoices_over hv hb hl.1 hp ht hh (by omega) f0
      rw [b1, if_neg (show ¬ (1 : Int32) = 0 by decide), h3, if_pos (nI_pos' (by omega)), oc, openNow_eq hv hq, stands_eq hv hq, standing2_eq hv hb hl.1 hq s4, s4, s5, st_part (by omega) ht hh (by omega), st_things (by omega) ht hh (by omega), st_health (by omega) ht hh (by omega), h4, h5]
      have hj' : j = 0 ∨ j = 1 ∨ j = 2 ∨ j = 3 ∨ j = 4 ∨ j = 5 := by omega
      rcases hj' with rfl | rfl | rfl | rfl | rfl | rfl <;> exact ⟨_, rfl, rfl⟩
