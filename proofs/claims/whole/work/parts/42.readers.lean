/-! ===== readers: the class's book 6 against the reference's row w ===== -/
theorem ob {α β : Type} (a : α) (f : α → Option β) : (some a).bind f = f a := rfl
theorem in_I {L : Nat → Nat} {d : Dt} (x a b : Int64) : t_X6_in L d x a b = some (if a.toInt ≤ x.toInt ∧ x.toInt ≤ b.toInt then 1 else 0) := by
  unfold t_X6_in
  by_cases h1 : x < a
  · rw [if_pos ((lg_cmp_lt x a).mpr h1), if_neg (fun q => by have := Int64.lt_iff_toInt_lt.mp h1; omega)]
  · rw [if_neg (fun q => h1 ((lg_cmp_lt x a).mp q))]
    have g1 : a.toInt ≤ x.toInt := by
      have : ¬ x.toInt < a.toInt := fun q => h1 (Int64.lt_iff_toInt_lt.mpr q)
      omega
    by_cases h2 : b < x
    · rw [if_pos ((lg_cmp_gt x b).mpr h2), if_neg (fun q => by have := Int64.lt_iff_toInt_lt.mp h2; omega)]
    · rw [if_neg (fun q => h2 ((lg_cmp_gt x b).mp q))]
      have g2 : x.toInt ≤ b.toInt := by
        have : ¬ b.toInt < x.toInt := fun q => h2 (Int64.lt_iff_toInt_lt.mpr q)
        omega
      rw [if_pos ⟨g1, g2⟩]
theorem in_lt {L : Nat → Nat} {d : Dt} (x : Int32) {n : Nat} (hn : n < 2 ^ 30) : t_X6_in L d x.toInt64 0 ((nI n - 1 : Int32).toInt64) = some (if inb x n = true then 1 else 0) := by
  have e1 : (nI n - 1 : Int32).toInt = (n : Int) - 1 := by
    rw [Int32.toInt_sub, nI_toInt (by omega), show (1 : Int32).toInt = 1 from rfl, Int.bmod_eq_of_le (by omega) (by omega)]
  rw [in_I, Int32.toInt_toInt64, Int32.toInt_toInt64, e1, show (0 : Int64).toInt = 0 from rfl]
  congr 1
  by_cases h : inb x n = true
  · rw [if_pos h, if_pos]
    simp only [inb, Bool.and_eq_true, decide_eq_true_eq] at h
    omega
  · rw [if_neg h, if_neg]
    intro q
    apply h
    simp only [inb, Bool.and_eq_true, decide_eq_true_eq]
    omega
/-- what the readers need: w is valid, the class's book 6 says the same -/
def RB (L : Nat → Nat) (d dm : Dt) : Prop := VB (wOf dm) ∧ BK d 6 (wOf dm) ∧ LB L 6
theorem wg {dm : Dt} {i : Nat} (h : i < 2 ^ 31) : gA dm (32 * 0 + 0) (ix (nI i)) = wOf dm i := by rw [ix_nI h]; rfl
theorem noPart_eq {dm : Dt} (hv : VB (wOf dm)) (x : Int32) : t_X6_noPart LM dm x = some (if inb x (bP (wOf dm)) = true then 0 else 1) := by
  have hP := hv.P
  unfold t_X6_noPart
  rw [LM0, gd_h (show inb 0 4128 = true by decide), show gA dm (32 * 0 + 0) (ix 0) = wOf dm 0 from rfl, hP.1]
  rw [in_lt x (by omega)]
  by_cases h : inb x (bP (wOf dm)) = true
  · rw [if_pos h, if_pos h]; rfl
  · rw [if_neg h, if_neg h]; rfl
theorem hasPart_eq {L : Nat → Nat} {d : Dt} {b : Nat} {w : Nat → Int32} (hv : VB w) (hb : BK d b w) (x : Int32) : t_X0_hasPart L d b x = some (if inb x (bP w) = true then 1 else 0) := by
  by_cases h : inb x (bP w) = true
  · rw [if_pos h]
    obtain ⟨i, hi, rfl⟩ := inb_ex h (by have := hv.P.2; omega)
    exact hasPart_in hv hb hi
  · rw [if_neg h]
    exact hasPart_out hv hb (by simpa using h)
theorem hasEffect_eq {L : Nat → Nat} {d : Dt} {b : Nat} {w : Nat → Int32} (hv : VB w) (hb : BK d b w) (hl : LB L b) {p : Nat} (hp : p < bP w) (x : Int32) : t_X0_hasEffect L d b (nI p) x = some (if inb x (bN w p) = true then 1 else 0) := by
  have hP := hv.P
  have hV := hv.2.2.2 p hp
  unfold t_X0_hasEffect
  rw [hasPart_in hv hb hp]
  rw [ob, if_neg (by decide), hl.2.2.2.2.1, gdi (show p < 24 by omega) (by omega), ix_nI (by omega), (hb.2.2 p hp).2.1, hV.N.1]
  rcases pk_ix x (n := bN w p) (by have := hV.N.2; omega) with h | h | ⟨j, hj, rfl⟩
  · rw [if_pos h, if_neg]
    intro q
    obtain ⟨i, hi, rfl⟩ := inb_ex q (by have := hV.N.2; omega)
    exact nI_pos (by have := hV.N.2; omega) h
  · have hn : ¬ inb x (bN w p) = true := by
      intro q
      obtain ⟨i, hi, rfl⟩ := inb_ex q (by have := hV.N.2; omega)
      exact nI_ge hi (by have := hV.N.2; omega) h
    rw [if_neg hn]
    by_cases h0 : x < 0
    · rw [if_pos h0]
    · rw [if_neg h0, if_pos h]
  · have := hV.N.2
    rw [if_pos (in_nI hj (by omega)), if_neg (nI_pos (by omega)), if_neg (nI_ge hj (by omega))]
    exact if_neg (show ¬ nI 4 ≤ nI j from nI_ge (by omega) (by decide))
theorem hasChoice_eq {L : Nat → Nat} {d : Dt} {b : Nat} {w : Nat → Int32} (hv : VB w) (hb : BK d b w) (hl : LB L b) {p : Nat} (hp : p < bP w) (x : Int32) : t_X0_hasChoice L d b (nI p) x = some (if inb x (bC w p) = true then 1 else 0) := by
  have hP := hv.P
  have hV := hv.2.2.2 p hp
  unfold t_X0_hasChoice
  rw [hasPart_in hv hb hp]
  rw [ob, if_neg (by decide), hl.2.2.2.2.2.2.2.1, gdi (show p < 24 by omega) (by omega), ix_nI (by omega), (hb.2.2 p hp).2.2.1, hV.C.1]
  rcases pk_ix x (n := bC w p) (by have := hV.C.2; omega) with h | h | ⟨j, hj, rfl⟩
  · rw [if_pos h, if_neg]
    intro q
    obtain ⟨i, hi, rfl⟩ := inb_ex q (by have := hV.C.2; omega)
    exact nI_pos (by have := hV.C.2; omega) h
  · have hn : ¬ inb x (bC w p) = true := by
      intro q
      obtain ⟨i, hi, rfl⟩ := inb_ex q (by have := hV.C.2; omega)
      exact nI_ge hi (by have := hV.C.2; omega) h
    rw [if_neg hn]
    by_cases h0 : x < 0
    · rw [if_pos h0]
    · rw [if_neg h0, if_pos h]
  · have := hV.C.2
    rw [if_pos (in_nI hj (by omega)), if_neg (nI_pos (by omega)), if_neg (nI_ge hj (by omega))]
    exact if_neg (show ¬ nI 6 ≤ nI j from nI_ge (by omega) (by decide))
theorem hasEffect_no {L : Nat → Nat} {d : Dt} {b : Nat} {w : Nat → Int32} (hv : VB w) (hb : BK d b w) {x : Int32} (hp : ¬ inb x (bP w) = true) (y : Int32) : t_X0_hasEffect L d b x y = some 0 := by
  unfold t_X0_hasEffect
  rw [hasPart_eq hv hb, if_neg hp]; rfl
theorem hasChoice_no {L : Nat → Nat} {d : Dt} {b : Nat} {w : Nat → Int32} (hv : VB w) (hb : BK d b w) {x : Int32} (hp : ¬ inb x (bP w) = true) (y : Int32) : t_X0_hasChoice L d b x y = some 0 := by
  unfold t_X0_hasChoice
  rw [hasPart_eq hv hb, if_neg hp]; rfl
theorem isRoll_eq {L : Nat → Nat} {d : Dt} {b : Nat} {w : Nat → Int32} (hv : VB w) (hb : BK d b w) (hl : LB L b) {p : Nat} (hp : p < bP w) : t_X0_isRoll L d b (nI p) = some (if bE w p = 3 then 1 else 0) := by
  have hP := hv.P
  have hE := (hv.2.2.2 p hp).E
  unfold t_X0_isRoll
  rw [hasPart_in hv hb hp]
  rw [ob, if_neg (by decide), hl.1, gdi (show p < 24 by omega) (by omega), ix_nI (by omega), (hb.2.2 p hp).1, hE.1]
  by_cases e : bE w p = 3
  · rw [if_pos e, e]; rfl
  · rw [if_neg e]
    exact if_neg (fun q => e (nI_inj (b := 3) (by omega) (by decide) q))
