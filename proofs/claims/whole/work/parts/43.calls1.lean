/-! ===== calls that only read: part, effect, choice ===== -/
def lns (w : Nat → Int32) (p : Nat) : Int32 := ((2 + w (32 + p)) + (2 * w (56 + p))) + (if bE w p = 3 then 2 else 0)
theorem lines_eq {L : Nat → Nat} {d : Dt} {b : Nat} {w : Nat → Int32} (hv : VB w) (hb : BK d b w) (hl : LB L b) {p : Nat} (hp : p < bP w) : t_X0_lines L d b (nI p) = some (lns w p) := by
  have hP := hv.P
  have hE := (hv.2.2.2 p hp).E
  have hB := hb.2.2 p hp
  unfold t_X0_lines lns
  rw [hasPart_in hv hb hp, ob, if_neg (by decide), hl.2.2.2.2.1, gdi (show p < 24 by omega) (by omega), hl.2.2.2.2.2.2.2.1, gdi (show p < 24 by omega) (by omega), hl.1, gdi (show p < 24 by omega) (by omega), ix_nI (by omega), hB.1, hB.2.1, hB.2.2.1, hE.1]
  by_cases e : bE w p = 3
  · rw [if_pos e, e]; rfl
  · rw [if_neg e]
    exact if_neg (fun q => e (nI_inj (b := 3) (by omega) (by decide) q))
theorem linesOf_eq {dm : Dt} (hv : VB (wOf dm)) {p : Nat} (hp : p < bP (wOf dm)) : t_X6_linesOf LM dm (nI p) = some (lns (wOf dm) p) := by
  have hP := hv.P
  have hE := (hv.2.2.2 p hp).E
  unfold t_X6_linesOf lns
  rw [LM0, show (32 : Int32) + nI p = nI (32 + p) from nI_add 32 p, show (56 : Int32) + nI p = nI (56 + p) from nI_add 56 p, show (8 : Int32) + nI p = nI (8 + p) from nI_add 8 p, gdi (show 32 + p < 4128 by omega) (by omega), gdi (show 56 + p < 4128 by omega) (by omega), gdi (show 8 + p < 4128 by omega) (by omega), wg (by omega), wg (by omega), wg (by omega), hE.1]
  by_cases e : bE (wOf dm) p = 3
  · rw [if_pos e, e]; rfl
  · rw [if_neg e]
    exact if_neg (fun q => e (nI_inj (b := 3) (by omega) (by decide) q))
/-- both answer the same -/
def SAME (x y : Option Int32) : Prop := ∃ r, x = some r ∧ y = some r
theorem call_part {L : Nat → Nat} {d dm : Dt} (h : RB L d dm) (x y : Int32) : SAME (t_X5_part L d x y) (t_X6_part LM dm x y) := by
  obtain ⟨hv, hb, hl⟩ := h
  have hP := hv.P
  unfold t_X5_part t_X6_part
  rw [hasPart_eq hv hb, noPart_eq hv]
  by_cases hx : inb x (bP (wOf dm)) = true
  · rw [if_pos hx, if_pos hx, ob, ob, if_neg (by decide), if_pos rfl]
    obtain ⟨p, hp, rfl⟩ := inb_ex hx (by omega)
    have hV := hv.2.2.2 p hp
    have hE := hV.E
    have hB := hb.2.2 p hp
    have hR := hV.2.2.2.2.1
    rw [LM0, hl.1, show (8 : Int32) + nI p = nI (8 + p) from nI_add 8 p, gdi (show 8 + p < 4128 by omega) (by omega), gdi (show p < 24 by omega) (by omega), wg (by omega), ix_nI (show p < 2 ^ 31 by omega), hB.1, hE.1]
    have main : ∀ s : Int32, (s = 0 ∨ (s = 1 ∧ bE (wOf dm) p = 3)) → SAME (if y < 0 then some (-1000002) else if y ≤ 6 then t_X5_part_47 L d (nI p) y s else some (-1000002)) (t_X6_part_29 LM dm (nI p) y s) := by
      intro s hs
      unfold t_X5_part_47 t_X6_part_29
      rw [LM0, hl.1, hl.2.1, hl.2.2.1, hl.2.2.2.1, hl.2.2.2.2.1, hl.2.2.2.2.2.2.2.1, lines_eq hv hb hl hp, linesOf_eq hv hp, show (8 : Int32) + nI p = nI (8 + p) from nI_add 8 p, show (32 : Int32) + nI p = nI (32 + p) from nI_add 32 p, show (56 : Int32) + nI p = nI (56 + p) from nI_add 56 p, show (80 : Int32) + nI p = nI (80 + p) from nI_add 80 p, show (104 : Int32) + nI p = nI (104 + p) from nI_add 104 p, show (128 : Int32) + nI p = nI (128 + p) from nI_add 128 p,
        gdi (show p < 24 by omega) (by omega), gdi (show p < 24 by omega) (by omega), gdi (show p < 24 by omega) (by omega), gdi (show p < 24 by omega) (by omega), gdi (show p < 24 by omega) (by omega), gdi (show p < 24 by omega) (by omega),
        gdi (show 8 + p < 4128 by omega) (by omega), gdi (show 32 + p < 4128 by omega) (by omega), gdi (show 56 + p < 4128 by omega) (by omega), gdi (show 80 + p < 4128 by omega) (by omega), gdi (show 104 + p < 4128 by omega) (by omega), gdi (show 128 + p < 4128 by omega) (by omega), wg (by omega), wg (by omega), wg (by omega), wg (by omega), wg (by omega), wg (by omega), ix_nI (show p < 2 ^ 31 by omega), hB.1, hB.2.1, hB.2.2.1]
      rcases pk_ix y (n := 7) (by decide) with q | q | ⟨j, hj, rfl⟩
      · rw [if_pos q]
        have n0 : ∀ m : Nat, m < 7 → ¬ y = nI m := fun m hm e => nI_pos (by omega) (e ▸ q)
        rw [if_neg (show ¬ y = 0 from n0 0 (by decide)), if_neg (show ¬ y = 1 from n0 1 (by decide)), if_neg (show ¬ y = 2 from n0 2 (by decide)), if_neg (show ¬ y = 3 from n0 3 (by decide)), if_neg (show ¬ y = 4 from n0 4 (by decide)), if_neg (show ¬ y = 5 from n0 5 (by decide)), if_neg (show ¬ y = 6 from n0 6 (by decide))]
        exact ⟨_, rfl, rfl⟩
      · have n0 : ∀ m : Nat, m < 7 → ¬ y = nI m := fun m hm e => nI_ge hm (by decide) (e ▸ q)
        have n1 : ¬ y ≤ 6 := fun e => by
          have h1 := Int32.le_iff_toInt_le.mp e
          have h2 := Int32.le_iff_toInt_le.mp q
          rw [nI_toInt (by decide)] at h2
          have : (6 : Int32).toInt = 6 := rfl
          omega
        rw [if_neg n1, ite_self, if_neg (show ¬ y = 0 from n0 0 (by decide)), if_neg (show ¬ y = 1 from n0 1 (by decide)), if_neg (show ¬ y = 2 from n0 2 (by decide)), if_neg (show ¬ y = 3 from n0 3 (by decide)), if_neg (show ¬ y = 4 from n0 4 (by decide)), if_neg (show ¬ y = 5 from n0 5 (by decide)), if_neg (show ¬ y = 6 from n0 6 (by decide))]
        exact ⟨_, rfl, rfl⟩
      · rw [if_neg (nI_pos (by omega)), if_pos (show nI j ≤ 6 from nI_le (b := 6) (by omega) (by decide))]
        have hj' : j = 0 ∨ j = 1 ∨ j = 2 ∨ j = 3 ∨ j = 4 ∨ j = 5 ∨ j = 6 := by omega
        rcases hs with rfl | ⟨rfl, hs⟩
        · rcases hj' with rfl | rfl | rfl | rfl | rfl | rfl | rfl <;> exact ⟨_, rfl, rfl⟩
        · have hr := hB.2.2.2.1 hs
          rw [hr.1, hr.2.1, hr.2.2]
          rcases hj' with rfl | rfl | rfl | rfl | rfl | rfl | rfl <;> exact ⟨_, rfl, rfl⟩
    by_cases e : bE (wOf dm) p = 3
    · rw [e, if_pos (show nI 3 = 3 from rfl), if_pos (show nI 3 = 3 from rfl)]
      exact main 1 (.inr ⟨rfl, e⟩)
    · rw [if_neg (show ¬ nI (bE (wOf dm) p) = 3 from fun q => e (nI_inj (b := 3) (by omega) (by decide) q)), if_neg (show ¬ nI (bE (wOf dm) p) = 3 from fun q => e (nI_inj (b := 3) (by omega) (by decide) q))]
      exact main 0 (.inl rfl)
  · rw [if_neg hx, if_neg hx]
    exact ⟨_, rfl, rfl⟩
theorem call_effect {L : Nat → Nat} {d dm : Dt} (h : RB L d dm) (x z y : Int32) : SAME (t_X5_effect L d x z y) (t_X6_effect LM dm x z y) := by
  obtain ⟨hv, hb, hl⟩ := h
  have hP := hv.P
  unfold t_X5_effect t_X6_effect
  rw [noPart_eq hv]
  by_cases hx : inb x (bP (wOf dm)) = true
  · rw [if_pos hx, ob, if_pos rfl]
    obtain ⟨p, hp, rfl⟩ := inb_ex hx (by omega)
    have hV := hv.2.2.2 p hp
    have hN := hV.N
    have hB := hb.2.2 p hp
    rw [hasEffect_eq hv hb hl hp, LM0, show (32 : Int32) + nI p = nI (32 + p) from nI_add 32 p, gdi (show 32 + p < 4128 by omega) (by omega), wg (by omega), hN.1, in_lt z (by omega)]
    by_cases hz : inb z (bN (wOf dm) p) = true
    · rw [if_pos hz, ob, ob, if_neg (show ¬ (1 : Int32) = 0 by decide), if_neg (show ¬ (1 : Int32) = 0 by decide)]
      obtain ⟨c, hc, rfl⟩ := inb_ex hz (by omega)
      have hq := hB.2.2.2.2.1 c hc
      have e1 : nI p * 4 + nI c = nI (4 * p + c) := by
        show nI p * nI 4 + nI c = _
        rw [nI_mulN, nI_add]; congr 1; omega
      have e2 : 4 * nI p + nI c = nI (4 * p + c) := by
        show nI 4 * nI p + nI c = _
        rw [nI_mulN, nI_add]
      rw [bd_q, bd_q, e1, e2, show (176 : Int32) + nI (4 * p + c) = nI (176 + (4 * p + c)) from nI_add 176 _, gdi (show 176 + (4 * p + c) < 4128 by omega) (by omega), wg (by omega), hl.2.2.2.2.2.1, gdi (show 4 * p + c < 96 by omega) (by omega), show (272 : Int32) + nI (4 * p + c) = nI (272 + (4 * p + c)) from nI_add 272 _, gdi (show 272 + (4 * p + c) < 4128 by omega) (by omega), wg (by omega), hl.2.2.2.2.2.2.1, gdi (show 4 * p + c < 96 by omega) (by omega), ix_nI (show 4 * p + c < 2 ^ 31 by omega), hq.1, hq.2]
      rcases pk_ix y (n := 2) (by decide) with q | q | ⟨j, hj, rfl⟩
      · have n0 : ∀ m : Nat, m < 2 → ¬ y = nI m := fun m hm e => nI_pos (by omega) (e ▸ q)
        rw [if_pos q, if_neg (show ¬ y = 0 from n0 0 (by decide)), if_neg (show ¬ y = 1 from n0 1 (by decide))]
        exact ⟨_, rfl, rfl⟩
      · have n0 : ∀ m : Nat, m < 2 → ¬ y = nI m := fun m hm e => nI_ge hm (by decide) (e ▸ q)
        have n1 : ¬ y ≤ 1 := fun e => by
          have h1 := Int32.le_iff_toInt_le.mp e
          have h2 := Int32.le_iff_toInt_le.mp q
          rw [nI_toInt (by decide)] at h2
          have : (1 : Int32).toInt = 1 := rfl
          omega
        rw [if_neg n1, ite_self, if_neg (show ¬ y = 0 from n0 0 (by decide)), if_neg (show ¬ y = 1 from n0 1 (by decide))]
        exact ⟨_, rfl, rfl⟩
      · rw [if_neg (nI_pos (by omega)), if_pos (show nI j ≤ 1 from nI_le (b := 1) (by omega) (by decide))]
        have hj' : j = 0 ∨ j = 1 := by omega
        rcases hj' with rfl | rfl <;> exact ⟨_, rfl, rfl⟩
    · rw [if_neg hz]
      exact ⟨_, rfl, rfl⟩
  · rw [if_neg hx, hasEffect_no hv hb hx]
    exact ⟨_, rfl, rfl⟩
theorem call_choice {L : Nat → Nat} {d dm : Dt} (h : RB L d dm) (x z y : Int32) : SAME (t_X5_choice L d x z y) (t_X6_choice LM dm x z y) := by
  obtain ⟨hv, hb, hl⟩ := h
  have hP := hv.P
  unfold t_X5_choice t_X6_choice
  rw [noPart_eq hv]
  by_cases hx : inb x (bP (wOf dm)) = true
  · rw [if_pos hx, ob, if_pos rfl]
    obtain ⟨p, hp, rfl⟩ := inb_ex hx (by omega)
    have hV := hv.2.2.2 p hp
    have hN := hV.C
    have hB := hb.2.2 p hp
    rw [hasChoice_eq hv hb hl hp, LM0, show (56 : Int32) + nI p = nI (56 + p) from nI_add 56 p, gdi (show 56 + p < 4128 by omega) (by omega), wg (by omega), hN.1, in_lt z (by omega)]
    by_cases hz : inb z (bC (wOf dm) p) = true
    · rw [if_pos hz, ob, ob, if_neg (show ¬ (1 : Int32) = 0 by decide), if_neg (show ¬ (1 : Int32) = 0 by decide)]
      obtain ⟨c, hc, rfl⟩ := inb_ex hz (by omega)
      have hq := hB.2.2.2.2.2 c hc
      have e1 : nI p * 6 + nI c = nI (6 * p + c) := by
        show nI p * nI 6 + nI c = _
        rw [nI_mulN, nI_add]; congr 1; omega
      have e2 : 6 * nI p + nI c = nI (6 * p + c) := by
        show nI 6 * nI p + nI c = _
        rw [nI_mulN, nI_add]
      rw [bd_q, bd_q, e1, e2, show (368 : Int32) + nI (6 * p + c) = nI (368 + (6 * p + c)) from nI_add 368 _, gdi (show 368 + (6 * p + c) < 4128 by omega) (by omega), wg (by omega), hl.2.2.2.2.2.2.2.2.1, gdi (show 6 * p + c < 144 by omega) (by omega), show (512 : Int32) + nI (6 * p + c) = nI (512 + (6 * p + c)) from nI_add 512 _, gdi (show 512 + (6 * p + c) < 4128 by omega) (by omega), wg (by omega), hl.2.2.2.2.2.2.2.2.2.1, gdi (show 6 * p + c < 144 by omega) (by omega), show (656 : Int32) + nI (6 * p + c) = nI (656 + (6 * p + c)) from nI_add 656 _, gdi (show 656 + (6 * p + c) < 4128 by omega) (by omega), wg (by omega), hl.2.2.2.2.2.2.2.2.2.2, gdi (show 6 * p + c < 144 by omega) (by omega), ix_nI (show 6 * p + c < 2 ^ 31 by omega), hq.1, hq.2.1, hq.2.2]
      rcases pk_ix y (n := 3) (by decide) with q | q | ⟨j, hj, rfl⟩
      · have n0 : ∀ m : Nat, m < 3 → ¬ y = nI m := fun m hm e => nI_pos (by omega) (e ▸ q)
        rw [if_pos q, if_neg (show ¬ y = 0 from n0 0 (by decide)), if_neg (show ¬ y = 1 from n0 1 (by decide)), if_neg (show ¬ y = 2 from n0 2 (by decide))]
        exact ⟨_, rfl, rfl⟩
      · have n0 : ∀ m : Nat, m < 3 → ¬ y = nI m := fun m hm e => nI_ge hm (by decide) (e ▸ q)
        have n1 : ¬ y ≤ 2 := fun e => by
          have h1 := Int32.le_iff_toInt_le.mp e
          have h2 := Int32.le_iff_toInt_le.mp q
          rw [nI_toInt (by decide)] at h2
          have : (2 : Int32).toInt = 2 := rfl
          omega
        rw [if_neg n1, ite_self, if_neg (show ¬ y = 0 from n0 0 (by decide)), if_neg (show ¬ y = 1 from n0 1 (by decide)), if_neg (show ¬ y = 2 from n0 2 (by decide))]
        exact ⟨_, rfl, rfl⟩
      · rw [if_neg (nI_pos (by omega)), if_pos (show nI j ≤ 2 from nI_le (b := 2) (by omega) (by decide))]
        have hj' : j = 0 ∨ j = 1 ∨ j = 2 := by omega
        rcases hj' with rfl | rfl | rfl <;> exact ⟨_, rfl, rfl⟩
    · rw [if_neg hz]
      exact ⟨_, rfl, rfl⟩
  · rw [if_neg hx, hasChoice_no hv hb hx]
    exact ⟨_, rfl, rfl⟩
