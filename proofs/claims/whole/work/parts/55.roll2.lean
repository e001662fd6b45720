theorem roll_go {L : Nat → Nat} {d dm : Dt} (hs : SI d 2 (wOf dm)) (hl : LS2 L 2) (hb : gF dm 0 16 = -1) (x : Int32) : WR d dm (t_X5_roll_19 L x d) (t_X6_roll_20 LM x dm) := by
  have hs0 := hs
  obtain ⟨hv, hk, g2, g0, _, hq⟩ := hs
  have hP := hv.P
  have hl1 : LB L 6 := hl.1
  have hk6 : BK d 6 (wOf dm) := hk
  unfold t_X5_roll_19 t_X6_roll_20
  rw [LM0, gd_h (show inb 3 4128 = true by decide), gd_h (show inb 3 4128 = true by decide), show gA dm (32 * 0 + 0) (ix 3) = wOf dm 3 from rfl]
  rcases hq with ⟨b0, w3⟩ | ⟨b1, p, h, t, hpl, s4, s5, s7⟩
  · rw [b0, w3, if_pos rfl, if_pos (show (-1 : Int32) < 0 by decide)]
    exact WR_same hs0 _
  · have hpl' := hpl
    obtain ⟨h3, h4, h5, hp, ht, hh⟩ := hpl'
    have hV := hv.2.2.2 p hp
    have hE := hV.E
    have hf := fat_lt (wOf dm) p h
    have slt := stF_lt (wOf dm) p t h
    rw [b1, if_neg (show ¬ (1 : Int32) = 0 by decide), h3, if_neg (nI_pos (by omega)), show (8 : Int32) + nI p = nI (8 + p) from nI_add 8 p, gdi (show 8 + p < 4128 by omega) (by omega), wg (by omega), hE.1, stands_eq hv hpl, ob, s4, st_over (by omega) ht hh (by omega), ob, st_part (by omega) ht hh (by omega), ob, isRoll_eq hv hk6 hl1 hp, ob]
    by_cases e3 : bE (wOf dm) p = 3
    · rw [if_pos (show nI (bE (wOf dm) p) = 3 by rw [e3]; rfl)]
      by_cases f0 : fat (wOf dm) p h = 0
      · have h0 : 1 ≤ h := by
          by_cases z : h = 0
          · unfold fat at f0; rw [if_pos z] at f0; exact absurd f0 (by decide)
          · omega
        have sz : stF (wOf dm) p t h = 0 := by
          unfold stF stn
          rw [if_pos f0, if_pos e3]
        rw [if_pos f0, if_pos rfl, if_pos e3, if_neg (show ¬ (1 : Int32) = 0 by decide), sz, if_pos (show nI 0 = 0 from rfl)]
        by_cases m1 : x = -1
        · obtain ⟨j, hj, ej⟩ := nI_of (x := wOf dm 2) (fun q => by
            have q1 := Int32.lt_iff_toInt_lt.mp q
            have q2 := Int32.le_iff_toInt_le.mp g0
            omega)
          have dc := draw_c (L := L) (d := d) (o := 2) (m := 6) (g2.trans ej) hj (by decide) (by decide)
          have dr := draw_m (dm := dm) (m := 6) ej hj (by decide) (by decide)
          have hn := nxt_lt j
          rw [if_pos m1, if_pos m1, show t_X2_draw L d 2 6 = _ from dc, ob, show t_X6_draw LM dm 6 = _ from dr, ob]
          have hs1 := SI_seed (v := nI (nxt j)) hs0 (nI_pos' (by omega))
          have w1 : ∀ i, i ≠ 2 → wOf (sA dm 0 2 (nI (nxt j))) i = wOf dm i := fun i hi => by rw [wOf_sA, if_neg hi]
          have h8 : ∀ i, i < 800 → (i < 2 ∨ 8 ≤ i) → wOf (sA dm 0 2 (nI (nxt j))) i = wOf dm i := fun i _ q => w1 i (by omega)
          have hE2 : bE (wOf (sA dm 0 2 (nI (nxt j)))) p = 3 := by unfold bE; rw [w1 _ (by omega)]; exact e3
          refine WR_trans (d1 := sF d 2 2 (nI (nxt j))) (dm1 := sA dm 0 2 (nI (nxt j))) (fun o ho => AG_sF ho) (MG_sA (by decide)) ?_
          refine roll_by hs1 hl hb (p := p) (h := h) (t := t) ⟨?_, ?_, ?_, ?_, ht, hh⟩ h0 hE2 ?_ ?_ ?_ ?_ x _
          · rw [w1 3 (by decide)]; exact h3
          · rw [w1 4 (by decide)]; exact h4
          · rw [w1 5 (by decide)]; exact h5
          · rw [bP_congr h8]; exact hp
          · rw [gF_sFn (by decide)]; exact b1
          · rw [gF_sFn (by decide), fat_congr h8 (by omega)]; exact s4
          · rw [gF_sFn (by decide), w1 6 (by decide)]; exact s5
          · intro i hi
            rw [w1 _ (by omega)]
            exact s7 i hi
        · rw [if_neg m1, if_neg m1]
          exact roll_by hs0 hl hb hpl h0 e3 b1 s4 s5 s7 x x
      · have sz : stF (wOf dm) p t h ≠ 0 := by unfold stF; rw [if_neg f0]; exact f0
        rw [if_neg f0, if_neg (show ¬ (1 : Int32) = 0 by decide), if_neg (show ¬ nI (stF (wOf dm) p t h) = 0 from nI_ne0 (by omega) (by omega))]
        exact WR_same hs0 _
    · rw [if_neg (show ¬ nI (bE (wOf dm) p) = 3 from fun q => e3 (nI_inj (b := 3) (by omega) (by decide) q)), if_neg e3, if_pos rfl, ite_self]
      exact WR_same hs0 _
theorem call_roll {L : Nat → Nat} {d dm : Dt} (hs : SI d 2 (wOf dm)) (hl : LS2 L 2) (hb : gF dm 0 16 = -1) (x : Int32) : WR d dm (t_X5_roll L d x) (t_X6_roll LM dm x) := by
  unfold t_X5_roll t_X6_roll
  by_cases m1 : x = -1
  · rw [if_pos m1, if_pos m1]
    exact roll_go hs hl hb x
  · rw [if_neg m1, if_neg m1, in_I, Int32.toInt_toInt64, show (1 : Int64).toInt = 1 from rfl, show (6 : Int64).toInt = 6 from rfl, ob]
    have z1 : (1 : Int32).toInt = 1 := rfl
    have z6 : (6 : Int32).toInt = 6 := rfl
    by_cases a : x < 1
    · have a1 := Int32.lt_iff_toInt_lt.mp a
      have n : ¬ ((1 : Int) ≤ x.toInt ∧ x.toInt ≤ 6) := fun q => by omega
      rw [if_pos a, if_neg n, if_pos rfl]
      exact WR_same hs _
    · have a1 : ¬ x.toInt < 1 := fun q => a (Int32.lt_iff_toInt_lt.mpr (by omega))
      by_cases b : x ≤ 6
      · have b1 := Int32.le_iff_toInt_le.mp b
        have n : (1 : Int) ≤ x.toInt ∧ x.toInt ≤ 6 := ⟨by omega, by omega⟩
        rw [if_neg a, if_pos b, if_pos n, if_neg (show ¬ (1 : Int32) = 0 by decide)]
        exact roll_go hs hl hb x
      · have n : ¬ ((1 : Int) ≤ x.toInt ∧ x.toInt ≤ 6) := fun q => b (Int32.le_iff_toInt_le.mpr (by omega))
        rw [if_neg a, if_neg b, if_neg n, if_pos rfl]
        exact WR_same hs _
