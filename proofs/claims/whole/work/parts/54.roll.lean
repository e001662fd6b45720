/-! ===== roll ===== -/
theorem WR_trans {d dm d1 dm1 : Dt} {x y : Option (Int32 × Dt)} (ha : ∀ o, o ≠ 2 → AG d d1 o) (hm : MG dm dm1) (h : WR d1 dm1 x y) : WR d dm x y := by
  obtain ⟨r, d', dm', e1, e2, hs, ha2, hm2⟩ := h
  exact ⟨r, d', dm', e1, e2, hs, fun o ho => (ha o ho).trans (ha2 o ho), hm.trans hm2⟩
/-- a roll of v at a part that ends by a roll -/
theorem roll_by {L : Nat → Nat} {d dm : Dt} (hs : SI d 2 (wOf dm)) (hl : LS2 L 2) (hb : gF dm 0 16 = -1) {p h : Nat} {t : Int32} (hpl : PL (wOf dm) p t h) (h0 : 1 ≤ h) (e3 : bE (wOf dm) p = 3) (b1 : gF d 2 3 = 1) (s4 : gF d 2 4 = nI (sc p (ix t) h (fat (wOf dm) p h))) (s5 : gF d 2 5 = wOf dm 6) (s7 : ∀ i, i < 576 → gA d (32 * 2 + 7) i = wOf dm (800 + i)) (x v : Int32) : WR d dm (t_X5_roll_93 L x (nI p) v d) (t_X6_roll_75 LM x v dm) := by
  have hs0 := hs
  obtain ⟨hv, hk, _, _, _, _⟩ := hs
  have hP := hv.P
  have hpl' := hpl
  obtain ⟨h3, h4, h5, hp, ht, hh⟩ := hpl'
  have hV := hv.2.2.2 p hp
  have hr := hV.2.2.2.2.1 e3
  have hB := (hk.2.2 p hp).2.2.2.1 e3
  have hl1 : LB L 6 := hl.1
  have hk6 : BK d 6 (wOf dm) := hk
  have fin : ∀ g : Int32, NB g (bP (wOf dm)) → WR d dm ((t_X2_turnTo L d 2 g).bind (fun d13 => (t_X2_standing L d13 2).bind (fun v14 => some (v14, d13)))) ((t_X6_goTo LM dm g).bind (fun d7 => (t_X6_stands LM d7).bind (fun v14 => some (v14, d7)))) := by
    intro g hg
    have hg2 := nb_ix hg (by omega)
    obtain ⟨d', dm', r1, r2, r3, r4, ⟨p', h', t', hpl2, s42, _, _⟩, r6, _, r8⟩ := turn_eq hs0 hl hb hpl h0 hg2.2 b1 s4 s5 s7
    rw [← hg2.1] at r1 r2
    rw [r1, ob, r2, ob, stands_eq r3.1 hpl2, ob, standing2_eq r3.1 r3.2.1 hl.1 hpl2 s42, ob]
    exact ⟨_, _, _, rfl, rfl, r3, r6, r8⟩
  have gob : ∀ g : Int32, (t_X6_rollBy_43 LM v g dm).bind (fun d13 => (t_X6_stands LM d13).bind (fun v14 => some (v14, d13))) = (t_X6_goTo LM dm g).bind (fun d7 => (t_X6_stands LM d7).bind (fun v14 => some (v14, d7))) := by
    intro g
    unfold t_X6_rollBy_43
    cases t_X6_goTo LM dm g <;> rfl
  unfold t_X5_roll_93 t_X6_roll_75 t_X0_rollTarget t_X6_rollBy
  rw [isRoll_eq hv hk6 hl1 hp, ob, if_pos e3, if_neg (show ¬ (1 : Int32) = 0 by decide), hl1.2.1, hl1.2.2.1, hl1.2.2.2.1, gdi (show p < 24 by omega) (by omega), gdi (show p < 24 by omega) (by omega), gdi (show p < 24 by omega) (by omega), ix_nI (show p < 2 ^ 31 by omega), hB.1, hB.2.1, hB.2.2, LM0, gd_h (show inb 3 4128 = true by decide), bd_q, show gA dm (32 * 0 + 0) (ix 3) = wOf dm 3 from rfl, h3, show (80 : Int32) + nI p = nI (80 + p) from nI_add 80 p, show (104 : Int32) + nI p = nI (104 + p) from nI_add 104 p, show (128 : Int32) + nI p = nI (128 + p) from nI_add 128 p, gdi (show 80 + p < 4128 by omega) (by omega), gdi (show 104 + p < 4128 by omega) (by omega), gdi (show 128 + p < 4128 by omega) (by omega), wg (by omega), wg (by omega), wg (by omega)]
  by_cases z : v < wOf dm (80 + p)
  · rw [if_pos z, if_pos z, ob, gob]
    exact fin _ hr.2.2.2
  · rw [if_neg z, if_neg z, ob, gob]
    exact fin _ hr.2.2.1
