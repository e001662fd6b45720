/-! ===== choose ===== -/
/-- both write: same answer, the situation again, the rest as it was -/
def WR (d dm : Dt) (x y : Option (Int32 × Dt)) : Prop := ∃ r d' dm', x = some (r, d') ∧ y = some (r, dm') ∧ SI d' 2 (wOf dm') ∧ (∀ o, o ≠ 2 → AG d d' o) ∧ MG dm dm'
theorem WR_same {d dm : Dt} (h : SI d 2 (wOf dm)) (r : Int32) : WR d dm (some (r, d)) (some (r, dm)) := ⟨r, d, dm, rfl, rfl, h, fun o _ => AG.refl d o, MG.refl dm⟩
theorem or_ne {a : Int32} (b : Int32) (h : a ≠ 0) : a ||| b ≠ 0 := by
  intro q
  apply h
  have q2 : a.toBitVec ||| b.toBitVec = 0#32 := congrArg Int32.toBitVec q
  exact Int32.toBitVec_inj.mp (BitVec.or_eq_zero_iff.mp q2).1
theorem or_ne2 (a : Int32) {b : Int32} (h : b ≠ 0) : a ||| b ≠ 0 := by
  intro q
  apply h
  have q2 : a.toBitVec ||| b.toBitVec = 0#32 := congrArg Int32.toBitVec q
  exact Int32.toBitVec_inj.mp (BitVec.or_eq_zero_iff.mp q2).2
theorem msk_ne1 {w : Nat → Int32} {p : Nat} {t : Int32} : ∀ (n c : Nat) (m : Int32), m ≠ 0 → msk w p t n c m ≠ 0 := by
  intro n
  induction n with
  | zero => intro c m h; exact h
  | succ n ih =>
    intro c m h
    unfold msk
    apply ih
    split
    · exact or_ne _ h
    · exact h
theorem msk_ne {w : Nat → Int32} {p : Nat} {t : Int32} {x : Nat} (hx : opn w p t x = true) (h7 : x < 7) : ∀ (n c : Nat) (m : Int32), c ≤ x → x < c + n → msk w p t n c m ≠ 0 := by
  intro n
  induction n with
  | zero => intro c m h h2; omega
  | succ n ih =>
    intro c m h h2
    unfold msk
    by_cases e : c = x
    · rw [e, if_pos hx]
      apply msk_ne1
      have z : ∀ x, x < 7 → (1 : Int32) <<< (nI x &&& 31) ≠ 0 := by decide +kernel
      exact or_ne2 _ (z x h7)
    · exact ih _ _ (by omega) (by omega)
theorem stF_lt (w : Nat → Int32) (p : Nat) (t : Int32) (h : Nat) : stF w p t h < 4 := by
  have := fat_lt w p h
  unfold stF stn
  split
  · split
    · decide
    · split <;> decide
  · omega
theorem call_choose {L : Nat → Nat} {d dm : Dt} (hs : SI d 2 (wOf dm)) (hl : LS2 L 2) (hb : gF dm 0 16 = -1) (x : Int32) : WR d dm (t_X5_choose L d x) (t_X6_choose LM dm x) := by
  have hs0 := hs
  obtain ⟨hv, hk, _, _, _, hq⟩ := hs
  have hP := hv.P
  unfold t_X5_choose t_X6_choose
  rw [LM0, gd_h (show inb 3 4128 = true by decide), gd_h (show inb 3 4128 = true by decide), show gA dm (32 * 0 + 0) (ix 3) = wOf dm 3 from rfl, show gA dm (32 * 0 + 0) (ix 4) = wOf dm 4 from rfl, bd_q]
  rcases hq with ⟨b0, w3⟩ | ⟨b1, p, h, t, hpl, s4, s5, s7⟩
  · rw [b0, w3, if_pos rfl, if_neg (show ¬ (0 : Int32) ≤ -1 by decide)]
    exact WR_same hs0 _
  · have hpl' := hpl
    obtain ⟨h3, h4, h5, hp, ht, hh⟩ := hpl'
    have hV := hv.2.2.2 p hp
    have hC := hV.C
    have hf := fat_lt (wOf dm) p h
    rw [b1, if_neg (show ¬ (1 : Int32) = 0 by decide), h3, if_pos (nI_pos' (by omega)), s4, st_part (by omega) ht hh (by omega), ob, hasChoice_eq hv hk hl.1 hp, ob, show (56 : Int32) + nI p = nI (56 + p) from nI_add 56 p, gdi (show 56 + p < 4128 by omega) (by omega), wg (by omega), hC.1, in_lt x (by omega), ob]
    by_cases hx : inb x (bC (wOf dm) p) = true
    · obtain ⟨c, hc, rfl⟩ := inb_ex hx (by omega)
      have e0 : bE (wOf dm) p = 0 := by
        by_cases z : bE (wOf dm) p = 0
        · exact z
        · have := hV.2.2.2.1 z
          omega
      have hst := stands_eq hv hpl
      rw [if_pos hx, if_neg (show ¬ (1 : Int32) = 0 by decide), if_neg (show ¬ (1 : Int32) = 0 by decide), hst, ob, gd_h (show inb 4 4128 = true by decide), h4, isOpenChoice_eq hv hp hc, ob]
      have slt := stF_lt (wOf dm) p t h
      by_cases f0 : fat (wOf dm) p h = 0
      · rw [f0, isOpen_eq hv hk hl.1 hp ht hh hc, ob]
        by_cases o : opn (wOf dm) p t c = true
        · have sz : stF (wOf dm) p t h = 0 := by
            unfold stF stn
            rw [if_pos f0, if_neg (by omega), if_neg (msk_ne o (by omega) _ _ _ (by omega) (by omega))]
          have h0 : 1 ≤ h := by
            by_cases z : h = 0
            · unfold fat at f0; rw [if_pos z] at f0; exact absurd f0 (by decide)
            · omega
          have hg := gol_ok hv hp (c := c) (by unfold wys; rw [if_neg (by omega), if_pos e0]; exact hc)
          have gE : gol (wOf dm) p c = wOf dm (368 + (6 * p + c)) := by unfold gol; rw [if_neg (by omega)]
          have hg2 := nb_ix hg (by omega)
          have e1 : ((368 : Int32) + 6 * nI p) + nI c = nI (368 + (6 * p + c)) := by
            show (nI 368 + nI 6 * nI p) + nI c = _
            rw [nI_mulN, nI_add, nI_add, Nat.add_assoc]
          have wo := wayOut_eq hv hk hl.1 (h := h) hp ht hh (c := c) (by unfold wys; rw [if_neg (by omega), if_pos e0]; exact hc)
          rw [if_pos (.inr o)] at wo
          obtain ⟨d', dm', r1, r2, r3, r4, ⟨p', h', t', hpl2, s42, _, _⟩, r6, _, r8⟩ := turn_eq hs0 hl hb hpl h0 hg2.2 b1 s4 s5 s7
          rw [← hg2.1] at r1 r2
          rw [if_pos o, if_neg (show ¬ (1 : Int32) = 0 by decide), if_neg (show ¬ (1 : Int32) = 0 by decide), sz, if_pos (show nI 0 = 0 from rfl), wo, ob, r1, ob, e1, gdi (show 368 + (6 * p + c) < 4128 by omega) (by omega), wg (by omega), ← gE, r2, ob, stands_eq r3.1 hpl2, ob, standing2_eq r3.1 r3.2.1 hl.1 hpl2 s42, ob]
          exact ⟨_, _, _, rfl, rfl, r3, r6, r8⟩
        · rw [if_neg o, if_pos rfl, if_pos rfl, ite_self]
          exact WR_same hs0 _
      · have sz : stF (wOf dm) p t h ≠ 0 := by unfold stF; rw [if_neg f0]; exact f0
        rw [isOpen_no hv hk hl.1 hp ht hh (by omega) (.inl f0), ob, if_pos rfl, if_neg (show ¬ nI (stF (wOf dm) p t h) = 0 from nI_ne0 (by omega) (by omega))]
        exact WR_same hs0 _
    · rw [if_neg hx, if_pos rfl, if_pos rfl]
      exact WR_same hs0 _
