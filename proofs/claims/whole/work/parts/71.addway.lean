/-! ===== the class's graph: one way more ===== -/
/-- what adding a way leaves -/
def WF (o : Nat) (L : Nat → Nat) (d : Dt) (L' : Nat → Nat) (d' : Dt) (wc : Nat) : Prop := (∀ x, x ≠ o → AG d d' x) ∧ (∀ j, j ≠ 5 → gF d' o j = gF d o j) ∧ (∀ a i, a ≠ 32 * o + 9 → gA d' a i = gA d a i) ∧ (∀ i, i < wc → gA d' (32 * o + 9) i = gA d (32 * o + 9) i) ∧ ∀ a, a ≠ 32 * o + 9 → L' a = L a
theorem addWay_q {L : Nat → Nat} {d : Dt} {o wc : Nat} (v : Int32) (hg : GLn L o) (h5 : gF d o 5 = nI wc) (hw : wc ≤ L (32 * o + 9)) (hm : wc < 331776) : ∃ L' d' kc ns, t_X4_addWay L d o v = some ((L', d'), kc, ns) ∧ CO o L L' kc ns ∧ gF d' o 5 = nI (wc + 1) ∧ gA d' (32 * o + 9) wc = v ∧ wc + 1 ≤ L' (32 * o + 9) ∧ WF o L d L' d' wc := by
  have hW := hg.2.2.1
  unfold chW at hW
  have put : ∀ (L1 : Nat → Nat) (d1 : Dt), gF d1 o 5 = nI wc → wc < L1 (32 * o + 9) → ∃ d', t_X4_addWay_30 o v L1 d1 = some ((L1, d'), 0, 0) ∧ gF d' o 5 = nI (wc + 1) ∧ gA d' (32 * o + 9) wc = v ∧ WF o L1 d1 L1 d' wc := by
    intro L1 d1 g5 hl
    refine ⟨sF (sA d1 (32 * o + 9) wc v) o 5 (nI (wc + 1)), ?_, gF_sF1 _ _ _ _, ?_, ⟨fun x hx => (AG_sA (j := 9) (by decide) hx).trans (AG_sF hx), fun j hj => gF_sFn (fun y => hj y.2), fun a i ha => ?_, fun i hi => ?_, fun _ _ => rfl⟩⟩
    · unfold t_X4_addWay_30
      rw [g5, gdi hl (by omega), bd_q, ix_nI (by omega), gF_sA, g5, nI_1, bd_q]
    · rw [gA_sF, gA_sAi, if_pos ⟨rfl, rfl⟩]
    · rw [gA_sF, gA_sAi, if_neg (fun y => ha y.1)]
    · rw [gA_sF, gA_sAi, if_neg (fun y => by omega)]
  unfold t_X4_addWay
  rw [h5]
  by_cases c : wc < L (32 * o + 9)
  · rw [if_pos (nI_lt c (by omega))]
    obtain ⟨d', r1, r2, r3, r4⟩ := put L d h5 c
    exact ⟨L, d', 0, 0, r1, CO.rf hg, r2, r3, by omega, r4⟩
  · rw [if_neg (nI_nlt (by omega) (by omega)), show (2 : Int32) * nI (L (32 * o + 9)) = nI (2 * L (32 * o + 9)) from nI_mulN 2 _, gd_h (inb_l (by omega)), gd_h (decide_eq_true (by omega)), ix_nI (by omega), gd_h (not_dec (by omega)), bd_q, bd_q, Nat.min_eq_left (by omega)]
    have l9 : upL L (32 * o + 9) (2 * L (32 * o + 9)) (32 * o + 9) = 2 * L (32 * o + 9) := upL_s _ _ _
    have lx : ∀ a, a ≠ 32 * o + 9 → upL L (32 * o + 9) (2 * L (32 * o + 9)) a = L a := fun a ha => upL_n ha
    obtain ⟨d', r1, r2, r3, r4⟩ := put (upL L (32 * o + 9) (2 * L (32 * o + 9))) (sR d (32 * o + 9) (va_cpy (gA d (32 * o + 9)) (fun _ => 0) 0 0 (L (32 * o + 9)))) h5 (by rw [l9]; omega)
    refine ⟨upL L (32 * o + 9) (2 * L (32 * o + 9)), d', 0 + 1, 0 + 2 * L (32 * o + 9), ?_, ⟨?_, fun a ha => lx a (by omega), ?_, by omega⟩, r2, r3, by rw [l9]; omega, fun x hx => ?_, fun j hj => r4.2.1 j hj, fun a i ha => ?_, fun i hi => ?_, lx⟩
    · rw [r1, al_e]
    · obtain ⟨c1, c2, c3, c4, c5, c6, c7⟩ := hg
      refine ⟨by rw [lx _ (by omega)]; exact c1, by rw [lx _ (by omega), lx _ (by omega)]; exact c2, ?_, by rw [lx _ (by omega)]; exact c4, by rw [lx _ (by omega)]; exact c5, by rw [lx _ (by omega)]; exact c6, by rw [lx _ (by omega)]; exact c7⟩
      rw [l9]
      unfold chW
      omega
    · unfold PT
      rw [l9, lx (32 * o + 7) (by omega), lx (32 * o + 10) (by omega), lx (32 * o + 11) (by omega), lx (32 * o + 12) (by omega), lx (32 * o + 15) (by omega)]
      omega
    · exact AG.trans (AG_sR (j := 9) (by decide) hx) (r4.1 x hx)
    · rw [r4.2.2.1 a i ha, gA_sRi, if_neg ha]
    · rw [r4.2.2.2.1 i hi, gA_sRi, if_pos rfl, pk_cpy_in (by omega) (by omega)]
      congr 1
      omega
