/-! ===== the class's graph o: lengths, costs, meeting a state, one way more ===== -/
def chS (n : Nat) : Prop := n = 64 ∨ n = 128 ∨ n = 256 ∨ n = 512 ∨ n = 1024 ∨ n = 2048 ∨ n = 4096 ∨ n = 8192 ∨ n = 16384 ∨ n = 32768 ∨ n = 55296
def chW (n : Nat) : Prop := n = 256 ∨ n = 512 ∨ n = 1024 ∨ n = 2048 ∨ n = 4096 ∨ n = 8192 ∨ n = 16384 ∨ n = 32768 ∨ n = 65536 ∨ n = 131072 ∨ n = 262144 ∨ n = 524288
def GLn (L : Nat → Nat) (o : Nat) : Prop := chS (L (32 * o + 7)) ∧ L (32 * o + 8) = L (32 * o + 7) + 1 ∧ chW (L (32 * o + 9)) ∧ (∃ m, m ≤ 24 ∧ L (32 * o + 10) = 2304 * m) ∧ chS (L (32 * o + 11)) ∧ chS (L (32 * o + 12)) ∧ chS (L (32 * o + 15))
def p7 (n : Nat) : Nat := if n = 55296 then 300000 else 5 * n
def pS (n : Nat) : Nat := if n = 55296 then 130000 else 2 * n
def PT (L : Nat → Nat) (o : Nat) : Nat := p7 (L (32 * o + 7)) + 2 * L (32 * o + 9) + 24 * L (32 * o + 10) + pS (L (32 * o + 11)) + pS (L (32 * o + 12)) + pS (L (32 * o + 15))
theorem PT_le {L : Nat → Nat} {o : Nat} (h : GLn L o) : PT L o ≤ 3065680 := by
  obtain ⟨a, _, b, ⟨m, m1, m2⟩, c, d, e⟩ := h
  have f : ∀ n, chS n → pS n ≤ 130000 := by
    intro n hn
    unfold pS
    rcases hn with h | h | h | h | h | h | h | h | h | h | h <;> (rw [h]; decide)
  have f7 : ∀ n, chS n → p7 n ≤ 300000 := by
    intro n hn
    unfold p7
    rcases hn with h | h | h | h | h | h | h | h | h | h | h <;> (rw [h]; decide)
  have fw : L (32 * o + 9) ≤ 524288 := by unfold chW at b; omega
  have := f _ c
  have := f _ d
  have := f _ e
  have := f7 _ a
  unfold PT
  omega
def LF (o : Nat) (L L' : Nat → Nat) : Prop := ∀ a, ¬ (32 * o ≤ a ∧ a < 32 * o + 32) → L' a = L a
/-- lengths are right again, what was made is paid for -/
def CO (o : Nat) (L L' : Nat → Nat) (kc ns : Nat) : Prop := GLn L' o ∧ LF o L L' ∧ ns + PT L o ≤ PT L' o ∧ 64 * kc ≤ ns
theorem CO.rf {o : Nat} {L : Nat → Nat} (h : GLn L o) : CO o L L 0 0 := ⟨h, fun _ _ => rfl, by omega, by omega⟩
theorem CO.tr {o : Nat} {L L' L'' : Nat → Nat} {k n k' n' : Nat} (h : CO o L L' k n) (h2 : CO o L' L'' k' n') : CO o L L'' (k' + k) (n' + n) := by
  obtain ⟨_, b, c, d⟩ := h
  obtain ⟨a', b', c', d'⟩ := h2
  exact ⟨a', fun x hx => (b' x hx).trans (b x hx), by omega, by omega⟩
theorem al_e {α : Type} (a b k n : Nat) (r : α) : al a b (some (r, k, n)) = some (r, k + a, n + b) := rfl
theorem upL_s (L : Nat → Nat) (a n : Nat) : upL L a n a = n := if_pos rfl
theorem upL_n {L : Nat → Nat} {a n b : Nat} (h : b ≠ a) : upL L a n b = L b := if_neg h
theorem LB_LF {o b : Nat} {L L' : Nat → Nat} (h : LF o L L') (hb : b ≠ o) (hl : LB L b) : LB L' b := by
  have e : ∀ j, j < 32 → L' (32 * b + j) = L (32 * b + j) := fun j hj => h _ (by omega)
  unfold LB
  rw [e 2 (by decide), e 3 (by decide), e 4 (by decide), e 5 (by decide), e 6 (by decide), e 7 (by decide), e 8 (by decide), e 9 (by decide), e 10 (by decide), e 11 (by decide), e 12 (by decide)]
  exact hl
/-- what stands in the graph: s states X, their places by slots -/
def GB (L : Nat → Nat) (d : Dt) (o : Nat) (u : Nat → Int32) (s : Nat) (X : Nat → Nat) : Prop := gF d o 4 = nI s ∧ s ≤ L (32 * o + 7) ∧ 2304 * bP u ≤ L (32 * o + 10) ∧ (∀ i, i < s → VQ u (X i) ∧ gA d (32 * o + 7) i = nI (cc u (X i)) ∧ gA d (32 * o + 10) (sl (X i)) = nI (i + 1)) ∧ ∀ x, x < L (32 * o + 10) → (∀ i, i < s → sl (X i) ≠ x) → gA d (32 * o + 10) x = 0
theorem chS_le {n : Nat} (h : chS n) : n ≤ 55296 := by unfold chS at h; omega
theorem GB.inj {L : Nat → Nat} {d : Dt} {o : Nat} {u : Nat → Int32} {s : Nat} {X : Nat → Nat} (hg : GLn L o) (h : GB L d o u s X) : ∀ i j, i < s → j < s → X i = X j → i = j := by
  obtain ⟨h1, h2, h3, h4, h5⟩ := h
  intro i j hi hj e
  have a := (h4 i hi).2.2
  have b := (h4 j hj).2.2
  rw [e, b] at a
  have := chS_le hg.1
  have := nI_inj (by omega) (by omega) a
  omega
theorem GB.room {L : Nat → Nat} {d : Dt} {o : Nat} {u : Nat → Int32} {s q : Nat} {X : Nat → Nat} (hv : VB u) (hg : GLn L o) (h : GB L d o u s X) (hq : VQ u q) (h0 : ∀ i, i < s → X i ≠ q) : s < 55296 := by
  have hj := h.inj hg
  have hP := hv.P.2
  have hvq : ∀ i, i < s + 1 → VQ u (apn X s q i) := fun i hi => by
    by_cases x : i = s
    · rw [x, apn_s]; exact hq
    · rw [apn_n x]; exact (h.2.2.2.1 i (by omega)).1
  have := inj_le 55296 (s + 1) (fun i => sl (apn X s q i)) (fun i j hi hj' z => by
    have z' := sl_inj (hvq i hi).2.1 (hvq j hj').2.1 z
    by_cases x : i = s
    · by_cases y : j = s
      · omega
      · rw [x, apn_s, apn_n y] at z'
        exact absurd z'.symm (h0 j (by omega))
    · by_cases y : j = s
      · rw [y, apn_s, apn_n x] at z'
        exact absurd z' (h0 i (by omega))
      · rw [apn_n x, apn_n y] at z'
        exact hj i j (by omega) (by omega) z') (fun i hi => by
    have := VQ_sl (hvq i hi)
    show sl (apn X s q i) < 55296
    omega)
  omega
theorem GB.zero {L : Nat → Nat} {d : Dt} {o : Nat} {u : Nat → Int32} {s q : Nat} {X : Nat → Nat} (h : GB L d o u s X) (hq : VQ u q) (h0 : ∀ i, i < s → X i ≠ q) : gA d (32 * o + 10) (sl q) = 0 := by
  have := VQ_sl hq
  refine h.2.2.2.2 _ (by have := h.2.2.1; omega) (fun i hi e => h0 i hi (sl_inj (h.2.2.2.1 i hi).1.2.1 hq.2.1 e))
/-- what meeting leaves -/
def MF (o : Nat) (L : Nat → Nat) (d : Dt) (L' : Nat → Nat) (d' : Dt) : Prop := (∀ x, x ≠ o → AG d d' x) ∧ (∀ j, j ≠ 4 → gF d' o j = gF d o j) ∧ (∀ i, i < L (32 * o + 8) → gA d' (32 * o + 8) i = gA d (32 * o + 8) i) ∧ (∀ i, gA d' (32 * o + 9) i = gA d (32 * o + 9) i) ∧ L' (32 * o + 9) = L (32 * o + 9) ∧ L (32 * o + 7) ≤ L' (32 * o + 7)
theorem MF.rf (o : Nat) (L : Nat → Nat) (d : Dt) : MF o L d L d := ⟨fun x _ => AG.refl d x, fun _ _ => rfl, fun _ _ => rfl, fun _ => rfl, rfl, Nat.le_refl _⟩
theorem m1_0 : (nI 0 : Int32) - 1 = -1 := by decide
theorem meet_old {L : Nat → Nat} {d : Dt} {o : Nat} {u : Nat → Int32} {s i : Nat} {X : Nat → Nat} (hv : VB u) (hg : GLn L o) (h : GB L d o u s X) (hi : i < s) : t_X4_meet L d o (nI (cc u (X i))) = some ((nI i, L, d), 0, 0) := by
  obtain ⟨h1, h2, h3, h4, h5⟩ := h
  obtain ⟨b1, b2, b3⟩ := h4 i hi
  obtain ⟨m, m1, m2⟩ := hg.2.2.2.1
  have := chS_le hg.1
  unfold t_X4_meet
  rw [find_q hv b1 h3 (by omega), ob, slotOf_q hv b1, ob, b3, nI_pred, if_neg (nI_m1 (by omega))]
theorem meet_lost {L : Nat → Nat} {d : Dt} {o n : Nat} (h : n < 2 ^ 19) (h2 : n % 4 = 2) : t_X4_meet L d o (nI n) = some ((-1, L, d), 0, 0) := by
  unfold t_X4_meet
  rw [find_lost h h2, ob, slotOf_c h, ob, if_pos rfl, fateOf_eq (by omega), ob, h2, if_pos (show nI 2 = 2 from rfl)]
/-- the state is put in, room is there -/
theorem meet_put {L : Nat → Nat} {d : Dt} {o : Nat} {u : Nat → Int32} {s q : Nat} {X : Nat → Nat} (hg : GLn L o) (h : GB L d o u s X) (hq : VQ u q) (hs : s < L (32 * o + 7)) (h0 : ∀ i, i < s → X i ≠ q) : ∃ d', t_X4_meet_104 o (nI (cc u q)) (nI (sl q)) L d = some ((nI s, L, d'), 0, 0) ∧ GB L d' o u (s + 1) (apn X s q) ∧ MF o L d L d' := by
  obtain ⟨h1, h2, h3, h4, h5⟩ := h
  obtain ⟨m, m1, m2⟩ := hg.2.2.2.1
  have := chS_le hg.1
  have hsl := VQ_sl hq
  refine ⟨sA (sF (sA d (32 * o + 7) s (nI (cc u q))) o 4 (nI (s + 1))) (32 * o + 10) (sl q) (nI (s + 1)), ?_, ⟨?_, by omega, h3, fun i hi => ?_, fun x hx hi => ?_⟩, fun x hx => ?_, fun j hj => ?_, fun i _ => ?_, fun i => ?_, rfl, Nat.le_refl _⟩
  · unfold t_X4_meet_104
    rw [h1, gdi hs (by omega), bd_q, ix_nI (by omega), gF_sA, h1, nI_1, bd_q, gdi (show sl q < L (32 * o + 10) by omega) (by omega), ix_nI (by omega), gF_sF1, bd_q, gF_sA, gF_sF1, nI_pred]
  · rw [gF_sA, gF_sF1]
  · by_cases z : i = s
    · rw [z, apn_s]
      refine ⟨hq, ?_, ?_⟩
      · rw [gA_sAi, if_neg (fun y => by omega), gA_sF, gA_sAi, if_pos ⟨rfl, rfl⟩]
      · rw [gA_sAi, if_pos ⟨rfl, rfl⟩]
    · obtain ⟨b1, b2, b3⟩ := h4 i (by omega)
      rw [apn_n z]
      refine ⟨b1, ?_, ?_⟩
      · rw [gA_sAi, if_neg (fun y => by omega), gA_sF, gA_sAi, if_neg (fun y => z y.2)]; exact b2
      · rw [gA_sAi, if_neg (fun y => h0 i (by omega) (sl_inj b1.2.1 hq.2.1 y.2)), gA_sF, gA_sAi, if_neg (fun y => by omega)]; exact b3
  · have z := hi s (by omega)
    rw [apn_s] at z
    rw [gA_sAi, if_neg (fun y => z y.2.symm), gA_sF, gA_sAi, if_neg (fun y => by omega)]
    refine h5 x hx (fun i hi' => ?_)
    have := hi i (by omega)
    rw [apn_n (by omega)] at this
    exact this
  · exact ((AG_sA (j := 7) (by decide) hx).trans (AG_sF hx)).trans (AG_sA (j := 10) (by decide) hx)
  · rw [gF_sA, gF_sFn (fun y => hj y.2), gF_sA]
  · rw [gA_sAi, if_neg (fun y => by omega), gA_sF, gA_sAi, if_neg (fun y => by omega)]
  · rw [gA_sAi, if_neg (fun y => by omega), gA_sF, gA_sAi, if_neg (fun y => by omega)]
theorem not_dec {p : Prop} [Decidable p] (h : ¬ p) : (!decide p) = true := by rw [decide_eq_false h]; rfl
theorem inb_l {i : Nat} (h : i < 100000000) : inb (nI i) 100000000 = true := in_nI h (by omega)
theorem meet_new {L : Nat → Nat} {d : Dt} {o : Nat} {u : Nat → Int32} {s q : Nat} {X : Nat → Nat} (hv : VB u) (hg : GLn L o) (h : GB L d o u s X) (hq : VQ u q) (h0 : ∀ i, i < s → X i ≠ q) : ∃ L' d' kc ns, t_X4_meet L d o (nI (cc u q)) = some ((nI s, L', d'), kc, ns) ∧ CO o L L' kc ns ∧ GB L' d' o u (s + 1) (apn X s q) ∧ MF o L d L' d' ∧ (∀ a, a ≠ 32 * o + 7 → a ≠ 32 * o + 8 → L' a = L a) := by
  have hroom := h.room hv hg hq h0
  have hz := h.zero hq h0
  have hh := h
  obtain ⟨h1, h2, h3, h4, h5⟩ := h
  obtain ⟨m, m1, m2⟩ := hg.2.2.2.1
  have hch := chS_le hg.1
  have hsl := VQ_sl hq
  have hcc := cc_lt hv hq
  unfold t_X4_meet
  rw [find_q hv hq h3 (by omega), ob, slotOf_q hv hq, ob, hz, show (0 : Int32) - 1 = -1 from by decide, if_pos rfl, fateOf_q hv hq, ob, if_neg (by split <;> decide), h1, if_neg (show ¬ (55296 : Int32) ≤ nI s from nI_ge (b := 55296) hroom (by decide)), if_neg (nI_pos (by omega)), if_pos (nI_lt (by omega) (by omega))]
  by_cases hs : s < L (32 * o + 7)
  · rw [if_pos (nI_lt hs (by omega))]
    obtain ⟨d', r1, r2, r3⟩ := meet_put hg hh hq hs h0
    exact ⟨L, d', 0, 0, r1, CO.rf hg, r2, r3, fun _ _ _ => rfl⟩
  · have hsL : s = L (32 * o + 7) := by omega
    rw [if_neg (nI_nlt (by omega) (by omega)), show (2 : Int32) * nI (L (32 * o + 7)) = nI (2 * L (32 * o + 7)) from nI_mulN 2 _]
    obtain ⟨R, eR, hR, cR, pR⟩ : ∃ R, (if nI (2 * L (32 * o + 7)) < 55296 then nI (2 * L (32 * o + 7)) else 55296) = nI R ∧ L (32 * o + 7) < R ∧ chS R ∧ 2 * R + 1 + p7 (L (32 * o + 7)) ≤ p7 R := by
      have hc := hg.1
      unfold chS at hc
      by_cases c : 2 * L (32 * o + 7) < 55296
      · refine ⟨2 * L (32 * o + 7), ?_, by omega, ?_, ?_⟩
        · rw [if_pos (show nI (2 * L (32 * o + 7)) < 55296 from nI_lt (b := 55296) c (by decide))]
        · unfold chS; omega
        · unfold p7
          rw [if_neg (by omega), if_neg (by omega)]
          omega
      · refine ⟨55296, ?_, by omega, by unfold chS; omega, ?_⟩
        · rw [if_neg (show ¬ nI (2 * L (32 * o + 7)) < 55296 from nI_nlt (b := 55296) (by omega) (by omega))]; rfl
        · unfold p7
          rw [if_pos rfl, if_neg (by omega)]
          omega
    have hRl := chS_le cR
    rw [eR, bd_q, gd_h (inb_l (by omega)), gd_h (decide_eq_true (by omega)), ix_nI (by omega), gd_h (not_dec (by omega)), bd_q, bd_q, nI_1, gd_h (inb_l (by omega)), upL_n (by omega), gd_h (decide_eq_true (by have := hg.2.1; omega)), ix_nI (by omega), gd_h (not_dec (by have := hg.2.1; omega)), bd_q, bd_q, Nat.min_eq_left (by omega), Nat.min_eq_left (by have := hg.2.1; omega)]
    generalize hL1 : upL (upL L (32 * o + 7) R) (32 * o + 8) (R + 1) = L1
    generalize hd1 : sR (sR d (32 * o + 7) (va_cpy (gA d (32 * o + 7)) (fun _ => 0) 0 0 (L (32 * o + 7)))) (32 * o + 8) (va_cpy (gA (sR d (32 * o + 7) (va_cpy (gA d (32 * o + 7)) (fun _ => 0) 0 0 (L (32 * o + 7)))) (32 * o + 8)) (fun _ => 0) 0 0 (L (32 * o + 8))) = d1
    have l7 : L1 (32 * o + 7) = R := by rw [← hL1, upL_n (by omega), upL_s]
    have l8 : L1 (32 * o + 8) = R + 1 := by rw [← hL1, upL_s]
    have lx : ∀ a, a ≠ 32 * o + 7 → a ≠ 32 * o + 8 → L1 a = L a := fun a x y => by rw [← hL1, upL_n y, upL_n x]
    have hg1 : GLn L1 o := by
      obtain ⟨c1, c2, c3, c4, c5, c6, c7⟩ := hg
      refine ⟨by rw [l7]; exact cR, by rw [l7, l8], ?_, ?_, ?_, ?_, ?_⟩
      · rw [lx _ (by omega) (by omega)]; exact c3
      · rw [lx _ (by omega) (by omega)]; exact c4
      · rw [lx _ (by omega) (by omega)]; exact c5
      · rw [lx _ (by omega) (by omega)]; exact c6
      · rw [lx _ (by omega) (by omega)]; exact c7
    have f1 : ∀ x j, gF d1 x j = gF d x j := fun x j => by rw [← hd1]; rfl
    have a1 : ∀ a i, a ≠ 32 * o + 7 → a ≠ 32 * o + 8 → gA d1 a i = gA d a i := fun a i x y => by rw [← hd1, gA_sRi, if_neg y, gA_sRi, if_neg x]
    have a7 : ∀ i, i < L (32 * o + 7) → gA d1 (32 * o + 7) i = gA d (32 * o + 7) i := fun i hi => by
      rw [← hd1, gA_sRi, if_neg (by omega), gA_sRi, if_pos rfl, pk_cpy_in (by omega) (by omega)]
      congr 1
      omega
    have a8 : ∀ i, i < L (32 * o + 8) → gA d1 (32 * o + 8) i = gA d (32 * o + 8) i := fun i hi => by
      rw [← hd1, gA_sRi, if_pos rfl, pk_cpy_in (by omega) (by omega), gA_sRi, if_neg (by omega)]
      congr 1
      omega
    have hh1 : GB L1 d1 o u s X := by
      refine ⟨(f1 o 4).trans h1, by rw [l7]; omega, by rw [lx _ (by omega) (by omega)]; exact h3, fun i hi => ?_, fun x hx hi => ?_⟩
      · obtain ⟨b1, b2, b3⟩ := h4 i hi
        exact ⟨b1, (a7 i (by omega)).trans b2, (a1 _ _ (by omega) (by omega)).trans b3⟩
      · rw [lx _ (by omega) (by omega)] at hx
        rw [a1 _ _ (by omega) (by omega)]
        exact h5 x hx hi
    obtain ⟨d', r1, r2, r3⟩ := meet_put hg1 hh1 hq (by rw [l7]; omega) h0
    refine ⟨L1, d', 0 + 1 + 1, 0 + (R + 1) + R, ?_, ⟨hg1, fun a ha => lx a (by omega) (by omega), ?_, by have := hg.1; unfold chS at this; omega⟩, r2, ⟨fun x hx => ?_, fun j hj => ?_, fun i hi => ?_, fun i => ?_, lx _ (by omega) (by omega), by rw [l7]; omega⟩, lx⟩
    · rw [r1, al_e, al_e]
    · unfold PT
      rw [l7, lx (32 * o + 9) (by omega) (by omega), lx (32 * o + 10) (by omega) (by omega), lx (32 * o + 11) (by omega) (by omega), lx (32 * o + 12) (by omega) (by omega), lx (32 * o + 15) (by omega) (by omega)]
      omega
    · exact AG.trans ⟨fun j => f1 x j, fun j hj i => a1 _ i (by omega) (by omega)⟩ (r3.1 x hx)
    · exact (r3.2.1 j hj).trans (f1 o j)
    · have hi' : i < L1 (32 * o + 8) := by rw [l8]; have := hg.2.1; omega
      exact (r3.2.2.1 i hi').trans (a8 i hi)
    · exact (r3.2.2.2.1 i).trans (a1 _ i (by omega) (by omega))
