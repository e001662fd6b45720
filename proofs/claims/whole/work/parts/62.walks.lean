/-! ===== the reference's walks from the beginning, from a state; what they found ===== -/
def ini (u : Nat → Int32) (bar nop : Int32) : Option Nat := if bP u = 0 ∨ nop = 0 then none else arv u bar 0 0 (bH u)
def BB (u : Nat → Int32) (bar nop : Int32) (g : Nat) : Prop := bP u ≠ 0 ∧ nop ≠ 0 ∧ arv u bar 0 0 (bH u) = none ∧ g = 0
theorem ini_ok {u : Nat → Int32} (hv : VB u) {bar nop : Int32} {r : Nat} (h : ini u bar nop = some r) : VQ u r := by
  unfold ini at h
  by_cases c : bP u = 0 ∨ nop = 0
  · rw [if_pos c] at h; cases h
  · rw [if_neg c] at h
    exact (arv_ok hv (Nat.pos_of_ne_zero (fun z => c (.inl z))) ⟨0, by decide, rfl⟩ hv.H.2.2 h).1
theorem RS_empty {u : Nat → Int32} {bar nop : Int32} {B : Nat → Prop} {e : Dt} (h21 : gF e 0 21 = 0) (h22 : gF e 0 22 = 0) (hB : ∀ g, ¬ B g) (hz : ∀ x, x < 61440 → gA e 20 x = 0) : RS u bar nop none B e 0 (fun _ => 0) (fun _ => 0) 0 := by
  refine ⟨⟨h21, by omega, fun i hi => by omega, fun i j hi => by omega, fun x hx _ => hz x hx, fun i j _ hj => by omega, fun hk => by omega, fun i x _ hi => by omega, h22, by decide, fun g => ?_⟩, fun r h => (by cases h), fun _ => rfl⟩
  rw [Nat.zero_testBit]
  constructor
  · intro h; cases h
  · rintro (q | ⟨i, x, _, q, _⟩)
    · exact absurd q (hB g)
    · omega
theorem spreadFrom_q {u : Nat → Int32} {bar nop : Int32} {e : Dt} (hr : RU u e) (hf : FAR e) (hb : gF e 0 16 = bar) (hn : gF e 0 15 = nop) (o : Option Nat) (ho : ∀ r, o = some r → VQ u r) : ∃ e' s Y f m, t_X6_spreadFrom LM e (enc o) = some e' ∧ RS u bar nop o (fun _ => False) e' s Y f m ∧ FR e e' := by
  obtain ⟨e1, r1, r2, r3, r4, r5⟩ := beginSpread_q hf
  obtain ⟨e2, s, Y, f, m, t1, t2, t3⟩ := spreadRoot (B := fun _ => False) (o := o) (m := 0) (r2.ru hr) ((r2.1 16 (by decide) (by decide) (by decide) (by decide)).trans hb) ((r2.1 15 (by decide) (by decide) (by decide) (by decide)).trans hn) ho r3 r4 (by decide) (fun g => by rw [Nat.zero_testBit]; exact ⟨fun h => (by cases h), fun h => h.elim⟩) r5
  refine ⟨e2, s, Y, f, m, ?_, t2, r2.trans t3⟩
  unfold t_X6_spreadFrom
  rw [r1, ob]
  cases hq : t_X6_reach LM e1 (enc o) 0 with
  | none => rw [hq] at t1; cases t1
  | some d2 =>
    rw [hq] at t1
    rw [ob] at t1 ⊢
    rw [t1, ob]
theorem spreadBeg_q {u : Nat → Int32} {bar nop : Int32} {e : Dt} (hr : RU u e) (hf : FAR e) (hb : gF e 0 16 = bar) (hn : gF e 0 15 = nop) : ∃ e' s Y f m, t_X6_spreadFromBeginning LM e = some e' ∧ RS u bar nop (ini u bar nop) (BB u bar nop) e' s Y f m ∧ FR e e' := by
  obtain ⟨e1, r1, r2, r3, r4, r5⟩ := beginSpread_q hf
  have hr1 := r2.ru hr
  have hP := hr1.1.P
  have hH := hr1.1.H
  have b1 := (r2.1 16 (by decide) (by decide) (by decide) (by decide)).trans hb
  have n1 := (r2.1 15 (by decide) (by decide) (by decide) (by decide)).trans hn
  unfold t_X6_spreadFromBeginning
  rw [r1, ob, LM0, gd_h (show inb 0 4128 = true by decide), show gA e1 (32 * 0 + 0) (ix 0) = wOf e1 0 from rfl, hP.1, ← hr1.P]
  by_cases p0 : bP u = 0
  · rw [p0, if_pos (show nI 0 ≤ 0 from by decide)]
    refine ⟨e1, 0, fun _ => 0, fun _ => 0, 0, rfl, ?_, r2⟩
    unfold ini
    rw [if_pos (.inl p0)]
    exact RS_empty r3 r4 (fun g h => h.1 p0) r5
  · have hp0 : 0 < bP u := Nat.pos_of_ne_zero p0
    rw [if_neg (nI_nle hp0 (by have := hr1.P; omega)), gd_h (show inb 1 4128 = true by decide), show gA e1 (32 * 0 + 0) (ix 1) = wOf e1 1 from rfl, hH.1]
    have hbh : bH u = bH (wOf e1) := by rw [hr1.2]; exact bk_H _
    obtain ⟨e2, s1, s2⟩ := stateAt_q hr1 (g := 0) (t := 0) (hh := bH (wOf e1)) hp0 ⟨0, by decide, rfl⟩ hH.2.2
    rw [show t_X6_stateAt LM e1 0 0 (nI (bH (wOf e1))) = _ from s1, ob, b1, n1, ← hbh]
    dsimp only
    have f2 := FR.nw s2
    have hr2 := f2.ru hr1
    have n2 : gF e2 0 15 = nop := (s2.1 15 (by decide) (by decide)).trans n1
    have b2 : gF e2 0 16 = bar := (s2.1 16 (by decide) (by decide)).trans b1
    have z2 : ∀ x, x < 61440 → gA e2 20 x = 0 := fun x hx => (s2.2 20 x).trans (r5 x hx)
    have fin : ∀ (o : Option Nat) (v : Int32) (m : Nat), o = ini u bar nop → v = nI m → m < 2 ^ 24 → (∀ g, m.testBit g = true ↔ BB u bar nop g) → ∃ e' s Y f m, t_X6_spreadFromBeginning_45 LM (enc o) v e2 = some e' ∧ RS u bar nop (ini u bar nop) (BB u bar nop) e' s Y f m ∧ FR e e' := by
      intro o v m ho hv hm hB
      subst ho
      subst hv
      obtain ⟨e3, s, Y, f, m', t1, t2, t3⟩ := spreadRoot (B := BB u bar nop) (o := ini u bar nop) (e := sF e2 0 22 (nI m)) (m := m) (FR_22.ru hr2) b2 n2 (fun r h => ini_ok hr2.v h) ((gF_sFn (by decide)).trans ((s2.1 21 (by decide) (by decide)).trans r3)) (gF_sF1 _ _ _ _) hm hB z2
      refine ⟨e3, s, Y, f, m', ?_, t2, ((r2.trans f2).trans FR_22).trans t3⟩
      unfold t_X6_spreadFromBeginning_45
      rw [bd_q]
      cases hq : t_X6_reach LM (sF e2 0 22 (nI m)) (enc (ini u bar nop)) 0 with
      | none => rw [hq] at t1; cases t1
      | some d2 =>
        rw [hq] at t1
        rw [ob] at t1 ⊢
        rw [t1, ob]
    have i0 : ∀ c : nop = 0, ini u bar nop = none := fun c => by unfold ini; rw [if_pos (.inr c)]
    have i1 : ∀ c : ¬ nop = 0, ini u bar nop = arv u bar 0 0 (bH u) := fun c => by unfold ini; rw [if_neg (fun z => z.elim p0 c)]
    by_cases c : nop = 0
    · rw [if_pos (show nI 0 = nop from c.symm), enc_none, if_pos rfl, n2, if_pos c]
      exact fin none 0 0 (i0 c).symm rfl (by decide) (fun g => by rw [Nat.zero_testBit]; exact ⟨fun h => (by cases h), fun h => absurd c h.2.1⟩)
    · rw [if_neg (show ¬ nI 0 = nop from fun z => c (show nop = 0 from z.symm))]
      cases ha : arv u bar 0 0 (bH u) with
      | none =>
        rw [enc_none, if_pos rfl, n2, if_neg c]
        refine fin none 1 1 ((i1 c).trans ha).symm rfl (by decide) (fun g => ?_)
        constructor
        · intro h
          refine ⟨p0, c, ha, ?_⟩
          have h1 : (2 ^ 0).testBit g = true := h
          rw [Nat.testBit_two_pow, decide_eq_true_eq] at h1
          exact h1.symm
        · rintro ⟨_, _, _, rfl⟩
          decide
      | some r =>
        have hr' := ini_ok hr2.v ((i1 c).trans ha)
        rw [if_neg (enc_some_ne (VQ_lt hr2.v hr'))]
        exact fin (some r) 0 0 ((i1 c).trans ha).symm rfl (by decide) (fun g => by rw [Nat.zero_testBit]; exact ⟨fun h => (by cases h), fun h => by have := h.2.2.1; rw [ha] at this; cases this⟩)
theorem hasWon_q {u : Nat → Int32} {bar nop : Int32} {o : Option Nat} {B : Nat → Prop} {e : Dt} {s : Nat} {Y f : Nat → Nat} {m : Nat} (hr : RU u e) (h : RS u bar nop o B e s Y f m) : ∃ v, t_X6_hasWon LM e = some v ∧ ((v = 1 ∧ ∃ i, i < s ∧ bE u (qp (Y i)) = 1) ∨ (v = 0 ∧ ∀ i, i < s → bE u (qp (Y i)) ≠ 1)) := by
  obtain ⟨⟨a1, a2, a3, _⟩, _⟩ := h
  have main : ∀ (n i F : Nat) (x : Int32), i + n = s → n < F → ((x = 1 ∧ ∃ i, i < s ∧ bE u (qp (Y i)) = 1) ∨ (x = 0 ∧ ∀ j, j < i → bE u (qp (Y j)) ≠ 1)) → ∃ v, lp (fun k x => t_X6_hasWon_4 LM e (fun x1 x2 => k (x1, x2)) x.1 x.2) F (x, nI i) = some v ∧ ((v = 1 ∧ ∃ i, i < s ∧ bE u (qp (Y i)) = 1) ∨ (v = 0 ∧ ∀ i, i < s → bE u (qp (Y i)) ≠ 1)) := by
    intro n
    induction n with
    | zero =>
      intro i F x hi hF hx
      obtain ⟨F, rfl⟩ : ∃ G, F = G + 1 := ⟨F - 1, by omega⟩
      refine ⟨x, ?_, ?_⟩
      · show t_X6_hasWon_4 LM e (fun x1 x2 => lp _ F (x1, x2)) x (nI i) = _
        rw [t_X6_hasWon_4, a1, if_pos (nI_le (by omega) (by omega))]
        rcases hx with ⟨rfl, _⟩ | ⟨rfl, _⟩ <;> rfl
      · rcases hx with q | ⟨q, q2⟩
        · exact .inl q
        · exact .inr ⟨q, fun j hj => q2 j (by omega)⟩
    | succ n ih =>
      intro i F x hi hF hx
      obtain ⟨F, rfl⟩ : ∃ G, F = G + 1 := ⟨F - 1, by omega⟩
      obtain ⟨b1, b2, _⟩ := a3 i (by omega)
      have b2' : gA e (32 * 0 + 19) i = nI (Y i) := b2
      show ∃ v, t_X6_hasWon_4 LM e (fun x1 x2 => lp _ F (x1, x2)) x (nI i) = some v ∧ _
      rw [t_X6_hasWon_4, a1, if_neg (nI_ge (by omega) (by omega)), LM19, gdi (by omega) (by omega), ix_nI (by omega), b2', standsAt_q hr b1, ob]
      rcases hx with ⟨rfl, q⟩ | ⟨rfl, q⟩
      · rw [if_neg (by decide), t_X6_hasWon_30, t_X6_hasWon_35, nI_1]
        exact ih _ _ _ (by omega) (by omega) (.inl ⟨rfl, q⟩)
      · rw [if_pos rfl]
        rcases stq_cases hr.v b1 with ⟨e1, e2⟩ | ⟨e1, e2, _⟩ | ⟨e1, e2, _⟩
        · rw [e2, if_pos (show nI 1 = 1 from rfl), t_X6_hasWon_30, t_X6_hasWon_35, nI_1]
          exact ih _ _ _ (by omega) (by omega) (.inl ⟨rfl, i, by omega, e1⟩)
        · rw [e2, if_neg (show ¬ nI 0 = 1 by decide), t_X6_hasWon_35, nI_1]
          refine ih _ _ _ (by omega) (by omega) (.inr ⟨rfl, fun j hj => ?_⟩)
          by_cases z : j = i
          · rw [z]; exact e1
          · exact q j (by omega)
        · rw [e2, if_neg (show ¬ nI 3 = 1 by decide), t_X6_hasWon_35, nI_1]
          refine ih _ _ _ (by omega) (by omega) (.inr ⟨rfl, fun j hj => ?_⟩)
          by_cases z : j = i
          · rw [z]; exact e1
          · exact q j (by omega)
  exact main s 0 FU 0 (by omega) (by unfold FU; omega) (.inr ⟨rfl, fun j hj => by omega⟩)
theorem partsFound_q {u : Nat → Int32} {bar nop : Int32} {o : Option Nat} {B : Nat → Prop} {e : Dt} {s : Nat} {Y f : Nat → Nat} {m : Nat} (hr : RU u e) (h : RS u bar nop o B e s Y f m) : ∃ M, t_X6_partsFound LM e = some (nI M) ∧ M < 2 ^ 24 ∧ ∀ g, M.testBit g = true ↔ (m.testBit g = true ∨ ∃ i, i < s ∧ qp (Y i) = g) := by
  obtain ⟨⟨a1, a2, a3, a4, a5, a6, a7, a8, a9, a10, a11⟩, _⟩ := h
  have hP := hr.v.P.2
  have main : ∀ (n i F M : Nat), i + n = s → n < F → M < 2 ^ 24 → (∀ g, M.testBit g = true ↔ (m.testBit g = true ∨ ∃ j, j < i ∧ qp (Y j) = g)) → ∃ M', lp (fun k x => t_X6_partsFound_7 LM e (fun x1 x2 => k (x1, x2)) x.1 x.2) F (nI M, nI i) = some (nI M') ∧ M' < 2 ^ 24 ∧ ∀ g, M'.testBit g = true ↔ (m.testBit g = true ∨ ∃ i, i < s ∧ qp (Y i) = g) := by
    intro n
    induction n with
    | zero =>
      intro i F M hi hF hM hg
      obtain ⟨F, rfl⟩ : ∃ G, F = G + 1 := ⟨F - 1, by omega⟩
      have : i = s := by omega
      subst this
      refine ⟨M, ?_, hM, hg⟩
      show t_X6_partsFound_7 LM e (fun x1 x2 => lp _ F (x1, x2)) (nI M) (nI i) = _
      rw [t_X6_partsFound_7, a1, if_pos (nI_le (by omega) (by omega))]
    | succ n ih =>
      intro i F M hi hF hM hg
      obtain ⟨F, rfl⟩ : ∃ G, F = G + 1 := ⟨F - 1, by omega⟩
      obtain ⟨b1, b2, _⟩ := a3 i (by omega)
      have b2' : gA e (32 * 0 + 19) i = nI (Y i) := b2
      have hp := b1.1
      show ∃ v, t_X6_partsFound_7 LM e (fun x1 x2 => lp _ F (x1, x2)) (nI M) (nI i) = some (nI v) ∧ _
      rw [t_X6_partsFound_7, a1, if_neg (nI_ge (by omega) (by omega)), LM19, gdi (by omega) (by omega), ix_nI (by omega), b2', partOf_q (VQ_lt hr.v b1), ob, bit_e _ (by omega), nx_or, bd_q, nI_1]
      refine ih _ _ _ (by omega) (by omega) (Nat.or_lt_two_pow hM (Nat.pow_lt_pow_right (by decide) (by omega))) (fun g => ?_)
      rw [Nat.testBit_or, Bool.or_eq_true, hg g, Nat.testBit_two_pow, decide_eq_true_eq]
      constructor
      · rintro ((q | ⟨j, q1, q2⟩) | q)
        · exact .inl q
        · exact .inr ⟨j, by omega, q2⟩
        · exact .inr ⟨i, by omega, q⟩
      · rintro (q | ⟨j, q1, q2⟩)
        · exact .inl (.inl q)
        · by_cases z : j = i
          · rw [z] at q2; exact .inr q2
          · exact .inl (.inr ⟨j, by omega, q2⟩)
  unfold t_X6_partsFound
  rw [bd_q, a9]
  exact main s 0 FU m (by omega) (by unfold FU; omega) a10 (fun g => ⟨.inl, fun q => q.elim id (fun ⟨j, hj, _⟩ => by omega)⟩)
