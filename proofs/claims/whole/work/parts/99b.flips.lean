/-! ===== flips ===== -/
theorem flip_in {L : Nat → Nat} {d dm : Dt} {c : Int32} {x P : Nat} {g : Nat → Int32} (hP : P ≤ 24) (hx : x < P) (l71 : L (32 * 2 + 7) = 576) (l10 : L (32 * 0 + 10) = 24) (h0 : gF d (2 + 4) 0 = nI P) (h0m : wOf dm 0 = nI P) (h7 : ∀ i, i < 576 → gA d (32 * 2 + 7) i = wOf dm (800 + i)) (hg : ∀ p, p < P → gA d (32 * 0 + 10) p = g p) (hgm : ∀ p, p < P → t_X6_pageOf LM dm (nI p) c = some (g p)) {K4 K26 : Int32 → Int32 → Option Int32} (hK : ∀ a, K4 a (nI (x + 1)) = K26 a (nI (x + 1))) : ∀ (n y F : Nat) (a : Int32), y + n = P → n < F → lp (fun k x => t_X2_flipsOver_24 L d 2 (32 * 0 + 10) K4 (fun x2 x3 x4 => k (x2, x3, x4)) x.1 x.2.1 x.2.2) F (a, nI x, nI y) = lp (fun k x => t_X6_flips_39 LM dm c K26 (fun x2 x3 x4 => k (x2, x3, x4)) x.1 x.2.1 x.2.2) F (a, nI x, nI y) := by
  intro n
  induction n with
  | zero =>
    intro y F a hy hF
    obtain ⟨F, rfl⟩ : ∃ G, F = G + 1 := ⟨F - 1, by omega⟩
    have le : nI P ≤ nI y := nI_le (by omega) (by omega)
    show t_X2_flipsOver_24 L d 2 (32 * 0 + 10) K4 (fun x2 x3 x4 => lp _ F (x2, x3, x4)) a (nI x) (nI y) = t_X6_flips_39 LM dm c K26 (fun x2 x3 x4 => lp _ F (x2, x3, x4)) a (nI x) (nI y)
    rw [t_X2_flipsOver_24, t_X6_flips_39, h0, if_pos le, LM0, gd_h (show inb 0 4128 = true by decide), show gA dm (32 * 0 + 0) (ix 0) = wOf dm 0 from rfl, h0m, if_pos le, t_X2_flipsOver_76, nI_1]
    exact hK a
  | succ n ih =>
    intro y F a hy hF
    obtain ⟨F, rfl⟩ : ∃ G, F = G + 1 := ⟨F - 1, by omega⟩
    have nle : ¬ nI P ≤ nI y := nI_ge (by omega) (by omega)
    have nl2 : ¬ (24 : Int32) ≤ nI y := nI_ge (b := 24) (by omega) (by decide)
    have e1 : nI x * 24 + nI y = nI (x * 24 + y) := by
      rw [show nI x * 24 = nI (x * 24) from nI_mulN x 24, nI_add]
    have e2 : (800 : Int32) + 24 * nI x + nI y = nI (800 + (x * 24 + y)) := by
      rw [show (24 : Int32) * nI x = nI (24 * x) from nI_mulN 24 x, show (800 : Int32) + nI (24 * x) = nI (800 + 24 * x) from nI_add 800 _, nI_add]
      congr 1
      omega
    show t_X2_flipsOver_24 L d 2 (32 * 0 + 10) K4 (fun x2 x3 x4 => lp _ F (x2, x3, x4)) a (nI x) (nI y) = t_X6_flips_39 LM dm c K26 (fun x2 x3 x4 => lp _ F (x2, x3, x4)) a (nI x) (nI y)
    rw [t_X2_flipsOver_24, t_X6_flips_39, h0, if_neg nle, if_neg nl2, e1, l71, gdi (show x * 24 + y < 576 by omega) (by omega), l10, gdi (show x < 24 by omega) (by omega), gdi (show y < 24 by omega) (by omega), ix_nI (by omega), ix_nI (by omega), ix_nI (by omega), bd_q, h7 _ (by omega), hg x hx, hg y (by omega), LM0, gd_h (show inb 0 4128 = true by decide), show gA dm (32 * 0 + 0) (ix 0) = wOf dm 0 from rfl, h0m, if_neg nle, e2, gdi (show 800 + (x * 24 + y) < 4128 by omega) (by omega), bd_q, wg (by omega), nI_1]
    by_cases z : wOf dm (800 + (x * 24 + y)) = 0
    · rw [if_pos z, t_X6_flips_91, if_pos (show (0 : Int32) ≤ 0 by decide), t_X6_flips_109, bd_q, z, Int32.zero_mul, Int32.zero_mul, nI_1]
      exact ih (y + 1) F _ (by omega) (by omega)
    · rw [if_neg z, hgm x hx, ob, hgm y (by omega), ob, t_X6_flips_91]
      by_cases q : 0 ≤ g x - g y
      · rw [if_pos q, if_pos q, t_X6_flips_109, bd_q, nI_1]
        exact ih (y + 1) F _ (by omega) (by omega)
      · rw [if_neg q, if_neg q, t_X6_flips_109, bd_q, nI_1, Int32.zero_sub]
        exact ih (y + 1) F _ (by omega) (by omega)
theorem flip_all {L : Nat → Nat} {d dm : Dt} {c : Int32} {P : Nat} {g : Nat → Int32} (hP : P ≤ 24) (l71 : L (32 * 2 + 7) = 576) (l10 : L (32 * 0 + 10) = 24) (h0 : gF d (2 + 4) 0 = nI P) (h0m : wOf dm 0 = nI P) (h7 : ∀ i, i < 576 → gA d (32 * 2 + 7) i = wOf dm (800 + i)) (hg : ∀ p, p < P → gA d (32 * 0 + 10) p = g p) (hgm : ∀ p, p < P → t_X6_pageOf LM dm (nI p) c = some (g p)) : ∀ (n x F : Nat) (a : Int32), x + n = P → n < F → lp (fun k x => t_X2_flipsOver_4 L d 2 (32 * 0 + 10) (fun x2 x3 => k (x2, x3)) x.1 x.2) F (a, nI x) = lp (fun k x => t_X6_flips_26 LM dm c (fun x2 x3 => k (x2, x3)) x.1 x.2) F (a, nI x) ∧ ∃ r, lp (fun k x => t_X6_flips_26 LM dm c (fun x2 x3 => k (x2, x3)) x.1 x.2) F (a, nI x) = some r := by
  have ex : ∀ (K26 : Int32 → Int32 → Option Int32) (x : Nat), x < P → (∀ a, ∃ r, K26 a (nI (x + 1)) = some r) → ∀ (n y F : Nat) (a : Int32), y + n = P → n < F → ∃ r, lp (fun k x => t_X6_flips_39 LM dm c K26 (fun x2 x3 x4 => k (x2, x3, x4)) x.1 x.2.1 x.2.2) F (a, nI x, nI y) = some r := by
    intro K26 x hx hK n
    induction n with
    | zero =>
      intro y F a hy hF
      obtain ⟨F, rfl⟩ : ∃ G, F = G + 1 := ⟨F - 1, by omega⟩
      have le : nI P ≤ nI y := nI_le (by omega) (by omega)
      show ∃ r, t_X6_flips_39 LM dm c K26 (fun x2 x3 x4 => lp _ F (x2, x3, x4)) a (nI x) (nI y) = some r
      rw [t_X6_flips_39, LM0, gd_h (show inb 0 4128 = true by decide), show gA dm (32 * 0 + 0) (ix 0) = wOf dm 0 from rfl, h0m, if_pos le, nI_1]
      exact hK a
    | succ n ih =>
      intro y F a hy hF
      obtain ⟨F, rfl⟩ : ∃ G, F = G + 1 := ⟨F - 1, by omega⟩
      have nle : ¬ nI P ≤ nI y := nI_ge (by omega) (by omega)
      have e2 : (800 : Int32) + 24 * nI x + nI y = nI (800 + (x * 24 + y)) := by
        rw [show (24 : Int32) * nI x = nI (24 * x) from nI_mulN 24 x, show (800 : Int32) + nI (24 * x) = nI (800 + 24 * x) from nI_add 800 _, nI_add]
        congr 1
        omega
      show ∃ r, t_X6_flips_39 LM dm c K26 (fun x2 x3 x4 => lp _ F (x2, x3, x4)) a (nI x) (nI y) = some r
      rw [t_X6_flips_39, LM0, gd_h (show inb 0 4128 = true by decide), show gA dm (32 * 0 + 0) (ix 0) = wOf dm 0 from rfl, h0m, if_neg nle, e2, gdi (show 800 + (x * 24 + y) < 4128 by omega) (by omega), bd_q, wg (by omega)]
      by_cases z : wOf dm (800 + (x * 24 + y)) = 0
      · rw [if_pos z, t_X6_flips_91, if_pos (show (0 : Int32) ≤ 0 by decide), t_X6_flips_109, bd_q, nI_1]
        exact ih (y + 1) F _ (by omega) (by omega)
      · rw [if_neg z, hgm x hx, ob, hgm y (by omega), ob, t_X6_flips_91]
        by_cases q : 0 ≤ g x - g y
        · rw [if_pos q, t_X6_flips_109, bd_q, nI_1]
          exact ih (y + 1) F _ (by omega) (by omega)
        · rw [if_neg q, t_X6_flips_109, bd_q, nI_1]
          exact ih (y + 1) F _ (by omega) (by omega)
  intro n
  induction n with
  | zero =>
    intro x F a hy hF
    obtain ⟨F, rfl⟩ : ∃ G, F = G + 1 := ⟨F - 1, by omega⟩
    have le : nI P ≤ nI x := nI_le (by omega) (by omega)
    show t_X2_flipsOver_4 L d 2 (32 * 0 + 10) (fun x2 x3 => lp _ F (x2, x3)) a (nI x) = t_X6_flips_26 LM dm c (fun x2 x3 => lp _ F (x2, x3)) a (nI x) ∧ ∃ r, t_X6_flips_26 LM dm c (fun x2 x3 => lp _ F (x2, x3)) a (nI x) = some r
    rw [t_X2_flipsOver_4, t_X6_flips_26, h0, if_pos le, LM0, gd_h (show inb 0 4128 = true by decide), show gA dm (32 * 0 + 0) (ix 0) = wOf dm 0 from rfl, h0m, if_pos le]
    exact ⟨rfl, _, rfl⟩
  | succ n ih =>
    intro x F a hy hF
    obtain ⟨F, rfl⟩ : ∃ G, F = G + 1 := ⟨F - 1, by omega⟩
    have nle : ¬ nI P ≤ nI x := nI_ge (by omega) (by omega)
    have nl2 : ¬ (24 : Int32) ≤ nI x := nI_ge (b := 24) (by omega) (by decide)
    show t_X2_flipsOver_4 L d 2 (32 * 0 + 10) (fun x2 x3 => lp (fun k x => t_X2_flipsOver_4 L d 2 (32 * 0 + 10) (fun x2 x3 => k (x2, x3)) x.1 x.2) F (x2, x3)) a (nI x) = t_X6_flips_26 LM dm c (fun x2 x3 => lp (fun k x => t_X6_flips_26 LM dm c (fun x2 x3 => k (x2, x3)) x.1 x.2) F (x2, x3)) a (nI x) ∧ ∃ r, t_X6_flips_26 LM dm c (fun x2 x3 => lp (fun k x => t_X6_flips_26 LM dm c (fun x2 x3 => k (x2, x3)) x.1 x.2) F (x2, x3)) a (nI x) = some r
    rw [t_X2_flipsOver_4, t_X6_flips_26, h0, if_neg nle, if_neg nl2, LM0, gd_h (show inb 0 4128 = true by decide), show gA dm (32 * 0 + 0) (ix 0) = wOf dm 0 from rfl, h0m, if_neg nle]
    exact ⟨flip_in hP (by omega) l71 l10 h0 h0m h7 hg hgm (fun a => (ih (x + 1) F a (by omega) (by omega)).1) P 0 FU a (by omega) (by unfold FU; omega), ex _ x (by omega) (fun a => (ih (x + 1) F a (by omega) (by omega)).2) P 0 FU a (by omega) (by unfold FU; omega)⟩
theorem ok_flips : ST_flips RLx := by
  intro L d dm k n p1 h
  have hv := h.2.1.1
  have hb : BK d 6 (wOf dm) := h.2.1.2.1
  have hP := hv.P
  unfold t_X5_flips t_X6_flips
  rw [isPage_q, ob]
  rcases cmp1 p1 10 60 10 60 rfl rfl with ⟨a, b⟩ | ⟨a, a2, b⟩ | ⟨a, a2, b, t, ht1, ht, rfl⟩
  · rw [if_pos a, if_neg b, if_pos rfl]; exact ⟨_, d, rfl, rfl, h⟩
  · rw [if_neg a, if_neg a2, if_neg b, if_pos rfl]; exact ⟨_, d, rfl, rfl, h⟩
  · rw [if_neg a, if_pos a2, if_pos b, if_neg (show ¬ (1 : Int32) = 0 by decide), LM0, gd_h (show inb 3 4128 = true by decide), show gA dm (32 * 0 + 0) (ix 3) = wOf dm 3 from rfl]
    rcases h.2.1.2.2.2.2.2 with ⟨q1, q2⟩ | ⟨q1, p, x, t', q3, _, _, q6⟩
    · rw [q1, q2, if_pos rfl, if_neg (show ¬ (0 : Int32) ≤ -1 by decide)]; exact ⟨_, d, rfl, rfl, h⟩
    · have hp := q3.2.2.2.1
      rw [q1, q3.1, if_neg (show ¬ (1 : Int32) = 0 by decide), if_pos (nI_pos' (by omega))]
      obtain ⟨N, I, n1, n2, n3, n4⟩ := np_all hv h.2.2.1
      have l10 : L (32 * 0 + 10) = 24 := h.1.2.2.2.2.2.2.2.1
      obtain ⟨e, r1, r2, r3, r4⟩ := lay_q (c := nI t) hv hb h.lb h.1.1.2.1 h.1.1.2.2.2 l10 (fun q hq => (h.2.1.2.2.2.2.1 q hq).trans (n1 q hq)) n2 n3 n4
      have h0 : gF e (2 + 4) 0 = nI (bP (wOf dm)) := by rw [r2, ← hP.1]; exact hb.1
      obtain ⟨s1, r, s2⟩ := flip_all (c := nI t) (g := fun p => (SYs (nI t) (fun i => lnv (wOf dm) (I i)) (N p + 1)).1) hP.2 h.1.1.2.2.1 l10 h0 hP.1 (fun i hi => (r3 _ _ (by decide) (by decide)).trans (q6 i hi)) r4 (fun p hp => pageOf_q hv n1 n2 n3 n4 hp) (bP (wOf dm)) 0 FU 0 (by omega) (by unfold FU; omega)
      have s3 : t_X2_flipsOver L e 2 (32 * 0 + 10) = some r := s1.trans s2
      rw [r1, ob, s3, ob]
      exact ⟨r, e, rfl, s2, h.pg r2 r3⟩
