/-! ===== pages ===== -/
def lnv (w : Nat → Int32) (p : Nat) : Int32 := if w (8 + p) = 3 then ((2 + w (32 + p)) + (2 * w (56 + p))) + 2 else ((2 + w (32 + p)) + (2 * w (56 + p))) + 0
theorem linesOf_q {dm : Dt} {p : Nat} (hp : p < 24) : t_X6_linesOf LM dm (nI p) = some (lnv (wOf dm) p) := by
  unfold t_X6_linesOf lnv
  rw [LM0, show (32 : Int32) + nI p = nI (32 + p) from nI_add 32 p, show (56 : Int32) + nI p = nI (56 + p) from nI_add 56 p, show (8 : Int32) + nI p = nI (8 + p) from nI_add 8 p, gdi (show 32 + p < 4128 by omega) (by omega), gdi (show 56 + p < 4128 by omega) (by omega), gdi (show 8 + p < 4128 by omega) (by omega), wg (by omega), wg (by omega), wg (by omega)]
  by_cases c : wOf dm (8 + p) = 3
  · rw [if_pos c, if_pos c]
  · rw [if_neg c, if_neg c]
theorem lines_q {L : Nat → Nat} {d : Dt} {w : Nat → Int32} (hv : VB w) (hb : BK d 6 w) (hl : LB L 6) {p : Nat} (hp : p < bP w) : t_X0_lines L d 6 (nI p) = some (lnv w p) := by
  have hP := hv.P.2
  obtain ⟨b1, b2, b3, _⟩ := hb.2.2 p hp
  obtain ⟨l2, _, _, _, l6, _, _, l9, _⟩ := hl
  unfold t_X0_lines lnv
  rw [hasPart_in hv hb hp, ob, if_neg (show ¬ (1 : Int32) = 0 by decide), l6, l9, l2, gdi (show p < 24 by omega) (by omega), gdi (show p < 24 by omega) (by omega), gdi (show p < 24 by omega) (by omega), ix_nI (by omega), b1, b2, b3]
  by_cases c : w (8 + p) = 3
  · rw [if_pos c, if_pos c]
  · rw [if_neg c, if_neg c]
def LYs (c : Int32) (s : Int32 × Int32) (v : Int32) : Int32 × Int32 := if s.2 ≤ 0 then (s.1, s.2 + v) else if s.2 + v ≤ c then (s.1, s.2 + v) else (s.1 + 1, 0 + v)
def SYs (c : Int32) (f : Nat → Int32) : Nat → Int32 × Int32
  | 0 => (0, 0)
  | i + 1 => LYs c (SYs c f i) (f i)
theorem np_sur {P : Nat} {N : Nat → Nat} (h : ∀ p, p < P → N p < P) (hi : ∀ p q, p < P → q < P → N p = N q → p = q) : ∃ I : Nat → Nat, ∀ i, i < P → I i < P ∧ N (I i) = i := by
  have ex : ∀ i, ∃ p, i < P → p < P ∧ N p = i := fun i => by
    by_cases c : ∃ p, p < P ∧ N p = i
    · obtain ⟨p, hp⟩ := c
      exact ⟨p, fun _ => hp⟩
    · refine ⟨0, fun hiP => ?_⟩
      have := inj_le P (P + 1) (fun p => if p < P then N p else i) (fun a b ha hb e => by
        by_cases x : a < P
        · by_cases y : b < P
          · simp only [if_pos x, if_pos y] at e
            exact hi a b x y e
          · simp only [if_pos x, if_neg y] at e
            exact absurd ⟨a, x, e⟩ c
        · by_cases y : b < P
          · simp only [if_neg x, if_pos y] at e
            exact absurd ⟨b, y, e.symm⟩ c
          · omega) (fun a ha => by
        by_cases x : a < P
        · simp only [if_pos x]; exact h a x
        · simp only [if_neg x]; exact hiP)
      omega
  exact ⟨fun i => Classical.choose (ex i), fun i hi => Classical.choose_spec (ex i) hi⟩
/-- the class: parts in the order of their numbers -/
theorem lay1 {L : Nat → Nat} {c : Int32} {a2 P : Nat} {N : Nat → Nat} (l65 : L (32 * 2 + 1) = 24) (l72 : L (32 * 2 + 8) = 24) (hP : P ≤ 24) (hN : ∀ p, p < P → N p < P) (hi : ∀ p q, p < P → q < P → N p = N q → p = q) : ∀ (n p F : Nat) (d e : Dt), p + n = P → n < F → gF d (2 + 4) 0 = nI P → (∀ q, q < P → gA d (32 * 2 + 1) q = nI (N q + 1)) → (∀ o, gF e o = gF d o) → (∀ a j, a ≠ 72 → gA e a j = gA d a j) → (∀ q, q < p → gA e (32 * 2 + 8) (N q) = nI q) → ∃ e', lp (fun k x => t_X2_layPages_2 L 2 c a2 (fun x3 d => k (x3, d)) x.1 x.2) F (nI p, e) = t_X2_layPages_55 L 2 c a2 e' ∧ (∀ o, gF e' o = gF d o) ∧ (∀ a j, a ≠ 72 → gA e' a j = gA d a j) ∧ ∀ q, q < P → gA e' (32 * 2 + 8) (N q) = nI q := by
  intro n
  induction n with
  | zero =>
    intro p F d e hp hF h0 hn h1 h2 h3
    obtain ⟨F, rfl⟩ : ∃ G, F = G + 1 := ⟨F - 1, by omega⟩
    refine ⟨e, ?_, h1, h2, fun q hq => h3 q (by omega)⟩
    have le : nI P ≤ nI p := nI_le (by omega) (by omega)
    show t_X2_layPages_2 L 2 c a2 (fun x3 d => lp _ F (x3, d)) (nI p) e = _
    rw [t_X2_layPages_2, h1, h0, if_pos le]
  | succ n ih =>
    intro p F d e hp hF h0 hn h1 h2 h3
    obtain ⟨F, rfl⟩ : ∃ G, F = G + 1 := ⟨F - 1, by omega⟩
    have nle : ¬ nI P ≤ nI p := nI_ge (by omega) (by omega)
    have nl2 : ¬ (24 : Int32) ≤ nI p := nI_ge (b := 24) (by omega) (by decide)
    have hNp := hN p (by omega)
    have e1 : nI (N p + 1) - 1 = nI (N p) := nI_pred (N p)
    have nl3 : ¬ (24 : Int32) ≤ nI (N p) := nI_ge (b := 24) (by omega) (by decide)
    show ∃ e', t_X2_layPages_2 L 2 c a2 (fun x3 d => lp _ F (x3, d)) (nI p) e = _ ∧ _
    rw [t_X2_layPages_2, h1, h0, if_neg nle, if_neg nl2, l65, gdi (show p < 24 by omega) (by omega), ix_nI (by omega), h2 _ _ (by decide), hn p (by omega), e1, bd_q, if_neg (nI_pos (by omega)), if_neg nl3, l72, gdi (show N p < 24 by omega) (by omega), bd_q, ix_nI (by omega), t_X2_layPages_49, nI_1]
    refine ih (p + 1) F d _ (by omega) (by omega) h0 hn h1 (fun a j ha => by rw [gA_sAi, if_neg (fun y => ha y.1)]; exact h2 a j ha) (fun q hq => ?_)
    rw [gA_sAi]
    by_cases z : q = p
    · rw [if_pos ⟨rfl, by rw [z]⟩, z]
    · rw [if_neg (fun y => z (hi q p (by omega) (by omega) y.2))]; exact h3 q (by omega)
theorem lay2 {L : Nat → Nat} {c : Int32} {w : Nat → Int32} {I : Nat → Nat} (hv : VB w) (hl : LB L 6) (l72 : L (32 * 2 + 8) = 24) (l10 : L (32 * 0 + 10) = 24) (hI : ∀ i, i < bP w → I i < bP w) (hi : ∀ i j, i < bP w → j < bP w → I i = I j → i = j) : ∀ (n i F : Nat) (d e : Dt), i + n = bP w → n < F → BK d 6 w → (∀ j, j < bP w → gA d (32 * 2 + 8) j = nI (I j)) → (∀ o, gF e o = gF d o) → (∀ a j, a ≠ 10 → gA e a j = gA d a j) → (∀ j, j < i → gA e (32 * 0 + 10) (I j) = (SYs c (fun i => lnv w (I i)) (j + 1)).1) → ∃ e', lp (fun k x => t_X2_layPages_63 L 2 c (32 * 0 + 10) (fun x3 x4 x5 d => k (x3, x4, x5, d)) x.1 x.2.1 x.2.2.1 x.2.2.2) F ((SYs c (fun i => lnv w (I i)) i).1, (SYs c (fun i => lnv w (I i)) i).2, nI i, e) = some e' ∧ (∀ o, gF e' o = gF d o) ∧ (∀ a j, a ≠ 10 → gA e' a j = gA d a j) ∧ ∀ j, j < bP w → gA e' (32 * 0 + 10) (I j) = (SYs c (fun i => lnv w (I i)) (j + 1)).1 := by
  have hP := hv.P
  intro n
  induction n with
  | zero =>
    intro i F d e hn hF hb h8 h1 h2 h3
    obtain ⟨F, rfl⟩ : ∃ G, F = G + 1 := ⟨F - 1, by omega⟩
    refine ⟨e, ?_, h1, h2, fun q hq => h3 q (by omega)⟩
    have le : nI (bP w) ≤ nI i := nI_le (by omega) (by omega)
    have h0 : gF d (2 + 4) 0 = nI (bP w) := by rw [← hP.1]; exact hb.1
    show t_X2_layPages_63 L 2 c (32 * 0 + 10) (fun x3 x4 x5 d => lp _ F (x3, x4, x5, d)) _ _ (nI i) e = _
    rw [t_X2_layPages_63, h1, h0, if_pos le]
  | succ n ih =>
    intro i F d e hn hF hb h8 h1 h2 h3
    obtain ⟨F, rfl⟩ : ∃ G, F = G + 1 := ⟨F - 1, by omega⟩
    have nle : ¬ nI (bP w) ≤ nI i := nI_ge (by omega) (by omega)
    have nl2 : ¬ (24 : Int32) ≤ nI i := nI_ge (b := 24) (by omega) (by decide)
    have h0 : gF d (2 + 4) 0 = nI (bP w) := by rw [← hP.1]; exact hb.1
    have hIi := hI i (by omega)
    have hbe : BK e 6 w := BK_congr (d := d) ⟨fun j => congrFun (h1 6) j, fun j hj i => h2 _ i (by omega)⟩ (fun _ _ _ => rfl) hv hb
    have ln : t_X0_lines L e (2 + 4) (nI (I i)) = some (lnv w (I i)) := lines_q hv hbe hl hIi
    -- what is left, once the state is laid
    have go : ∀ s : Int32 × Int32, s.1 = (SYs c (fun i => lnv w (I i)) (i + 1)).1 → s.2 = (SYs c (fun i => lnv w (I i)) (i + 1)).2 → ∃ e', lp (fun k x => t_X2_layPages_63 L 2 c (32 * 0 + 10) (fun x3 x4 x5 d => k (x3, x4, x5, d)) x.1 x.2.1 x.2.2.1 x.2.2.2) F (s.1, s.2, nI (i + 1), sA e (32 * 0 + 10) (I i) s.1) = some e' ∧ (∀ o, gF e' o = gF d o) ∧ (∀ a j, a ≠ 10 → gA e' a j = gA d a j) ∧ ∀ j, j < bP w → gA e' (32 * 0 + 10) (I j) = (SYs c (fun i => lnv w (I i)) (j + 1)).1 := by
      intro s s1 s2
      rw [s1, s2]
      refine ih (i + 1) F d _ (by omega) (by omega) hb h8 h1 (fun a j ha => by rw [gA_sAi, if_neg (fun y => ha y.1)]; exact h2 a j ha) (fun q hq => ?_)
      rw [gA_sAi]
      by_cases z : q = i
      · rw [if_pos ⟨rfl, by rw [z]⟩, z]
      · rw [if_neg (fun y => z (hi q i (by omega) (by omega) y.2))]; exact h3 q (by omega)
    have ey : SYs c (fun i => lnv w (I i)) (i + 1) = LYs c (SYs c (fun i => lnv w (I i)) i) (lnv w (I i)) := rfl
    rw [ey] at go
    generalize SYs c (fun i => lnv w (I i)) i = st at go
    show ∃ e', t_X2_layPages_63 L 2 c (32 * 0 + 10) (fun x3 x4 x5 d => lp _ F (x3, x4, x5, d)) st.1 st.2 (nI i) e = _ ∧ _
    rw [t_X2_layPages_63, h1, h0, if_neg nle, if_neg nl2, l72, gdi (show i < 24 by omega) (by omega), ix_nI (by omega), h2 _ _ (by decide), h8 i (by omega), bd_q, ln, ob]
    unfold LYs at go
    have st8 : ∀ x3 x4 : Int32, t_X2_layPages_122 L 2 c (32 * 0 + 10) (fun x3 x4 x5 d => lp (fun k x => t_X2_layPages_63 L 2 c (32 * 0 + 10) (fun x3 x4 x5 d => k (x3, x4, x5, d)) x.1 x.2.1 x.2.2.1 x.2.2.2) F (x3, x4, x5, d)) x3 x4 (nI i) (nI (I i)) (lnv w (I i)) e = lp (fun k x => t_X2_layPages_63 L 2 c (32 * 0 + 10) (fun x3 x4 x5 d => k (x3, x4, x5, d)) x.1 x.2.1 x.2.2.1 x.2.2.2) F (x3, x4 + lnv w (I i), nI (i + 1), sA e (32 * 0 + 10) (I i) x3) := by
      intro x3 x4
      rw [t_X2_layPages_122, bd_q, l10, gdi (show I i < 24 by omega) (by omega), bd_q, ix_nI (by omega), nI_1]
    by_cases c1 : st.2 ≤ 0
    · rw [if_pos c1] at go
      rw [if_pos c1, st8]
      exact go (st.1, st.2 + lnv w (I i)) rfl rfl
    · rw [if_neg c1] at go
      rw [if_neg c1]
      by_cases c2 : st.2 + lnv w (I i) ≤ c
      · rw [if_pos c2] at go
        rw [if_pos c2, st8]
        exact go (st.1, st.2 + lnv w (I i)) rfl rfl
      · rw [if_neg c2] at go
        rw [if_neg c2, st8]
        exact go (st.1 + 1, 0 + lnv w (I i)) rfl rfl
theorem lay_q {L : Nat → Nat} {d : Dt} {c : Int32} {w : Nat → Int32} {I N : Nat → Nat} (hv : VB w) (hb : BK d 6 w) (hl : LB L 6) (l65 : L (32 * 2 + 1) = 24) (l72 : L (32 * 2 + 8) = 24) (l10 : L (32 * 0 + 10) = 24) (hn : ∀ q, q < bP w → gA d (32 * 2 + 1) q = nI (N q + 1)) (hN : ∀ p, p < bP w → N p < bP w) (hi : ∀ p q, p < bP w → q < bP w → N p = N q → p = q) (hI : ∀ i, i < bP w → I i < bP w ∧ N (I i) = i) : ∃ e, t_X2_layPages L d 2 c (32 * 0 + 10) = some e ∧ (∀ o, gF e o = gF d o) ∧ (∀ a j, a ≠ 72 → a ≠ 10 → gA e a j = gA d a j) ∧ ∀ p, p < bP w → gA e (32 * 0 + 10) p = (SYs c (fun i => lnv w (I i)) (N p + 1)).1 := by
  have hP := hv.P
  have h0 : gF d (2 + 4) 0 = nI (bP w) := by rw [← hP.1]; exact hb.1
  obtain ⟨d1, r1, r2, r3, r4⟩ := lay1 (c := c) (a2 := 32 * 0 + 10) l65 l72 hP.2 hN hi (bP w) 0 FU d d (by omega) (by unfold FU; omega) h0 hn (fun _ => rfl) (fun _ _ _ => rfl) (fun q hq => by omega)
  have hb1 : BK d1 6 w := BK_congr (d := d) ⟨fun j => congrFun (r2 6) j, fun j hj i => r3 _ i (by omega)⟩ (fun _ _ _ => rfl) hv hb
  obtain ⟨e, s1, s2, s3, s4⟩ := lay2 (c := c) hv hl l72 l10 (fun i hi => (hI i hi).1) (fun i j h1 h2 q => by
    have a := (hI i h1).2
    have b := (hI j h2).2
    rw [← a, ← b, q]) (bP w) 0 FU d1 d1 (by omega) (by unfold FU; omega) hb1 (fun j hj => by
      have := r4 (I j) (hI j hj).1
      rw [(hI j hj).2] at this
      exact this) (fun _ => rfl) (fun _ _ _ => rfl) (fun q hq => by omega)
  refine ⟨e, ?_, fun o => (s2 o).trans (r2 o), fun a j h1 h2 => (s3 a j h2).trans (r3 a j h1), fun p hp => ?_⟩
  · unfold t_X2_layPages
    exact r1.trans s1
  · have := s4 (N p) (hN p hp)
    rw [hi (I (N p)) p (hI _ (hN p hp)).1 hp (hI _ (hN p hp)).2] at this
    exact this
/-- the reference -/
theorem pageOf_in {dm : Dt} {c p1 : Int32} {I N : Nat → Nat} (hv : VB (wOf dm)) (hn : ∀ q, q < bP (wOf dm) → wOf dm (152 + q) = nI (N q + 1)) (hN : ∀ p, p < bP (wOf dm) → N p < bP (wOf dm)) (hi : ∀ p q, p < bP (wOf dm) → q < bP (wOf dm) → N p = N q → p = q) (hI : ∀ i, i < bP (wOf dm) → I i < bP (wOf dm) ∧ N (I i) = i) (K8 : Int32 → Int32 → Int32 → Option Int32) {i : Nat} (hii : i < bP (wOf dm)) : ∀ (n j F : Nat) (s : Int32 × Int32), j + n = bP (wOf dm) → n < F → s = (if j ≤ I i then SYs c (fun i => lnv (wOf dm) (I i)) i else SYs c (fun i => lnv (wOf dm) (I i)) (i + 1)) → lp (fun k x => t_X6_pageOf_26 LM dm p1 c K8 (fun x3 x4 x5 x6 => k (x3, x4, x5, x6)) x.1 x.2.1 x.2.2.1 x.2.2.2) F (s.1, s.2, nI (i + 1), nI j) = K8 (SYs c (fun i => lnv (wOf dm) (I i)) (i + 1)).1 (SYs c (fun i => lnv (wOf dm) (I i)) (i + 1)).2 (nI (i + 2)) := by
  have hP := hv.P
  have hIi := hI i hii
  intro n
  induction n with
  | zero =>
    intro j F s hj hF hs
    obtain ⟨F, rfl⟩ : ∃ G, F = G + 1 := ⟨F - 1, by omega⟩
    have le : nI (bP (wOf dm)) ≤ nI j := nI_le (by omega) (by omega)
    rw [if_neg (by omega)] at hs
    show t_X6_pageOf_26 LM dm p1 c K8 (fun x3 x4 x5 x6 => lp _ F (x3, x4, x5, x6)) s.1 s.2 (nI (i + 1)) (nI j) = _
    rw [t_X6_pageOf_26, LM0, gd_h (show inb 0 4128 = true by decide), show gA dm (32 * 0 + 0) (ix 0) = wOf dm 0 from rfl, hP.1, if_pos le, hs, nI_1]
  | succ n ih =>
    intro j F s hj hF hs
    obtain ⟨F, rfl⟩ : ∃ G, F = G + 1 := ⟨F - 1, by omega⟩
    have nle : ¬ nI (bP (wOf dm)) ≤ nI j := nI_ge (by omega) (by omega)
    have hNj := hN j (by omega)
    show t_X6_pageOf_26 LM dm p1 c K8 (fun x3 x4 x5 x6 => lp _ F (x3, x4, x5, x6)) s.1 s.2 (nI (i + 1)) (nI j) = _
    rw [t_X6_pageOf_26, LM0, gd_h (show inb 0 4128 = true by decide), show gA dm (32 * 0 + 0) (ix 0) = wOf dm 0 from rfl, hP.1, if_neg nle, show (152 : Int32) + nI j = nI (152 + j) from nI_add 152 j, gdi (show 152 + j < 4128 by omega) (by omega), wg (by omega), hn j (by omega)]
    by_cases z : j = I i
    · have e1 : N j = i := by rw [z]; exact hIi.2
      rw [if_pos (by rw [e1]), linesOf_q (by omega), ob]
      rw [if_pos (by omega)] at hs
      have nx := fun s' hs' => ih (j + 1) F s' (by omega) (by omega) hs'
      rw [if_neg (by omega), show SYs c (fun i => lnv (wOf dm) (I i)) (i + 1) = LYs c (SYs c (fun i => lnv (wOf dm) (I i)) i) (lnv (wOf dm) (I i)) from rfl, ← hs, ← z] at nx
      rw [show SYs c (fun i => lnv (wOf dm) (I i)) (i + 1) = LYs c (SYs c (fun i => lnv (wOf dm) (I i)) i) (lnv (wOf dm) (I i)) from rfl, ← hs, ← z]
      unfold LYs at nx ⊢
      by_cases c1 : s.2 ≤ 0
      · rw [if_pos c1] at nx ⊢
        rw [if_pos c1, t_X6_pageOf_81, bd_q, t_X6_pageOf_88, nI_1]
        exact nx _ rfl
      · rw [if_neg c1] at nx ⊢
        rw [if_neg c1]
        by_cases c2 : s.2 + lnv (wOf dm) j ≤ c
        · rw [if_pos c2] at nx ⊢
          rw [if_pos c2, t_X6_pageOf_81, bd_q, t_X6_pageOf_88, nI_1]
          exact nx _ rfl
        · rw [if_neg c2] at nx ⊢
          rw [if_neg c2, t_X6_pageOf_81, bd_q, t_X6_pageOf_88, nI_1]
          exact nx _ rfl
    · have ne : ¬ nI (N j + 1) = nI (i + 1) := fun q => by
        have := nI_inj (by omega) (by omega) q
        exact z (hi j (I i) (by omega) hIi.1 (by rw [hIi.2]; omega))
      rw [if_neg ne, t_X6_pageOf_88, nI_1]
      refine ih (j + 1) F s (by omega) (by omega) (hs.trans ?_)
      by_cases y : j ≤ I i
      · rw [if_pos y, if_pos (by omega)]
      · rw [if_neg y, if_neg (by omega)]
theorem pageOf_q {dm : Dt} {c : Int32} {I N : Nat → Nat} (hv : VB (wOf dm)) (hn : ∀ q, q < bP (wOf dm) → wOf dm (152 + q) = nI (N q + 1)) (hN : ∀ p, p < bP (wOf dm) → N p < bP (wOf dm)) (hi : ∀ p q, p < bP (wOf dm) → q < bP (wOf dm) → N p = N q → p = q) (hI : ∀ i, i < bP (wOf dm) → I i < bP (wOf dm) ∧ N (I i) = i) {p : Nat} (hp : p < bP (wOf dm)) : t_X6_pageOf LM dm (nI p) c = some (SYs c (fun i => lnv (wOf dm) (I i)) (N p + 1)).1 := by
  have hP := hv.P
  have hNp := hN p hp
  have main : ∀ (n i F : Nat), i + n = N p + 1 → n < F → lp (fun k x => t_X6_pageOf_8 LM dm (nI p) c (fun x3 x4 x5 => k (x3, x4, x5)) x.1 x.2.1 x.2.2) F ((SYs c (fun i => lnv (wOf dm) (I i)) i).1, (SYs c (fun i => lnv (wOf dm) (I i)) i).2, nI (i + 1)) = some (SYs c (fun i => lnv (wOf dm) (I i)) (N p + 1)).1 := by
    intro n
    induction n with
    | zero =>
      intro i F h1 hF
      obtain ⟨F, rfl⟩ : ∃ G, F = G + 1 := ⟨F - 1, by omega⟩
      have e : i = N p + 1 := by omega
      subst e
      have lt : nI (N p + 1) < nI (N p + 1 + 1) := nI_lt (by omega) (by omega)
      show t_X6_pageOf_8 LM dm (nI p) c (fun x3 x4 x5 => lp _ F (x3, x4, x5)) _ _ (nI (N p + 1 + 1)) = _
      rw [t_X6_pageOf_8, LM0, show (152 : Int32) + nI p = nI (152 + p) from nI_add 152 p, gdi (show 152 + p < 4128 by omega) (by omega), wg (by omega), hn p hp, if_pos lt]
    | succ n ih =>
      intro i F h1 hF
      obtain ⟨F, rfl⟩ : ∃ G, F = G + 1 := ⟨F - 1, by omega⟩
      have lt : ¬ nI (N p + 1) < nI (i + 1) := nI_nlt (by omega) (by omega)
      show t_X6_pageOf_8 LM dm (nI p) c (fun x3 x4 x5 => lp _ F (x3, x4, x5)) _ _ (nI (i + 1)) = _
      rw [t_X6_pageOf_8, LM0, show (152 : Int32) + nI p = nI (152 + p) from nI_add 152 p, gdi (show 152 + p < 4128 by omega) (by omega), wg (by omega), hn p hp, if_neg lt]
      have := pageOf_in (c := c) (p1 := nI p) hv hn hN hi hI (fun x3 x4 x5 => lp (fun k x => t_X6_pageOf_8 LM dm (nI p) c (fun x3 x4 x5 => k (x3, x4, x5)) x.1 x.2.1 x.2.2) F (x3, x4, x5)) (i := i) (by omega) (bP (wOf dm)) 0 FU (SYs c (fun i => lnv (wOf dm) (I i)) i) (by omega) (by unfold FU; omega) (by rw [if_pos (Nat.zero_le _)])
      exact this.trans (ih (i + 1) F (by omega) (by omega))
  unfold t_X6_pageOf
  exact main (N p + 1) 0 FU (by omega) (by unfold FU; omega)
theorem np_all {w : Nat → Int32} (hv : VB w) (h : NP w) : ∃ N I : Nat → Nat, (∀ q, q < bP w → w (152 + q) = nI (N q + 1)) ∧ (∀ p, p < bP w → N p < bP w) ∧ (∀ p q, p < bP w → q < bP w → N p = N q → p = q) ∧ ∀ i, i < bP w → I i < bP w ∧ N (I i) = i := by
  have hfn := NP.fn hv h
  have inj : ∀ p q, p < bP w → q < bP w → ix (w (152 + p)) - 1 = ix (w (152 + q)) - 1 → p = q := fun p q hp hq e => h.2 p q hp hq (by rw [(hfn p hp).1, (hfn q hq).1, e])
  obtain ⟨I, hI⟩ := np_sur (P := bP w) (N := fun p => ix (w (152 + p)) - 1) (fun p hp => (hfn p hp).2) inj
  exact ⟨fun p => ix (w (152 + p)) - 1, I, fun q hq => (hfn q hq).1, fun p hp => (hfn p hp).2, inj, hI⟩
theorem RLx.pg {L : Nat → Nat} {d d' dm : Dt} {k n : Nat} (h : RLx L d dm k n) (r2 : ∀ o, gF d' o = gF d o) (r3 : ∀ a j, a ≠ 72 → a ≠ 10 → gA d' a j = gA d a j) : RLx L d' dm k n := by
  have ag : ∀ x, x ≠ 0 → x ≠ 2 → AG d d' x := fun x h0 h2 => ⟨fun i => congrFun (r2 x) i, fun i hi q => r3 _ q (by omega) (by omega)⟩
  exact h.l2 (SI_num h.2.1 (fun _ _ _ _ => rfl) (ag 6 (by decide) (by decide)) (fun i _ => congrFun (r2 2) i) (fun j i hj h1 h8 => r3 _ _ (by omega) (by omega)) ((congrFun (r2 2) 2).trans h.2.1.2.2.1) h.2.1.2.2.2.1 (fun p hp => (r3 _ _ (by decide) (by decide)).trans (h.2.1.2.2.2.2.1 p hp))) ag (congrFun (r2 0) 7) (LGR_cg h.2.2.2.2.2.2.2.1 (congrFun (r2 0) 4) (fun i => r3 _ i (by decide) (by decide)) rfl (fun _ => rfl)) (fun _ _ _ _ => rfl) (fun _ _ _ => rfl)
theorem isPage_q {dm : Dt} {x : Int32} : t_X6_isPage LM dm x = some (if (((10 : Nat) : Int) ≤ x.toInt ∧ x.toInt ≤ ((60 : Nat) : Int)) then 1 else 0) := by
  unfold t_X6_isPage
  rw [in_I, Int32.toInt_toInt64, show (10 : Int64).toInt = ((10 : Nat) : Int) from rfl, show (60 : Int64).toInt = ((60 : Nat) : Int) from rfl, ob]
  by_cases c : (((10 : Nat) : Int) ≤ x.toInt ∧ x.toInt ≤ ((60 : Nat) : Int))
  · rw [if_pos c]; rfl
  · rw [if_neg c]; rfl
theorem ok_page : ST_page RLx := by
  intro L d dm k n p1 p2 h
  have hv := h.2.1.1
  have hb : BK d 6 (wOf dm) := h.2.1.2.1
  have hP := hv.P.2
  unfold t_X5_page t_X6_page
  rw [hasPart_eq hv hb, noPart_eq hv, ob, ob]
  by_cases c : inb p1 (bP (wOf dm)) = true
  · obtain ⟨p, hp, rfl⟩ := inb_ex c (by omega)
    rw [if_pos c, if_pos c, if_neg (show ¬ (1 : Int32) = 0 by decide), if_pos rfl, isPage_q, ob]
    rcases cmp1 p2 10 60 10 60 rfl rfl with ⟨a, b⟩ | ⟨a, a2, b⟩ | ⟨a, a2, b, t, ht1, ht, rfl⟩
    · rw [if_pos a, if_neg b, if_pos rfl]; exact ⟨_, d, rfl, rfl, h⟩
    · rw [if_neg a, if_neg a2, if_neg b, if_pos rfl]; exact ⟨_, d, rfl, rfl, h⟩
    · obtain ⟨N, I, n1, n2, n3, n4⟩ := np_all hv h.2.2.1
      have l10 : L (32 * 0 + 10) = 24 := h.1.2.2.2.2.2.2.2.1
      obtain ⟨e, r1, r2, r3, r4⟩ := lay_q (c := nI t) hv hb h.lb h.1.1.2.1 h.1.1.2.2.2 l10 (fun q hq => (h.2.1.2.2.2.2.1 q hq).trans (n1 q hq)) n2 n3 n4
      rw [if_neg a, if_pos a2, if_pos b, if_neg (show ¬ (1 : Int32) = 0 by decide), r1, ob, l10, gdi (show p < 24 by omega) (by omega), ix_nI (by omega), r4 p hp, pageOf_q hv n1 n2 n3 n4 hp, ob]
      exact ⟨_, e, rfl, rfl, h.pg r2 r3⟩
  · rw [if_neg c, if_neg c, if_pos rfl, if_neg (show ¬ (1 : Int32) = 0 by decide)]
    exact ⟨_, d, rfl, rfl, h⟩
