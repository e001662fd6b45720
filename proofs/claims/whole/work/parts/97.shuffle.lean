/-! ===== shuffle ===== -/
theorem Ld_nb {w w' : Nat → Int32} (h : NBK w w') (hv : VB w) (p q : Nat) : Ld w' p q ↔ Ld w p q := by
  obtain ⟨_, hP, hx⟩ := VB_nb h hv
  have P24 := hv.P.2
  unfold Ld
  rw [hP]
  by_cases hp : p < bP w
  · have C7 := (hv.2.2.2 p hp).C.2
    obtain ⟨hE, _, hC⟩ := hx p (by omega)
    rw [hE, hC, h (104 + p) (by omega) (by omega) (by omega), h (128 + p) (by omega) (by omega) (by omega)]
    constructor
    · rintro ⟨a, b | ⟨c, c1, c2⟩⟩
      · exact ⟨a, .inl b⟩
      · exact ⟨a, .inr ⟨c, c1, by rw [h _ (by omega) (by omega) (by omega)] at c2; exact c2⟩⟩
    · rintro ⟨a, b | ⟨c, c1, c2⟩⟩
      · exact ⟨a, .inl b⟩
      · exact ⟨a, .inr ⟨c, c1, by rw [h _ (by omega) (by omega) (by omega)]; exact c2⟩⟩
  · exact ⟨fun z => absurd z.1 hp, fun z => absurd z.1 hp⟩
theorem NQ_nb {w w' : Nat → Int32} (h : NBK w w') (hv : VB w) (N : Nat → Nat) (dd : Nat) : NQ w' N dd = NQ w N dd := by
  funext a b
  apply propext
  unfold NQ
  rw [Ld_nb h hv, Ld_nb h hv]
theorem S1_le {f : Nat → Nat → Prop} {a : Nat} : ∀ (n b : Nat), S1 f a n b ≤ n := by
  intro n
  induction n with
  | zero => intro b; exact Nat.le_refl _
  | succ n ih =>
    intro b
    have := ih (b + 1)
    have h1 : c1 (f a b) ≤ 1 := by
      rcases Classical.em (f a b) with z | z
      · rw [c1_t z]; omega
      · rw [c1_f z]; omega
    show c1 (f a b) + S1 f a n (b + 1) ≤ _
    omega
theorem S2_le {f : Nat → Nat → Prop} {N : Nat} (hN : N ≤ 24) : ∀ (n a : Nat), S2 f N n a ≤ 24 * n := by
  intro n
  induction n with
  | zero => intro a; exact Nat.le_refl _
  | succ n ih =>
    intro a
    have h1 := ih (a + 1)
    have h2 := S1_le (f := f) (a := a) (N - (a + 1)) (a + 1)
    show S1 f a (N - (a + 1)) (a + 1) + S2 f N n (a + 1) ≤ _
    omega
/-- a row of numbers: 1 to P, each once -/
def PM (P : Nat) (f : Nat → Int32) : Prop := (∀ p, p < P → ∃ n, n < P ∧ f p = nI (n + 1)) ∧ ∀ p q, p < P → q < P → f p = f q → p = q
theorem PM.sw {P k o : Nat} {f g : Nat → Int32} (h : PM P f) (hk : k < P) (ho : o < P) (hg : ∀ p, p < P → g p = if p = o then f k else if p = k then f o else f p) : PM P g := by
  refine ⟨fun p hp => ?_, fun p q hp hq e => ?_⟩
  · rw [hg p hp]
    split
    · exact h.1 k hk
    · split
      · exact h.1 o ho
      · exact h.1 p hp
  · rw [hg p hp, hg q hq] at e
    have e1 : ∀ p, p < P → ∃ p', p' < P ∧ (if p = o then f k else if p = k then f o else f p) = f p' ∧ ((p = o ∧ p' = k) ∨ (p ≠ o ∧ p = k ∧ p' = o) ∨ (p ≠ o ∧ p ≠ k ∧ p' = p)) := by
      intro p hp
      by_cases a : p = o
      · exact ⟨k, hk, by rw [if_pos a], .inl ⟨a, rfl⟩⟩
      · by_cases b : p = k
        · exact ⟨o, ho, by rw [if_neg a, if_pos b], .inr (.inl ⟨a, b, rfl⟩)⟩
        · exact ⟨p, hp, by rw [if_neg a, if_neg b], .inr (.inr ⟨a, b, rfl⟩)⟩
    obtain ⟨p', p1, p2, p3⟩ := e1 p hp
    obtain ⟨q', q1, q2, q3⟩ := e1 q hq
    rw [p2, q2] at e
    have := h.2 p' q' p1 q1 e
    omega
theorem PM_cg {P : Nat} {f g : Nat → Int32} (h : PM P f) (e : ∀ p, p < P → g p = f p) : PM P g := by
  refine ⟨fun p hp => by rw [e p hp]; exact h.1 p hp, fun p q hp hq z => ?_⟩
  rw [e p hp, e q hq] at z
  exact h.2 p q hp hq z
/-- class and reference amid shuffling -/
def SR (d dm e em : Dt) (P : Nat) : Prop := (∃ j, j < 2 ^ 31 ∧ gF e 2 2 = nI j ∧ gA em 0 2 = nI j) ∧ (∀ x j, ¬ (x = 2 ∧ j = 2) → gF e x j = gF d x j) ∧ (∀ a i, a ≠ 32 * 0 + 9 → a ≠ 32 * 2 + 1 → gA e a i = gA d a i) ∧ (∀ o, gF em o = gF dm o) ∧ (∀ a i, a ≠ 29 → (a ≠ 0 ∨ ¬ (i = 2 ∨ (152 ≤ i ∧ i < 176))) → gA em a i = gA dm a i) ∧ (∀ p, p < P → gA e (32 * 0 + 9) p = gA em 0 (152 + p)) ∧ PM P (fun p => gA em 0 (152 + p)) ∧ (∀ p, p < P → gA e (32 * 2 + 1) p = gA em 29 p) ∧ PM P (fun p => gA em 29 p)
theorem SR.nbk {d dm e em : Dt} {P : Nat} (h : SR d dm e em P) : NBK (wOf dm) (wOf em) := fun i h1 h2 h3 => h.2.2.2.2.1 0 i (by decide) (.inr (by omega))
/-- mixing -/
theorem mix_q {L : Nat → Nat} {d dm : Dt} {P : Nat} {p1 p2 x3 x4 : Int32} (hP : P ≤ 24) (hL : L (32 * 0 + 9) = 24) (K70 : Int32 → Int32 → Dt → Option (Int32 × Dt)) : ∀ (m F G : Nat) (e em : Dt), m < P → m < F → m < G → SR d dm e em P → ∃ e' em', lp (fun k x => t_X5_mixTriedNumbers_13 L (fun x1 d => k (x1, d)) x.1 x.2) F (nI m, e) = some e' ∧ lp (fun k x => t_X6_shuffle_86 LM p1 p2 K70 (fun x3 x4 x5 d => k (x3, x4, x5, d)) x.1 x.2.1 x.2.2.1 x.2.2.2) G (x3, x4, nI m, em) = (t_X6_nearBy LM em' p1).bind (fun v18 => lp (fun k x => t_X6_shuffle_166 LM p1 p2 K70 (fun x3 x4 x5 x6 d => k (x3, x4, x5, x6, d)) x.1 x.2.1 x.2.2.1 x.2.2.2.1 x.2.2.2.2) FU (x3, x4, v18, 0, em')) ∧ SR d dm e' em' P := by
  intro m
  induction m with
  | zero =>
    intro F G e em hm hF hG h
    obtain ⟨F, rfl⟩ : ∃ F', F = F' + 1 := ⟨F - 1, by omega⟩
    obtain ⟨G, rfl⟩ : ∃ F', G = F' + 1 := ⟨G - 1, by omega⟩
    refine ⟨e, em, ?_, ?_, h⟩
    · show t_X5_mixTriedNumbers_13 L (fun x1 d => lp _ F (x1, d)) (nI 0) e = _
      rw [t_X5_mixTriedNumbers_13, if_pos (by decide)]
    · show t_X6_shuffle_86 LM p1 p2 K70 (fun x3 x4 x5 d => lp _ G (x3, x4, x5, d)) x3 x4 (nI 0) em = _
      rw [t_X6_shuffle_86, if_pos (by decide)]
  | succ m ih =>
    intro F G e em hm hF hG h
    obtain ⟨F, rfl⟩ : ∃ F', F = F' + 1 := ⟨F - 1, by omega⟩
    obtain ⟨G, rfl⟩ : ∃ F', G = F' + 1 := ⟨G - 1, by omega⟩
    by_cases m0 : m = 0
    · subst m0
      refine ⟨e, em, ?_, ?_, h⟩
      · show t_X5_mixTriedNumbers_13 L (fun x1 d => lp _ F (x1, d)) (nI (0 + 1)) e = _
        rw [t_X5_mixTriedNumbers_13, if_pos (by decide)]
      · show t_X6_shuffle_86 LM p1 p2 K70 (fun x3 x4 x5 d => lp _ G (x3, x4, x5, d)) x3 x4 (nI (0 + 1)) em = _
        rw [t_X6_shuffle_86, if_pos (by decide)]
    · obtain ⟨⟨j, j1, j2, j3⟩, a2, a3, a4, a5, a6, a7, a8, a9⟩ := h
      have dc := draw_c (L := L) (d := e) (o := 2) (m := m + 1) j2 j1 (by omega) (by omega)
      have dr := draw_m (dm := em) (m := m + 1) (show wOf em 2 = nI j from j3) j1 (by omega) (by omega)
      have hlt : drw j (m + 1) < m + 1 := Nat.mod_lt _ (by omega)
      have hn := nxt_lt j
      have e1 : (1 : Int32) + nI (drw j (m + 1)) = nI (1 + drw j (m + 1)) := nI_add 1 _
      generalize hq : drw j (m + 1) = q at dc dr e1 hlt
      have t1 : gA (sF e 2 2 (nI (nxt j))) (32 * 0 + 9) (m + 1) = gA em 0 (152 + (m + 1)) := a6 _ hm
      have t2 : gA (sF e 2 2 (nI (nxt j))) (32 * 0 + 9) (1 + q) = gA em 0 (152 + (1 + q)) := a6 _ (by omega)
      have u1 : gA (sA em 0 2 (nI (nxt j))) (32 * 0 + 0) (152 + (m + 1)) = gA em 0 (152 + (m + 1)) := by rw [gA_sAi, if_neg (by omega)]
      have u2 : gA (sA em 0 2 (nI (nxt j))) (32 * 0 + 0) (152 + (1 + q)) = gA em 0 (152 + (1 + q)) := by rw [gA_sAi, if_neg (by omega)]
      have cs : t_X5_mixTriedNumbers_13 L (fun x1 d => lp (fun k x => t_X5_mixTriedNumbers_13 L (fun x1 d => k (x1, d)) x.1 x.2) F (x1, d)) (nI (m + 1)) e = lp (fun k x => t_X5_mixTriedNumbers_13 L (fun x1 d => k (x1, d)) x.1 x.2) F (nI m, sA (sA (sF e 2 2 (nI (nxt j))) (32 * 0 + 9) (m + 1) (gA em 0 (152 + (1 + q)))) (32 * 0 + 9) (1 + q) (gA em 0 (152 + (m + 1)))) := by
        rw [t_X5_mixTriedNumbers_13, if_neg (show ¬ nI (m + 1) < 2 from nI_nlt (b := 2) (by omega) (by omega)), dc, ob]
        dsimp only
        rw [e1, bd_q, hL, gdi (show m + 1 < 24 by omega) (by omega), ix_nI (show m + 1 < 2 ^ 31 by omega), t1, bd_q, gdi (show 1 + q < 24 by omega) (by omega), gdi (show m + 1 < 24 by omega) (by omega), ix_nI (show 1 + q < 2 ^ 31 by omega), t2, bd_q, gdi (show 1 + q < 24 by omega) (by omega), bd_q, pk_m1]
      have rs : t_X6_shuffle_86 LM p1 p2 K70 (fun x3 x4 x5 d => lp (fun k x => t_X6_shuffle_86 LM p1 p2 K70 (fun x3 x4 x5 d => k (x3, x4, x5, d)) x.1 x.2.1 x.2.2.1 x.2.2.2) G (x3, x4, x5, d)) x3 x4 (nI (m + 1)) em = lp (fun k x => t_X6_shuffle_86 LM p1 p2 K70 (fun x3 x4 x5 d => k (x3, x4, x5, d)) x.1 x.2.1 x.2.2.1 x.2.2.2) G (x3, x4, nI m, sA (sA (sA em 0 2 (nI (nxt j))) 0 (152 + (m + 1)) (gA em 0 (152 + (1 + q)))) 0 (152 + (1 + q)) (gA em 0 (152 + (m + 1)))) := by
        rw [t_X6_shuffle_86, if_neg (show ¬ nI (m + 1) ≤ 1 from nI_ge (a := 1) (by omega) (by omega)), dr, ob]
        dsimp only
        rw [e1, bd_q, LM0, show (152 : Int32) + nI (m + 1) = nI (152 + (m + 1)) from nI_add 152 _, show (152 : Int32) + nI (1 + q) = nI (152 + (1 + q)) from nI_add 152 _, gdi (show 152 + (m + 1) < 4128 by omega) (by omega), ix_nI (show 152 + (m + 1) < 2 ^ 31 by omega), u1, bd_q, gdi (show 152 + (1 + q) < 4128 by omega) (by omega), gdi (show 152 + (m + 1) < 4128 by omega) (by omega), ix_nI (show 152 + (1 + q) < 2 ^ 31 by omega), u2, bd_q, gdi (show 152 + (1 + q) < 4128 by omega) (by omega), bd_q, pk_m1]
      have hSR : SR d dm (sA (sA (sF e 2 2 (nI (nxt j))) (32 * 0 + 9) (m + 1) (gA em 0 (152 + (1 + q)))) (32 * 0 + 9) (1 + q) (gA em 0 (152 + (m + 1)))) (sA (sA (sA em 0 2 (nI (nxt j))) 0 (152 + (m + 1)) (gA em 0 (152 + (1 + q)))) 0 (152 + (1 + q)) (gA em 0 (152 + (m + 1)))) P := by
        have gm : ∀ p, p < P → gA (sA (sA (sA em 0 2 (nI (nxt j))) 0 (152 + (m + 1)) (gA em 0 (152 + (1 + q)))) 0 (152 + (1 + q)) (gA em 0 (152 + (m + 1)))) 0 (152 + p) = if p = 1 + q then gA em 0 (152 + (m + 1)) else if p = m + 1 then gA em 0 (152 + (1 + q)) else gA em 0 (152 + p) := by
          intro p hp
          rw [gA_sAi]
          by_cases z : p = 1 + q
          · rw [if_pos ⟨rfl, by omega⟩, if_pos z]
          · rw [if_neg (fun y => z (by omega)), if_neg z, gA_sAi]
            by_cases y : p = m + 1
            · rw [if_pos ⟨rfl, by omega⟩, if_pos y]
            · rw [if_neg (fun x => y (by omega)), if_neg y, gA_sAi, if_neg (by omega)]
        refine ⟨⟨nxt j, by omega, by rw [gF_sA, gF_sA, gF_sF1], ?_⟩, fun x i hx => ?_, fun a i h1 h2 => ?_, a4, fun a i h1 h2 => ?_, fun p hp => ?_, ?_, fun p hp => ?_, ?_⟩
        · rw [gA_sAi, if_neg (by omega), gA_sAi, if_neg (by omega), gA_sAi, if_pos ⟨rfl, rfl⟩]
        · rw [gF_sA, gF_sA, gF_sFn hx]; exact a2 x i hx
        · rw [gA_sAi, if_neg (fun y => h1 y.1), gA_sAi, if_neg (fun y => h1 y.1)]; exact a3 a i h1 h2
        · rw [gA_sAi, if_neg (by omega), gA_sAi, if_neg (by omega), gA_sAi, if_neg (by omega)]; exact a5 a i h1 h2
        · rw [gm p hp, gA_sAi]
          by_cases z : p = 1 + q
          · rw [if_pos ⟨rfl, z⟩, if_pos z]
          · rw [if_neg (fun y => z y.2), if_neg z, gA_sAi]
            by_cases y : p = m + 1
            · rw [if_pos ⟨rfl, y⟩, if_pos y]
            · rw [if_neg (fun x => y x.2), if_neg y]; exact a6 p hp
        · exact a7.sw (k := m + 1) (o := 1 + q) hm (by omega) gm
        · rw [gA_sAi, if_neg (fun y => absurd y.1 (by decide)), gA_sAi, if_neg (fun y => absurd y.1 (by decide)), gA_sAi, if_neg (fun y => absurd y.1 (by decide)), gA_sAi, if_neg (fun y => absurd y.1 (by decide)), gA_sAi, if_neg (fun y => absurd y.1 (by decide))]; exact a8 p hp
        · exact PM_cg a9 (fun p _ => by
            show gA (sA (sA (sA em 0 2 _) 0 _ _) 0 _ _) 29 p = gA em 29 p
            rw [gA_sAi, if_neg (fun y => absurd y.1 (by decide)), gA_sAi, if_neg (fun y => absurd y.1 (by decide)), gA_sAi, if_neg (fun y => absurd y.1 (by decide))])
      obtain ⟨e', em', r1, r2, r3⟩ := ih F G _ _ (by omega) (by omega) (by omega) hSR
      exact ⟨e', em', cs.trans r1, rs.trans r2, r3⟩
