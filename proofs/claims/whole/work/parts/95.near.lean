/-! ===== links, near ===== -/
/-- one can go from p to q, whatever one has -/
def Ld (w : Nat → Int32) (p q : Nat) : Prop := p < bP w ∧ ((bE w p = 3 ∧ (ix (w (104 + p)) = q ∨ ix (w (128 + p)) = q)) ∨ ∃ c, c < bC w p ∧ ix (w (368 + (6 * p + c))) = q)
/-- the rows hold the pairs of Pr -/
def LR (d : Dt) (a0 : Nat) (Pr : Nat → Nat → Prop) : Prop := ∀ a, a < 24 → ∃ m, m < 2 ^ 24 ∧ gA d a0 a = nI m ∧ ∀ b, m.testBit b = true ↔ (a < b ∧ (Pr a b ∨ Pr b a))
theorem addPair_q {L : Nat → Nat} {d : Dt} {a0 p q : Nat} {Pr : Nat → Nat → Prop} (hL : L a0 = 24) (h : LR d a0 Pr) (hp : p < 24) (hq : q < 24) : ∃ d', t_X0_addPair L d a0 (nI p) (nI q) = some d' ∧ (∀ x, gF d' x = gF d x) ∧ (∀ a i, a ≠ a0 → gA d' a i = gA d a i) ∧ LR d' a0 (fun a b => Pr a b ∨ (a = p ∧ b = q)) := by
  have wk : ∀ (d' : Dt) (P' : Nat → Nat → Prop), (∀ a b, a < b → ((Pr a b ∨ Pr b a) ↔ (P' a b ∨ P' b a))) → LR d' a0 Pr → LR d' a0 P' := by
    intro d' P' he hl a ha
    obtain ⟨m, m1, m2, m3⟩ := hl a ha
    refine ⟨m, m1, m2, fun b => ?_⟩
    rw [m3 b]
    constructor
    · rintro ⟨x, y⟩; exact ⟨x, (he a b x).mp y⟩
    · rintro ⟨x, y⟩; exact ⟨x, (he a b x).mpr y⟩
  unfold t_X0_addPair
  have go : ∀ lo hi : Nat, lo < hi → hi < 24 → ((lo = p ∧ hi = q) ∨ (lo = q ∧ hi = p)) → ∃ d', (if nI lo < 0 then some d else if nI hi ≤ nI lo then some d else if nI (L a0) ≤ nI lo then some d else gd (inb (nI lo) (L a0)) (gd (inb (nI lo) (L a0)) (bd (sA d a0 (ix (nI lo)) ((gA d a0 (ix (nI lo))) ||| ((1 : Int32) <<< (nI hi &&& 31)))) (fun d8 => some d8)))) = some d' ∧ (∀ x, gF d' x = gF d x) ∧ (∀ a i, a ≠ a0 → gA d' a i = gA d a i) ∧ LR d' a0 (fun a b => Pr a b ∨ (a = p ∧ b = q)) := by
    intro lo hi h1 h2 h3
    obtain ⟨m, m1, m2, m3⟩ := h lo (by omega)
    rw [if_neg (nI_pos (by omega)), if_neg (nI_ge h1 (by omega)), hL, if_neg (nI_ge (by omega) (by decide)), gdi (by omega) (by omega), gdi (by omega) (by omega), ix_nI (by omega), m2, bit_e _ h2, nx_or, bd_q]
    refine ⟨_, rfl, fun _ => rfl, fun a i ha => by rw [gA_sAi, if_neg (fun y => ha y.1)], fun a ha => ?_⟩
    by_cases z : a = lo
    · refine ⟨m ||| 2 ^ hi, Nat.or_lt_two_pow m1 (Nat.pow_lt_pow_right (by decide) h2), by rw [gA_sAi, if_pos ⟨rfl, z⟩], fun b => ?_⟩
      rw [Nat.testBit_or, Bool.or_eq_true, m3 b, Nat.testBit_two_pow, decide_eq_true_eq, z]
      constructor
      · rintro (⟨x, y | y⟩ | y)
        · exact ⟨x, .inl (.inl y)⟩
        · exact ⟨x, .inr (.inl y)⟩
        · refine ⟨by omega, ?_⟩
          rcases h3 with ⟨u1, u2⟩ | ⟨u1, u2⟩
          · exact .inl (.inr ⟨u1, by omega⟩)
          · exact .inr (.inr ⟨by omega, u1⟩)
      · rintro ⟨x, (y | ⟨y1, y2⟩) | (y | ⟨y1, y2⟩)⟩
        · exact .inl ⟨x, .inl y⟩
        · exact .inr (by omega)
        · exact .inl ⟨x, .inr y⟩
        · exact .inr (by omega)
    · obtain ⟨m', n1, n2, n3⟩ := h a ha
      refine ⟨m', n1, by rw [gA_sAi, if_neg (fun y => z y.2)]; exact n2, fun b => ?_⟩
      rw [n3 b]
      constructor
      · rintro ⟨x, y | y⟩
        · exact ⟨x, .inl (.inl y)⟩
        · exact ⟨x, .inr (.inl y)⟩
      · rintro ⟨x, (y | ⟨y1, y2⟩) | (y | ⟨y1, y2⟩)⟩
        · exact ⟨x, .inl y⟩
        · omega
        · exact ⟨x, .inr y⟩
        · omega
  rcases Nat.lt_trichotomy p q with c | c | c
  · rw [if_neg (nI_nlt (by omega) (by omega)), if_pos (nI_lt c (by omega)), bd_q, bd_q]
    exact go p q c hq (.inl ⟨rfl, rfl⟩)
  · subst c
    rw [ite_self, bd_q, bd_q, if_neg (nI_pos (by omega)), if_pos (nI_le (Nat.le_refl _) (by omega))]
    refine ⟨d, rfl, fun _ => rfl, fun _ _ _ => rfl, wk d _ (fun a b hab => ?_) h⟩
    constructor
    · rintro (y | y)
      · exact .inl (.inl y)
      · exact .inr (.inl y)
    · rintro ((y | ⟨y1, y2⟩) | (y | ⟨y1, y2⟩))
      · exact .inl y
      · omega
      · exact .inr y
      · omega
  · rw [if_pos (nI_lt c (by omega)), if_neg (nI_nlt (by omega) (by omega)), bd_q, bd_q]
    exact go q p c hp (.inr ⟨rfl, rfl⟩)
theorem LR_cg {d d' : Dt} {a0 : Nat} {P Q : Nat → Nat → Prop} (h : LR d a0 P) (hr : ∀ i, gA d' a0 i = gA d a0 i) (he : ∀ a b, P a b ↔ Q a b) : LR d' a0 Q := fun a ha => by
  obtain ⟨m, m1, m2, m3⟩ := h a ha
  exact ⟨m, m1, (hr a).trans m2, fun b => by rw [m3 b, he a b, he b a]⟩
theorem findLinks_q {L : Nat → Nat} {d : Dt} {w : Nat → Int32} (hv : VB w) (hb : BK d 6 w) (hl : LB L 6) (hL : L (32 * 0 + 8) = 24) : ∃ d', t_X0_findLinks L d 6 (32 * 0 + 8) = some d' ∧ (∀ x, gF d' x = gF d x) ∧ (∀ a i, a ≠ 32 * 0 + 8 → gA d' a i = gA d a i) ∧ LR d' (32 * 0 + 8) (Ld w) := by
  have hP := hv.P
  have ag : ∀ (e : Dt), (∀ x, gF e x = gF d x) → (∀ a i, a ≠ 32 * 0 + 8 → gA e a i = gA d a i) → BK e 6 w := fun e h1 h2 => BK_ag hv ⟨fun j => congrFun (h1 6) j, fun j hj i => h2 _ i (by omega)⟩ hb
  -- the choices of part p
  have inner : ∀ (K : Int32 → Dt → Option Dt) (p : Nat), p < bP w → ∀ (n c F : Nat) (e : Dt), c + n = bC w p → n < F → (∀ x, gF e x = gF d x) → (∀ a i, a ≠ 32 * 0 + 8 → gA e a i = gA d a i) → LR e (32 * 0 + 8) (fun a b => (Ld w a b ∧ a < p) ∨ (a = p ∧ ((bE w p = 3 ∧ (ix (w (104 + p)) = b ∨ ix (w (128 + p)) = b)) ∨ ∃ c', c' < c ∧ ix (w (368 + (6 * p + c'))) = b))) → ∃ e', lp (fun k x => t_X0_findLinks_55 L 6 (32 * 0 + 8) K (fun x2 x3 d => k (x2, x3, d)) x.1 x.2.1 x.2.2) F (nI p, nI c, e) = K (nI (p + 1)) e' ∧ (∀ x, gF e' x = gF d x) ∧ (∀ a i, a ≠ 32 * 0 + 8 → gA e' a i = gA d a i) ∧ LR e' (32 * 0 + 8) (fun a b => Ld w a b ∧ a < p + 1) := by
    intro K p hp n
    have hV := hv.2.2.2 p hp
    have hC := hV.C
    induction n with
    | zero =>
      intro c F e hc hF h1 h2 h3
      obtain ⟨F, rfl⟩ : ∃ G, F = G + 1 := ⟨F - 1, by omega⟩
      have hB := (ag e h1 h2).2.2 p hp
      refine ⟨e, ?_, h1, h2, LR_cg h3 (fun _ => rfl) (fun a b => ?_)⟩
      · show t_X0_findLinks_55 L 6 (32 * 0 + 8) K (fun x2 x3 d => lp _ F (x2, x3, d)) (nI p) (nI c) e = _
        rw [t_X0_findLinks_55, hl.2.2.2.2.2.2.2.1, gdi (show p < 24 by omega) (by omega), ix_nI (by omega), hB.2.2.1, hC.1, if_pos (nI_le (by omega) (by omega)), t_X0_findLinks_93, nI_1]
      · constructor
        · rintro (⟨x, y⟩ | ⟨x, y⟩)
          · exact ⟨x, by omega⟩
          · rw [x]
            refine ⟨⟨hp, ?_⟩, by omega⟩
            rcases y with y | ⟨c', y1, y2⟩
            · exact .inl y
            · exact .inr ⟨c', by omega, y2⟩
        · rintro ⟨x, y⟩
          by_cases z : a = p
          · refine .inr ⟨z, ?_⟩
            rw [z] at x
            rcases x.2 with y | ⟨c', y1, y2⟩
            · exact .inl y
            · exact .inr ⟨c', by omega, y2⟩
          · exact .inl ⟨x, by omega⟩
    | succ n ih =>
      intro c F e hc hF h1 h2 h3
      obtain ⟨F, rfl⟩ : ∃ G, F = G + 1 := ⟨F - 1, by omega⟩
      have hB := (ag e h1 h2).2.2 p hp
      have hq := hB.2.2.2.2.2 c (by omega)
      obtain ⟨t, ht, et⟩ := (hV.2.2.2.2.2.2 c (by omega)).1
      have e1 : nI p * 6 + nI c = nI (6 * p + c) := by
        show nI p * nI 6 + nI c = _
        rw [nI_mulN, nI_add]; congr 1; omega
      obtain ⟨e', r1, r2, r3, r4⟩ := addPair_q (L := L) hL h3 (show p < 24 by omega) (show t < 24 by omega)
      show ∃ e', t_X0_findLinks_55 L 6 (32 * 0 + 8) K (fun x2 x3 d => lp _ F (x2, x3, d)) (nI p) (nI c) e = _ ∧ _
      rw [t_X0_findLinks_55, hl.2.2.2.2.2.2.2.1, gdi (show p < 24 by omega) (by omega), ix_nI (show p < 2 ^ 31 by omega), hB.2.2.1, hC.1, if_neg (nI_ge (by omega) (by omega)), if_neg (show ¬ (6 : Int32) ≤ nI c from nI_ge (b := 6) (by omega) (by decide)), e1, hl.2.2.2.2.2.2.2.2.1, gdi (show 6 * p + c < 144 by omega) (by omega), ix_nI (by omega), hq.1, et, r1, ob, nI_1]
      refine ih (c + 1) F e' (by omega) (by omega) (fun x => (r2 x).trans (h1 x)) (fun a i ha => (r3 a i ha).trans (h2 a i ha)) (LR_cg r4 (fun _ => rfl) (fun a b => ?_))
      constructor
      · rintro ((x | ⟨x, y | ⟨c', y1, y2⟩⟩) | ⟨x, y⟩)
        · exact .inl x
        · exact .inr ⟨x, .inl y⟩
        · exact .inr ⟨x, .inr ⟨c', by omega, y2⟩⟩
        · exact .inr ⟨x, .inr ⟨c, by omega, by rw [et, ix_nI (by omega), y]⟩⟩
      · rintro (x | ⟨x, y | ⟨c', y1, y2⟩⟩)
        · exact .inl (.inl x)
        · exact .inl (.inr ⟨x, .inl y⟩)
        · by_cases z : c' = c
          · rw [z, et, ix_nI (by omega)] at y2
            exact .inr ⟨x, y2.symm⟩
          · exact .inl (.inr ⟨x, .inr ⟨c', by omega, y2⟩⟩)
  have outer : ∀ (n p F : Nat) (e : Dt), p + n = bP w → n < F → (∀ x, gF e x = gF d x) → (∀ a i, a ≠ 32 * 0 + 8 → gA e a i = gA d a i) → LR e (32 * 0 + 8) (fun a b => Ld w a b ∧ a < p) → ∃ e', lp (fun k x => t_X0_findLinks_7 L 6 (32 * 0 + 8) (fun x2 d => k (x2, d)) x.1 x.2) F (nI p, e) = some e' ∧ (∀ x, gF e' x = gF d x) ∧ (∀ a i, a ≠ 32 * 0 + 8 → gA e' a i = gA d a i) ∧ LR e' (32 * 0 + 8) (Ld w) := by
    intro n
    induction n with
    | zero =>
      intro p F e hp hF h1 h2 h3
      obtain ⟨F, rfl⟩ : ∃ G, F = G + 1 := ⟨F - 1, by omega⟩
      have hB := ag e h1 h2
      refine ⟨e, ?_, h1, h2, LR_cg h3 (fun _ => rfl) (fun a b => ⟨fun z => z.1, fun z => ⟨z, by have := z.1; omega⟩⟩)⟩
      show t_X0_findLinks_7 L 6 (32 * 0 + 8) (fun x2 d => lp _ F (x2, d)) (nI p) e = _
      rw [t_X0_findLinks_7, hB.1, hP.1, if_pos (nI_le (by omega) (by omega))]
    | succ n ih =>
      intro p F e hp hF h1 h2 h3
      obtain ⟨F, rfl⟩ : ∃ G, F = G + 1 := ⟨F - 1, by omega⟩
      have hBK := ag e h1 h2
      have hB := hBK.2.2 p (by omega)
      have hV := hv.2.2.2 p (by omega)
      have hE := hV.E
      have hC := hV.C
      show ∃ e', t_X0_findLinks_7 L 6 (32 * 0 + 8) (fun x2 d => lp _ F (x2, d)) (nI p) e = _ ∧ _
      rw [t_X0_findLinks_7, hBK.1, hP.1, if_neg (nI_ge (by omega) (by omega)), if_neg (show ¬ (24 : Int32) ≤ nI p from nI_ge (b := 24) (by omega) (by decide)), hl.1, gdi (show p < 24 by omega) (by omega), ix_nI (by omega), hB.1, hE.1]
      have fin : ∀ (e1 : Dt), (∀ x, gF e1 x = gF d x) → (∀ a i, a ≠ 32 * 0 + 8 → gA e1 a i = gA d a i) → LR e1 (32 * 0 + 8) (fun a b => (Ld w a b ∧ a < p) ∨ (a = p ∧ ((bE w p = 3 ∧ (ix (w (104 + p)) = b ∨ ix (w (128 + p)) = b)) ∨ ∃ c', c' < 0 ∧ ix (w (368 + (6 * p + c'))) = b))) → ∃ e', t_X0_findLinks_53 L 6 (32 * 0 + 8) (fun x2 d => lp (fun k x => t_X0_findLinks_7 L 6 (32 * 0 + 8) (fun x2 d => k (x2, d)) x.1 x.2) F (x2, d)) (nI p) e1 = some e' ∧ (∀ x, gF e' x = gF d x) ∧ (∀ a i, a ≠ 32 * 0 + 8 → gA e' a i = gA d a i) ∧ LR e' (32 * 0 + 8) (Ld w) := by
        intro e1 g1 g2 g3
        obtain ⟨e2, r1, r2, r3, r4⟩ := inner (fun x2 d => lp (fun k x => t_X0_findLinks_7 L 6 (32 * 0 + 8) (fun x2 d => k (x2, d)) x.1 x.2) F (x2, d)) p (by omega) (bC w p) 0 FU e1 (by omega) (by unfold FU; omega) g1 g2 g3
        obtain ⟨e3, s1, s2⟩ := ih (p + 1) F e2 (by omega) (by omega) r2 r3 r4
        exact ⟨e3, r1.trans s1, s2⟩
      by_cases e3 : bE w p = 3
      · have hr := hV.2.2.2.2.1 e3
        have hB3 := hB.2.2.2.1 e3
        obtain ⟨t1, ht1, et1⟩ := hr.2.2.1
        obtain ⟨t2, ht2, et2⟩ := hr.2.2.2
        obtain ⟨e1, r1, r2, r3, r4⟩ := addPair_q (L := L) hL h3 (show p < 24 by omega) (show t1 < 24 by omega)
        obtain ⟨e2, s1, s2, s3, s4⟩ := addPair_q (L := L) hL r4 (show p < 24 by omega) (show t2 < 24 by omega)
        have e5 : gA e1 (32 * 6 + 5) p = nI t2 := by rw [r3 _ _ (by decide), hB3.2.2]; exact et2
        rw [e3, if_pos (show nI 3 = 3 from rfl), hl.2.2.1, gdi (show p < 24 by omega) (by omega), hB3.2.1, et1, r1, ob, hl.2.2.2.1, gdi (show p < 24 by omega) (by omega), e5, s1, ob]
        refine fin e2 (fun x => (s2 x).trans ((r2 x).trans (h1 x))) (fun a i ha => (s3 a i ha).trans ((r3 a i ha).trans (h2 a i ha))) (LR_cg s4 (fun _ => rfl) (fun a b => ?_))
        rw [et1, et2, ix_nI (by omega), ix_nI (by omega)]
        constructor
        · rintro ((x | ⟨x, y⟩) | ⟨x, y⟩)
          · exact .inl x
          · exact .inr ⟨x, .inl ⟨e3, .inl y.symm⟩⟩
          · exact .inr ⟨x, .inl ⟨e3, .inr y.symm⟩⟩
        · rintro (x | ⟨x, ⟨_, y | y⟩ | ⟨c', y, _⟩⟩)
          · exact .inl (.inl x)
          · exact .inl (.inr ⟨x, y.symm⟩)
          · exact .inr ⟨x, y.symm⟩
          · omega
      · rw [if_neg (show ¬ nI (bE w p) = 3 from fun q => e3 (nI_inj (b := 3) (by omega) (by decide) q))]
        refine fin e h1 h2 (LR_cg h3 (fun _ => rfl) (fun a b => ?_))
        constructor
        · exact .inl
        · rintro (x | ⟨x, ⟨y, _⟩ | ⟨c', y, _⟩⟩)
          · exact x
          · exact absurd y e3
          · omega
  unfold t_X0_findLinks
  rw [fill_eq 0 (by rw [hL]; decide), ob, hL]
  have base : LR (fil d (32 * 0 + 8) 24 0) (32 * 0 + 8) (fun a b => Ld w a b ∧ a < 0) := fun a ha => ⟨0, by decide, by rw [gA_fil, if_pos ⟨rfl, ha⟩]; rfl, fun b => by
    rw [Nat.zero_testBit]
    exact ⟨fun z => (by cases z), fun z => by rcases z.2 with y | y <;> (have := y.2; omega)⟩⟩
  exact outer (bP w) 0 FU (fil d (32 * 0 + 8) 24 0) (by omega) (by unfold FU; omega) (fun _ => rfl) (fun a i ha => by rw [gA_fil, if_neg (fun y => ha y.1)]) base
/-! the reference: leads -/
theorem leads_q {dm : Dt} (hv : VB (wOf dm)) {p q : Nat} (hp : p < bP (wOf dm)) (hq : q < 24) : ∃ v, t_X6_leads LM dm (nI p) (nI q) = some v ∧ ((v = 1 ∧ Ld (wOf dm) p q) ∨ (v = 0 ∧ ¬ Ld (wOf dm) p q)) := by
  have hP := hv.P.2
  have hV := hv.2.2.2 p hp
  have hE := hV.E
  have hC := hV.C
  have main : ∀ (n c F : Nat) (x : Int32), c + n = bC (wOf dm) p → n < F → ((x = 1 ∧ Ld (wOf dm) p q) ∨ (x = 0 ∧ ¬ (bE (wOf dm) p = 3 ∧ (ix (wOf dm (104 + p)) = q ∨ ix (wOf dm (128 + p)) = q)) ∧ ∀ c', c' < c → ix (wOf dm (368 + (6 * p + c'))) ≠ q)) → ∃ v, lp (fun k x => t_X6_leads_49 LM dm (nI p) (nI q) (fun x3 x4 => k (x3, x4)) x.1 x.2) F (x, nI c) = some v ∧ ((v = 1 ∧ Ld (wOf dm) p q) ∨ (v = 0 ∧ ¬ Ld (wOf dm) p q)) := by
    intro n
    induction n with
    | zero =>
      intro c F x hc hF hx
      obtain ⟨F, rfl⟩ : ∃ G, F = G + 1 := ⟨F - 1, by omega⟩
      refine ⟨x, ?_, ?_⟩
      · show t_X6_leads_49 LM dm (nI p) (nI q) (fun x3 x4 => lp _ F (x3, x4)) x (nI c) = _
        rw [t_X6_leads_49, LM0, show (56 : Int32) + nI p = nI (56 + p) from nI_add 56 p, gdi (show 56 + p < 4128 by omega) (by omega), wg (by omega), hC.1, if_pos (nI_le (by omega) (by omega))]
        rcases hx with ⟨z, _⟩ | ⟨z, _⟩ <;> (rw [z]; rfl)
      · rcases hx with z | ⟨z, z2, z3⟩
        · exact .inl z
        · refine .inr ⟨z, fun y => ?_⟩
          rcases y.2 with y | ⟨c', y1, y2⟩
          · exact z2 y
          · exact z3 c' (by omega) y2
    | succ n ih =>
      intro c F x hc hF hx
      obtain ⟨F, rfl⟩ : ∃ G, F = G + 1 := ⟨F - 1, by omega⟩
      obtain ⟨t, ht, et⟩ := (hV.2.2.2.2.2.2 c (by omega)).1
      have e1 : ((368 : Int32) + 6 * nI p) + nI c = nI (368 + (6 * p + c)) := by
        show (nI 368 + nI 6 * nI p) + nI c = _
        rw [nI_mulN, nI_add, nI_add, Nat.add_assoc]
      show ∃ v, t_X6_leads_49 LM dm (nI p) (nI q) (fun x3 x4 => lp _ F (x3, x4)) x (nI c) = _ ∧ _
      rw [t_X6_leads_49, LM0, show (56 : Int32) + nI p = nI (56 + p) from nI_add 56 p, gdi (show 56 + p < 4128 by omega) (by omega), wg (by omega), hC.1, if_neg (nI_ge (by omega) (by omega)), e1, gdi (show 368 + (6 * p + c) < 4128 by omega) (by omega), wg (by omega), et]
      rcases hx with ⟨z, z2⟩ | ⟨z, z2, z3⟩
      · rw [z, if_neg (by decide), t_X6_leads_87, t_X6_leads_92, nI_1]
        exact ih _ _ _ (by omega) (by omega) (.inl ⟨rfl, z2⟩)
      · rw [z, if_pos rfl]
        by_cases y : t = q
        · rw [y, if_pos rfl, t_X6_leads_87, t_X6_leads_92, nI_1]
          exact ih _ _ _ (by omega) (by omega) (.inl ⟨rfl, hp, .inr ⟨c, by omega, by rw [et, ix_nI (by omega)]; exact y⟩⟩)
        · rw [if_neg (fun w => y (nI_inj (by omega) (by omega) w)), t_X6_leads_92, nI_1]
          refine ih _ _ _ (by omega) (by omega) (.inr ⟨rfl, z2, fun c' hc' => ?_⟩)
          by_cases w : c' = c
          · rw [w, et, ix_nI (by omega)]; exact y
          · exact z3 c' (by omega)
  have fin : ∀ x : Int32, ((x = 1 ∧ Ld (wOf dm) p q) ∨ (x = 0 ∧ ¬ (bE (wOf dm) p = 3 ∧ (ix (wOf dm (104 + p)) = q ∨ ix (wOf dm (128 + p)) = q)))) → ∃ v, t_X6_leads_45 LM dm (nI p) (nI q) x = some v ∧ ((v = 1 ∧ Ld (wOf dm) p q) ∨ (v = 0 ∧ ¬ Ld (wOf dm) p q)) := by
    intro x hx
    refine main (bC (wOf dm) p) 0 FU x (by omega) (by unfold FU; omega) ?_
    rcases hx with z | ⟨z, z2⟩
    · exact .inl z
    · exact .inr ⟨z, z2, fun c' hc' => by omega⟩
  unfold t_X6_leads
  rw [LM0, show (8 : Int32) + nI p = nI (8 + p) from nI_add 8 p, gdi (show 8 + p < 4128 by omega) (by omega), wg (by omega), hE.1, show (104 : Int32) + nI p = nI (104 + p) from nI_add 104 p, show (128 : Int32) + nI p = nI (128 + p) from nI_add 128 p, gdi (show 104 + p < 4128 by omega) (by omega), gdi (show 128 + p < 4128 by omega) (by omega), wg (by omega), wg (by omega)]
  by_cases e3 : bE (wOf dm) p = 3
  · have hr := hV.2.2.2.2.1 e3
    obtain ⟨t1, ht1, et1⟩ := hr.2.2.1
    obtain ⟨t2, ht2, et2⟩ := hr.2.2.2
    rw [e3, if_pos (show nI 3 = 3 from rfl), et1, et2]
    by_cases y1 : t1 = q
    · rw [y1, if_pos rfl, t_X6_leads_40]
      exact fin 1 (.inl ⟨rfl, hp, .inl ⟨e3, .inl (by rw [et1, ix_nI (by omega)]; exact y1)⟩⟩)
    · rw [if_neg (fun w => y1 (nI_inj (by omega) (by omega) w))]
      by_cases y2 : t2 = q
      · rw [y2, if_pos rfl, t_X6_leads_40]
        exact fin 1 (.inl ⟨rfl, hp, .inl ⟨e3, .inr (by rw [et2, ix_nI (by omega)]; exact y2)⟩⟩)
      · rw [if_neg (fun w => y2 (nI_inj (by omega) (by omega) w)), t_X6_leads_44]
        refine fin 0 (.inr ⟨rfl, fun z => ?_⟩)
        rw [et1, et2, ix_nI (by omega), ix_nI (by omega)] at z
        exact z.2.elim y1 y2
  · rw [if_neg (show ¬ nI (bE (wOf dm) p) = 3 from fun q => e3 (nI_inj (b := 3) (by omega) (by decide) q)), t_X6_leads_44]
    exact fin 0 (.inr ⟨rfl, fun z => e3 z.1⟩)
