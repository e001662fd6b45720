/-! ===== near ===== -/
noncomputable def c1 (P : Prop) : Nat := @ite Nat P (Classical.propDecidable P) 1 0
theorem c1_t {P : Prop} (h : P) : c1 P = 1 := @if_pos P (Classical.propDecidable P) h Nat 1 0
theorem c1_f {P : Prop} (h : ¬ P) : c1 P = 0 := @if_neg P (Classical.propDecidable P) h Nat 1 0
noncomputable def S1 (f : Nat → Nat → Prop) (a : Nat) : Nat → Nat → Nat
  | 0, _ => 0
  | n + 1, b => c1 (f a b) + S1 f a n (b + 1)
noncomputable def S2 (f : Nat → Nat → Prop) (N : Nat) : Nat → Nat → Nat
  | 0, _ => 0
  | n + 1, a => S1 f a (N - (a + 1)) (a + 1) + S2 f N n (a + 1)
theorem S1_0 {f : Nat → Nat → Prop} {a : Nat} : ∀ (n b : Nat), (∀ b', b ≤ b' → ¬ f a b') → S1 f a n b = 0 := by
  intro n
  induction n with
  | zero => intro b _; rfl
  | succ n ih =>
    intro b h
    unfold S1
    rw [c1_f (h b (Nat.le_refl _)), ih (b + 1) (fun b' hb => h b' (by omega))]
theorem S1_cut {f : Nat → Nat → Prop} {a : Nat} : ∀ (n m b : Nat), (∀ b', b + n ≤ b' → ¬ f a b') → S1 f a (n + m) b = S1 f a n b := by
  intro n
  induction n with
  | zero => intro m b h; rw [Nat.zero_add, S1_0 m b (fun b' hb => h b' (by omega))]; rfl
  | succ n ih =>
    intro m b h
    rw [show n + 1 + m = (n + m) + 1 by omega]
    unfold S1
    rw [ih m (b + 1) (fun b' hb => h b' (by omega))]
theorem S2_0 {f : Nat → Nat → Prop} {N : Nat} : ∀ (n a : Nat), (∀ a' b, a ≤ a' → ¬ f a' b) → S2 f N n a = 0 := by
  intro n
  induction n with
  | zero => intro a _; rfl
  | succ n ih =>
    intro a h
    unfold S2
    rw [S1_0 _ _ (fun b' _ => h a b' (Nat.le_refl _)), ih (a + 1) (fun a' b ha => h a' b (by omega))]
theorem S2_cut {f : Nat → Nat → Prop} {P : Nat} (hP : P ≤ 24) (h : ∀ a b, f a b → a < P ∧ b < P) : ∀ (n m a : Nat), a + n = P → a + n + m = 24 → S2 f 24 (n + m) a = S2 f P n a := by
  intro n
  induction n with
  | zero =>
    intro m a h1 h2
    rw [Nat.zero_add, S2_0 m a (fun a' b ha hf => by have := (h a' b hf).1; omega)]
    rfl
  | succ n ih =>
    intro m a h1 h2
    rw [show n + 1 + m = (n + m) + 1 by omega]
    unfold S2
    rw [ih m (a + 1) (by omega) (by omega), show 24 - (a + 1) = (P - (a + 1)) + (24 - P) by omega, S1_cut _ _ _ (fun b' hb hf => by have := (h a b' hf).2; omega)]
/-- a linked pair whose numbers are less than d apart -/
def NQ (w : Nat → Int32) (N : Nat → Nat) (d a b : Nat) : Prop := (Ld w a b ∨ Ld w b a) ∧ (N a - N b) + (N b - N a) < d
theorem Ld_lt {w : Nat → Int32} (hv : VB w) {p q : Nat} (h : Ld w p q) : p < bP w ∧ q < bP w := by
  have hP := hv.P.2
  refine ⟨h.1, ?_⟩
  have hV := hv.2.2.2 p h.1
  rcases h.2 with ⟨e, y | y⟩ | ⟨c, y1, y2⟩
  · obtain ⟨t, ht, et⟩ := (hV.2.2.2.2.1 e).2.2.1
    rw [et, ix_nI (by omega)] at y; omega
  · obtain ⟨t, ht, et⟩ := (hV.2.2.2.2.1 e).2.2.2
    rw [et, ix_nI (by omega)] at y; omega
  · obtain ⟨t, ht, et⟩ := (hV.2.2.2.2.2.2 c y1).1
    rw [et, ix_nI (by omega)] at y2; omega
theorem ab1 : ∀ a, a < 25 → ∀ b, b < 25 → (if 0 ≤ nI a - nI b then nI a - nI b else 0 - (nI a - nI b)) = nI ((a - b) + (b - a)) := by decide +kernel
theorem ab3 : ∀ a, a < 25 → ∀ b, b < 25 → a ≤ b → -(nI a - nI b) = nI (b - a) := by decide +kernel
theorem ab4 : ∀ d, d < 25 → 1 ≤ d → ∀ c, c < 25 → ¬ nI d ≤ -(nI c) := by decide +kernel
theorem nearPairs_q {L : Nat → Nat} {d : Dt} {w : Nat → Int32} {N : Nat → Nat} {a0 a1 dd : Nat} (hv : VB w) (h0 : L a0 = 24) (h1 : L a1 = 24) (hr : LR d a0 (Ld w)) (hN : ∀ p, p < bP w → gA d a1 p = nI (N p + 1) ∧ N p < 24) (hd : dd < 25) : t_X5_nearPairs L d a0 a1 (nI dd) = some (nI (S2 (NQ w N dd) 24 24 0)) := by
  have hP := hv.P.2
  have inner : ∀ (K5 : Int32 → Int32 → Option Int32) (a : Nat), a < 24 → ∀ (n b F acc : Nat), b + n = 24 → n < F → a < b → lp (fun k x => t_X5_nearPairs_18 L d a0 a1 (nI dd) K5 (fun x3 x4 x5 => k (x3, x4, x5)) x.1 x.2.1 x.2.2) F (nI acc, nI a, nI b) = K5 (nI (acc + S1 (NQ w N dd) a n b)) (nI (a + 1)) := by
    intro K5 a ha n
    obtain ⟨m, m1, m2, m3⟩ := hr a ha
    induction n with
    | zero =>
      intro b F acc hb hF hab
      obtain ⟨F, rfl⟩ : ∃ G, F = G + 1 := ⟨F - 1, by omega⟩
      show t_X5_nearPairs_18 L d a0 a1 (nI dd) K5 (fun x3 x4 x5 => lp _ F (x3, x4, x5)) (nI acc) (nI a) (nI b) = _
      rw [t_X5_nearPairs_18, if_pos (show (24 : Int32) ≤ nI b from nI_le (a := 24) (by omega) (by omega)), nI_1]
      rfl
    | succ n ih =>
      intro b F acc hb hF hab
      obtain ⟨F, rfl⟩ : ∃ G, F = G + 1 := ⟨F - 1, by omega⟩
      have skip : ¬ NQ w N dd a b → t_X5_nearPairs_57 L d a0 a1 (nI dd) K5 (fun x3 x4 x5 => lp (fun k x => t_X5_nearPairs_18 L d a0 a1 (nI dd) K5 (fun x3 x4 x5 => k (x3, x4, x5)) x.1 x.2.1 x.2.2) F (x3, x4, x5)) (nI acc) (nI a) (nI b) = K5 (nI (acc + S1 (NQ w N dd) a (n + 1) b)) (nI (a + 1)) := by
        intro no
        rw [t_X5_nearPairs_57, nI_1]
        refine (ih (b + 1) F acc (by omega) (by omega) (by omega)).trans ?_
        unfold S1
        rw [c1_f no, Nat.zero_add]
        cases n <;> rfl
      show t_X5_nearPairs_18 L d a0 a1 (nI dd) K5 (fun x3 x4 x5 => lp _ F (x3, x4, x5)) (nI acc) (nI a) (nI b) = _
      rw [t_X5_nearPairs_18, if_neg (show ¬ (24 : Int32) ≤ nI b from nI_ge (b := 24) (by omega) (by decide)), h0, gdi ha (by omega), ix_nI (by omega), m2]
      by_cases t : m.testBit b = true
      · have hl := ((m3 b).mp t).2
        have hlt : a < bP w ∧ b < bP w := by
          rcases hl with y | y
          · exact Ld_lt hv y
          · exact (Ld_lt hv y).symm
        obtain ⟨na, na2⟩ := hN a hlt.1
        obtain ⟨nb, nb2⟩ := hN b hlt.2
        rw [if_pos ((bit_test (by omega) (by omega)).mpr t), h1, gdi (show a < 24 by omega) (by omega), gdi (show b < 24 by omega) (by omega), ix_nI (by omega), na, nb, ab1 _ (by omega) _ (by omega)]
        by_cases c : (N a - N b) + (N b - N a) < dd
        · rw [if_neg (nI_ge (by omega) (by omega)), nI_1, t_X5_nearPairs_57, nI_1]
          refine (ih (b + 1) F (acc + 1) (by omega) (by omega) (by omega)).trans ?_
          have e : S1 (NQ w N dd) a (n + 1) b = 1 + S1 (NQ w N dd) a n (b + 1) := by
            show c1 _ + _ = _
            rw [c1_t ⟨hl, c⟩]
          rw [e, Nat.add_assoc]
        · rw [if_pos (nI_le (by omega) (by omega))]
          exact skip (fun z => c z.2)
      · rw [if_neg (fun z => t ((bit_test (by omega) (by omega)).mp z))]
        exact skip (fun z => t ((m3 b).mpr ⟨hab, z.1⟩))
  have outer : ∀ (n a F acc : Nat), a + n = 24 → n < F → lp (fun k x => t_X5_nearPairs_5 L d a0 a1 (nI dd) (fun x3 x4 => k (x3, x4)) x.1 x.2) F (nI acc, nI a) = some (nI (acc + S2 (NQ w N dd) 24 n a)) := by
    intro n
    induction n with
    | zero =>
      intro a F acc ha hF
      obtain ⟨F, rfl⟩ : ∃ G, F = G + 1 := ⟨F - 1, by omega⟩
      show t_X5_nearPairs_5 L d a0 a1 (nI dd) (fun x3 x4 => lp _ F (x3, x4)) (nI acc) (nI a) = _
      rw [t_X5_nearPairs_5, if_pos (show (24 : Int32) ≤ nI a from nI_le (a := 24) (by omega) (by omega))]
      rfl
    | succ n ih =>
      intro a F acc ha hF
      obtain ⟨F, rfl⟩ : ∃ G, F = G + 1 := ⟨F - 1, by omega⟩
      show t_X5_nearPairs_5 L d a0 a1 (nI dd) (fun x3 x4 => lp _ F (x3, x4)) (nI acc) (nI a) = _
      rw [t_X5_nearPairs_5, if_neg (show ¬ (24 : Int32) ≤ nI a from nI_ge (b := 24) (by omega) (by decide)), nI_1, bd_q]
      refine (inner (fun x3 x4 => lp (fun k x => t_X5_nearPairs_5 L d a0 a1 (nI dd) (fun x3 x4 => k (x3, x4)) x.1 x.2) F (x3, x4)) a (by omega) (24 - (a + 1)) (a + 1) FU acc (by omega) (by unfold FU; omega) (by omega)).trans ?_
      refine (ih (a + 1) F _ (by omega) (by omega)).trans ?_
      have e : S2 (NQ w N dd) 24 (n + 1) a = S1 (NQ w N dd) a (24 - (a + 1)) (a + 1) + S2 (NQ w N dd) 24 n (a + 1) := rfl
      rw [e, Nat.add_assoc]
  have := outer 24 0 FU 0 (by omega) (by unfold FU; omega)
  rw [Nat.zero_add] at this
  exact this
theorem nearBy_q {dm : Dt} {N : Nat → Nat} {dd : Nat} (hv : VB (wOf dm)) (hN : ∀ p, p < bP (wOf dm) → wOf dm (152 + p) = nI (N p + 1) ∧ N p < 24) (hd : dd < 25) (hd1 : 1 ≤ dd) : t_X6_nearBy LM dm (nI dd) = some (nI (S2 (NQ (wOf dm) N dd) (bP (wOf dm)) (bP (wOf dm)) 0)) := by
  have hP := hv.P
  have inner : ∀ (K4 : Int32 → Int32 → Option Int32) (a : Nat), a < bP (wOf dm) → ∀ (n b F acc : Nat), b + n = bP (wOf dm) → n < F → lp (fun k x => t_X6_nearBy_19 LM dm (nI dd) K4 (fun x2 x3 x4 => k (x2, x3, x4)) x.1 x.2.1 x.2.2) F (nI acc, nI a, nI b) = K4 (nI (acc + S1 (NQ (wOf dm) N dd) a n b)) (nI (a + 1)) := by
    intro K4 a ha n
    obtain ⟨na, na2⟩ := hN a ha
    induction n with
    | zero =>
      intro b F acc hb hF
      obtain ⟨F, rfl⟩ : ∃ G, F = G + 1 := ⟨F - 1, by omega⟩
      show t_X6_nearBy_19 LM dm (nI dd) K4 (fun x2 x3 x4 => lp _ F (x2, x3, x4)) (nI acc) (nI a) (nI b) = _
      rw [t_X6_nearBy_19, LM0, gd_h (show inb 0 4128 = true by decide), show gA dm (32 * 0 + 0) (ix 0) = wOf dm 0 from rfl, hP.1, if_pos (nI_le (by omega) (by omega)), nI_1]
      rfl
    | succ n ih =>
      intro b F acc hb hF
      obtain ⟨F, rfl⟩ : ∃ G, F = G + 1 := ⟨F - 1, by omega⟩
      obtain ⟨nb, nb2⟩ := hN b (by omega)
      have e : S1 (NQ (wOf dm) N dd) a (n + 1) b = c1 (NQ (wOf dm) N dd a b) + S1 (NQ (wOf dm) N dd) a n (b + 1) := rfl
      have no : ¬ NQ (wOf dm) N dd a b → t_X6_nearBy_92 LM dm (nI dd) K4 (fun x2 x3 x4 => lp (fun k x => t_X6_nearBy_19 LM dm (nI dd) K4 (fun x2 x3 x4 => k (x2, x3, x4)) x.1 x.2.1 x.2.2) F (x2, x3, x4)) (nI a) (nI b) (nI acc) = K4 (nI (acc + S1 (NQ (wOf dm) N dd) a (n + 1) b)) (nI (a + 1)) := by
        intro h
        rw [t_X6_nearBy_92, t_X6_nearBy_93, t_X6_one, if_pos rfl, ob, show nI acc + 0 = nI acc from by rw [show (0 : Int32) = nI 0 from rfl, nI_add]; rfl, bd_q, nI_1, e, c1_f h, Nat.zero_add]
        exact ih (b + 1) F acc (by omega) (by omega)
      have yes : (Ld (wOf dm) a b ∨ Ld (wOf dm) b a) → t_X6_nearBy_75 LM dm (nI dd) K4 (fun x2 x3 x4 => lp (fun k x => t_X6_nearBy_19 LM dm (nI dd) K4 (fun x2 x3 x4 => k (x2, x3, x4)) x.1 x.2.1 x.2.2) F (x2, x3, x4)) (nI a) (nI b) (nI (N a + 1) - nI (N b + 1)) (nI acc) = K4 (nI (acc + S1 (NQ (wOf dm) N dd) a (n + 1) b)) (nI (a + 1)) := by
        intro hl
        have one : (N a - N b) + (N b - N a) < dd → t_X6_nearBy_93 LM dm (nI dd) K4 (fun x2 x3 x4 => lp (fun k x => t_X6_nearBy_19 LM dm (nI dd) K4 (fun x2 x3 x4 => k (x2, x3, x4)) x.1 x.2.1 x.2.2) F (x2, x3, x4)) (nI a) (nI b) 1 (nI acc) = K4 (nI (acc + S1 (NQ (wOf dm) N dd) a (n + 1) b)) (nI (a + 1)) := by
          intro c
          rw [t_X6_nearBy_93, t_X6_one, if_neg (by decide), ob, nI_1, bd_q, nI_1, e, c1_t ⟨hl, c⟩, ← Nat.add_assoc]
          exact ih (b + 1) F (acc + 1) (by omega) (by omega)
        rw [t_X6_nearBy_75]
        by_cases le : N b ≤ N a
        · rw [nI_subN (by omega), show N a + 1 - (N b + 1) = N a - N b by omega]
          by_cases c : dd ≤ N a - N b
          · rw [if_pos (nI_le c (by omega))]
            exact no (fun z => by have := z.2; omega)
          · rw [if_neg (nI_ge (by omega) (by omega)), if_neg (ab4 dd hd hd1 _ (by omega))]
            exact one (by omega)
        · have n1 : ¬ nI dd ≤ nI (N a + 1) - nI (N b + 1) := fun z => by
            have h1 := Int32.le_iff_toInt_le.mp z
            rw [pk_sub_toInt (by omega) (by omega), nI_toInt (by omega)] at h1
            omega
          rw [if_neg n1, ab3 _ (by omega) _ (by omega) (by omega), show N b + 1 - (N a + 1) = N b - N a by omega]
          by_cases c : dd ≤ N b - N a
          · rw [if_pos (nI_le c (by omega))]
            exact no (fun z => by have := z.2; omega)
          · rw [if_neg (nI_ge (by omega) (by omega))]
            exact one (by omega)
      show t_X6_nearBy_19 LM dm (nI dd) K4 (fun x2 x3 x4 => lp _ F (x2, x3, x4)) (nI acc) (nI a) (nI b) = _
      rw [t_X6_nearBy_19, LM0, gd_h (show inb 0 4128 = true by decide), show gA dm (32 * 0 + 0) (ix 0) = wOf dm 0 from rfl, hP.1, if_neg (nI_ge (by omega) (by omega)), show (152 : Int32) + nI a = nI (152 + a) from nI_add 152 a, show (152 : Int32) + nI b = nI (152 + b) from nI_add 152 b, gdi (show 152 + a < 4128 by omega) (by omega), gdi (show 152 + b < 4128 by omega) (by omega), wg (by omega), wg (by omega), na, nb, bd_q]
      obtain ⟨v, v1, v2⟩ := leads_q hv (p := a) (q := b) ha (by omega)
      obtain ⟨v', v3, v4⟩ := leads_q hv (p := b) (q := a) (by omega) (by omega)
      rw [v1, ob, v3, ob]
      rcases v2 with ⟨z, z2⟩ | ⟨z, z2⟩
      · rw [z, if_neg (by decide)]
        exact yes (.inl z2)
      · rw [z, if_pos rfl]
        rcases v4 with ⟨y, y2⟩ | ⟨y, y2⟩
        · rw [y, if_neg (by decide)]
          exact yes (.inr y2)
        · rw [y, if_pos rfl]
          exact no (fun x => x.1.elim z2 y2)
  have outer : ∀ (n a F acc : Nat), a + n = bP (wOf dm) → n < F → lp (fun k x => t_X6_nearBy_4 LM dm (nI dd) (fun x2 x3 => k (x2, x3)) x.1 x.2) F (nI acc, nI a) = some (nI (acc + S2 (NQ (wOf dm) N dd) (bP (wOf dm)) n a)) := by
    intro n
    induction n with
    | zero =>
      intro a F acc ha hF
      obtain ⟨F, rfl⟩ : ∃ G, F = G + 1 := ⟨F - 1, by omega⟩
      show t_X6_nearBy_4 LM dm (nI dd) (fun x2 x3 => lp _ F (x2, x3)) (nI acc) (nI a) = _
      rw [t_X6_nearBy_4, LM0, gd_h (show inb 0 4128 = true by decide), show gA dm (32 * 0 + 0) (ix 0) = wOf dm 0 from rfl, hP.1, if_pos (nI_le (by omega) (by omega))]
      rfl
    | succ n ih =>
      intro a F acc ha hF
      obtain ⟨F, rfl⟩ : ∃ G, F = G + 1 := ⟨F - 1, by omega⟩
      show t_X6_nearBy_4 LM dm (nI dd) (fun x2 x3 => lp _ F (x2, x3)) (nI acc) (nI a) = _
      rw [t_X6_nearBy_4, LM0, gd_h (show inb 0 4128 = true by decide), show gA dm (32 * 0 + 0) (ix 0) = wOf dm 0 from rfl, hP.1, if_neg (nI_ge (by omega) (by omega)), nI_1, bd_q]
      refine (inner (fun x2 x3 => lp (fun k x => t_X6_nearBy_4 LM dm (nI dd) (fun x2 x3 => k (x2, x3)) x.1 x.2) F (x2, x3)) a (by omega) (bP (wOf dm) - (a + 1)) (a + 1) FU acc (by omega) (by unfold FU; omega)).trans ?_
      refine (ih (a + 1) F _ (by omega) (by omega)).trans ?_
      have e : S2 (NQ (wOf dm) N dd) (bP (wOf dm)) (n + 1) a = S1 (NQ (wOf dm) N dd) a (bP (wOf dm) - (a + 1)) (a + 1) + S2 (NQ (wOf dm) N dd) (bP (wOf dm)) n (a + 1) := rfl
      rw [e, Nat.add_assoc]
  have := outer (bP (wOf dm)) 0 FU 0 (by omega) (by unfold FU; omega)
  rw [Nat.zero_add] at this
  exact this
theorem NQ_cut {w : Nat → Int32} (hv : VB w) (N : Nat → Nat) (dd : Nat) : S2 (NQ w N dd) 24 24 0 = S2 (NQ w N dd) (bP w) (bP w) 0 := by
  have hP := hv.P.2
  have := S2_cut (f := NQ w N dd) hP (fun a b h => by
    rcases h.1 with y | y
    · exact Ld_lt hv y
    · exact (Ld_lt hv y).symm) (bP w) (24 - bP w) 0 (by omega) (by omega)
  rw [show bP w + (24 - bP w) = 24 by omega] at this
  exact this
/-- numbers as a function -/
theorem NP.fn {w : Nat → Int32} (hv : VB w) (h : NP w) : ∀ p, p < bP w → w (152 + p) = nI (ix (w (152 + p)) - 1 + 1) ∧ ix (w (152 + p)) - 1 < bP w := fun p hp => by
  have hP := hv.P.2
  obtain ⟨n, n1, n2⟩ := h.1 p hp
  rw [n2, ix_nI (by omega)]
  exact ⟨rfl, by omega⟩
theorem ok_near : ST_near RLx := by
  intro L d dm k n p1 h
  have hv := h.2.1.1
  have hP := hv.P.2
  unfold t_X5_near t_X6_near
  rw [in_I, Int32.toInt_toInt64, show (1 : Int64).toInt = ((1 : Nat) : Int) from rfl, show (24 : Int64).toInt = ((24 : Nat) : Int) from rfl, ob]
  rcases cmp1 p1 1 24 1 24 rfl rfl with ⟨a, b⟩ | ⟨a, a2, b⟩ | ⟨a, a2, b, t, ht1, ht, rfl⟩
  · rw [if_pos a, if_neg b, if_pos rfl]; exact ⟨_, d, rfl, rfl, h⟩
  · rw [if_neg a, if_neg a2, if_neg b, if_pos rfl]; exact ⟨_, d, rfl, rfl, h⟩
  · have hfn := NP.fn hv h.2.2.1
    obtain ⟨d', r1, r2, r3, r4⟩ := findLinks_q hv (show BK d 6 (wOf dm) from h.2.1.2.1) h.lb h.1.2.2.2.2.2.1
    have nr : ∀ p, p < bP (wOf dm) → gA d' (32 * 2 + 1) p = nI ((ix (wOf dm (152 + p)) - 1) + 1) ∧ ix (wOf dm (152 + p)) - 1 < 24 := fun p hp => by
      rw [r3 _ _ (by decide), h.2.1.2.2.2.2.1 p hp]
      exact ⟨(hfn p hp).1, by have := (hfn p hp).2; omega⟩
    rw [if_neg a, if_pos a2, if_pos b, if_neg (show ¬ (1 : Int32) = 0 by decide), r1, ob, nearPairs_q (N := fun p => ix (wOf dm (152 + p)) - 1) hv h.1.2.2.2.2.2.1 h.1.1.2.1 r4 nr (by omega), ob, nearBy_q (N := fun p => ix (wOf dm (152 + p)) - 1) hv (fun p hp => ⟨(hfn p hp).1, by have := (hfn p hp).2; omega⟩) (by omega) ht1, ob, NQ_cut hv]
    have ag : ∀ x, x ≠ 0 → AG d d' x := fun x hx => ⟨fun j => congrFun (r2 x) j, fun j hj i => r3 _ i (by omega)⟩
    refine ⟨_, d', rfl, rfl, h.l2 (SI_congr (ag 2 (by decide)) (ag 6 (by decide)) (fun _ _ => rfl) h.2.1) (fun x h0 _ => ag x h0) (congrFun (r2 0) 7) (LGR_cg h.2.2.2.2.2.2.2.1 (congrFun (r2 0) 4) (fun i => r3 _ i (by decide)) rfl (fun _ => rfl)) (fun _ _ _ _ => rfl) (fun _ _ _ => rfl)⟩
