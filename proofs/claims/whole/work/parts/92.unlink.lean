/-! ===== unlink ===== -/
/-- row a of e: cells from b + i on up to b + j have moved by one -/
def SHF (d e : Dt) (a b i j : Nat) : Prop := ∀ x, gA e a x = if b + i ≤ x ∧ x < b + j then gA d a (x + 1) else gA d a x
theorem SHF.st {d e e' : Dt} {a b i j : Nat} (h : SHF d e a b i j) (hij : i ≤ j) (he : ∀ x, gA e' a x = if x = b + j then gA e a (b + j + 1) else gA e a x) : SHF d e' a b i (j + 1) := by
  intro x
  rw [he]
  by_cases z : x = b + j
  · rw [if_pos z, h, if_neg (by omega), if_pos (by omega), z]
  · rw [if_neg z, h]
    by_cases y : b + i ≤ x ∧ x < b + j
    · rw [if_pos y, if_pos (by omega)]
    · rw [if_neg y, if_neg (by omega)]
theorem SHF.rf (d : Dt) (a b i : Nat) : SHF d d a b i i := fun x => by rw [if_neg (by omega)]
theorem strike_c {L : Nat → Nat} {d : Dt} {p i m : Nat} (hl : LB L 6) (hp : p < 24) (hm : m ≤ 6) (him : i < m) (h9 : gA d (32 * 6 + 9) p = nI m) (p2 : Int32) : ∀ (n j F : Nat) (e : Dt), j + n + 1 = m → i ≤ j → n < F → (∀ x, gF e x = gF d x) → (∀ a x, a ≠ 32 * 6 + 10 → a ≠ 32 * 6 + 11 → a ≠ 32 * 6 + 12 → gA e a x = gA d a x) → SHF d e (32 * 6 + 10) (6 * p) i j → SHF d e (32 * 6 + 11) (6 * p) i j → SHF d e (32 * 6 + 12) (6 * p) i j → ∃ d', lp (fun k x => t_X0_strikeChoice_20 L 6 (nI p) p2 (fun x3 x4 d => k (x3, x4, d)) x.1 x.2.1 x.2.2) F (nI (6 * p), nI (6 * p + j), e) = some d' ∧ (∀ x, gF d' x = gF d x) ∧ (∀ a x, a ≠ 32 * 6 + 9 → a ≠ 32 * 6 + 10 → a ≠ 32 * 6 + 11 → a ≠ 32 * 6 + 12 → gA d' a x = gA d a x) ∧ (∀ x, gA d' (32 * 6 + 9) x = if x = p then nI (m - 1) else gA d (32 * 6 + 9) x) ∧ SHF d d' (32 * 6 + 10) (6 * p) i (m - 1) ∧ SHF d d' (32 * 6 + 11) (6 * p) i (m - 1) ∧ SHF d d' (32 * 6 + 12) (6 * p) i (m - 1) := by
  intro n
  induction n with
  | zero =>
    intro j F e hj hij hF hf ha s10 s11 s12
    obtain ⟨F, rfl⟩ : ∃ G, F = G + 1 := ⟨F - 1, by omega⟩
    have e9 : gA e (32 * 6 + 9) p = nI m := (ha _ _ (by decide) (by decide) (by decide)).trans h9
    have ej : j = m - 1 := by omega
    have em : nI m - 1 = nI (m - 1) := by
      obtain ⟨m', rfl⟩ : ∃ m', m = m' + 1 := ⟨m - 1, by omega⟩
      rw [nI_pred]; rfl
    refine ⟨sA e (32 * 6 + 9) p (nI (m - 1)), ?_, hf, fun a x h1 h2 h3 h4 => ?_, fun x => ?_, ?_, ?_, ?_⟩
    · show t_X0_strikeChoice_20 L 6 (nI p) p2 (fun x3 x4 d => lp _ F (x3, x4, d)) (nI (6 * p)) (nI (6 * p + j)) e = _
      rw [t_X0_strikeChoice_20, hl.2.2.2.2.2.2.2.1, gdi hp (by omega), ix_nI (by omega), e9, nI_add, nI_1, if_pos (nI_le (by omega) (by omega)), gdi hp (by omega), gdi hp (by omega), em, bd_q]
    · rw [gA_sAi, if_neg (fun y => h1 y.1)]; exact ha a x h2 h3 h4
    · rw [gA_sAi]
      by_cases z : x = p
      · rw [if_pos ⟨rfl, z⟩, if_pos z]
      · rw [if_neg (fun y => z y.2), if_neg z]; exact ha _ _ (by decide) (by decide) (by decide)
    · intro x; rw [gA_sAi, if_neg (fun y => absurd y.1 (by decide)), ← ej]; exact s10 x
    · intro x; rw [gA_sAi, if_neg (fun y => absurd y.1 (by decide)), ← ej]; exact s11 x
    · intro x; rw [gA_sAi, if_neg (fun y => absurd y.1 (by decide)), ← ej]; exact s12 x
  | succ n ih =>
    intro j F e hj hij hF hf ha s10 s11 s12
    obtain ⟨F, rfl⟩ : ∃ G, F = G + 1 := ⟨F - 1, by omega⟩
    have e9 : gA e (32 * 6 + 9) p = nI m := (ha _ _ (by decide) (by decide) (by decide)).trans h9
    show ∃ d', t_X0_strikeChoice_20 L 6 (nI p) p2 (fun x3 x4 d => lp _ F (x3, x4, d)) (nI (6 * p)) (nI (6 * p + j)) e = _ ∧ _
    rw [t_X0_strikeChoice_20, hl.2.2.2.2.2.2.2.1, gdi hp (by omega), ix_nI (show p < 2 ^ 31 by omega), e9, nI_add, nI_1, if_neg (nI_ge (by omega) (by omega)), hl.2.2.2.2.2.2.2.2.1, gdi (show 6 * p + j + 1 < 144 by omega) (by omega), gdi (show 6 * p + j < 144 by omega) (by omega), bd_q, hl.2.2.2.2.2.2.2.2.2.1, gdi (show 6 * p + j + 1 < 144 by omega) (by omega), gdi (show 6 * p + j < 144 by omega) (by omega), bd_q, hl.2.2.2.2.2.2.2.2.2.2, gdi (show 6 * p + j + 1 < 144 by omega) (by omega), gdi (show 6 * p + j < 144 by omega) (by omega), bd_q, ix_nI (show 6 * p + j + 1 < 2 ^ 31 by omega), ix_nI (show 6 * p + j < 2 ^ 31 by omega)]
    refine ih (j + 1) F _ (by omega) (by omega) (by omega) hf (fun a x h1 h2 h3 => ?_) (s10.st hij (fun x => ?_)) (s11.st hij (fun x => ?_)) (s12.st hij (fun x => ?_))
    · rw [gA_sAi, if_neg (fun y => h3 y.1), gA_sAi, if_neg (fun y => h2 y.1), gA_sAi, if_neg (fun y => h1 y.1)]; exact ha a x h1 h2 h3
    · rw [gA_sAi, if_neg (fun y => absurd y.1 (by decide)), gA_sAi, if_neg (fun y => absurd y.1 (by decide)), gA_sAi]
      by_cases z : x = 6 * p + j
      · rw [if_pos ⟨rfl, z⟩, if_pos z]
      · rw [if_neg (fun y => z y.2), if_neg z]
    · rw [gA_sAi, if_neg (fun y => absurd y.1 (by decide)), gA_sAi]
      by_cases z : x = 6 * p + j
      · rw [if_pos ⟨rfl, z⟩, if_pos z, gA_sAi, if_neg (fun y => absurd y.1 (by decide))]
      · rw [if_neg (fun y => z y.2), if_neg z, gA_sAi, if_neg (fun y => absurd y.1 (by decide))]
    · rw [gA_sAi]
      by_cases z : x = 6 * p + j
      · rw [if_pos ⟨rfl, z⟩, if_pos z, gA_sAi, if_neg (fun y => absurd y.1 (by decide)), gA_sAi, if_neg (fun y => absurd y.1 (by decide))]
      · rw [if_neg (fun y => z y.2), if_neg z, gA_sAi, if_neg (fun y => absurd y.1 (by decide)), gA_sAi, if_neg (fun y => absurd y.1 (by decide))]
/-- the reference's cells while choices move -/
def SHM (d e : Dt) (p i j : Nat) : Prop := ∀ x, gA e 0 x = if (368 + 6 * p + i ≤ x ∧ x < 368 + 6 * p + j) ∨ (512 + 6 * p + i ≤ x ∧ x < 512 + 6 * p + j) ∨ (656 + 6 * p + i ≤ x ∧ x < 656 + 6 * p + j) then gA d 0 (x + 1) else gA d 0 x
theorem strike_m {dm : Dt} {p i m : Nat} (hp : p < 24) (hm : m ≤ 6) (him : i < m) (h9 : gA dm 0 (56 + p) = nI m) (p2 : Int32) : ∀ (n j F : Nat) (e : Dt), j + n + 1 = m → i ≤ j → n < F → (∀ x, gF e x = gF dm x) → (∀ a x, a ≠ 0 → gA e a x = gA dm a x) → SHM dm e p i j → ∃ d', lp (fun k x => t_X6_unlink_39 LM (nI p) p2 (fun x3 d => k (x3, d)) x.1 x.2) F (nI (6 * p + j), e) = some (nI (m - 1), d') ∧ (∀ x, gF d' x = gF dm x) ∧ (∀ a x, a ≠ 0 → gA d' a x = gA dm a x) ∧ ∀ x, gA d' 0 x = if x = 56 + p then nI (m - 1) else if (368 + 6 * p + i ≤ x ∧ x < 368 + 6 * p + (m - 1)) ∨ (512 + 6 * p + i ≤ x ∧ x < 512 + 6 * p + (m - 1)) ∨ (656 + 6 * p + i ≤ x ∧ x < 656 + 6 * p + (m - 1)) then gA dm 0 (x + 1) else gA dm 0 x := by
  have e6 : (6 : Int32) * nI p = nI (6 * p) := nI_mulN 6 p
  have e56 : (56 : Int32) + nI p = nI (56 + p) := nI_add 56 p
  intro n
  induction n with
  | zero =>
    intro j F e hj hij hF hf ha hs
    obtain ⟨F, rfl⟩ : ∃ G, F = G + 1 := ⟨F - 1, by omega⟩
    have e9 : gA e (32 * 0 + 0) (56 + p) = nI m := by
      have := hs (56 + p)
      rw [if_neg (by omega)] at this
      exact this.trans h9
    have ej : j = m - 1 := by omega
    have em : nI m - 1 = nI (m - 1) := by
      obtain ⟨m', rfl⟩ : ∃ m', m = m' + 1 := ⟨m - 1, by omega⟩
      rw [nI_pred]; rfl
    refine ⟨sA e 0 (56 + p) (nI (m - 1)), ?_, hf, fun a x h1 => ?_, fun x => ?_⟩
    · show t_X6_unlink_39 LM (nI p) p2 (fun x3 d => lp _ F (x3, d)) (nI (6 * p + j)) e = _
      rw [t_X6_unlink_39, e6, e56, LM0, gdi (show 56 + p < 4128 by omega) (by omega), ix_nI (by omega), e9, nI_add, nI_1, if_pos (nI_le (by omega) (by omega)), gdi (show 56 + p < 4128 by omega) (by omega), gdi (show 56 + p < 4128 by omega) (by omega), em, bd_q, gdi (show 56 + p < 4128 by omega) (by omega), gA_sAi, if_pos ⟨rfl, rfl⟩]
    · rw [gA_sAi, if_neg (fun y => h1 y.1)]; exact ha a x h1
    · rw [gA_sAi]
      by_cases z : x = 56 + p
      · rw [if_pos ⟨rfl, z⟩, if_pos z]
      · rw [if_neg (fun y => z y.2), if_neg z, hs, ej]
  | succ n ih =>
    intro j F e hj hij hF hf ha hs
    obtain ⟨F, rfl⟩ : ∃ G, F = G + 1 := ⟨F - 1, by omega⟩
    have e9 : gA e (32 * 0 + 0) (56 + p) = nI m := by
      have := hs (56 + p)
      rw [if_neg (by omega)] at this
      exact this.trans h9
    show ∃ d', t_X6_unlink_39 LM (nI p) p2 (fun x3 d => lp _ F (x3, d)) (nI (6 * p + j)) e = _ ∧ _
    rw [t_X6_unlink_39, e6, e56, LM0, gdi (show 56 + p < 4128 by omega) (by omega), ix_nI (show 56 + p < 2 ^ 31 by omega), e9, nI_add, nI_1, if_neg (nI_ge (by omega) (by omega)), show (368 : Int32) + nI (6 * p + j) = nI (368 + (6 * p + j)) from nI_add 368 _, nI_1, gdi (show 368 + (6 * p + j) + 1 < 4128 by omega) (by omega), gdi (show 368 + (6 * p + j) < 4128 by omega) (by omega), bd_q, show (512 : Int32) + nI (6 * p + j) = nI (512 + (6 * p + j)) from nI_add 512 _, nI_1, gdi (show 512 + (6 * p + j) + 1 < 4128 by omega) (by omega), gdi (show 512 + (6 * p + j) < 4128 by omega) (by omega), bd_q, show (656 : Int32) + nI (6 * p + j) = nI (656 + (6 * p + j)) from nI_add 656 _, nI_1, gdi (show 656 + (6 * p + j) + 1 < 4128 by omega) (by omega), gdi (show 656 + (6 * p + j) < 4128 by omega) (by omega), bd_q, ix_nI (show 368 + (6 * p + j) + 1 < 2 ^ 31 by omega), ix_nI (show 368 + (6 * p + j) < 2 ^ 31 by omega), ix_nI (show 512 + (6 * p + j) + 1 < 2 ^ 31 by omega), ix_nI (show 512 + (6 * p + j) < 2 ^ 31 by omega), ix_nI (show 656 + (6 * p + j) + 1 < 2 ^ 31 by omega), ix_nI (show 656 + (6 * p + j) < 2 ^ 31 by omega)]
    refine ih (j + 1) F _ (by omega) (by omega) (by omega) hf (fun a x h1 => ?_) (fun x => ?_)
    · rw [gA_sAi, if_neg (fun y => h1 y.1), gA_sAi, if_neg (fun y => h1 y.1), gA_sAi, if_neg (fun y => h1 y.1)]; exact ha a x h1
    · rw [gA_sAi]
      by_cases z3 : x = 656 + (6 * p + j)
      · rw [if_pos ⟨rfl, z3⟩, gA_sAi, if_neg (by omega), gA_sAi, if_neg (by omega), hs, if_neg (by omega), if_pos (by omega), z3]
      · rw [if_neg (fun y => z3 y.2), gA_sAi]
        by_cases z2 : x = 512 + (6 * p + j)
        · rw [if_pos ⟨rfl, z2⟩, gA_sAi, if_neg (by omega), hs, if_neg (by omega), if_pos (by omega), z2]
        · rw [if_neg (fun y => z2 y.2), gA_sAi]
          by_cases z1 : x = 368 + (6 * p + j)
          · rw [if_pos ⟨rfl, z1⟩, hs, if_neg (by omega), if_pos (by omega), z1]
          · rw [if_neg (fun y => z1 y.2), hs]
            by_cases y : (368 + 6 * p + i ≤ x ∧ x < 368 + 6 * p + j) ∨ (512 + 6 * p + i ≤ x ∧ x < 512 + 6 * p + j) ∨ (656 + 6 * p + i ≤ x ∧ x < 656 + 6 * p + j)
            · rw [if_pos y, if_pos (by omega)]
            · rw [if_neg y, if_neg (by omega)]
theorem ok_unlink : ST_unlink RLx := by
  intro L d dm k n p1 p2 h
  have hv := h.2.1.1
  have hb : BK d 6 (wOf dm) := h.2.1.2.1
  have hl := h.lb
  have hP := hv.P
  have triv : ∀ v : Int32, ∃ (r : Int32) (d' dm' : Dt), some (v, d) = some (r, d') ∧ some (v, dm) = some (r, dm') ∧ RLx L d' dm' k n := fun v => ⟨v, d, dm, rfl, rfl, h⟩
  unfold t_X5_unlink t_X6_unlink
  rw [noPart_eq hv, ob]
  by_cases x1 : inb p1 (bP (wOf dm)) = true
  · obtain ⟨p, hp, rfl⟩ := inb_ex x1 (by omega)
    have hV := hv.2.2.2 p hp
    have hC := hV.C
    have hB := hb.2.2 p hp
    rw [if_pos x1, if_pos rfl, hasChoice_eq hv hb hl hp, ob, LM0, show (56 : Int32) + nI p = nI (56 + p) from nI_add 56 p, gdi (show 56 + p < 4128 by omega) (by omega), wg (by omega), hC.1, in_lt p2 (by omega), ob]
    by_cases x2 : inb p2 (bC (wOf dm) p) = true
    · obtain ⟨i, hi, rfl⟩ := inb_ex x2 (by omega)
      have e0 : bE (wOf dm) p = 0 := by
        by_cases z : bE (wOf dm) p = 0
        · exact z
        · have := hV.2.2.2.1 z; omega
      have h9 : gA d (32 * 6 + 9) p = nI (bC (wOf dm) p) := hB.2.2.1.trans hC.1
      obtain ⟨d', r1, r2, r3, r4, r5, r6, r7⟩ := strike_c hl (show p < 24 by omega) (by omega) hi h9 (nI i) (bC (wOf dm) p - i - 1) i FU d (by omega) (Nat.le_refl _) (by unfold FU; omega) (fun _ => rfl) (fun _ _ _ _ _ => rfl) (SHF.rf _ _ _ _) (SHF.rf _ _ _ _) (SHF.rf _ _ _ _)
      obtain ⟨dm', t1, t2, t3, t4⟩ := strike_m (show p < 24 by omega) (show bC (wOf dm) p ≤ 6 by omega) hi (show gA dm 0 (56 + p) = _ from hC.1) (nI i) (bC (wOf dm) p - i - 1) i FU dm (by omega) (Nat.le_refl _) (by unfold FU; omega) (fun _ => rfl) (fun _ _ _ => rfl) (fun x => by rw [if_neg (by omega)])
      have cls : t_X0_strikeChoice L d 6 (nI p) (nI i) = some d' := by
        unfold t_X0_strikeChoice
        rw [hasChoice_eq hv hb hl hp, ob, if_pos x2, if_neg (by decide), show nI p * 6 = nI (6 * p) from by rw [show (6 : Int32) = nI 6 from rfl, nI_mulN, Nat.mul_comm], bd_q, nI_add, bd_q]
        exact r1
      rw [if_pos x2, if_neg (show ¬ (1 : Int32) = 0 by decide), if_neg (show ¬ (1 : Int32) = 0 by decide), cls, ob, bd_q, hl.2.2.2.2.2.2.2.1, gdi (show p < 24 by omega) (by omega), ix_nI (by omega), gA_sF, r4, if_pos rfl, show (6 : Int32) * nI p = nI (6 * p) from nI_mulN 6 p, nI_add, bd_q, t1]
      generalize hm : bC (wOf dm) p = m at *
      have hx : ∀ x, ¬ CHp p x → gA dm' 0 x = gA dm 0 x := fun x hx => by
        unfold CHp at hx
        rw [t4, if_neg (by omega), if_neg (by omega)]
      refine ⟨_, _, dm', rfl, rfl, h.lk (p := p) (SI_ch (m := m - 1) h.2.1 hp (fun x _ hi => hx x hi) ?_ (by omega) (fun z => absurd e0 z) (fun c hc => ?_) ?_ ?_ (fun j x hj => ?_) (fun p' hp' => ?_) ?_ (fun j x h1 h2 h3 => ?_) (fun c hc => ?_)) (by omega) (fun x x0 x6 => ?_) (fun j hj => ?_) (fun j x hj => ?_) (gF_sF1 _ _ _ _) (fun j => ?_) t3 hx⟩
      · show gA dm' 0 (56 + p) = _
        rw [t4, if_pos rfl]
      · show NB (gA dm' 0 _) _ ∧ VT (gA dm' 0 _) ∧ VT (gA dm' 0 _)
        have sh : ∀ b, (b = 368 ∨ b = 512 ∨ b = 656) → gA dm' 0 (b + (6 * p + c)) = if i ≤ c then gA dm 0 (b + (6 * p + (c + 1))) else gA dm 0 (b + (6 * p + c)) := by
          intro b hb
          rw [t4, if_neg (by omega)]
          by_cases z : i ≤ c
          · rw [if_pos (by omega), if_pos z]; congr 1
          · rw [if_neg (by omega), if_neg z]
        rw [sh 368 (.inl rfl), sh 512 (.inr (.inl rfl)), sh 656 (.inr (.inr rfl))]
        by_cases z : i ≤ c
        · rw [if_pos z, if_pos z, if_pos z]; exact hV.2.2.2.2.2.2 (c + 1) (by omega)
        · rw [if_neg z, if_neg z, if_neg z]; exact hV.2.2.2.2.2.2 c (by omega)
      · exact AG.trans (d' := d') ⟨fun j => congrFun (r2 2) j, fun j hj x => r3 _ x (by omega) (by omega) (by omega) (by omega)⟩ (AG_sF (by decide))
      · intro j; rw [gF_sFn (by omega)]; exact congrFun (r2 6) j
      · rw [gA_sF]; exact r3 _ x (by omega) (by omega) (by omega) (by omega)
      · rw [gA_sF, r4, if_neg hp']
      · rw [gA_sF, r4, if_pos rfl]
      · rw [gA_sF]
        rcases (show j = 10 ∨ j = 11 ∨ j = 12 by omega) with z | z | z
        · rw [z, r5, if_neg (by omega)]
        · rw [z, r6, if_neg (by omega)]
        · rw [z, r7, if_neg (by omega)]
      · rw [gA_sF, gA_sF, gA_sF, r5, r6, r7]
        show _ = gA dm' 0 _ ∧ _ = gA dm' 0 _ ∧ _ = gA dm' 0 _
        rw [t4 (368 + (6 * p + c)), t4 (512 + (6 * p + c)), t4 (656 + (6 * p + c)), if_neg (show ¬ 368 + (6 * p + c) = 56 + p by omega), if_neg (show ¬ 512 + (6 * p + c) = 56 + p by omega), if_neg (show ¬ 656 + (6 * p + c) = 56 + p by omega)]
        by_cases z : i ≤ c
        · have := hB.2.2.2.2.2 (c + 1) (by omega)
          have c1 : 6 * p + i ≤ 6 * p + c ∧ 6 * p + c < 6 * p + (m - 1) := by omega
          rw [if_pos c1, if_pos c1, if_pos c1, if_pos (by omega), if_pos (by omega), if_pos (by omega)]
          exact this
        · have := hB.2.2.2.2.2 c (by omega)
          have c1 : ¬ (6 * p + i ≤ 6 * p + c ∧ 6 * p + c < 6 * p + (m - 1)) := by omega
          rw [if_neg c1, if_neg c1, if_neg c1, if_neg (by omega), if_neg (by omega), if_neg (by omega)]
          exact this
      · exact AG.trans (d' := d') ⟨fun j => congrFun (r2 x) j, fun j hj y => r3 _ y (by omega) (by omega) (by omega) (by omega)⟩ (AG_sF x0)
      · rw [gF_sFn (fun y => hj y.2)]; exact congrFun (r2 0) j
      · rw [gA_sF]; exact r3 _ x (by omega) (by omega) (by omega) (by omega)
      · exact congrFun (t2 0) j
    · rw [if_neg x2, if_pos rfl, if_pos rfl]
      exact triv _
  · rw [if_neg x1, if_neg (show ¬ (1 : Int32) = 0 by decide), hasChoice_no hv hb x1, ob, if_pos rfl]
    exact triv _
