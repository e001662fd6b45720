/-! ===== the reference: traps, holes, things ===== -/
theorem RR_head {u : Nat → Int32} {bar nop : Int32} {r r' : Nat} (h : Ed u bar nop r r') : ∀ (n q : Nat), RR u bar nop r' n q → RR u bar nop r (n + 1) q := by
  intro n
  induction n with
  | zero => intro q hq; exact ⟨r, rfl, (show q = r' from hq) ▸ h⟩
  | succ n ih =>
    intro q hq
    obtain ⟨q', h1, h2⟩ := hq
    exact ⟨q', ih q' h1, h2⟩
theorem RR_tail {u : Nat → Int32} {bar nop : Int32} {r : Nat} : ∀ (n q : Nat), RR u bar nop r (n + 1) q → ∃ r', Ed u bar nop r r' ∧ RR u bar nop r' n q := by
  intro n
  induction n with
  | zero =>
    intro q hq
    obtain ⟨q', h1, h2⟩ := hq
    have : q' = r := h1
    exact ⟨q, this ▸ h2, rfl⟩
  | succ n ih =>
    intro q hq
    obtain ⟨q', h1, h2⟩ := hq
    obtain ⟨r', h3, h4⟩ := ih q' h1
    exact ⟨r', h3, q', h4, h2⟩
/-- from q one can come to a win -/
def CnW (u : Nat → Int32) (bar nop : Int32) (q : Nat) : Prop := ∃ n q', RR u bar nop q n q' ∧ bE u (qp q') = 1
theorem CnW.won {u : Nat → Int32} {bar nop : Int32} {q : Nat} (h : bE u (qp q) = 1) : CnW u bar nop q := ⟨0, q, rfl, h⟩
theorem CnW.step {u : Nat → Int32} {bar nop : Int32} {q q' : Nat} (h : Ed u bar nop q q') (h2 : CnW u bar nop q') : CnW u bar nop q := by
  obtain ⟨n, r, a, b⟩ := h2
  exact ⟨n + 1, r, RR_head h n r a, b⟩
def cz (f : Nat → Bool) : Nat → Nat
  | 0 => 0
  | n + 1 => cz f n + (if f n = true then 1 else 0)
theorem cz_le (f : Nat → Bool) : ∀ n, cz f n ≤ n := by
  intro n
  induction n with
  | zero => exact Nat.le_refl _
  | succ n ih => unfold cz; split <;> omega
theorem cz_mono {f g : Nat → Bool} : ∀ n, (∀ j, j < n → g j = true → f j = true) → cz g n ≤ cz f n := by
  intro n
  induction n with
  | zero => intro _; exact Nat.le_refl _
  | succ n ih =>
    intro h
    have h1 := ih (fun j hj => h j (by omega))
    unfold cz
    by_cases c : g n = true
    · rw [if_pos c, if_pos (h n (by omega) c)]; omega
    · rw [if_neg c]; split <;> omega
theorem cz_lt {f g : Nat → Bool} : ∀ n, (∀ j, j < n → g j = true → f j = true) → (∃ j, j < n ∧ f j = true ∧ ¬ g j = true) → cz g n < cz f n := by
  intro n
  induction n with
  | zero => rintro _ ⟨j, hj, _⟩; omega
  | succ n ih =>
    rintro h ⟨j, hj, h1, h2⟩
    unfold cz
    by_cases c : j = n
    · subst c
      have := cz_mono j (fun i hi => h i (by omega))
      rw [if_pos h1, if_neg h2]
      omega
    · have := ih (fun i hi => h i (by omega)) ⟨j, by omega, h1, h2⟩
      by_cases c2 : g n = true
      · rw [if_pos c2, if_pos (h n (by omega) c2)]; omega
      · rw [if_neg c2]; split <;> omega
theorem bit_0 : ∀ g, g < 24 → (0 : Int32) <<< (nI g &&& 31) = 0 := by decide +kernel
/-- row 28 holds 0 and 1 alone, 1 only where one can win -/
def T01 (u : Nat → Int32) (bar nop : Int32) (d : Dt) (s : Nat) (Y : Nat → Nat) : Prop := ∀ j, j < s → (gA d 28 (Y j) = 0 ∧ bE u (qp (Y j)) ≠ 1) ∨ (gA d 28 (Y j) = 1 ∧ CnW u bar nop (Y j))
/-- a way from q to what is sure -/
def SW (u : Nat → Int32) (bar nop : Int32) (d : Dt) (q c : Nat) : Prop := c < wys u (qp q) ∧ wo u q c = true ∧ ∃ q', nxm u bar nop q c = some q' ∧ gA d 28 q' = 1
theorem traps_fin {u : Nat → Int32} {bar nop : Int32} {e : Dt} {s : Nat} {Y : Nat → Nat} (hr : RU u e) (hl : LI u e s Y) : ∀ (n i F M : Nat) (d : Dt), i + n = s → n < F → FO e d → (∀ j, j < s → (gA d 28 (Y j) = 0 ∧ ¬ CnW u bar nop (Y j)) ∨ (gA d 28 (Y j) = 1 ∧ CnW u bar nop (Y j))) → M < 2 ^ 24 → (∀ g, M.testBit g = true ↔ ∃ j, j < i ∧ qp (Y j) = g ∧ ¬ CnW u bar nop (Y j)) → ∃ M' e', lp (fun k x => t_X6_traps_184 LM (fun x2 x3 d => k (x2, x3, d)) x.1 x.2.1 x.2.2) F (nI M, nI i, d) = some (nI M', e') ∧ FO e e' ∧ M' < 2 ^ 24 ∧ ∀ g, M'.testBit g = true ↔ ∃ j, j < s ∧ qp (Y j) = g ∧ ¬ CnW u bar nop (Y j) := by
  have hv := hr.v
  have hs := hl.2.1
  have hP := hv.P.2
  intro n
  induction n with
  | zero =>
    intro i F M d hi hF hd h28 hM hg
    obtain ⟨F, rfl⟩ : ∃ G, F = G + 1 := ⟨F - 1, by omega⟩
    have : i = s := by omega
    subst this
    have L1 := hl.fo hd
    refine ⟨M, d, ?_, hd, hM, hg⟩
    show t_X6_traps_184 LM (fun x2 x3 d => lp _ F (x2, x3, d)) (nI M) (nI i) d = _
    rw [t_X6_traps_184, L1.1, if_pos (nI_le (by omega) (by omega))]
  | succ n ih =>
    intro i F M d hi hF hd h28 hM hg
    obtain ⟨F, rfl⟩ : ∃ G, F = G + 1 := ⟨F - 1, by omega⟩
    have L1 := hl.fo hd
    obtain ⟨hq, e19⟩ := L1.2.2.1 i (by omega)
    have e19' : gA d (32 * 0 + 19) i = nI (Y i) := e19
    have ll := VQ_lt hv hq
    have hp := hq.1
    show ∃ M' e', t_X6_traps_184 LM (fun x2 x3 d => lp _ F (x2, x3, d)) (nI M) (nI i) d = _ ∧ _
    rw [t_X6_traps_184, L1.1, if_neg (nI_ge (by omega) (by omega)), LM19, gdi (by omega) (by omega), ix_nI (show i < 2 ^ 31 by omega), e19', LM28, gdi ll (by omega), ix_nI (by omega)]
    rcases h28 i (by omega) with ⟨z, w⟩ | ⟨z, w⟩
    · rw [show gA d (32 * 0 + 28) (Y i) = 0 from z, if_pos rfl, t_X6_traps_212, t_X6_one, if_neg (by decide), ob, LM19, gdi (by omega) (by omega), ix_nI (show i < 2 ^ 31 by omega), e19', partOf_q ll, ob, bit_e _ (by omega), nx_or, bd_q, nI_1]
      refine ih _ _ _ _ (by omega) (by omega) hd h28 (Nat.or_lt_two_pow hM (Nat.pow_lt_pow_right (by decide) (by omega))) (fun g => ?_)
      rw [Nat.testBit_or, Bool.or_eq_true, hg g, Nat.testBit_two_pow, decide_eq_true_eq]
      constructor
      · rintro (⟨j, q1, q2, q3⟩ | q)
        · exact ⟨j, by omega, q2, q3⟩
        · exact ⟨i, by omega, q, w⟩
      · rintro ⟨j, q1, q2, q3⟩
        by_cases y : j = i
        · rw [y] at q2; exact .inr q2
        · exact .inl ⟨j, by omega, q2, q3⟩
    · rw [show gA d (32 * 0 + 28) (Y i) = 1 from z, if_neg (by decide), t_X6_traps_212, t_X6_one, if_pos rfl, ob, LM19, gdi (by omega) (by omega), ix_nI (show i < 2 ^ 31 by omega), e19', partOf_q ll, ob, bit_0 _ (by omega), or_z _ _ rfl, bd_q, nI_1]
      refine ih _ _ _ _ (by omega) (by omega) hd h28 hM (fun g => ?_)
      rw [hg g]
      constructor
      · rintro ⟨j, q1, q2, q3⟩
        exact ⟨j, by omega, q2, q3⟩
      · rintro ⟨j, q1, q2, q3⟩
        by_cases y : j = i
        · rw [y] at q3; exact absurd w q3
        · exact ⟨j, by omega, q2, q3⟩
theorem traps_ways {u : Nat → Int32} {bar nop : Int32} {s : Nat} {Y : Nat → Nat} {d : Dt} (hr : RU u d) (hb : gF d 0 16 = bar) (hn : gF d 0 15 = nop) (hc : CLo u bar nop s Y) (h01 : ∀ j, j < s → gA d 28 (Y j) = 0 ∨ gA d 28 (Y j) = 1) {k : Nat} (hk : k < s) (K52 : Int32 → Dt → Option (Int32 × Dt)) (K65 : Int32 → Int32 → Dt → Option (Int32 × Dt)) (x1 x2 : Int32) : ∀ (n c F : Nat) (x4 : Int32) (d1 : Dt), c + n = wys u (qp (Y k)) → n < F → NWd d d1 → (x4 = 0 ∨ x4 = 1) → ∃ d' x4', lp (fun k x => t_X6_traps_87 LM K52 K65 (fun x1 x2 x3 x4 x5 d => k (x1, x2, x3, x4, x5, d)) x.1 x.2.1 x.2.2.1 x.2.2.2.1 x.2.2.2.2.1 x.2.2.2.2.2) F (x1, x2, nI (Y k), x4, nI c, d1) = t_X6_traps_139 LM K52 K65 x1 x2 (nI (Y k)) x4' d' ∧ NWd d d' ∧ ((x4' = 1 ∧ (x4 = 1 ∨ ∃ c', SW u bar nop d (Y k) c')) ∨ (x4' = 0 ∧ x4 = 0 ∧ ∀ c', c ≤ c' → ¬ SW u bar nop d (Y k) c')) := by
  have hv := hr.v
  have hq := hc.1 k hk
  have hw6 := wys_lt hv hq.1
  intro n
  induction n with
  | zero =>
    intro c F x4 d1 hc' hF hd hx
    obtain ⟨F, rfl⟩ : ∃ G, F = G + 1 := ⟨F - 1, by omega⟩
    refine ⟨d1, x4, ?_, hd, ?_⟩
    · show t_X6_traps_87 LM K52 K65 (fun x1 x2 x3 x4 x5 d => lp _ F (x1, x2, x3, x4, x5, d)) x1 x2 (nI (Y k)) x4 (nI c) d1 = _
      rw [t_X6_traps_87, waysOf_q (hd.ru hr) hq, ob, if_pos (nI_le (by omega) (by omega))]
    · rcases hx with z | z
      · exact .inr ⟨z, z, fun c' h1 h2 => by have := h2.1; omega⟩
      · exact .inl ⟨z, .inl z⟩
  | succ n ih =>
    intro c F x4 d1 hc' hF hd hx
    obtain ⟨F, rfl⟩ : ∃ G, F = G + 1 := ⟨F - 1, by omega⟩
    show ∃ d' x4', t_X6_traps_87 LM K52 K65 (fun x1 x2 x3 x4 x5 d => lp _ F (x1, x2, x3, x4, x5, d)) x1 x2 (nI (Y k)) x4 (nI c) d1 = _ ∧ _
    rw [t_X6_traps_87, waysOf_q (hd.ru hr) hq, ob, if_neg (nI_ge (by omega) (by omega))]
    rcases hx with z | z
    · subst z
      rw [if_pos rfl, isWay_q (hd.ru hr) hq (by omega), ob]
      by_cases ow : wo u (Y k) c = true
      · obtain ⟨d2, s1, s2⟩ := wayTo_q (hd.ru hr) hq (c := c) (by omega)
        rw [hd.1 16 (by decide) (by decide), hd.1 15 (by decide) (by decide), hb, hn] at s1
        rw [if_pos ow, if_neg (by decide), s1, ob]
        dsimp only
        have hd2 := hd.trans s2
        have no : ∀ v, t_X6_isSureAt LM d2 (enc (nxm u bar nop (Y k) c)) = some v → v = 0 → ¬ SW u bar nop d (Y k) c → ∃ d' x4', (t_X6_isSureAt LM d2 (enc (nxm u bar nop (Y k) c))).bind (fun v30 => if v30 = 0 then t_X6_traps_130 LM K52 K65 (fun x1 x2 x3 x4 x5 d => lp (fun k x => t_X6_traps_87 LM K52 K65 (fun x1 x2 x3 x4 x5 d => k (x1, x2, x3, x4, x5, d)) x.1 x.2.1 x.2.2.1 x.2.2.2.1 x.2.2.2.2.1 x.2.2.2.2.2) F (x1, x2, x3, x4, x5, d)) x1 x2 (nI (Y k)) (nI c) d2 else t_X6_traps_131 LM K52 K65 (fun x1 x2 x3 x4 x5 d => lp (fun k x => t_X6_traps_87 LM K52 K65 (fun x1 x2 x3 x4 x5 d => k (x1, x2, x3, x4, x5, d)) x.1 x.2.1 x.2.2.1 x.2.2.2.1 x.2.2.2.2.1 x.2.2.2.2.2) F (x1, x2, x3, x4, x5, d)) x1 x2 (nI (Y k)) (nI c) 1 d2) = t_X6_traps_139 LM K52 K65 x1 x2 (nI (Y k)) x4' d' ∧ NWd d d' ∧ ((x4' = 1 ∧ ((0 : Int32) = 1 ∨ ∃ c', SW u bar nop d (Y k) c')) ∨ (x4' = 0 ∧ (0 : Int32) = 0 ∧ ∀ c', c ≤ c' → ¬ SW u bar nop d (Y k) c')) := by
          intro v hv1 hv0 hsw
          rw [hv1, ob, hv0, if_pos rfl, t_X6_traps_130, t_X6_traps_131, nI_1]
          obtain ⟨d', x4', r1, r2, r3⟩ := ih (c + 1) F 0 d2 (by omega) (by omega) hd2 (.inl rfl)
          refine ⟨d', x4', r1, r2, ?_⟩
          rcases r3 with q | ⟨q1, q2, q3⟩
          · exact .inl q
          · refine .inr ⟨q1, rfl, fun c' h1 => ?_⟩
            by_cases y : c' = c
            · rw [y]; exact hsw
            · exact q3 c' (by omega)
        cases hx : nxm u bar nop (Y k) c with
        | none =>
          rw [hx] at no
          refine no 0 (by unfold t_X6_isSureAt; rw [if_pos enc_none]) rfl ?_
          rintro ⟨_, _, q', h1, _⟩
          rw [hx] at h1; cases h1
        | some q' =>
          rw [hx] at no
          obtain ⟨j, j1, j2⟩ := hc.2 k hk q' (nxm_Ed (by omega) ow hx)
          have hl : q' < 61440 := j2 ▸ VQ_lt hv (hc.1 j j1)
          have e28 : gA d2 (32 * 0 + 28) q' = gA d 28 q' := hd2.2 28 q'
          have hsa : t_X6_isSureAt LM d2 (enc (some q')) = some (if gA d 28 q' = 0 then 0 else 1) := by
            unfold t_X6_isSureAt
            rw [if_neg (enc_some_ne hl), enc_q, LM28, gdi hl (by omega), ix_nI (by omega), e28]
            split <;> rfl
          rcases h01 j j1 with y | y
          · rw [j2] at y
            refine no 0 (by rw [hsa, if_pos y]) rfl ?_
            rintro ⟨_, _, q1, h1, h2⟩
            rw [hx] at h1; cases h1
            rw [y] at h2; exact absurd h2 (by decide)
          · rw [j2] at y
            rw [hsa, ob, y, if_neg (show ¬ (1 : Int32) = 0 by decide), if_neg (show ¬ (1 : Int32) = 0 by decide), t_X6_traps_131, nI_1]
            obtain ⟨d', x4', r1, r2, r3⟩ := ih (c + 1) F 1 d2 (by omega) (by omega) hd2 (.inr rfl)
            refine ⟨d', x4', r1, r2, ?_⟩
            rcases r3 with ⟨q, _⟩ | ⟨q1, q2, q3⟩
            · exact .inl ⟨q, .inr ⟨c, by omega, ow, q', hx, y⟩⟩
            · exact absurd q2 (by decide)
      · rw [if_neg ow, if_pos rfl, t_X6_traps_130, t_X6_traps_131, nI_1]
        obtain ⟨d', x4', r1, r2, r3⟩ := ih (c + 1) F 0 d1 (by omega) (by omega) hd (.inl rfl)
        refine ⟨d', x4', r1, r2, ?_⟩
        rcases r3 with q | ⟨q1, q2, q3⟩
        · exact .inl q
        · refine .inr ⟨q1, rfl, fun c' h1 h2 => ?_⟩
          by_cases y : c' = c
          · rw [y] at h2; exact ow h2.2.1
          · exact q3 c' (by omega) h2
    · subst z
      rw [if_neg (by decide)]
      exact ⟨d1, 1, rfl, hd, .inl ⟨rfl, .inl rfl⟩⟩
