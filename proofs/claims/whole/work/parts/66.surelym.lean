/-! ===== the reference: surely, fewest ===== -/
def SRES (u : Nat → Int32) (bar : Int32) (x : Option Nat) (v : Int32) : Prop := (∃ t, t ≤ 60 ∧ v = nI t ∧ oo (od u bar t) x = 1000000 ∧ ∀ r, r < t → oo (od u bar r) x ≠ 1000000) ∨ (v = -1 ∧ ∀ t, t ≤ 60 → oo (od u bar t) x ≠ 1000000)
theorem SRES.eq {u : Nat → Int32} {bar : Int32} {x : Option Nat} {v v' : Int32} (h : SRES u bar x v) (h' : SRES u bar x v') : v = v' := by
  rcases h with ⟨t, a, b, c, e⟩ | ⟨a, b⟩
  · rcases h' with ⟨t', a', b', c', e'⟩ | ⟨a', b'⟩
    · rw [b, b']
      rcases Nat.lt_trichotomy t t' with z | z | z
      · exact absurd c (e' t z)
      · rw [z]
      · exact absurd c' (e t' z)
    · exact absurd c (b' t a)
  · rcases h' with ⟨t', a', b', c', e'⟩ | ⟨a', b'⟩
    · exact absurd c' (b t' a')
    · rw [a, a']
theorem surely_lp {u : Nat → Int32} {bar : Int32} {e : Dt} {s : Nat} {Y : Nat → Nat} (hr : RU u e) (hb : gF e 0 16 = bar) (hn : gF e 0 15 = -1) (hl : LI u e s Y) (hc : CLo u bar (-1) s Y) (o : Option Nat) (ho : ∀ q, o = some q → ∃ j, j < s ∧ Y j = q) : ∃ v e', lp (fun k x => t_X6_surely_24 LM (fun x1 x2 d => k (x1, x2, d)) x.1 x.2.1 x.2.2) FU (enc o, 0, e) = some (v, e') ∧ FO e e' ∧ SRES u bar o v := by
  have hv := hr.v
  have hs := hl.2.1
  have hYi := hl.2.2.2
  have lt : ∀ i, i < s → Y i < 61440 := fun i hi => VQ_lt hv (hc.1 i hi)
  have cp : ∀ (K : Int32 → Int32 → Dt → Option (Int32 × Dt)) (x y : Int32) (n i F : Nat) (d : Dt) (g : Nat → Nat), i + n = s → n < F → FO e d → (∀ j, j < s → gA d 27 (Y j) = bo (g (Y j) = 1000000)) → (∀ j, j < i → gA d 28 (Y j) = bo (g (Y j) = 1000000)) → ∃ d', lp (fun k x => t_X6_surely_125 LM K (fun x1 x2 x3 d => k (x1, x2, x3, d)) x.1 x.2.1 x.2.2.1 x.2.2.2) F (x, y, nI i, d) = K x (y + 1) d' ∧ FO e d' ∧ SU d' s Y g := by
    intro K x y n
    induction n with
    | zero =>
      intro i F d g hi hF hd h27 h28
      obtain ⟨F, rfl⟩ : ∃ G, F = G + 1 := ⟨F - 1, by omega⟩
      have L1 := hl.fo hd
      refine ⟨d, ?_, hd, fun j hj => h28 j (by omega)⟩
      show t_X6_surely_125 LM K (fun x1 x2 x3 d => lp _ F (x1, x2, x3, d)) x y (nI i) d = _
      rw [t_X6_surely_125, L1.1, if_pos (nI_le (by omega) (by omega))]
    | succ n ih =>
      intro i F d g hi hF hd h27 h28
      obtain ⟨F, rfl⟩ : ∃ G, F = G + 1 := ⟨F - 1, by omega⟩
      have L1 := hl.fo hd
      have e19 : gA d (32 * 0 + 19) i = nI (Y i) := (L1.2.2.1 i (by omega)).2
      have e27 : gA d (32 * 0 + 27) (Y i) = bo (g (Y i) = 1000000) := h27 i (by omega)
      have ll := lt i (by omega)
      show ∃ d', t_X6_surely_125 LM K (fun x1 x2 x3 d => lp _ F (x1, x2, x3, d)) x y (nI i) d = _ ∧ _
      rw [t_X6_surely_125, L1.1, if_neg (nI_ge (by omega) (by omega)), LM19, gdi (by omega) (by omega), gdi (by omega) (by omega), ix_nI (show i < 2 ^ 31 by omega), e19, LM27, gdi ll (by omega), LM28, gdi ll (by omega), ix_nI (by omega), e27, nar_bo, bd_q, nI_1]
      exact ih _ _ _ _ (by omega) (by omega) (hd.trans FO_28) (fun j hj => by rw [gA_sAi, if_neg (fun q => absurd q.1 (by decide))]; exact h27 j hj) (set_row (P := fun y v => v = bo (g y = 1000000)) (by omega) hYi h28 rfl)
  have tn : ∀ (K : Int32 → Int32 → Dt → Option (Int32 × Dt)) (x y : Int32) (r n i F : Nat) (d : Dt), i + n = s → n < F → FO e d → SU d s Y (od u bar r) → (∀ j, j < i → gA d 27 (Y j) = bo (od u bar (r + 1) (Y j) = 1000000)) → ∃ d', lp (fun k x => t_X6_surely_88 LM K (fun x1 x2 x3 d => k (x1, x2, x3, d)) x.1 x.2.1 x.2.2.1 x.2.2.2) F (x, y, nI i, d) = K x (y + 1) d' ∧ FO e d' ∧ SU d' s Y (od u bar (r + 1)) := by
    intro K x y r n
    induction n with
    | zero =>
      intro i F d hi hF hd hO h27
      obtain ⟨F, rfl⟩ : ∃ G, F = G + 1 := ⟨F - 1, by omega⟩
      have L1 := hl.fo hd
      show ∃ d', t_X6_surely_88 LM K (fun x1 x2 x3 d => lp _ F (x1, x2, x3, d)) x y (nI i) d = _ ∧ _
      rw [t_X6_surely_88, L1.1, if_pos (nI_le (by omega) (by omega))]
      exact cp K x y s 0 FU d (od u bar (r + 1)) (by omega) (by unfold FU; omega) hd (fun j hj => h27 j (by omega)) (fun j hj => by omega)
    | succ n ih =>
      intro i F d hi hF hd hO h27
      obtain ⟨F, rfl⟩ : ∃ G, F = G + 1 := ⟨F - 1, by omega⟩
      have L1 := hl.fo hd
      have e19 : gA d (32 * 0 + 19) i = nI (Y i) := (L1.2.2.1 i (by omega)).2
      have ll := lt i (by omega)
      obtain ⟨d1, r1, r2⟩ := makesSure_q (hd.fr.ru hr) ((hd.1 16 (by decide) (by decide)).trans hb) ((hd.1 15 (by decide) (by decide)).trans hn) hc hO (fun j hj => od_le hv r _ (hc.1 j hj)) (i := i) (by omega)
      show ∃ d', t_X6_surely_88 LM K (fun x1 x2 x3 d => lp _ F (x1, x2, x3, d)) x y (nI i) d = _ ∧ _
      rw [t_X6_surely_88, L1.1, if_neg (nI_ge (by omega) (by omega)), LM19, gdi (by omega) (by omega), gdi (by omega) (by omega), ix_nI (show i < 2 ^ 31 by omega), e19, r1, ob, LM27, gdi ll (by omega), bd_q, ix_nI (by omega), nI_1]
      dsimp only
      rw [nar_bo]
      refine ih _ _ _ (by omega) (by omega) ((hd.trans (FO.nw r2)).trans FO_27) (fun j hj => ?_) (set_row (P := fun y v => v = bo (od u bar (r + 1) y = 1000000)) (by omega) hYi (fun j hj => (r2.2 27 _).trans (h27 j hj)) rfl)
      rw [gA_sAi, if_neg (fun q => absurd q.1 (by decide)), r2.2]
      exact hO j hj
  have al : ∀ (n r F : Nat) (d : Dt), r + n = 61 → n < F → FO e d → SU d s Y (od u bar r) → (∀ r', r' < r → oo (od u bar r') o ≠ 1000000) → ∃ v d', lp (fun k x => t_X6_surely_70 LM (fun x1 x2 d => k (x1, x2, d)) x.1 x.2.1 x.2.2) F (enc o, nI r, d) = some (v, d') ∧ FO e d' ∧ SRES u bar o v := by
    intro n
    induction n with
    | zero =>
      intro r F d hi hF hd hO hN
      obtain ⟨F, rfl⟩ : ∃ G, F = G + 1 := ⟨F - 1, by omega⟩
      refine ⟨-1, d, ?_, hd, .inr ⟨rfl, fun t ht => hN t (by omega)⟩⟩
      show t_X6_surely_70 LM (fun x1 x2 d => lp _ F (x1, x2, d)) (enc o) (nI r) d = _
      rw [t_X6_surely_70, if_pos (show (60 : Int32) < nI r from nI_lt (a := 60) (by omega) (by omega))]
    | succ n ih =>
      intro r F d hi hF hd hO hN
      obtain ⟨F, rfl⟩ : ∃ G, F = G + 1 := ⟨F - 1, by omega⟩
      show ∃ v d', t_X6_surely_70 LM (fun x1 x2 d => lp _ F (x1, x2, d)) (enc o) (nI r) d = _ ∧ _
      rw [t_X6_surely_70, if_neg (show ¬ (60 : Int32) < nI r from nI_nlt (a := 60) (by omega) (by decide)), isSureAt_q hv hc.1 hO o ho, ob]
      by_cases z : oo (od u bar r) o = 1000000
      · rw [bo_t z, if_neg (by decide)]
        exact ⟨_, d, rfl, hd, .inl ⟨r, by omega, rfl, z, hN⟩⟩
      · rw [bo_f z, if_pos rfl]
        obtain ⟨d1, r1, r2, r3⟩ := tn (fun x1 x2 d => lp (fun k x => t_X6_surely_70 LM (fun x1 x2 d => k (x1, x2, d)) x.1 x.2.1 x.2.2) F (x1, x2, d)) (enc o) (nI r) r s 0 FU d (by omega) (by unfold FU; omega) hd hO (fun j hj => by omega)
        obtain ⟨v, d2, t1, t2⟩ := ih (r + 1) F d1 (by omega) (by omega) r2 r3 (fun r' hr' => by
          by_cases y : r' = r
          · rw [y]; exact z
          · exact hN r' (by omega))
        rw [nI_1] at r1
        exact ⟨v, d2, r1.trans t1, t2⟩
  have st : ∀ (n i F : Nat) (d : Dt), i + n = s → n < F → FO e d → (∀ j, j < i → gA d 28 (Y j) = bo (od u bar 0 (Y j) = 1000000)) → ∃ v d', lp (fun k x => t_X6_surely_24 LM (fun x1 x2 d => k (x1, x2, d)) x.1 x.2.1 x.2.2) F (enc o, nI i, d) = some (v, d') ∧ FO e d' ∧ SRES u bar o v := by
    intro n
    induction n with
    | zero =>
      intro i F d hi hF hd h28
      obtain ⟨F, rfl⟩ : ∃ G, F = G + 1 := ⟨F - 1, by omega⟩
      have L1 := hl.fo hd
      show ∃ v d', t_X6_surely_24 LM (fun x1 x2 d => lp _ F (x1, x2, d)) (enc o) (nI i) d = _ ∧ _
      rw [t_X6_surely_24, L1.1, if_pos (nI_le (by omega) (by omega))]
      exact al 61 0 FU d (by omega) (by unfold FU; omega) hd (fun j hj => h28 j (by omega)) (fun r hr => by omega)
    | succ n ih =>
      intro i F d hi hF hd h28
      obtain ⟨F, rfl⟩ : ∃ G, F = G + 1 := ⟨F - 1, by omega⟩
      have L1 := hl.fo hd
      have e19 : gA d (32 * 0 + 19) i = nI (Y i) := (L1.2.2.1 i (by omega)).2
      have ll := lt i (by omega)
      have go : ∀ v, vp_nar .boolean v = bo (od u bar 0 (Y i) = 1000000) → ∃ w d', t_X6_surely_61 LM (fun x1 x2 d => lp (fun k x => t_X6_surely_24 LM (fun x1 x2 d => k (x1, x2, d)) x.1 x.2.1 x.2.2) F (x1, x2, d)) (enc o) (nI i) v (nI (Y i)) d = some (w, d') ∧ FO e d' ∧ SRES u bar o w := by
        intro v hv'
        rw [t_X6_surely_61, LM28, gdi ll (by omega), bd_q, ix_nI (by omega), nI_1]
        exact ih _ _ _ (by omega) (by omega) (hd.trans FO_28) (set_row (P := fun y v => v = bo (od u bar 0 y = 1000000)) (by omega) hYi h28 hv')
      show ∃ v d', t_X6_surely_24 LM (fun x1 x2 d => lp _ F (x1, x2, d)) (enc o) (nI i) d = _ ∧ _
      rw [t_X6_surely_24, L1.1, if_neg (nI_ge (by omega) (by omega)), LM19, gdi (by omega) (by omega), gdi (by omega) (by omega), ix_nI (show i < 2 ^ 31 by omega), e19, standsAt_q (hd.fr.ru hr) (hc.1 i (by omega)), ob]
      rcases stq_cases hv (hc.1 i (by omega)) with ⟨e1, e2⟩ | h'
      · rw [e2, if_pos (show nI 1 = 1 from rfl)]
        refine go _ ?_
        rw [nar1, bo_t]
        show (if bE u (qp (Y i)) = 1 then 1000000 else 0) = 1000000
        rw [if_pos e1]
      · have e1 : bE u (qp (Y i)) ≠ 1 := by rcases h' with q | q <;> exact q.1
        have e2 : ¬ nI (stq u (Y i)) = 1 := by rcases h' with q | q <;> (rw [q.2.1]; decide)
        rw [if_neg e2]
        refine go _ ?_
        rw [nar0, bo_f]
        show ¬ (if bE u (qp (Y i)) = 1 then 1000000 else 0) = 1000000
        rw [if_neg e1]
        decide
  exact st s 0 FU e (by omega) (by unfold FU; omega) (FO.refl e) (fun j hj => by omega)
/-- the fewest turns from x to a win -/
def FRES (u : Nat → Int32) (bar : Int32) (x : Option Nat) (v : Int32) : Prop := (∃ n q, v = nI n ∧ RO u bar (-1) x n q ∧ bE u (qp q) = 1 ∧ ∀ n' q', RO u bar (-1) x n' q' → bE u (qp q') = 1 → n ≤ n') ∨ (v = -1 ∧ ∀ n q, RO u bar (-1) x n q → bE u (qp q) ≠ 1)
theorem FRES.eq {u : Nat → Int32} {bar : Int32} {x : Option Nat} {v v' : Int32} (h : FRES u bar x v) (h' : FRES u bar x v') : v = v' := by
  rcases h with ⟨n, q, a, b, c, e⟩ | ⟨a, b⟩
  · rcases h' with ⟨n', q', a', b', c', e'⟩ | ⟨a', b'⟩
    · have h1 := e n' q' b' c'
      have h2 := e' n q b c
      rw [a, a', Nat.le_antisymm h1 h2]
    · exact absurd c (b' n q b)
  · rcases h' with ⟨n', q', a', b', c', e'⟩ | ⟨a', b'⟩
    · exact absurd c' (b n' q' b')
    · rw [a, a']
theorem fewest_lp {u : Nat → Int32} {bar : Int32} {o : Option Nat} {B : Nat → Prop} {e : Dt} {s : Nat} {Y f : Nat → Nat} {m : Nat} (hr : RU u e) (h : RS u bar (-1) o B e s Y f m) : ∃ v, lp (fun k x => t_X6_fewest_24 LM (fun x1 x2 d => k (x1, x2, d)) x.1 x.2.1 x.2.2) FU (-1, 0, e) = some (v, e) ∧ FRES u bar o v := by
  have hv := hr.v
  have hall := h.all
  obtain ⟨⟨a1, a2, a3, _⟩, _⟩ := h
  have lt : ∀ i, i < s → Y i < 61440 := fun i hi => VQ_lt hv (a3 i hi).1
  have main : ∀ (n i F : Nat) (x : Int32), i + n = s → n < F → ((x = -1 ∧ ∀ j, j < i → bE u (qp (Y j)) ≠ 1) ∨ (∃ j, j < s ∧ x = nI (f j) ∧ bE u (qp (Y j)) = 1 ∧ ∀ j', j' < i → bE u (qp (Y j')) = 1 → f j ≤ f j')) → ∃ v, lp (fun k x => t_X6_fewest_24 LM (fun x1 x2 d => k (x1, x2, d)) x.1 x.2.1 x.2.2) F (x, nI i, e) = some (v, e) ∧ ((v = -1 ∧ ∀ j, j < s → bE u (qp (Y j)) ≠ 1) ∨ (∃ j, j < s ∧ v = nI (f j) ∧ bE u (qp (Y j)) = 1 ∧ ∀ j', j' < s → bE u (qp (Y j')) = 1 → f j ≤ f j')) := by
    intro n
    induction n with
    | zero =>
      intro i F x hi hF hx
      obtain ⟨F, rfl⟩ : ∃ G, F = G + 1 := ⟨F - 1, by omega⟩
      have : i = s := by omega
      subst this
      refine ⟨x, ?_, hx⟩
      show t_X6_fewest_24 LM (fun x1 x2 d => lp _ F (x1, x2, d)) x (nI i) e = _
      rw [t_X6_fewest_24, a1, if_pos (nI_le (by omega) (by omega))]
    | succ n ih =>
      intro i F x hi hF hx
      obtain ⟨F, rfl⟩ : ∃ G, F = G + 1 := ⟨F - 1, by omega⟩
      obtain ⟨b1, b2, b3, b4, b5⟩ := a3 i (by omega)
      have ll := lt i (by omega)
      have b2' : gA e (32 * 0 + 19) i = nI (Y i) := b2
      have b3' : gA e (32 * 0 + 20) (Y i) = nI (f i + 1) := b3
      show ∃ v, t_X6_fewest_24 LM (fun x1 x2 d => lp _ F (x1, x2, d)) x (nI i) e = _ ∧ _
      rw [t_X6_fewest_24, a1, if_neg (nI_ge (by omega) (by omega)), LM19, gdi (by omega) (by omega), ix_nI (show i < 2 ^ 31 by omega), b2', LM20, gdi ll (by omega), ix_nI (by omega), b3', nI_pred, bd_q, gdi (by omega) (by omega), standsAt_q hr b1, ob]
      rcases stq_cases hv b1 with ⟨e1, e2⟩ | h'
      · rw [e2, if_pos (show nI 1 = 1 from rfl)]
        rcases hx with ⟨rfl, q⟩ | ⟨j, q1, rfl, q2, q3⟩
        · rw [if_pos (by decide), t_X6_fewest_69, t_X6_fewest_74, nI_1]
          refine ih _ _ _ (by omega) (by omega) (.inr ⟨i, by omega, rfl, e1, fun j' hj' hw => ?_⟩)
          by_cases z : j' = i
          · rw [z]; exact Nat.le_refl _
          · exact absurd hw (q j' (by omega))
        · have fl := (a3 j q1).2.2.2.1
          rw [if_neg (nI_pos (by omega))]
          by_cases le : f j ≤ f i
          · rw [if_pos (nI_le le (by omega)), t_X6_fewest_73, t_X6_fewest_74, nI_1]
            refine ih _ _ _ (by omega) (by omega) (.inr ⟨j, q1, rfl, q2, fun j' hj' hw => ?_⟩)
            by_cases z : j' = i
            · rw [z]; exact le
            · exact q3 j' (by omega) hw
          · rw [if_neg (nI_ge (by omega) (by omega)), t_X6_fewest_69, t_X6_fewest_74, nI_1]
            refine ih _ _ _ (by omega) (by omega) (.inr ⟨i, by omega, rfl, e1, fun j' hj' hw => ?_⟩)
            by_cases z : j' = i
            · rw [z]; exact Nat.le_refl _
            · have := q3 j' (by omega) hw
              omega
      · have e1 : bE u (qp (Y i)) ≠ 1 := by rcases h' with q | q <;> exact q.1
        have e2 : ¬ nI (stq u (Y i)) = 1 := by rcases h' with q | q <;> (rw [q.2.1]; decide)
        rw [if_neg e2, t_X6_fewest_73, t_X6_fewest_74, nI_1]
        refine ih _ _ _ (by omega) (by omega) ?_
        rcases hx with ⟨q0, q⟩ | ⟨j, q1, q0, q2, q3⟩
        · refine .inl ⟨q0, fun j hj => ?_⟩
          by_cases z : j = i
          · rw [z]; exact e1
          · exact q j (by omega)
        · refine .inr ⟨j, q1, q0, q2, fun j' hj' hw => ?_⟩
          by_cases z : j' = i
          · rw [z] at hw; exact absurd hw e1
          · exact q3 j' (by omega) hw
  obtain ⟨v, r1, r2⟩ := main s 0 FU (-1) (by omega) (by unfold FU; omega) (.inl ⟨rfl, fun j hj => by omega⟩)
  refine ⟨v, r1, ?_⟩
  rcases r2 with ⟨q0, q⟩ | ⟨j, q1, q0, q2, q3⟩
  · refine .inr ⟨q0, fun n q' hq hw => ?_⟩
    obtain ⟨j, c1, c2, _⟩ := hall n q' hq
    exact q j c1 (by rw [c2]; exact hw)
  · refine .inl ⟨f j, Y j, q0, (a3 j q1).2.2.2.2, q2, fun n' q' hq hw => ?_⟩
    obtain ⟨j', c1, c2, c3⟩ := hall n' q' hq
    have := q3 j' c1 (by rw [c2]; exact hw)
    omega
