/-! ===== the class's graph: measuring wins ===== -/
theorem mw_pass {L : Nat → Nat} {d : Dt} {o s wc T : Nat} {u : Nat → Int32} {bar : Int32} {X : Nat → Nat} (hv : VB u) (hg : GLn L o) (h : GC u bar (-1) L d o s X wc) (hs : s ≤ L (32 * o + 15)) (hT : 1 ≤ T) (hT2 : T ≤ s) (K59 : Int32 → Int32 → (Nat → Nat) → Dt → Option (((Nat → Nat) × Dt) × Nat × Nat)) : ∀ (n i F : Nat) (x : Int32) (e : Dt), i + n = s → n < F → NF o L d L e → (∀ j, j < i → TW u bar (T + 1) (X j) (gA e (32 * o + 15) j)) → (∀ j, i ≤ j → j < s → TW u bar T (X j) (gA e (32 * o + 15) j)) → (x = 1 ∨ (x = 0 ∧ ∀ j, j < i → ¬ Dm u bar T (X j))) → ∃ x' e', lp (fun k x => t_X4_measureWins_75 o K59 (fun x1 x2 x3 L d => k (x1, x2, x3, L, d)) x.1 x.2.1 x.2.2.1 x.2.2.2.1 x.2.2.2.2) F (x, nI T, nI i, L, e) = K59 x' (nI (T + 1)) L e' ∧ NF o L d L e' ∧ (∀ j, j < s → TW u bar (T + 1) (X j) (gA e' (32 * o + 15) j)) ∧ (x' = 1 ∨ (x' = 0 ∧ ∀ j, j < s → ¬ Dm u bar T (X j))) := by
  have hch := chS_le hg.1
  have hsL := h.1.2.1
  have hclo := h.clo
  intro n
  induction n with
  | zero =>
    intro i F x e hi hF hf h1 h2 hx
    obtain ⟨F, rfl⟩ : ∃ G, F = G + 1 := ⟨F - 1, by omega⟩
    have hc := h.nf hf
    have : i = s := by omega
    subst this
    refine ⟨x, e, ?_, hf, h1, hx⟩
    show t_X4_measureWins_75 o K59 (fun x1 x2 x3 L d => lp _ F (x1, x2, x3, L, d)) x (nI T) (nI i) L e = _
    rw [t_X4_measureWins_75, hc.1.1, if_pos (nI_le (by omega) (by omega)), nI_1]
  | succ n ih =>
    intro i F x e hi hF hf h1 h2 hx
    obtain ⟨F, rfl⟩ : ∃ G, F = G + 1 := ⟨F - 1, by omega⟩
    have hc := h.nf hf
    have hti := h2 i (by omega) (by omega)
    show ∃ x' e', t_X4_measureWins_75 o K59 (fun x1 x2 x3 L d => lp _ F (x1, x2, x3, L, d)) x (nI T) (nI i) L e = _ ∧ _
    rw [t_X4_measureWins_75, hc.1.1, if_neg (nI_ge (by omega) (by omega)), gdi (by omega) (by omega), ix_nI (by omega)]
    -- nothing is written
    have keep : TW u bar (T + 1) (X i) (gA e (32 * o + 15) i) → ¬ Dm u bar T (X i) → ∃ x' e', t_X4_measureWins_113 o K59 (fun x1 x2 x3 L d => lp (fun k x => t_X4_measureWins_75 o K59 (fun x1 x2 x3 L d => k (x1, x2, x3, L, d)) x.1 x.2.1 x.2.2.1 x.2.2.2.1 x.2.2.2.2) F (x1, x2, x3, L, d)) x (nI T) (nI i) L e = K59 x' (nI (T + 1)) L e' ∧ NF o L d L e' ∧ (∀ j, j < s → TW u bar (T + 1) (X j) (gA e' (32 * o + 15) j)) ∧ (x' = 1 ∨ (x' = 0 ∧ ∀ j, j < s → ¬ Dm u bar T (X j))) := by
      intro k1 k2
      rw [t_X4_measureWins_113, nI_1]
      refine ih (i + 1) F x e (by omega) (by omega) hf (fun j hj => ?_) (fun j a b => h2 j (by omega) b) ?_
      · by_cases z : j = i
        · rw [z]; exact k1
        · exact h1 j (by omega)
      · rcases hx with z | ⟨z, z2⟩
        · exact .inl z
        · refine .inr ⟨z, fun j hj => ?_⟩
          by_cases y : j = i
          · rw [y]; exact k2
          · exact z2 j (by omega)
    rcases hti with ⟨m, m1, m2, m3⟩ | ⟨m2, m3⟩
    · rw [if_neg (by rw [m2]; exact nI_m1 (by omega))]
      exact keep (.inl ⟨m, by omega, m2, m3⟩) (fun z => by have := z.un m3; omega)
    · rw [if_pos m2]
      have eT : nI T - 1 = nI (T - 1) := by
        obtain ⟨T', rfl⟩ : ∃ T', T = T' + 1 := ⟨T - 1, by omega⟩
        rw [nI_pred]; rfl
      rw [eT]
      obtain ⟨v, r1, r2⟩ := leadsTo_c hv hg hc hs (show i < s by omega) (nI (T - 1)) (nI_m1 (by omega))
      rw [r1, ob]
      rcases r2 with ⟨q, j, j1, j2, j3⟩ | ⟨q, q2⟩
      · -- it leads to one of turn T - 1
        have dj : Dm u bar (T - 1) (X j) := by
          have : TW u bar (T + 1) (X j) (gA e (32 * o + 15) j) ∨ TW u bar T (X j) (gA e (32 * o + 15) j) := by
            by_cases z : j < i
            · exact .inl (h1 j z)
            · exact .inr (h2 j (by omega) j1)
          rw [j3] at this
          rcases this with (⟨m, w1, w2, w3⟩ | ⟨w1, _⟩) | (⟨m, w1, w2, w3⟩ | ⟨w1, _⟩)
          · rw [nI_inj (by omega) (by omega) w2]; exact w3
          · exact absurd w1 (nI_m1 (by omega))
          · rw [nI_inj (by omega) (by omega) w2]; exact w3
          · exact absurd w1 (nI_m1 (by omega))
        have di : Dm u bar T (X i) := by
          have := Dn.up j2 dj.1
          rw [show T - 1 + 1 = T by omega] at this
          exact ⟨this, m3⟩
        rw [q, if_neg (by decide), gdi (by omega) (by omega), bd_q, t_X4_measureWins_113, nI_1]
        refine ih (i + 1) F 1 _ (by omega) (by omega) (hf.tr NF_sA) (fun j hj => ?_) (fun j a b => ?_) (.inl rfl)
        · rw [gA_sAi]
          by_cases z : j = i
          · rw [if_pos ⟨rfl, z⟩, z]
            exact .inl ⟨T, by omega, rfl, di⟩
          · rw [if_neg (fun y => z y.2)]; exact h1 j (by omega)
        · rw [gA_sAi, if_neg (fun y => by omega)]; exact h2 j (by omega) b
      · rw [q, if_pos rfl]
        have nd : ¬ Dn u bar T (X i) := by
          intro hd
          obtain ⟨T', rfl⟩ : ∃ T', T = T' + 1 := ⟨T - 1, by omega⟩
          obtain ⟨q', e1, e2⟩ := hd.dn
          obtain ⟨j, j1, j2⟩ := hclo.2 i (by omega) q' e1
          rw [← j2] at e1 e2
          have dm : Dm u bar T' (X j) := by
            refine ⟨e2, fun m hm hd2 => m3 (m + 1) (by omega) (Dn.up e1 hd2)⟩
          have : TW u bar (T' + 1 + 1) (X j) (gA e (32 * o + 15) j) ∨ TW u bar (T' + 1) (X j) (gA e (32 * o + 15) j) := by
            by_cases z : j < i
            · exact .inl (h1 j z)
            · exact .inr (h2 j (by omega) j1)
          rcases this with (⟨m, w1, w2, w3⟩ | ⟨_, w2⟩) | (⟨m, w1, w2, w3⟩ | ⟨_, w2⟩)
          · have := w3.un dm
            exact q2 j j1 e1 (by rw [w2, this]; rfl)
          · exact w2 T' (by omega) e2
          · have := w3.un dm
            exact q2 j j1 e1 (by rw [w2, this]; rfl)
          · exact w2 T' (by omega) e2
        refine keep (.inr ⟨m2, fun n hn => ?_⟩) (fun z => nd z.1)
        by_cases z : n = T
        · rw [z]; exact nd
        · exact m3 n (by omega)
theorem mw_turns {L : Nat → Nat} {d : Dt} {o s wc : Nat} {u : Nat → Int32} {bar : Int32} {X : Nat → Nat} (hv : VB u) (hg : GLn L o) (h : GC u bar (-1) L d o s X wc) (hs : s ≤ L (32 * o + 15)) : ∀ (n T F : Nat) (x : Int32) (e : Dt), T + n = s + 1 → n < F → 1 ≤ T → NF o L d L e → (∀ j, j < s → TW u bar T (X j) (gA e (32 * o + 15) j)) → (x = 1 ∨ (x = 0 ∧ ∀ j, j < s → ¬ Dm u bar (T - 1) (X j))) → ∃ e', lp (fun k x => t_X4_measureWins_59 o (fun x1 x2 L d => k (x1, x2, L, d)) x.1 x.2.1 x.2.2.1 x.2.2.2) F (x, nI T, L, e) = some ((L, e'), 0, 0) ∧ NF o L d L e' ∧ WI L e' o u bar s X := by
  have hch := chS_le hg.1
  have hsL := h.1.2.1
  have hclo := h.clo
  have fin : ∀ (T : Nat) (e : Dt), NF o L d L e → (∀ j, j < s → TW u bar T (X j) (gA e (32 * o + 15) j)) → (∀ j n, j < s → T ≤ n → ¬ Dm u bar n (X j)) → ∃ e', t_X4_measureWins_125 o L e = some ((L, e'), 0, 0) ∧ NF o L d L e' ∧ WI L e' o u bar s X := by
    intro T e hf h1 h2
    refine ⟨sF e o 16 1, by unfold t_X4_measureWins_125; rw [bd_q], hf.tr ⟨fun x hx => AG_sF hx, fun j hj => gF_sFn (fun y => hj y.2), fun _ _ _ => rfl, fun _ _ => rfl⟩, gF_sF1 _ _ _ _, hs, fun i hi => (h1 i hi).fin (fun n hn => h2 i n hi hn)⟩
  intro n
  induction n with
  | zero =>
    intro T F x e hT hF h1T hf h1 hx
    obtain ⟨F, rfl⟩ : ∃ G, F = G + 1 := ⟨F - 1, by omega⟩
    have hc := h.nf hf
    show ∃ e', t_X4_measureWins_59 o (fun x1 x2 L d => lp _ F (x1, x2, L, d)) x (nI T) L e = _ ∧ _
    rw [t_X4_measureWins_59, hc.1.1, if_pos (nI_lt (by omega) (by omega))]
    exact fin T e hf h1 (fun j n hj hn hd => by have := hd.lt hclo hj; omega)
  | succ n ih =>
    intro T F x e hT hF h1T hf h1 hx
    obtain ⟨F, rfl⟩ : ∃ G, F = G + 1 := ⟨F - 1, by omega⟩
    have hc := h.nf hf
    show ∃ e', t_X4_measureWins_59 o (fun x1 x2 L d => lp _ F (x1, x2, L, d)) x (nI T) L e = _ ∧ _
    rw [t_X4_measureWins_59, hc.1.1, if_neg (nI_nlt (by omega) (by omega))]
    rcases hx with z | ⟨z, z2⟩
    · rw [z, if_neg (by decide)]
      obtain ⟨x', e', r1, r2, r3, r4⟩ := mw_pass hv hg h hs h1T (by omega) (fun x1 x2 L d => lp (fun k x => t_X4_measureWins_59 o (fun x1 x2 L d => k (x1, x2, L, d)) x.1 x.2.1 x.2.2.1 x.2.2.2) F (x1, x2, L, d)) s 0 FU 0 e (by omega) (by unfold FU; omega) hf (fun j hj => by omega) (fun j _ hj => h1 j hj) (.inr ⟨rfl, fun j hj => by omega⟩)
      obtain ⟨e2, t1, t2⟩ := ih (T + 1) F x' e' (by omega) (by omega) (by omega) r2 r3 (by
        rw [show T + 1 - 1 = T by omega]; exact r4)
      exact ⟨e2, r1.trans t1, t2⟩
    · rw [z, if_pos rfl]
      have up : ∀ k j, j < s → ¬ Dm u bar (T - 1 + k) (X j) := by
        intro k
        induction k with
        | zero => exact fun j hj => z2 j hj
        | succ k ih2 =>
          intro j hj hd
          obtain ⟨q', a, b⟩ := Dm.dn (n := T - 1 + k) hd
          obtain ⟨j', y1, y2⟩ := hclo.2 j hj q' a
          exact ih2 j' y1 (by rw [y2]; exact b)
      refine fin T e hf h1 (fun j m hj hm hd => up (m - (T - 1)) j hj ?_)
      rw [show T - 1 + (m - (T - 1)) = m by omega]
      exact hd
theorem measure_q {L : Nat → Nat} {d : Dt} {o s wc : Nat} {u : Nat → Int32} {bar : Int32} {X : Nat → Nat} (hv : VB u) (hg : GLn L o) (h : GC u bar (-1) L d o s X wc) (hw : gF d o 16 = 0 ∨ WI L d o u bar s X) : ∃ L' d' kc ns, t_X4_measureWins L d o = some ((L', d'), kc, ns) ∧ CO o L L' kc ns ∧ NF o L d L' d' ∧ WI L' d' o u bar s X := by
  have hch := chS_le hg.1
  have h15 := chS_le hg.2.2.2.2.2.2
  have hsL := h.1.2.1
  have lpw : ∀ (L1 : Nat → Nat) (d1 : Dt), GLn L1 o → GC u bar (-1) L1 d1 o s X wc → s ≤ L1 (32 * o + 15) → ∃ e', lp (fun k x => t_X4_measureWins_22 o (fun x1 L d => k (x1, L, d)) x.1 x.2.1 x.2.2) FU (0, L1, d1) = some ((L1, e'), 0, 0) ∧ NF o L1 d1 L1 e' ∧ WI L1 e' o u bar s X := by
    intro L1 d1 hg1 hc1 hs1
    have hch1 := chS_le hg1.1
    have hsL1 := hc1.1.2.1
    have main : ∀ (n i F : Nat) (e : Dt), i + n = s → n < F → NF o L1 d1 L1 e → (∀ j, j < i → TW u bar 1 (X j) (gA e (32 * o + 15) j)) → ∃ e', lp (fun k x => t_X4_measureWins_22 o (fun x1 L d => k (x1, L, d)) x.1 x.2.1 x.2.2) F (nI i, L1, e) = some ((L1, e'), 0, 0) ∧ NF o L1 d1 L1 e' ∧ WI L1 e' o u bar s X := by
      intro n
      induction n with
      | zero =>
        intro i F e hi hF hf h1
        obtain ⟨F, rfl⟩ : ∃ G, F = G + 1 := ⟨F - 1, by omega⟩
        have hc := hc1.nf hf
        show ∃ e', t_X4_measureWins_22 o (fun x1 L d => lp _ F (x1, L, d)) (nI i) L1 e = _ ∧ _
        rw [t_X4_measureWins_22, hc.1.1, if_pos (nI_le (by omega) (by omega))]
        exact mw_turns hv hg1 hc1 hs1 s 1 FU 1 e (by omega) (by unfold FU; omega) (by omega) hf (fun j hj => h1 j (by omega)) (.inl rfl)
      | succ n ih =>
        intro i F e hi hF hf h1
        obtain ⟨F, rfl⟩ : ∃ G, F = G + 1 := ⟨F - 1, by omega⟩
        have hc := hc1.nf hf
        have go : ∀ v, TW u bar 1 (X i) v → ∃ e', t_X4_measureWins_48 o (fun x1 L d => lp (fun k x => t_X4_measureWins_22 o (fun x1 L d => k (x1, L, d)) x.1 x.2.1 x.2.2) F (x1, L, d)) (nI i) v (nI i) L1 e = some ((L1, e'), 0, 0) ∧ NF o L1 d1 L1 e' ∧ WI L1 e' o u bar s X := by
          intro v hv'
          rw [t_X4_measureWins_48, gdi (by omega) (by omega), bd_q, ix_nI (by omega), nI_1]
          refine ih _ _ _ (by omega) (by omega) (hf.tr NF_sA) (fun j hj => ?_)
          rw [gA_sAi]
          by_cases z : j = i
          · rw [if_pos ⟨rfl, z⟩, z]; exact hv'
          · rw [if_neg (fun y => z y.2)]; exact h1 j (by omega)
        show ∃ e', t_X4_measureWins_22 o (fun x1 L d => lp _ F (x1, L, d)) (nI i) L1 e = _ ∧ _
        rw [t_X4_measureWins_22, hc.1.1, if_neg (nI_ge (by omega) (by omega)), hasWon_c hv hg1 hc.1 (by omega), ob]
        by_cases e1 : bE u (qp (X i)) = 1
        · rw [if_pos e1, if_neg (by decide)]
          exact go 0 (.inl ⟨0, by omega, rfl, ⟨X i, rfl, e1⟩, fun m hm => by omega⟩)
        · rw [if_neg e1, if_pos rfl]
          refine go (-1) (.inr ⟨rfl, fun n hn hd => ?_⟩)
          have : n = 0 := by omega
          subst this
          obtain ⟨q', a, b⟩ := hd
          have : q' = X i := a
          rw [this] at b
          exact e1 b
    exact main s 0 FU d1 (by omega) (by unfold FU; omega) (NF.rf o L1 d1) (fun j hj => by omega)
  unfold t_X4_measureWins
  rcases hw with z | z
  · rw [z, if_pos rfl, h.1.1]
    by_cases c : L (32 * o + 15) < s
    · have la : upL L (32 * o + 15) (L (32 * o + 7)) (32 * o + 15) = L (32 * o + 7) := upL_s _ _ _
      have lx : ∀ b, b ≠ 32 * o + 15 → upL L (32 * o + 15) (L (32 * o + 7)) b = L b := fun b hb => upL_n hb
      have hco : CO o L (upL L (32 * o + 15) (L (32 * o + 7))) 1 (L (32 * o + 7)) := by
        obtain ⟨c1, c2, c3, c4, c5, c6, c7⟩ := hg
        have h64 := chS_ge c1
        refine ⟨⟨by rw [lx _ (by omega)]; exact c1, by rw [lx _ (by omega), lx _ (by omega)]; exact c2, by rw [lx _ (by omega)]; exact c3, by rw [lx _ (by omega)]; exact c4, by rw [lx _ (by omega)]; exact c5, by rw [lx _ (by omega)]; exact c6, by rw [la]; exact c1⟩, fun b hb => lx b (by omega), ?_, by omega⟩
        unfold PT
        rw [la, lx (32 * o + 7) (by omega), lx (32 * o + 9) (by omega), lx (32 * o + 10) (by omega), lx (32 * o + 11) (by omega), lx (32 * o + 12) (by omega)]
        have := pS_step c7 c1 (by omega)
        omega
      have hnf : NF o L d (upL L (32 * o + 15) (L (32 * o + 7))) (sR d (32 * o + 15) (fun _ => 0)) := ⟨fun x hx => AG_sR (j := 15) (by decide) hx, fun _ _ => rfl, fun a i ha => by rw [gA_sRi, if_neg ha], lx⟩
      obtain ⟨e', r1, r2, r3⟩ := lpw _ _ hco.1 (h.nf hnf) (by rw [la]; omega)
      rw [if_pos (nI_lt c (by omega)), gd_h (decide_eq_true (by omega)), bd_q, bd_q, r1, al_e]
      exact ⟨_, e', _, _, rfl, by rw [Nat.zero_add, Nat.zero_add]; exact hco, hnf.tr r2, r3⟩
    · obtain ⟨e', r1, r2, r3⟩ := lpw L d hg h (by omega)
      rw [if_neg (nI_nlt (by omega) (by omega))]
      exact ⟨L, e', 0, 0, r1, CO.rf hg, r2, r3⟩
  · rw [z.1, if_neg (by decide)]
    exact ⟨L, d, 0, 0, rfl, CO.rf hg, NF.rf o L d, z⟩
