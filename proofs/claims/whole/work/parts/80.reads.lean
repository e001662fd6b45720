/-! ===== the class's graph: what is read off it ===== -/
theorem GSp.of {L L' : Nat → Nat} {d d' : Dt} {u : Nat → Int32} {s : Nat} {X : Nat → Nat} {wc b ap : Nat} (h : GSp L d u s X wc b ap) (hf : OF 9 L d L' d') (hO : ∃ t, t ≤ 60 ∧ OI L' d' 9 u (-1) s X t) : GSp L' d' u s X wc b ap := by
  obtain ⟨a1, a2, a3, a4, a5, a6, a7, a8, a9, a10⟩ := h
  have f := hf.2.1
  refine ⟨a1.of hf, a2, (f 0 (by decide) (by decide)).trans a3, a4, a5, (f 1 (by decide) (by decide)).trans a6, a7, by rw [f 2 (by decide) (by decide)]; exact a8, .inr hO, ?_⟩
  rw [f 16 (by decide) (by decide)]
  rcases a10 with z | ⟨z1, z2, z3⟩
  · exact .inl z
  · exact .inr ⟨(f 16 (by decide) (by decide)).trans z1, by rw [hf.2.2.2 _ (by decide) (by decide)]; exact z2, fun i hi => by rw [hf.2.2.1 _ _ (by decide) (by decide)]; exact z3 i hi⟩
theorem GSp.nf {L L' : Nat → Nat} {d d' : Dt} {u : Nat → Int32} {s : Nat} {X : Nat → Nat} {wc b ap : Nat} (h : GSp L d u s X wc b ap) (hf : NF 9 L d L' d') (hW : WI L' d' 9 u (-1) s X) : GSp L' d' u s X wc b ap := by
  obtain ⟨a1, a2, a3, a4, a5, a6, a7, a8, a9, a10⟩ := h
  have f := hf.2.1
  refine ⟨a1.nf hf, a2, (f 0 (by decide)).trans a3, a4, a5, (f 1 (by decide)).trans a6, a7, by rw [f 2 (by decide)]; exact a8, ?_, .inr hW⟩
  rw [f 13 (by decide)]
  rcases a9 with z | ⟨t, z1, z2, z3, z4, z5, z6⟩
  · exact .inl z
  · exact .inr ⟨t, z1, (f 13 (by decide)).trans z2, by rw [hf.2.2.2 _ (by decide)]; exact z3, by rw [hf.2.2.2 _ (by decide)]; exact z4, fun i hi => by rw [hf.2.2.1 _ _ (by decide)]; exact z5 i hi, by rw [f 14 (by decide)]; exact z6⟩
theorem holeParts_q {L : Nat → Nat} {d : Dt} {o s b wc : Nat} {u : Nat → Int32} {bar : Int32} {X : Nat → Nat} (hv : VB u) (hg : GLn L o) (h : GC u bar (-1) L d o s X wc) (hb : b ≤ s) (h0 : gF d o 0 = nI b) : ∃ M, t_X4_holeParts L d o = some (nI M) ∧ ∀ g, M.testBit g = true ↔ ∃ j, j < b ∧ qp (X j) = g ∧ STK u (X j) := by
  have hch := chS_le hg.1
  have hsL := h.1.2.1
  have hP := hv.P.2
  have main : ∀ (n i F M : Nat), i + n = b → n < F → (∀ g, M.testBit g = true ↔ ∃ j, j < i ∧ qp (X j) = g ∧ STK u (X j)) → ∃ M', lp (fun k x => t_X4_holeParts_4 L d o (fun x1 x2 => k (x1, x2)) x.1 x.2) F (nI M, nI i) = some (nI M') ∧ ∀ g, M'.testBit g = true ↔ ∃ j, j < b ∧ qp (X j) = g ∧ STK u (X j) := by
    intro n
    induction n with
    | zero =>
      intro i F M hi hF hM
      obtain ⟨F, rfl⟩ : ∃ G, F = G + 1 := ⟨F - 1, by omega⟩
      have : i = b := by omega
      subst this
      refine ⟨M, ?_, hM⟩
      show t_X4_holeParts_4 L d o (fun x1 x2 => lp _ F (x1, x2)) (nI M) (nI i) = _
      rw [t_X4_holeParts_4, h0, if_pos (nI_le (by omega) (by omega))]
    | succ n ih =>
      intro i F M hi hF hM
      obtain ⟨F, rfl⟩ : ∃ G, F = G + 1 := ⟨F - 1, by omega⟩
      obtain ⟨b1, b2, b3⟩ := h.1.2.2.2.1 i (by omega)
      have hp := b1.1
      obtain ⟨f, y1, y2, y3, y4⟩ := h.2.1 i (by omega)
      have hw6 := h.2.2.2.2.2
      show ∃ M', t_X4_holeParts_4 L d o (fun x1 x2 => lp _ F (x1, x2)) (nI M) (nI i) = _ ∧ _
      rw [t_X4_holeParts_4, h0, if_neg (nI_ge (by omega) (by omega)), gdi (by have := hg.2.1; omega) (by omega), nI_1, gdi (by have := hg.2.1; omega) (by omega), ix_nI (by omega), ix_nI (by omega), y1, y2, hasWon_c hv hg h.1 (by omega), ob]
      have no : ¬ STK u (X i) → ∃ M', t_X4_holeParts_51 L d o (fun x1 x2 => lp (fun k x => t_X4_holeParts_4 L d o (fun x1 x2 => k (x1, x2)) x.1 x.2) F (x1, x2)) (nI M) (nI i) = some (nI M') ∧ ∀ g, M'.testBit g = true ↔ ∃ j, j < b ∧ qp (X j) = g ∧ STK u (X j) := by
        intro w
        rw [t_X4_holeParts_51, nI_1]
        refine ih _ _ _ (by omega) (by omega) (fun g => ?_)
        rw [hM g]
        constructor
        · rintro ⟨j, q1, q2, q3⟩
          exact ⟨j, by omega, q2, q3⟩
        · rintro ⟨j, q1, q2, q3⟩
          by_cases y : j = i
          · rw [y] at q3; exact absurd q3 w
          · exact ⟨j, by omega, q2, q3⟩
      by_cases hl : (sxs u bar (-1) (X i)).length = 0
      · rw [hl, Nat.add_zero, if_pos rfl]
        have hno : ∀ c, c < wys u (qp (X i)) → ¬ wo u (X i) c = true := by
          intro c hc ho
          have hsx : sxs u bar (-1) (X i) = [] := List.length_eq_zero_iff.mp hl
          have mem : ∀ (n c0 : Nat), c0 ≤ c → c < c0 + n → nxs u bar (X i) (gl u (X i) c) ∈ sxf u bar (-1) (X i) n c0 := by
            intro n
            induction n with
            | zero => intro c0 h1 h2; omega
            | succ n ih2 =>
              intro c0 h1 h2
              unfold sxf
              by_cases z : c0 = c
              · rw [z, if_pos ⟨ho, gol_m1 hv b1 hc⟩]; simp
              · have := ih2 (c0 + 1) (by omega) (by omega)
                split
                · exact List.mem_cons_of_mem _ this
                · exact this
          have := mem (wys u (qp (X i))) 0 (by omega) (by omega)
          have : nxs u bar (X i) (gl u (X i) c) ∈ sxs u bar (-1) (X i) := this
          rw [hsx] at this
          exact absurd this (by simp)
        by_cases e1 : bE u (qp (X i)) = 1
        · rw [if_pos e1, if_neg (by decide)]
          exact no (fun z => z.1 e1)
        · rw [if_neg e1, if_pos rfl, gdi (by omega) (by omega), b2, partOf_c hv b1, ob, bit_e _ (by omega), nx_or, bd_q, t_X4_holeParts_51, nI_1]
          refine ih _ _ _ (by omega) (by omega) (fun g => ?_)
          rw [Nat.testBit_or, Bool.or_eq_true, hM g, Nat.testBit_two_pow, decide_eq_true_eq]
          constructor
          · rintro (⟨j, q1, q2, q3⟩ | q)
            · exact ⟨j, by omega, q2, q3⟩
            · exact ⟨i, by omega, q, e1, hno⟩
          · rintro ⟨j, q1, q2, q3⟩
            by_cases y : j = i
            · rw [y] at q2; exact .inr q2
            · exact .inl ⟨j, by omega, q2, q3⟩
      · rw [if_neg (fun z => hl (by have := nI_inj (by omega) (by omega) z; omega))]
        refine no (fun z => ?_)
        obtain ⟨x, hx⟩ := List.exists_mem_of_length_pos (Nat.pos_of_ne_zero hl)
        obtain ⟨c, _, c1, c2, _⟩ := sxf_mem _ _ _ hx
        exact z.2 c (by omega) c2
  exact main b 0 FU 0 (by omega) (by unfold FU; omega) (fun g => by
    rw [Nat.zero_testBit]
    exact ⟨fun z => (by cases z), fun ⟨j, z, _⟩ => by omega⟩)
/-- a thing that is had at q -/
def HT (q k : Nat) : Prop := (q / 10 % 256).testBit k = true
theorem hadThings_q {L : Nat → Nat} {d : Dt} {o s b : Nat} {u : Nat → Int32} {X : Nat → Nat} (hv : VB u) (hg : GLn L o) (h : GB L d o u s X) (hb : b ≤ s) (h0 : gF d o 0 = nI b) : ∃ M, t_X4_hadThings L d o = some (nI M) ∧ M < 256 ∧ ∀ g, M.testBit g = true ↔ ∃ j, j < b ∧ HT (X j) g := by
  have hch := chS_le hg.1
  have hsL := h.2.1
  have main : ∀ (n i F M : Nat), i + n = b → n < F → M < 2 ^ 8 → (∀ g, M.testBit g = true ↔ ∃ j, j < i ∧ HT (X j) g) → ∃ M', lp (fun k x => t_X4_hadThings_4 L d o (fun x1 x2 => k (x1, x2)) x.1 x.2) F (nI M, nI i) = some (nI M') ∧ M' < 2 ^ 8 ∧ ∀ g, M'.testBit g = true ↔ ∃ j, j < b ∧ HT (X j) g := by
    intro n
    induction n with
    | zero =>
      intro i F M hi hF hM hg
      obtain ⟨F, rfl⟩ : ∃ G, F = G + 1 := ⟨F - 1, by omega⟩
      have : i = b := by omega
      subst this
      refine ⟨M, ?_, hM, hg⟩
      show t_X4_hadThings_4 L d o (fun x1 x2 => lp _ F (x1, x2)) (nI M) (nI i) = _
      rw [t_X4_hadThings_4, h0, if_pos (nI_le (by omega) (by omega))]
    | succ n ih =>
      intro i F M hi hF hM hg'
      obtain ⟨F, rfl⟩ : ∃ G, F = G + 1 := ⟨F - 1, by omega⟩
      obtain ⟨b1, b2, b3⟩ := h.2.2.2.1 i (by omega)
      show ∃ M', t_X4_hadThings_4 L d o (fun x1 x2 => lp _ F (x1, x2)) (nI M) (nI i) = _ ∧ _
      rw [t_X4_hadThings_4, h0, if_neg (nI_ge (by omega) (by omega)), gdi (by omega) (by omega), ix_nI (by omega), b2, thingsOf_c hv b1, ob, qt, nx_or, bd_q, nI_1]
      refine ih _ _ _ (by omega) (by omega) (Nat.or_lt_two_pow hM (by omega)) (fun g => ?_)
      rw [Nat.testBit_or, Bool.or_eq_true, hg' g]
      constructor
      · rintro (⟨j, q1, q2⟩ | q)
        · exact ⟨j, by omega, q2⟩
        · exact ⟨i, by omega, q⟩
      · rintro ⟨j, q1, q2⟩
        by_cases y : j = i
        · rw [y] at q2; exact .inr q2
        · exact .inl ⟨j, by omega, q2⟩
  exact main b 0 FU 0 (by omega) (by unfold FU; omega) (by decide) (fun g => by
    rw [Nat.zero_testBit]
    exact ⟨fun z => (by cases z), fun ⟨j, z, _⟩ => by omega⟩)
theorem FRES_m1 {u : Nat → Int32} {bar : Int32} {s i : Nat} {X : Nat → Nat} {v : Int32} (hc : CLo u bar (-1) s X) (hs : s ≤ 55296) (hi : i < s) (h : FRES u bar (some (X i)) v) : v = -1 ↔ ¬ CnW u bar (-1) (X i) := by
  rcases h with ⟨n, q', a, b, c, e⟩ | ⟨a, b⟩
  · have hd : Dm u bar n (X i) := ⟨⟨q', b, c⟩, fun m hm ⟨q2, h1, h2⟩ => by have := e m q2 h1 h2; omega⟩
    have := hd.lt hc hi
    constructor
    · intro z
      rw [a] at z
      exact absurd z (nI_m1 (by omega))
    · intro z; exact absurd ⟨n, q', b, c⟩ z
  · exact ⟨fun _ ⟨n, q', h1, h2⟩ => b n q' h1 h2, fun _ => a⟩
theorem trapParts_q {L : Nat → Nat} {d : Dt} {u : Nat → Int32} {s : Nat} {X : Nat → Nat} {wc b ap : Nat} (hv : VB u) (hg : GLn L 9) (h : GSp L d u s X wc b ap) : ∃ M L' d' kc ns, t_X4_trapParts L d 9 = some ((nI M, L', d'), kc, ns) ∧ CO 9 L L' kc ns ∧ FF 9 d d' ∧ GSp L' d' u s X wc b ap ∧ ∀ g, M.testBit g = true ↔ ∃ j, j < b ∧ qp (X j) = g ∧ ¬ CnW u (-1) (-1) (X j) := by
  obtain ⟨L1, d1, k1, n1, r1, r2, r3, r4⟩ := measure_q hv hg h.1 h.2.2.2.2.2.2.2.2.2
  have hG := h.nf r3 r4
  have hch := chS_le r2.1.1
  have hsL := hG.1.1.2.1
  have hclo := hG.1.clo
  have hP := hv.P.2
  have hbs := hG.2.1
  have h0 := hG.2.2.1
  unfold t_X4_trapParts
  rw [r1, ob]
  dsimp only
  have main : ∀ (n i F M : Nat), i + n = b → n < F → (∀ g, M.testBit g = true ↔ ∃ j, j < i ∧ qp (X j) = g ∧ ¬ CnW u (-1) (-1) (X j)) → ∃ M', lp (fun k x => t_X4_trapParts_8 9 (fun x1 x2 L d => k (x1, x2, L, d)) x.1 x.2.1 x.2.2.1 x.2.2.2) F (nI M, nI i, L1, d1) = some ((nI M', L1, d1), 0, 0) ∧ ∀ g, M'.testBit g = true ↔ ∃ j, j < b ∧ qp (X j) = g ∧ ¬ CnW u (-1) (-1) (X j) := by
    intro n
    induction n with
    | zero =>
      intro i F M hi hF hM
      obtain ⟨F, rfl⟩ : ∃ G, F = G + 1 := ⟨F - 1, by omega⟩
      have : i = b := by omega
      subst this
      refine ⟨M, ?_, hM⟩
      show t_X4_trapParts_8 9 (fun x1 x2 L d => lp _ F (x1, x2, L, d)) (nI M) (nI i) L1 d1 = _
      rw [t_X4_trapParts_8, h0, if_pos (nI_le (by omega) (by omega))]
    | succ n ih =>
      intro i F M hi hF hM
      obtain ⟨F, rfl⟩ : ∃ G, F = G + 1 := ⟨F - 1, by omega⟩
      obtain ⟨b1, b2, b3⟩ := hG.1.1.2.2.2.1 i (by omega)
      have hp := b1.1
      have hw := FRES_m1 hclo (by omega) (by omega) (r4.2.2 i (by omega))
      show ∃ M', t_X4_trapParts_8 9 (fun x1 x2 L d => lp _ F (x1, x2, L, d)) (nI M) (nI i) L1 d1 = _ ∧ _
      rw [t_X4_trapParts_8, h0, if_neg (nI_ge (by omega) (by omega)), gdi (by have := r4.2.1; omega) (by omega), ix_nI (by omega)]
      by_cases z : gA d1 (32 * 9 + 15) i = -1
      · rw [if_pos z, gdi (by omega) (by omega), b2, partOf_c hv b1, ob, bit_e _ (by omega), nx_or, bd_q, t_X4_trapParts_40, nI_1]
        refine ih _ _ _ (by omega) (by omega) (fun g => ?_)
        rw [Nat.testBit_or, Bool.or_eq_true, hM g, Nat.testBit_two_pow, decide_eq_true_eq]
        constructor
        · rintro (⟨j, q1, q2, q3⟩ | q)
          · exact ⟨j, by omega, q2, q3⟩
          · exact ⟨i, by omega, q, hw.mp z⟩
        · rintro ⟨j, q1, q2, q3⟩
          by_cases y : j = i
          · rw [y] at q2; exact .inr q2
          · exact .inl ⟨j, by omega, q2, q3⟩
      · rw [if_neg z, t_X4_trapParts_40, nI_1]
        refine ih _ _ _ (by omega) (by omega) (fun g => ?_)
        rw [hM g]
        constructor
        · rintro ⟨j, q1, q2, q3⟩
          exact ⟨j, by omega, q2, q3⟩
        · rintro ⟨j, q1, q2, q3⟩
          by_cases y : j = i
          · rw [y] at q3; exact absurd (hw.mpr q3) z
          · exact ⟨j, by omega, q2, q3⟩
  obtain ⟨M, t1, t2⟩ := main b 0 FU 0 (by omega) (by unfold FU; omega) (fun g => by
    rw [Nat.zero_testBit]
    exact ⟨fun z => (by cases z), fun ⟨j, z, _⟩ => by omega⟩)
  refine ⟨M, L1, d1, 0 + k1, 0 + n1, ?_, by rw [Nat.zero_add, Nat.zero_add]; exact r2, r3.1, hG, t2⟩
  rw [show lp (fun k x => t_X4_trapParts_8 9 (fun x1 x2 L d => k (x1, x2, L, d)) x.1 x.2.1 x.2.2.1 x.2.2.2) FU (0, 0, L1, d1) = _ from t1, al_e]
