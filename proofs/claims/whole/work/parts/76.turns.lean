/-! ===== the class's graph: odds of all states, turn by turn ===== -/
/-- what running turns leaves -/
def OF (o : Nat) (L : Nat → Nat) (d : Dt) (L' : Nat → Nat) (d' : Dt) : Prop := FF o d d' ∧ (∀ j, j ≠ 13 → j ≠ 14 → gF d' o j = gF d o j) ∧ (∀ a i, a ≠ 32 * o + 11 → a ≠ 32 * o + 12 → gA d' a i = gA d a i) ∧ ∀ a, a ≠ 32 * o + 11 → a ≠ 32 * o + 12 → L' a = L a
theorem OF.rf (o : Nat) (L : Nat → Nat) (d : Dt) : OF o L d L d := ⟨fun x _ => AG.refl d x, fun _ _ _ => rfl, fun _ _ _ _ => rfl, fun _ _ _ => rfl⟩
theorem OF.tr {o : Nat} {L L' L'' : Nat → Nat} {d d' d'' : Dt} (h : OF o L d L' d') (h2 : OF o L' d' L'' d'') : OF o L d L'' d'' := ⟨fun x hx => (h.1 x hx).trans (h2.1 x hx), fun j a b => (h2.2.1 j a b).trans (h.2.1 j a b), fun a i b c => (h2.2.2.1 a i b c).trans (h.2.2.1 a i b c), fun a b c => (h2.2.2.2 a b c).trans (h.2.2.2 a b c)⟩
theorem GC.of {u : Nat → Int32} {bar nop : Int32} {L L' : Nat → Nat} {d d' : Dt} {o s : Nat} {X : Nat → Nat} {wc : Nat} (h : GC u bar nop L d o s X wc) (hf : OF o L d L' d') : GC u bar nop L' d' o s X wc := by
  obtain ⟨⟨g1, g2, g3, g4, g5⟩, a2, a3, a4, a5, a6⟩ := h
  obtain ⟨_, f1, f2, f3⟩ := hf
  refine ⟨⟨(f1 4 (by decide) (by decide)).trans g1, by rw [f3 _ (by omega) (by omega)]; exact g2, by rw [f3 _ (by omega) (by omega)]; exact g3, fun i hi => ?_, fun x hx hi => ?_⟩, fun i hi => ?_, fun hs => ?_, (f1 5 (by decide) (by decide)).trans a4, by rw [f3 _ (by omega) (by omega)]; exact a5, a6⟩
  · rw [f2 _ _ (by omega) (by omega), f2 _ _ (by omega) (by omega)]; exact g4 i hi
  · rw [f3 _ (by omega) (by omega)] at hx
    rw [f2 _ _ (by omega) (by omega)]; exact g5 x hx hi
  · obtain ⟨f, y1, y2, y3, y4⟩ := a2 i hi
    refine ⟨f, by rw [f2 _ _ (by omega) (by omega)]; exact y1, by rw [f2 _ _ (by omega) (by omega)]; exact y2, y3, fun j x hj => ?_⟩
    rw [f2 _ _ (by omega) (by omega)]; exact y4 j x hj
  · rw [f2 _ _ (by omega) (by omega)]; exact a3 hs
theorem pS_step {a b : Nat} (ha : chS a) (hb : chS b) (h : a < b) : b + pS a ≤ pS b := by
  unfold pS
  unfold chS at ha hb
  by_cases e : b = 55296
  · rw [if_pos e, if_neg (by omega)]; omega
  · rw [if_neg e, if_neg (by omega)]; omega
theorem chS_ge {n : Nat} (h : chS n) : 64 ≤ n := by unfold chS at h; omega
/-- a longer row 11 or 12 -/
theorem grow_q {L : Nat → Nat} {d : Dt} {o a : Nat} (hg : GLn L o) (ha : a = 32 * o + 11 ∨ a = 32 * o + 12) (hs : L a < L (32 * o + 7)) : CO o L (upL L a (L (32 * o + 7))) 1 (L (32 * o + 7)) ∧ OF o L d (upL L a (L (32 * o + 7))) (sR d a (fun _ => 0)) := by
  have h64 := chS_ge hg.1
  have hj : ∃ j, j < 32 ∧ a = 32 * o + j := by
    rcases ha with z | z
    · exact ⟨11, by decide, z⟩
    · exact ⟨12, by decide, z⟩
  obtain ⟨j, j1, j2⟩ := hj
  have lx : ∀ b, b ≠ a → upL L a (L (32 * o + 7)) b = L b := fun b hb => upL_n hb
  have la : upL L a (L (32 * o + 7)) a = L (32 * o + 7) := upL_s _ _ _
  obtain ⟨c1, c2, c3, c4, c5, c6, c7⟩ := hg
  have hgl : GLn (upL L a (L (32 * o + 7))) o := by
    refine ⟨by rw [lx _ (by omega)]; exact c1, by rw [lx _ (by omega), lx _ (by omega)]; exact c2, by rw [lx _ (by omega)]; exact c3, by rw [lx _ (by omega)]; exact c4, ?_, ?_, by rw [lx _ (by omega)]; exact c7⟩
    · rcases ha with z | z
      · rw [← z, la]; exact c1
      · rw [lx _ (by omega)]; exact c5
    · rcases ha with z | z
      · rw [lx _ (by omega)]; exact c6
      · rw [← z, la]; exact c1
  refine ⟨⟨hgl, fun b hb => lx b (by omega), ?_, by omega⟩, ⟨fun x hx => by rw [j2]; exact AG_sR j1 hx, fun _ _ _ => rfl, fun b i h1 h2 => ?_, fun b h1 h2 => lx b (by omega)⟩⟩
  · unfold PT
    rw [lx (32 * o + 7) (by omega), lx (32 * o + 9) (by omega), lx (32 * o + 10) (by omega), lx (32 * o + 15) (by omega)]
    rcases ha with z | z
    · rw [lx (32 * o + 12) (by omega), ← z, la]
      rw [z]
      have := pS_step c5 c1 (by rw [← z]; exact hs)
      omega
    · rw [lx (32 * o + 11) (by omega), ← z, la]
      rw [z]
      have := pS_step c6 c1 (by rw [← z]; exact hs)
      omega
  · rw [gA_sRi, if_neg (by omega)]
/-- odds of turn t stand in row 11 -/
def OI (L : Nat → Nat) (d : Dt) (o : Nat) (u : Nat → Int32) (bar : Int32) (s : Nat) (X : Nat → Nat) (t : Nat) : Prop := gF d o 13 = nI t ∧ s ≤ L (32 * o + 11) ∧ s ≤ L (32 * o + 12) ∧ RW d (32 * o + 11) s X (od u bar t) ∧ (gF d o 14 = 0 ∨ (gF d o 14 = 1 ∧ ∀ i, i < s → od u bar (t + 1) (X i) = od u bar t (X i)))
theorem so_lp {L : Nat → Nat} {d : Dt} {o s wc : Nat} {u : Nat → Int32} {bar : Int32} {X : Nat → Nat} (hv : VB u) (hg : GLn L o) (h : GC u bar (-1) L d o s X wc) (hs : s ≤ L (32 * o + 11)) (hs2 : s ≤ L (32 * o + 12)) : ∃ d', lp (fun k x => t_X4_startOdds_26 o (fun x1 L d => k (x1, L, d)) x.1 x.2.1 x.2.2) FU (0, L, d) = some ((L, d'), 0, 0) ∧ OF o L d L d' ∧ OI L d' o u bar s X 0 := by
  have hch := chS_le hg.1
  have hsL := h.1.2.1
  have main : ∀ (n i F : Nat) (e : Dt), i + n = s → n < F → OF o L d L e → (∀ j, j < i → gA e (32 * o + 11) j = nI (od u bar 0 (X j))) → ∃ d', lp (fun k x => t_X4_startOdds_26 o (fun x1 L d => k (x1, L, d)) x.1 x.2.1 x.2.2) F (nI i, L, e) = some ((L, d'), 0, 0) ∧ OF o L d L d' ∧ OI L d' o u bar s X 0 := by
    intro n
    induction n with
    | zero =>
      intro i F e hi hF hf hr
      obtain ⟨F, rfl⟩ : ∃ G, F = G + 1 := ⟨F - 1, by omega⟩
      have hc := h.of hf
      refine ⟨sF (sF e o 13 0) o 14 0, ?_, hf.tr ⟨fun x hx => (AG_sF hx).trans (AG_sF hx), fun j a b => by rw [gF_sFn (fun y => b y.2), gF_sFn (fun y => a y.2)], fun _ _ _ _ => rfl, fun _ _ _ => rfl⟩, ?_, hs, hs2, fun j hj => hr j (by omega), .inl (gF_sF1 _ _ _ _)⟩
      · show t_X4_startOdds_26 o (fun x1 L d => lp _ F (x1, L, d)) (nI i) L e = _
        rw [t_X4_startOdds_26, hc.1.1, if_pos (nI_le (by omega) (by omega)), bd_q, bd_q]
      · rw [gF_sFn (by omega), gF_sF1]; rfl
    | succ n ih =>
      intro i F e hi hF hf hr
      obtain ⟨F, rfl⟩ : ∃ G, F = G + 1 := ⟨F - 1, by omega⟩
      have hc := h.of hf
      have go : ∀ v, v = nI (od u bar 0 (X i)) → ∃ d', t_X4_startOdds_53 o (fun x1 L d => lp (fun k x => t_X4_startOdds_26 o (fun x1 L d => k (x1, L, d)) x.1 x.2.1 x.2.2) F (x1, L, d)) (nI i) v (nI i) L e = some ((L, d'), 0, 0) ∧ OF o L d L d' ∧ OI L d' o u bar s X 0 := by
        intro v hv'
        rw [t_X4_startOdds_53, gdi (by omega) (by omega), bd_q, ix_nI (by omega), nI_1]
        refine ih _ _ _ (by omega) (by omega) (hf.tr ⟨fun x hx => AG_sA (j := 11) (by decide) hx, fun _ _ _ => rfl, fun a j h1 h2 => by rw [gA_sAi, if_neg (fun y => h1 y.1)], fun _ _ _ => rfl⟩) (fun j hj => ?_)
        rw [gA_sAi]
        by_cases z : j = i
        · rw [if_pos ⟨rfl, z⟩, z]; exact hv'
        · rw [if_neg (fun y => z y.2)]; exact hr j (by omega)
      show ∃ d', t_X4_startOdds_26 o (fun x1 L d => lp _ F (x1, L, d)) (nI i) L e = _ ∧ _
      rw [t_X4_startOdds_26, hc.1.1, if_neg (nI_ge (by omega) (by omega)), hasWon_c hv hg hc.1 (by omega), ob]
      by_cases e1 : bE u (qp (X i)) = 1
      · rw [if_pos e1, if_neg (by decide)]
        refine go _ ?_
        show _ = nI (if bE u (qp (X i)) = 1 then 1000000 else 0)
        rw [if_pos e1]; rfl
      · rw [if_neg e1, if_pos rfl]
        refine go _ ?_
        show _ = nI (if bE u (qp (X i)) = 1 then 1000000 else 0)
        rw [if_neg e1]; rfl
  exact main s 0 FU d (by omega) (by unfold FU; omega) (OF.rf o L d) (fun j hj => by omega)
theorem startOdds_q {L : Nat → Nat} {d : Dt} {o s wc : Nat} {u : Nat → Int32} {bar : Int32} {X : Nat → Nat} (hv : VB u) (hg : GLn L o) (h : GC u bar (-1) L d o s X wc) : ∃ L' d' kc ns, t_X4_startOdds L d o = some ((L', d'), kc, ns) ∧ CO o L L' kc ns ∧ OF o L d L' d' ∧ OI L' d' o u bar s X 0 := by
  have hch := chS_le hg.1
  have h11 := chS_le hg.2.2.2.2.1
  have h12 := chS_le hg.2.2.2.2.2.1
  have hsL := h.1.2.1
  unfold t_X4_startOdds
  rw [h.1.1]
  by_cases c1 : L (32 * o + 11) < s
  · obtain ⟨q1, q2⟩ := grow_q (d := d) hg (.inl rfl) (show L (32 * o + 11) < L (32 * o + 7) by omega)
    have la : upL L (32 * o + 11) (L (32 * o + 7)) (32 * o + 11) = L (32 * o + 7) := upL_s _ _ _
    have l12 : upL L (32 * o + 11) (L (32 * o + 7)) (32 * o + 12) = L (32 * o + 12) := upL_n (by omega)
    have l7 : upL L (32 * o + 11) (L (32 * o + 7)) (32 * o + 7) = L (32 * o + 7) := upL_n (by omega)
    have hc1 := h.of q2
    rw [if_pos (nI_lt c1 (by omega)), gd_h (decide_eq_true (by omega)), bd_q, bd_q, l12, hc1.1.1]
    by_cases c2 : L (32 * o + 12) < s
    · obtain ⟨p1, p2⟩ := grow_q (d := sR d (32 * o + 11) (fun _ => 0)) q1.1 (.inr rfl) (show _ < _ by rw [l12, l7]; omega)
      rw [l7] at p1 p2
      obtain ⟨d', r1, r2, r3⟩ := so_lp hv p1.1 (hc1.of p2) (by rw [upL_n (by omega), la]; omega) (by rw [upL_s]; omega)
      rw [if_pos (nI_lt c2 (by omega)), l7, gd_h (decide_eq_true (by omega)), bd_q, bd_q, r1, al_e, al_e]
      exact ⟨_, d', _, _, rfl, by rw [Nat.zero_add, Nat.zero_add]; exact q1.tr p1, (q2.tr p2).tr r2, r3⟩
    · obtain ⟨d', r1, r2, r3⟩ := so_lp hv q1.1 hc1 (by rw [la]; omega) (by rw [l12]; omega)
      rw [if_neg (nI_nlt (by omega) (by omega)), r1, al_e]
      exact ⟨_, d', _, _, rfl, by rw [Nat.zero_add, Nat.zero_add]; exact q1, q2.tr r2, r3⟩
  · rw [if_neg (nI_nlt (by omega) (by omega))]
    by_cases c2 : L (32 * o + 12) < s
    · obtain ⟨p1, p2⟩ := grow_q (d := d) hg (.inr rfl) (show L (32 * o + 12) < L (32 * o + 7) by omega)
      obtain ⟨d', r1, r2, r3⟩ := so_lp hv p1.1 (h.of p2) (by rw [upL_n (by omega)]; omega) (by rw [upL_s]; omega)
      rw [if_pos (nI_lt c2 (by omega)), gd_h (decide_eq_true (by omega)), bd_q, bd_q, r1, al_e]
      exact ⟨_, d', _, _, rfl, by rw [Nat.zero_add, Nat.zero_add]; exact p1, p2.tr r2, r3⟩
    · obtain ⟨d', r1, r2, r3⟩ := so_lp hv hg h (by omega) (by omega)
      rw [if_neg (nI_nlt (by omega) (by omega))]
      exact ⟨L, d', 0, 0, r1, CO.rf hg, r2, r3⟩
theorem sw_11 (o : Nat) : swI o (32 * o + 11) = 32 * o + 12 := if_pos rfl
theorem sw_12 (o : Nat) : swI o (32 * o + 12) = 32 * o + 11 := by unfold swI; rw [if_neg (by omega), if_pos rfl]
theorem sw_n {o b : Nat} (h : b ≠ 32 * o + 11) (h2 : b ≠ 32 * o + 12) : swI o b = b := by unfold swI; rw [if_neg h, if_neg h2]
theorem oneTurn_q {L : Nat → Nat} {d : Dt} {o s wc t : Nat} {u : Nat → Int32} {bar : Int32} {X : Nat → Nat} (hv : VB u) (ho6 : o ≠ 6) (hg : GLn L o) (hb : BK d 6 u) (hl : LB L 6) (h : GC u bar (-1) L d o s X wc) (hO : OI L d o u bar s X t) : ∃ L' d', t_X4_runOneTurn L d o = some ((L', d'), 0, 0) ∧ CO o L L' 0 0 ∧ OF o L d L' d' ∧ OI L' d' o u bar s X (t + 1) := by
  obtain ⟨o1, o2, o3, o4, o5⟩ := hO
  have hch := chS_le hg.1
  have hsL := h.1.2.1
  have hclo := h.clo
  have h6 : (6 : Nat) ≠ o := fun z => ho6 z.symm
  have h11 := chS_le hg.2.2.2.2.1
  have main : ∀ (n i F : Nat) (x : Int32) (e : Dt), i + n = s → n < F → OF o L d L e → gF e o 13 = nI t → (∀ j, gA e (32 * o + 11) j = gA d (32 * o + 11) j) → (∀ j, j < i → gA e (32 * o + 12) j = nI (od u bar (t + 1) (X j))) → (x = 1 ∨ (x = 0 ∧ ∀ j, j < i → od u bar (t + 1) (X j) = od u bar t (X j))) → ∃ L' d', lp (fun k x => t_X4_runOneTurn_4 o (fun x1 x2 L d => k (x1, x2, L, d)) x.1 x.2.1 x.2.2.1 x.2.2.2) F (x, nI i, L, e) = some ((L', d'), 0, 0) ∧ CO o L L' 0 0 ∧ OF o L d L' d' ∧ OI L' d' o u bar s X (t + 1) := by
    intro n
    induction n with
    | zero =>
      intro i F x e hi hF hf e13 e11 e12 hx
      obtain ⟨F, rfl⟩ : ∃ G, F = G + 1 := ⟨F - 1, by omega⟩
      have hc := h.of hf
      have hco : CO o L (swL o L) 0 0 := by
        obtain ⟨c1, c2, c3, c4, c5, c6, c7⟩ := hg
        have s11 : swL o L (32 * o + 11) = L (32 * o + 12) := congrArg L (sw_11 o)
        have s12 : swL o L (32 * o + 12) = L (32 * o + 11) := congrArg L (sw_12 o)
        have sx : ∀ b, b ≠ 32 * o + 11 → b ≠ 32 * o + 12 → swL o L b = L b := fun b h1 h2 => congrArg L (sw_n h1 h2)
        refine ⟨⟨by rw [sx _ (by omega) (by omega)]; exact c1, by rw [sx _ (by omega) (by omega), sx _ (by omega) (by omega)]; exact c2, by rw [sx _ (by omega) (by omega)]; exact c3, by rw [sx _ (by omega) (by omega)]; exact c4, by rw [s11]; exact c6, by rw [s12]; exact c5, by rw [sx _ (by omega) (by omega)]; exact c7⟩, fun b hb => sx b (by omega) (by omega), ?_, by omega⟩
        unfold PT
        rw [s11, s12, sx (32 * o + 7) (by omega) (by omega), sx (32 * o + 9) (by omega) (by omega), sx (32 * o + 10) (by omega) (by omega), sx (32 * o + 15) (by omega) (by omega)]
        omega
      have hof : ∀ v, OF o L d (swL o L) (sF (sF (swD o e) o 13 (nI (t + 1))) o 14 v) := fun v => hf.tr ⟨fun y hy => AG.trans (d' := swD o e) ⟨fun _ => rfl, fun j hj k => by show e.2 (swI o (32 * y + j)) k = _; rw [sw_n (by omega) (by omega)]; rfl⟩ ((AG_sF hy).trans (AG_sF hy)), fun j a b => by rw [gF_sFn (fun y => b y.2), gF_sFn (fun y => a y.2)]; rfl, fun a k h1 h2 => by show e.2 (swI o a) k = _; rw [sw_n h1 h2]; rfl, fun a h1 h2 => congrArg L (sw_n h1 h2)⟩
      have rw11 : ∀ v, RW (sF (sF (swD o e) o 13 (nI (t + 1))) o 14 v) (32 * o + 11) s X (od u bar (t + 1)) := fun v j hj => by
        show e.2 (swI o (32 * o + 11)) j = _
        rw [sw_11]
        exact e12 j (by omega)
      have go : ∀ v : Int32, (v = 0 ∨ (v = 1 ∧ ∀ i, i < s → od u bar (t + 1) (X i) = od u bar t (X i))) → ∃ L' d', t_X4_runOneTurn_89 o v (swL o L) (sF (swD o e) o 13 (nI (t + 1))) = some ((L', d'), 0, 0) ∧ CO o L L' 0 0 ∧ OF o L d L' d' ∧ OI L' d' o u bar s X (t + 1) := by
        intro v hv'
        have hB : isB v = true := by rcases hv' with z | ⟨z, _⟩ <;> (rw [z]; rfl)
        refine ⟨swL o L, _, by unfold t_X4_runOneTurn_89; rw [gd_h hB, bd_q], hco, hof v, ?_, ?_, ?_, rw11 v, ?_⟩
        · rw [gF_sFn (by omega), gF_sF1]
        · show s ≤ L (swI o (32 * o + 11)); rw [sw_11]; exact o3
        · show s ≤ L (swI o (32 * o + 12)); rw [sw_12]; exact o2
        · rw [gF_sF1]
          rcases hv' with z | ⟨z, z2⟩
          · exact .inl z
          · refine .inr ⟨z, fun i hi => ?_⟩
            rw [show t + 1 + 1 = t + 2 from rfl, od_still hv hclo z2 2 i hi, od_still hv hclo z2 1 i hi]
      show ∃ L' d', t_X4_runOneTurn_4 o (fun x1 x2 L d => lp _ F (x1, x2, L, d)) x (nI i) L e = _ ∧ _
      rw [t_X4_runOneTurn_4, hc.1.1, if_pos (nI_le (by omega) (by omega)), bd_q, bd_q, show gF (swD o e) o 13 = gF e o 13 from rfl, e13, nI_1, bd_q]
      rcases hx with z | ⟨z, z2⟩
      · rw [z, if_neg (by decide)]
        exact go 0 (.inl rfl)
      · rw [z, if_pos rfl]
        exact go 1 (.inr ⟨rfl, fun j hj => z2 j (by omega)⟩)
    | succ n ih =>
      intro i F x e hi hF hf e13 e11 e12 hx
      obtain ⟨F, rfl⟩ : ∃ G, F = G + 1 := ⟨F - 1, by omega⟩
      have hc := h.of hf
      have rw11 : RW e (32 * o + 11) s X (od u bar t) := fun j hj => (e11 j).trans (o4 j hj)
      have bq := behind_q hv hg (BK_ag hv (hf.1 6 h6) hb) hl hc o2 rw11 (fun j hj => od_le hv t _ (hclo.1 j hj)) (i := i) (by omega)
      have le1 := od_le hv (bar := bar) (t + 1) _ (hclo.1 i (by omega))
      have le0 := od_le hv (bar := bar) t _ (hclo.1 i (by omega))
      have eq1 : odn u bar (od u bar t) (X i) = od u bar (t + 1) (X i) := rfl
      rw [eq1] at bq
      have st : ∀ v : Int32, (v = 1 ∨ (v = 0 ∧ ∀ j, j < i + 1 → od u bar (t + 1) (X j) = od u bar t (X j))) → ∃ L' d', t_X4_runOneTurn_37 o (fun x1 x2 L d => lp (fun k x => t_X4_runOneTurn_4 o (fun x1 x2 L d => k (x1, x2, L, d)) x.1 x.2.1 x.2.2.1 x.2.2.2) F (x1, x2, L, d)) (nI i) (nI (od u bar (t + 1) (X i))) v L e = some ((L', d'), 0, 0) ∧ CO o L L' 0 0 ∧ OF o L d L' d' ∧ OI L' d' o u bar s X (t + 1) := by
        intro v hv'
        rw [t_X4_runOneTurn_37, gdi (by omega) (by omega), bd_q, ix_nI (by omega), nI_1]
        refine ih _ _ _ _ (by omega) (by omega) (hf.tr ⟨fun x hx => AG_sA (j := 12) (by decide) hx, fun _ _ _ => rfl, fun a j h1 h2 => by rw [gA_sAi, if_neg (fun y => h2 y.1)], fun _ _ _ => rfl⟩) e13 (fun j => by rw [gA_sAi, if_neg (fun y => by omega)]; exact e11 j) (fun j hj => ?_) hv'
        rw [gA_sAi]
        by_cases z : j = i
        · rw [if_pos ⟨rfl, z⟩, z]
        · rw [if_neg (fun y => z y.2)]; exact e12 j (by omega)
      show ∃ L' d', t_X4_runOneTurn_4 o (fun x1 x2 L d => lp _ F (x1, x2, L, d)) x (nI i) L e = _ ∧ _
      rw [t_X4_runOneTurn_4, hc.1.1, if_neg (nI_ge (by omega) (by omega)), bq, ob]
      rcases hx with z | ⟨z, z2⟩
      · rw [z, if_neg (by decide), t_X4_runOneTurn_32]
        exact st 1 (.inl rfl)
      · rw [z, if_pos rfl, gdi (by omega) (by omega), ix_nI (by omega), rw11 i (by omega)]
        by_cases y : od u bar (t + 1) (X i) = od u bar t (X i)
        · rw [if_pos (congrArg nI y)]
          refine st 0 (.inr ⟨rfl, fun j hj => ?_⟩)
          by_cases w : j = i
          · rw [w]; exact y
          · exact z2 j (by omega)
        · rw [if_neg (fun w => y (nI_inj (by omega) (by omega) w)), t_X4_runOneTurn_32]
          exact st 1 (.inl rfl)
  exact main s 0 FU 0 d (by omega) (by unfold FU; omega) (OF.rf o L d) o1 (fun _ => rfl) (fun j hj => by omega) (.inr ⟨rfl, fun j hj => by omega⟩)
theorem runTurns_q {L : Nat → Nat} {d : Dt} {o s wc t : Nat} {u : Nat → Int32} {bar : Int32} {X : Nat → Nat} (hv : VB u) (ho6 : o ≠ 6) (hg : GLn L o) (hb : BK d 6 u) (hl : LB L 6) (h : GC u bar (-1) L d o s X wc) (ht : t ≤ 60) (hO : gF d o 13 = -1 ∨ ∃ t0, t0 ≤ 60 ∧ OI L d o u bar s X t0) : ∃ L' d' kc ns, t_X4_runTurns L d o (nI t) = some ((L', d'), kc, ns) ∧ CO o L L' kc ns ∧ OF o L d L' d' ∧ s ≤ L' (32 * o + 11) ∧ RW d' (32 * o + 11) s X (od u bar t) ∧ ∃ t1, t1 ≤ 60 ∧ OI L' d' o u bar s X t1 := by
  have h6 : (6 : Nat) ≠ o := fun z => ho6 z.symm
  have hclo := h.clo
  have main : ∀ (n r F : Nat) (L1 : Nat → Nat) (d1 : Dt) (k1 n1 : Nat), r + n = t → n < F → CO o L L1 k1 n1 → OF o L d L1 d1 → OI L1 d1 o u bar s X r → ∃ L' d' kc ns, al k1 n1 (lp (fun k x => t_X4_runTurns_25 o (nI t) (fun x2 L d => k (x2, L, d)) x.1 x.2.1 x.2.2) F (nI r, L1, d1)) = some ((L', d'), kc, ns) ∧ CO o L L' kc ns ∧ OF o L d L' d' ∧ s ≤ L' (32 * o + 11) ∧ RW d' (32 * o + 11) s X (od u bar t) ∧ ∃ t1, t1 ≤ 60 ∧ OI L' d' o u bar s X t1 := by
    intro n
    induction n with
    | zero =>
      intro r F L1 d1 k1 n1 hr hF hc hf hI
      obtain ⟨F, rfl⟩ : ∃ G, F = G + 1 := ⟨F - 1, by omega⟩
      have : r = t := by omega
      subst this
      refine ⟨L1, d1, 0 + k1, 0 + n1, ?_, by rw [Nat.zero_add, Nat.zero_add]; exact hc, hf, hI.2.1, hI.2.2.2.1, r, ht, hI⟩
      show al k1 n1 (t_X4_runTurns_25 o (nI r) (fun x2 L d => lp _ F (x2, L, d)) (nI r) L1 d1) = _
      rw [t_X4_runTurns_25, if_pos (nI_le (Nat.le_refl _) (by omega)), al_e]
    | succ n ih =>
      intro r F L1 d1 k1 n1 hr hF hc hf hI
      obtain ⟨F, rfl⟩ : ∃ G, F = G + 1 := ⟨F - 1, by omega⟩
      show ∃ L' d' kc ns, al k1 n1 (t_X4_runTurns_25 o (nI t) (fun x2 L d => lp _ F (x2, L, d)) (nI r) L1 d1) = _ ∧ _
      rw [t_X4_runTurns_25, if_neg (nI_ge (by omega) (by omega))]
      rcases hI.2.2.2.2 with z | ⟨z, z2⟩
      · obtain ⟨L2, d2, r1, r2, r3, r4⟩ := oneTurn_q hv ho6 hc.1 (BK_ag hv (hf.1 6 h6) hb) (LB_LF hc.2.1 h6 hl) (h.of hf) hI
        rw [z, if_pos rfl, r1, ob]
        dsimp only
        rw [al_0, nI_1]
        have hc2 := hc.tr r2
        rw [Nat.zero_add, Nat.zero_add] at hc2
        exact ih (r + 1) F L2 d2 k1 n1 (by omega) (by omega) hc2 (hf.tr r3) r4
      · rw [z, if_neg (by decide), al_e]
        refine ⟨L1, d1, 0 + k1, 0 + n1, rfl, by rw [Nat.zero_add, Nat.zero_add]; exact hc, hf, hI.2.1, fun i hi => ?_, r, by omega, hI⟩
        rw [hI.2.2.2.1 i hi, ← od_still hv hclo z2 (t - r) i hi, show r + (t - r) = t by omega]
  have fresh : ∃ L' d' kc ns, t_X4_runTurns_16 o (nI t) L d = some ((L', d'), kc, ns) ∧ CO o L L' kc ns ∧ OF o L d L' d' ∧ s ≤ L' (32 * o + 11) ∧ RW d' (32 * o + 11) s X (od u bar t) ∧ ∃ t1, t1 ≤ 60 ∧ OI L' d' o u bar s X t1 := by
    obtain ⟨L1, d1, k1, n1, r1, r2, r3, r4⟩ := startOdds_q hv hg h
    unfold t_X4_runTurns_16 t_X4_runTurns_20
    rw [r1, ob]
    dsimp only
    rw [r4.1, bd_q]
    exact main t 0 FU L1 d1 k1 n1 (by omega) (by unfold FU; omega) r2 r3 r4
  unfold t_X4_runTurns
  rcases hO with z | ⟨t0, z0, z⟩
  · rw [z, if_pos rfl]
    exact fresh
  · rw [z.1, if_neg (nI_m1 (by omega))]
    by_cases c : t0 ≤ t
    · rw [if_pos (nI_le c (by omega))]
      unfold t_X4_runTurns_20
      rw [z.1, bd_q]
      have := main (t - t0) t0 FU L d 0 0 (by omega) (by unfold FU; omega) (CO.rf hg) (OF.rf o L d) z
      rw [al_0] at this
      exact this
    · rw [if_neg (nI_ge (by omega) (by omega))]
      exact fresh
