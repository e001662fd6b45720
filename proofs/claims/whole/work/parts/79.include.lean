/-! ===== the class's graph of what is come to: fresh, with one state more ===== -/
def GSp (L : Nat → Nat) (d : Dt) (u : Nat → Int32) (s : Nat) (X : Nat → Nat) (wc b ap : Nat) : Prop :=
  GC u (-1) (-1) L d 9 s X wc ∧ b ≤ s ∧ gF d 9 0 = nI b ∧ (∀ i, i < b → RC u (-1) (-1) (X i)) ∧ (∀ q, RC u (-1) (-1) q → ∃ i, i < b ∧ X i = q) ∧ gF d 9 1 = nI ap ∧ (∀ g, ap.testBit g = true ↔ (BA u (-1) g ∨ ∃ i x, i < b ∧ AW u (-1) (X i) x g)) ∧ ((gF d 9 2 = 1 ∧ ∃ i, i < b ∧ bE u (qp (X i)) = 1) ∨ (gF d 9 2 = 0 ∧ ∀ i, i < b → bE u (qp (X i)) ≠ 1)) ∧ (gF d 9 13 = -1 ∨ ∃ t, t ≤ 60 ∧ OI L d 9 u (-1) s X t) ∧ (gF d 9 16 = 0 ∨ WI L d 9 u (-1) s X)
theorem GBu.gs {u : Nat → Int32} {L : Nat → Nat} {d : Dt} {s : Nat} {X : Nat → Nat} {wc ap : Nat} (h : GBu u (-1) (-1) L d 9 s X wc ap) : GSp L d u s X wc s ap := by
  obtain ⟨a1, a2, a3, a4, a5, a6, a7, a8, a9⟩ := h
  exact ⟨a1, Nat.le_refl _, a4, a2, a3, a5, a6, a9, .inl a7, .inl a8⟩
/-- what the graphs' calls leave of the class -/
def CF (d d' : Dt) : Prop := (∀ x, x ≠ 0 → x ≠ 9 → x ≠ 10 → AG d d' x) ∧ (∀ j, j ≠ 7 → gF d' 0 j = gF d 0 j) ∧ ∀ j, j < 32 → ∀ i, gA d' (32 * 0 + j) i = gA d (32 * 0 + j) i
theorem CF.rf (d : Dt) : CF d d := ⟨fun x _ _ _ => AG.refl d x, fun _ _ => rfl, fun _ _ _ => rfl⟩
theorem CF.tr {d d' d'' : Dt} (h : CF d d') (h2 : CF d' d'') : CF d d'' := ⟨fun x a b c => (h.1 x a b c).trans (h2.1 x a b c), fun j a => (h2.2.1 j a).trans (h.2.1 j a), fun j hj i => (h2.2.2 j hj i).trans (h.2.2 j hj i)⟩
theorem FF.cf {o : Nat} {d d' : Dt} (h : FF o d d') (ho : o = 9 ∨ o = 10) : CF d d' := ⟨fun x _ a b => h x (by omega), fun j _ => (h 0 (by omega)).1 j, fun j hj i => (h 0 (by omega)).2 j hj i⟩
theorem GS_cg {L : Nat → Nat} {d d' : Dt} {u : Nat → Int32} {s : Nat} {X : Nat → Nat} {wc b ap : Nat} (h : GSp L d u s X wc b ap) (ha : AG d d' 9) : GSp L d' u s X wc b ap := by
  obtain ⟨⟨⟨g1, g2, g3, g4, g5⟩, c2, c3, c4, c5, c6⟩, a2, a3, a4, a5, a6, a7, a8, a9, a10⟩ := h
  obtain ⟨f, r⟩ := ha
  refine ⟨⟨⟨(f 4).trans g1, g2, g3, fun i hi => ?_, fun x hx hi => (r 10 (by decide) x).trans (g5 x hx hi)⟩, fun i hi => ?_, fun hs => (r 8 (by decide) s).trans (c3 hs), (f 5).trans c4, c5, c6⟩, a2, (f 0).trans a3, a4, a5, (f 1).trans a6, a7, by rw [f 2]; exact a8, ?_, ?_⟩
  · obtain ⟨y1, y2, y3⟩ := g4 i hi
    exact ⟨y1, (r 7 (by decide) i).trans y2, (r 10 (by decide) _).trans y3⟩
  · obtain ⟨f', y1, y2, y3, y4⟩ := c2 i hi
    exact ⟨f', (r 8 (by decide) i).trans y1, (r 8 (by decide) _).trans y2, y3, fun j x hj => by rw [r 9 (by decide)]; exact y4 j x hj⟩
  · rw [f 13]
    rcases a9 with z | ⟨t, z1, z2, z3, z4, z5, z6⟩
    · exact .inl z
    · exact .inr ⟨t, z1, (f 13).trans z2, z3, z4, fun i hi => (r 11 (by decide) i).trans (z5 i hi), by rw [f 14]; exact z6⟩
  · rw [f 16]
    rcases a10 with z | ⟨z1, z2, z3⟩
    · exact .inl z
    · exact .inr ⟨(f 16).trans z1, z2, fun i hi => by rw [r 15 (by decide)]; exact z3 i hi⟩
theorem GI_cg {L : Nat → Nat} {d d' : Dt} {o : Nat} (h : GI L d o) (ha : AG d d' o) : GI L d' o := by
  obtain ⟨hg, s, h1, h2, h3, h4⟩ := h
  refine ⟨hg, s, h1, (ha.1 4).trans h2, fun i hi => ?_, fun x hx => ?_⟩
  · obtain ⟨c, c1, c2⟩ := h3 i hi
    exact ⟨c, c1, (ha.2 7 (by decide) i).trans c2⟩
  · rcases h4 x hx with q | ⟨i, c, q1, q2, q3, q4⟩
    · exact .inl ((ha.2 10 (by decide) x).trans q)
    · exact .inr ⟨i, c, q1, q2, (ha.2 7 (by decide) i).trans q3, q4⟩
/-- the graph 9: always there, what is come to if it is fresh -/
def FRE (L : Nat → Nat) (d : Dt) (u : Nat → Int32) : Prop := GI L d 9 ∧ (gF d 0 7 = 0 ∨ (gF d 0 7 = 1 ∧ ∃ s X wc b ap, GSp L d u s X wc b ap))
theorem fresh_q {L : Nat → Nat} {d : Dt} {u : Nat → Int32} (hv : VB u) (hb : BK d 6 u) (hl : LB L 6) (h : FRE L d u) : ∃ L' d' kc ns s X wc b ap, t_X5_freshComeTo L d = some ((L', d'), kc, ns) ∧ CO 9 L L' kc ns ∧ CF d d' ∧ AG d d' 10 ∧ gF d' 0 7 = 1 ∧ GSp L' d' u s X wc b ap := by
  obtain ⟨hi, hz⟩ := h
  unfold t_X5_freshComeTo
  rcases hz with z | ⟨z, s, X, wc, b, ap, hs⟩
  · obtain ⟨L1, d1, k1, n1, r1, r2, r3, r4, r5⟩ := build_q (bar := -1) (nop := -1) (p3 := 0) hv (by decide) hi hb hl
    rcases r5 with ⟨s, X, wc, ap, q⟩ | ⟨q, _⟩
    · rw [z, if_pos rfl, r1, ob]
      dsimp only
      rw [bd_q, al_e]
      refine ⟨L1, sF d1 0 7 1, _, _, s, X, wc, s, ap, rfl, by rw [Nat.zero_add, Nat.zero_add]; exact r2, (r3.cf (.inl rfl)).tr ⟨fun x hx _ _ => AG_sF hx, fun j hj => gF_sFn (fun y => hj y.2), fun _ _ _ => rfl⟩, (r3 10 (by decide)).trans (AG_sF (by decide)), gF_sF1 _ _ _ _, GS_cg q.gs (AG_sF (by decide))⟩
    · exact absurd rfl q
  · rw [z, if_neg (by decide)]
    exact ⟨L, d, 0, 0, s, X, wc, b, ap, rfl, CO.rf hi.1, CF.rf d, AG.refl d 10, z, hs⟩
theorem any_nI (x : Int32) : ∃ n, x = nI n := ⟨x.toBitVec.toNat, Int32.toBitVec_inj.mp (by show _ = BitVec.ofNat 32 _; simp)⟩
/-- the class's code of a state, lost or not -/
def CD (u : Nat → Int32) (x : Option Nat) (c : Nat) : Prop := match x with
  | none => c < 2 ^ 19 ∧ c % 4 = 2
  | some q => VQ u q ∧ c = cc u q
theorem include_q {L : Nat → Nat} {d : Dt} {u : Nat → Int32} {s : Nat} {X : Nat → Nat} {wc b ap c : Nat} {x : Option Nat} (hv : VB u) (hb : BK d 6 u) (hl : LB L 6) (hg : GLn L 9) (h : GSp L d u s X wc b ap) (hx : CD u x c) : ∃ v L' d' kc ns s' X' wc', t_X4_include L d 9 (nI c) = some ((v, L', d'), kc, ns) ∧ CO 9 L L' kc ns ∧ FF 9 d d' ∧ GSp L' d' u s' X' wc' b ap ∧ PLc X' s' x v := by
  have hG := h
  obtain ⟨⟨hGB, c2, c3, c4, c5, c6⟩, a2, a3, a4, a5, a6, a7, a8, a9, a10⟩ := h
  have hch := chS_le hg.1
  have hsL := hGB.2.1
  unfold t_X4_include
  rw [hGB.1, bd_q]
  -- the state is there already, or lost
  have same : ∀ v : Int32, PLc X s x v → t_X4_meet L d 9 (nI c) = some ((v, L, d), 0, 0) → ∃ v L' d' kc ns s' X' wc', (t_X4_meet L d 9 (nI c)).bind (fun q2 => al q2.2.1 q2.2.2 (if (gF q2.1.2.2 9 4) ≤ nI s then some ((q2.1.1, q2.1.2.1, q2.1.2.2), 0, 0) else (t_X4_spread q2.1.2.1 q2.1.2.2 9 (nI s) (-1) (-1) 0).bind (fun q7 => al q7.2.1 q7.2.2 ((t_X4_forgetResults q7.1.2.1 q7.1.2.2 9).bind (fun d11 => some ((q2.1.1, q7.1.2.1, d11), 0, 0)))))) = some ((v, L', d'), kc, ns) ∧ CO 9 L L' kc ns ∧ FF 9 d d' ∧ GSp L' d' u s' X' wc' b ap ∧ PLc X' s' x v := by
    intro v hp hm
    rw [hm, ob]
    dsimp only
    rw [hGB.1, if_pos (nI_le (Nat.le_refl _) (by omega)), al_e]
    exact ⟨v, L, d, 0 + 0, 0 + 0, s, X, wc, rfl, CO.rf hg, fun y _ => AG.refl d y, hG, hp⟩
  cases x with
  | none => exact same (-1) rfl (meet_lost hx.1 hx.2)
  | some q =>
    obtain ⟨hq, ec⟩ := hx
    by_cases ex : ∃ j, j < s ∧ X j = q
    · obtain ⟨j, j1, j2⟩ := ex
      refine same (nI j) ⟨j, j1, j2, rfl⟩ ?_
      rw [ec, ← j2]
      exact meet_old hv hg hGB j1
    · have h0 : ∀ i, i < s → X i ≠ q := fun i hi z => ex ⟨i, hi, z⟩
      obtain ⟨L1, d1, k1, n1, m1, m2, m3, m4, m5⟩ := meet_new hv hg hGB hq h0
      obtain ⟨m4a, m4b, m4c, m4d, m4e, m4f⟩ := m4
      have hch1 := chS_le m2.1.1
      have hs1 := m3.2.1
      obtain ⟨ap0, eap⟩ := any_nI (gF d 9 6)
      have ag : ∀ i, i < s → apn X s q i = X i := fun i hi => apn_n (by omega)
      have hgk : GK (fun _ => True) (fun g => ap0.testBit g = true) u (-1) (-1) s L1 d1 9 (s + 1) (apn X s q) wc ap0 s := by
        refine ⟨m3, fun _ _ => trivial, fun i hi => ?_, fun hs => ?_, (m4b 5 (by decide)).trans c4, by rw [m4e]; exact c5, c6, (m4b 6 (by decide)).trans eap, fun g => ?_, by omega⟩
        · obtain ⟨f', y1, y2, y3, y4⟩ := c2 i hi
          rw [← ag i hi] at y2 y3 y4
          refine ⟨f', (m4c i (by have := hg.2.1; omega)).trans y1, (m4c (i + 1) (by have := hg.2.1; omega)).trans y2, y3, fun j x hj => ?_⟩
          rw [m4d]
          exact (y4 j x hj).mono (by omega) ag
        · exact (m4c s (by have := hg.2.1; omega)).trans (c3 hs)
        · exact ⟨.inl, fun z => z.elim id (fun ⟨i, _, q1, q2, _⟩ => by omega)⟩
      obtain ⟨r, L2, d2, s2, X2, wc2, ap2, k2, n2, t1, t2, t3, t4, t5, t6⟩ := sp_out hv (by decide) (fun _ _ _ _ => trivial) (nI s) 0 55297 s FU 0 L1 d1 (s + 1) (apn X s q) wc ap0 (by omega) (by unfold FU; omega) (Nat.le_refl _) m2.1 (LB_LF m2.2.1 (by decide) hl) (BK_ag hv (m4a 6 (by decide)) hb) hgk (.inr ⟨rfl, fun i h1 h2 => by omega⟩)
      have t1' : t_X4_spread L1 d1 9 (nI s) (-1) (-1) 0 = some ((r, L2, d2), k2, n2) := t1
      have hk2 : GK (fun _ => True) (fun g => ap0.testBit g = true) u (-1) (-1) s L2 d2 9 s2 X2 wc2 ap2 s2 := by
        rcases t6 with z | z
        · exact z.1
        · exact absurd rfl z.1
      have hgc := hk2.gc
      have ag2 : ∀ i, i < s → X2 i = X i := fun i hi => (t5 i (by omega)).trans (ag i hi)
      have fld : ∀ j, j ≠ 4 → j ≠ 5 → j ≠ 6 → gF d2 9 j = gF d 9 j := fun j x y z => (t3.2 j x y z).trans (m4b j x)
      rw [ec, m1, ob]
      dsimp only
      rw [m3.1, if_neg (nI_ge (by omega) (by omega)), t1', ob]
      dsimp only
      unfold t_X4_forgetResults
      rw [bd_q, bd_q, ob, al_e, al_e]
      have fE : ∀ j, j ≠ 13 → j ≠ 16 → gF (sF (sF d2 9 13 (-1)) 9 16 0) 9 j = gF d2 9 j := fun j x y => by rw [gF_sFn (fun z => y z.2), gF_sFn (fun z => x z.2)]
      refine ⟨nI s, L2, sF (sF d2 9 13 (-1)) 9 16 0, _, _, s2, X2, wc2, rfl, by rw [Nat.zero_add, Nat.zero_add]; exact m2.tr t2, fun y hy => ((m4a y hy).trans (t3.1 y hy)).trans ((AG_sF hy).trans (AG_sF hy)), ⟨⟨⟨(fE 4 (by decide) (by decide)).trans hgc.1.1, hgc.1.2⟩, hgc.2.1, hgc.2.2.1, (fE 5 (by decide) (by decide)).trans hgc.2.2.2.1, hgc.2.2.2.2⟩, by omega, ?_, fun i hi => by rw [ag2 i (by omega)]; exact a4 i hi, fun q' hq' => ?_, ?_, fun g => ?_, ?_, .inl ?_, .inl ?_⟩, s, by omega, (t5 s (by omega)).trans (apn_s _ _ _), rfl⟩
      · rw [fE 0 (by decide) (by decide), fld 0 (by decide) (by decide) (by decide)]; exact a3
      · obtain ⟨i, i1, i2⟩ := a5 q' hq'
        exact ⟨i, i1, by rw [ag2 i (by omega)]; exact i2⟩
      · rw [fE 1 (by decide) (by decide), fld 1 (by decide) (by decide) (by decide)]; exact a6
      · rw [a7 g]
        constructor
        · rintro (z | ⟨i, y, z1, z2⟩)
          · exact .inl z
          · exact .inr ⟨i, y, z1, by rw [ag2 i (by omega)]; exact z2⟩
        · rintro (z | ⟨i, y, z1, z2⟩)
          · exact .inl z
          · rw [ag2 i (by omega)] at z2
            exact .inr ⟨i, y, z1, z2⟩
      · rw [fE 2 (by decide) (by decide), fld 2 (by decide) (by decide) (by decide)]
        rcases a8 with ⟨z, i, i1, i2⟩ | ⟨z, z2⟩
        · exact .inl ⟨z, i, i1, by rw [ag2 i (by omega)]; exact i2⟩
        · exact .inr ⟨z, fun i hi => by rw [ag2 i (by omega)]; exact z2 i hi⟩
      · rw [gF_sFn (by decide), gF_sF1]
      · rw [gF_sF1]
