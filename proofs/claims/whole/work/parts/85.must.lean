/-! ===== parts that every win goes through ===== -/
theorem shm : ∀ p, p < 24 → ((nI p &&& 31 : Int32).toBitVec.smod 32).toNat = p := by decide +kernel
theorem bit_test {a p : Nat} (ha : a < 2 ^ 31) (hp : p < 24) : ((nI a >>> (nI p &&& 31)) &&& 1 = 1) ↔ a.testBit p = true := by
  rw [pk_shrN ha (nI p &&& 31) p (shm p hp), pk_andN (by
    have := Nat.div_le_self a (2 ^ p)
    omega) 1 (by decide), Nat.testBit_eq_decide_div_mod_eq, decide_eq_true_eq]
  constructor
  · intro h
    exact nI_inj (b := 1) (by omega) (by decide) h
  · intro h
    rw [show (2 : Nat) ^ 1 = 2 from rfl, h]
    rfl
theorem bits_eq {a b : Nat} (h : ∀ g, a.testBit g = true ↔ b.testBit g = true) : a = b := by
  apply Nat.eq_of_testBit_eq
  intro i
  have := h i
  cases ha : a.testBit i <;> cases hb : b.testBit i
  · rfl
  · rw [ha, hb] at this; exact absurd (this.mpr rfl) (by decide)
  · rw [ha, hb] at this; exact absurd (this.mp rfl) (by decide)
  · rfl
theorem GSp.lf {L L' : Nat → Nat} {d : Dt} {u : Nat → Int32} {s : Nat} {X : Nat → Nat} {wc b ap : Nat} (h : GSp L d u s X wc b ap) (e : ∀ j, j < 32 → L' (32 * 9 + j) = L (32 * 9 + j)) : GSp L' d u s X wc b ap := by
  obtain ⟨⟨⟨g1, g2, g3, g4, g5⟩, c2, c3, c4, c5, c6⟩, a2, a3, a4, a5, a6, a7, a8, a9, a10⟩ := h
  refine ⟨⟨⟨g1, by rw [e 7 (by decide)]; exact g2, by rw [e 10 (by decide)]; exact g3, g4, fun x hx hi => ?_⟩, c2, c3, c4, by rw [e 9 (by decide)]; exact c5, c6⟩, a2, a3, a4, a5, a6, a7, a8, ?_, ?_⟩
  · rw [e 10 (by decide)] at hx; exact g5 x hx hi
  · rcases a9 with z | ⟨t, z1, z2, z3, z4, z5⟩
    · exact .inl z
    · exact .inr ⟨t, z1, z2, by rw [e 11 (by decide)]; exact z3, by rw [e 12 (by decide)]; exact z4, z5⟩
  · rcases a10 with z | ⟨z1, z2, z3⟩
    · exact .inl z
    · exact .inr ⟨z1, by rw [e 15 (by decide)]; exact z2, z3⟩
theorem FRE_10 {L L' : Nat → Nat} {d d' : Dt} {u : Nat → Int32} (h : FRE L d u) (hf : FF 10 d d') (hl : LF 10 L L') : FRE L' d' u := by
  refine ⟨GI_LF h.1 hl (by decide) (hf 9 (by decide)), ?_⟩
  rw [(hf 0 (by decide)).1 7]
  rcases h.2 with z | ⟨z, s, X, wc, b, ap, z2⟩
  · exact .inl z
  · exact .inr ⟨z, s, X, wc, b, ap, (GS_cg z2 (hf 9 (by decide))).lf (fun j hj => hl _ (by omega))⟩
/-- graph 9 first, then graph 10 -/
theorem RLx.g910 {L L1 L2 : Nat → Nat} {d d1 d2 dm dm' : Dt} {k n k1 n1 k2 n2 : Nat} (h : RLx L d dm k n) (hc : CF d d1) (h10 : AG d d1 10) (hco : CO 9 L L1 k1 n1) (h7 : gF d1 0 7 = 1) (hs : ∃ s X wc b ap, GSp L1 d1 (bk (wOf dm)) s X wc b ap) (hf2 : FF 10 d1 d2) (hco2 : CO 10 L1 L2 k2 n2) (hi2 : GI L2 d2 10) (hf : FR dm dm') (hF : FAR dm') : RLx L2 d2 dm' (k + (k2 + k1)) (n + (n2 + n1)) := by
  have h1 := h.g9 hc h10 hco h7 hs (FR.refl dm) h.2.2.2.2.2.2.2.2.2.1
  have := h1.gr (k' := k + k1 + k2) (n' := n + n1 + n2) (FF.cf hf2 (.inr rfl)) hf hF (FRE_10 h1.2.2.2.2.2.2.2.2.2.2.1 hf2 hco2.2.1) hi2 (LF.le hco2.2.1 (.inr rfl)) (POT.co (.inr rfl) h1.2.2.2.2.2.2.2.2.2.2.2.2 hco2)
  rw [show k + (k2 + k1) = k + k1 + k2 by omega, show n + (n2 + n1) = n + n1 + n2 by omega]
  exact this
/-- a win can be come to -/
def WN (u : Nat → Int32) (bar nop : Int32) : Prop := ∃ q, RC u bar nop q ∧ bE u (qp q) = 1
theorem build_won {L : Nat → Nat} {d : Dt} {u : Nat → Int32} {bar nop : Int32} (hv : VB u) (h : GI L d 10) (hb : BK d 6 u) (hl : LB L 6) : ∃ L' d' kc ns, t_X4_build L d 10 bar nop 1 = some ((L', d'), kc, ns) ∧ CO 10 L L' kc ns ∧ FF 10 d d' ∧ GI L' d' 10 ∧ ((gF d' 10 2 = 1 ∧ WN u bar nop) ∨ (gF d' 10 2 = 0 ∧ ¬ WN u bar nop)) := by
  obtain ⟨L1, d1, k1, n1, r1, r2, r3, r4, r5⟩ := build_q (bar := bar) (nop := nop) (p3 := 1) hv (by decide) h hb hl
  refine ⟨L1, d1, k1, n1, r1, r2, r3, r4, ?_⟩
  rcases r5 with ⟨s, X, wc, ap, q⟩ | ⟨_, q1, q2⟩
  · obtain ⟨a1, a2, a3, a4, a5, a6, a7, a8, a9⟩ := q
    rcases a9 with ⟨z, i, i1, i2⟩ | ⟨z, z2⟩
    · exact .inl ⟨z, X i, a2 i i1, i2⟩
    · refine .inr ⟨z, fun ⟨q, h1, h2⟩ => ?_⟩
      obtain ⟨i, i1, i2⟩ := a3 q h1
      exact z2 i i1 (by rw [i2]; exact h2)
  · exact .inl ⟨q1, q2⟩
theorem ap_lt {u : Nat → Int32} (hv : VB u) {X : Nat → Nat} {b ap : Nat} {nop : Int32} (hX : ∀ i, i < b → VQ u (X i)) (h : ∀ g, ap.testBit g = true ↔ (BA u nop g ∨ ∃ i x, i < b ∧ AW u nop (X i) x g)) : (∀ g, ap.testBit g = true → g < bP u) ∧ ap < 2 ^ 24 := by
  have hP := hv.P.2
  have h1 : ∀ g, ap.testBit g = true → g < bP u := by
    intro g hg
    rcases (h g).mp hg with ⟨a, _, c⟩ | ⟨i, x, a, c1, c2, c3, c4⟩
    · omega
    · have := (gl_eq hv (hX i a).1 c1).2
      omega
  refine ⟨h1, Nat.lt_pow_two_of_testBit _ (fun i hi => ?_)⟩
  cases e : ap.testBit i with
  | false => rfl
  | true => have := h1 i e; omega
/-- a part that nobody comes to bars nobody -/
theorem bar_part {u : Nat → Int32} {X : Nat → Nat} {b ap g : Nat} (hX : ∀ q, RC u (-1) (-1) q → ∃ i, i < b ∧ X i = q) (h : ∀ g, ap.testBit g = true ↔ (BA u (-1) g ∨ ∃ i x, i < b ∧ AW u (-1) (X i) x g)) (hv : VB u) (hg : ¬ ap.testBit g = true) (hg24 : g < 24) : ∀ (n q : Nat), RO u (-1) (-1) (ini u (-1) (-1)) n q → RO u (-1) (nI g) (ini u (-1) (nI g)) n q := by
  intro n
  cases hi : ini u (-1) (-1) with
  | none => intro q hq; exact hq.elim
  | some r =>
    have hP : bP u ≠ 0 := fun z => by unfold ini at hi; rw [if_pos (.inl z)] at hi; cases hi
    have g0 : g ≠ 0 := fun z => hg ((h g).mpr (.inl ⟨hP, by decide, z⟩))
    have hi2 : ini u (-1) (nI g) = some r := by
      unfold ini at hi ⊢
      rw [if_neg (fun z => z.elim hP (by decide))] at hi
      rw [if_neg (fun z => z.elim hP (nI_ne0 (by omega) (by omega)))]
      exact hi
    rw [hi2]
    induction n with
    | zero => intro q hq; exact hq
    | succ n ih =>
      intro q hq
      obtain ⟨q', a, c, c1, c2, c3, c4⟩ := hq
      refine ⟨q', ih q' a, c, c1, c2, fun z => ?_, c4⟩
      have hrc : RC u (-1) (-1) q' := ⟨n, by rw [hi]; exact a⟩
      have hq' : VQ u q' := by
        have := ini_ok hv hi
        exact RR.ok hv this n q' a
      obtain ⟨i, i1, i2⟩ := hX q' hrc
      have gg := gl_eq hv hq'.1 c1
      have : gl u q' c = g := by
        have hP24 := hv.P.2
        rw [gg.1] at z
        exact nI_inj (by omega) (by omega) z
      exact hg ((h g).mpr (.inr ⟨i, c, i1, by rw [i2]; exact ⟨c1, c2, c3, this⟩⟩))
theorem must_c {u : Nat → Int32} {ap : Nat} (hv : VB u) (hap : ap < 2 ^ 24) : ∀ (n p F M : Nat) (L : Nat → Nat) (d : Dt), p + n = 24 → n < F → GI L d 10 → LB L 6 → BK d 6 u → gF d 9 1 = nI ap → (∀ g, M.testBit g = true ↔ (g < p ∧ ap.testBit g = true ∧ ¬ WN u (-1) (nI g))) → ∃ M' L' d' kc ns, lp (fun k x => t_X5_mustParts_13 9 (fun x2 x3 L d => k (x2, x3, L, d)) x.1 x.2.1 x.2.2.1 x.2.2.2) F (nI M, nI p, L, d) = some ((nI M', L', d'), kc, ns) ∧ CO 10 L L' kc ns ∧ FF 10 d d' ∧ GI L' d' 10 ∧ ∀ g, M'.testBit g = true ↔ (g < 24 ∧ ap.testBit g = true ∧ ¬ WN u (-1) (nI g)) := by
  intro n
  induction n with
  | zero =>
    intro p F M L d hp hF hi hl hb h1 hM
    obtain ⟨F, rfl⟩ : ∃ G, F = G + 1 := ⟨F - 1, by omega⟩
    have : p = 24 := by omega
    subst this
    refine ⟨M, L, d, 0, 0, ?_, CO.rf hi.1, fun x _ => AG.refl d x, hi, hM⟩
    show t_X5_mustParts_13 9 (fun x2 x3 L d => lp _ F (x2, x3, L, d)) (nI M) (nI 24) L d = _
    rw [t_X5_mustParts_13, if_pos (show (24 : Int32) ≤ nI 24 by decide)]
  | succ n ih =>
    intro p F M L d hp hF hi hl hb h1 hM
    obtain ⟨F, rfl⟩ : ∃ G, F = G + 1 := ⟨F - 1, by omega⟩
    show ∃ M' L' d' kc ns, t_X5_mustParts_13 9 (fun x2 x3 L d => lp _ F (x2, x3, L, d)) (nI M) (nI p) L d = _ ∧ _
    rw [t_X5_mustParts_13, if_neg (show ¬ (24 : Int32) ≤ nI p from nI_ge (b := 24) (by omega) (by decide)), h1]
    have step : ∀ (M1 : Nat), (∀ g, M1.testBit g = true ↔ (M.testBit g = true ∨ (g = p ∧ ap.testBit p = true ∧ ¬ WN u (-1) (nI p)))) → ∀ g, M1.testBit g = true ↔ (g < p + 1 ∧ ap.testBit g = true ∧ ¬ WN u (-1) (nI g)) := by
      intro M1 h g
      rw [h g, hM g]
      constructor
      · rintro (⟨a, b⟩ | ⟨rfl, b⟩)
        · exact ⟨by omega, b⟩
        · exact ⟨by omega, b⟩
      · rintro ⟨a, b⟩
        by_cases z : g = p
        · rw [z] at b; exact .inr ⟨z, b⟩
        · exact .inl ⟨by omega, b⟩
    by_cases t : ap.testBit p = true
    · rw [if_pos ((bit_test (by omega) (by omega)).mpr t)]
      obtain ⟨L1, d1, k1, n1, r1, r2, r3, r4, r5⟩ := build_won (bar := -1) (nop := nI p) hv hi hb hl
      rw [r1, ob]
      dsimp only
      have hl1 := LB_LF r2.2.1 (show 6 ≠ 10 by decide) hl
      have hb1 := BK_ag hv (r3 6 (by decide)) hb
      have g1 : gF d1 9 1 = nI ap := ((r3 9 (by decide)).1 1).trans h1
      rcases r5 with ⟨z, w⟩ | ⟨z, w⟩
      · rw [z, if_neg (by decide), t_X5_mustParts_57, nI_1]
        obtain ⟨M', L2, d2, k2, n2, t1, t2, t3, t4, t5⟩ := ih (p + 1) F M L1 d1 (by omega) (by omega) r4 hl1 hb1 g1 (step M (fun g => ⟨.inl, fun q => q.elim id (fun q => absurd w q.2.2)⟩))
        rw [t1, al_e]
        exact ⟨M', L2, d2, _, _, rfl, r2.tr t2, fun x hx => (r3 x hx).trans (t3 x hx), t4, t5⟩
      · rw [z, if_pos rfl, bit_e _ (by omega), nx_or, bd_q, t_X5_mustParts_57, nI_1]
        obtain ⟨M', L2, d2, k2, n2, t1, t2, t3, t4, t5⟩ := ih (p + 1) F (M ||| 2 ^ p) L1 d1 (by omega) (by omega) r4 hl1 hb1 g1 (step _ (fun g => by
          rw [Nat.testBit_or, Bool.or_eq_true, Nat.testBit_two_pow, decide_eq_true_eq]
          exact ⟨fun q => q.elim .inl (fun q => .inr ⟨q.symm, t, w⟩), fun q => q.elim .inl (fun q => .inr q.1.symm)⟩))
        rw [t1, al_e]
        exact ⟨M', L2, d2, _, _, rfl, r2.tr t2, fun x hx => (r3 x hx).trans (t3 x hx), t4, t5⟩
    · rw [if_neg (fun z => t ((bit_test (by omega) (by omega)).mp z)), t_X5_mustParts_57, nI_1]
      exact ih (p + 1) F M L d (by omega) (by omega) hi hl hb h1 (step M (fun g => ⟨.inl, fun q => q.elim id (fun q => absurd q.2.1 t)⟩))
/-- what the walks leave while something is barred -/
def FB (d d' : Dt) : Prop := (∀ j, j ≠ 15 → j ≠ 16 → j ≠ 17 → j ≠ 18 → j ≠ 21 → j ≠ 22 → gF d' 0 j = gF d 0 j) ∧ ∀ a i, a ≠ 19 → a ≠ 20 → a ≠ 25 → a ≠ 26 → a ≠ 27 → a ≠ 28 → gA d' a i = gA d a i
theorem FB.rf (d : Dt) : FB d d := ⟨fun _ _ _ _ _ _ _ => rfl, fun _ _ _ _ _ _ _ _ => rfl⟩
theorem FB.tr {d d' d'' : Dt} (h : FB d d') (h2 : FB d' d'') : FB d d'' := ⟨fun j a b c e f g => (h2.1 j a b c e f g).trans (h.1 j a b c e f g), fun a i b c e f g k => (h2.2 a i b c e f g k).trans (h.2 a i b c e f g k)⟩
theorem FB.of {d d' : Dt} (h : FR d d') : FB d d' := ⟨fun j _ _ a b c e => h.1 j a b c e, h.2⟩
theorem FB_15 {d : Dt} {v : Int32} : FB d (sF d 0 15 v) := ⟨fun j a _ _ _ _ _ => gF_sFn (fun q => a q.2), fun _ _ _ _ _ _ _ _ => rfl⟩
theorem FB_16 {d : Dt} {v : Int32} : FB d (sF d 0 16 v) := ⟨fun j _ a _ _ _ _ => gF_sFn (fun q => a q.2), fun _ _ _ _ _ _ _ _ => rfl⟩
theorem FB.w {d d' : Dt} (h : FB d d') : wOf d' = wOf d := by
  funext i
  exact h.2 0 i (by decide) (by decide) (by decide) (by decide) (by decide) (by decide)
theorem FB.ru {u : Nat → Int32} {d d' : Dt} (h : FB d d') (hr : RU u d) : RU u d' := by
  unfold RU
  rw [h.w]
  exact hr
theorem FB.fr {d d' : Dt} (h : FB d d') (h15 : gF d' 0 15 = gF d 0 15) (h16 : gF d' 0 16 = gF d 0 16) : FR d d' := ⟨fun j a b c e => by
  by_cases x : j = 15
  · rw [x]; exact h15
  · by_cases y : j = 16
    · rw [y]; exact h16
    · exact h.1 j x y a b c e, h.2⟩
theorem FAR_cg {d d' : Dt} (h : FAR d) (h21 : gF d' 0 21 = gF d 0 21) (h19 : ∀ i, gA d' 19 i = gA d 19 i) (h20 : ∀ i, gA d' 20 i = gA d 20 i) : FAR d' := by
  obtain ⟨s, Y, s1, s2, s3, s4⟩ := h
  exact ⟨s, Y, s1, h21.trans s2, fun i hi => by rw [h19]; exact s3 i hi, fun x hx hi => by rw [h20]; exact s4 x hx hi⟩
theorem won_m {u : Nat → Int32} {bar nop : Int32} {e : Dt} (hr : RU u e) (hf : FAR e) (hb : gF e 0 16 = bar) (hn : gF e 0 15 = nop) : ∃ e' v, t_X6_spreadFromBeginning LM e = some e' ∧ t_X6_hasWon LM e' = some v ∧ FR e e' ∧ FAR e' ∧ ((v = 1 ∧ WN u bar nop) ∨ (v = 0 ∧ ¬ WN u bar nop)) := by
  obtain ⟨e', s, Y, f, m, t1, t2, t3⟩ := spreadBeg_q hr hf hb hn
  have rc := t2.rc
  obtain ⟨v, y1, y2⟩ := hasWon_q (t3.ru hr) t2
  refine ⟨e', v, t1, y1, t3, t2.far hr.v, ?_⟩
  rcases y2 with ⟨z, i, i1, i2⟩ | ⟨z, z2⟩
  · exact .inl ⟨z, Y i, rc.1 i i1, i2⟩
  · refine .inr ⟨z, fun ⟨q, h1, h2⟩ => ?_⟩
    obtain ⟨i, i1, i2⟩ := rc.2 q h1
    exact z2 i i1 (by rw [i2]; exact h2)
theorem must_m {u : Nat → Int32} {e : Dt} (hr : RU u e) (hf : FAR e) (hb : gF e 0 16 = -1) (hn : gF e 0 15 = -1) : ∃ M e', t_X6_must LM e = some (nI M, e') ∧ FR e e' ∧ FAR e' ∧ ∀ g, M.testBit g = true ↔ (WN u (-1) (-1) ∧ g < bP u ∧ ¬ WN u (-1) (nI g)) := by
  have hv := hr.v
  have hP := hr.1.P
  obtain ⟨e1, v, r1, r2, r3, r4, r5⟩ := won_m hr hf hb hn
  unfold t_X6_must
  rw [r1, ob, r2, ob]
  rcases r5 with ⟨z, w⟩ | ⟨z, w⟩
  · rw [z, if_neg (by decide)]
    have main : ∀ (n p F M : Nat) (d : Dt), p + n = bP u → n < F → FB e d → FAR d → gF d 0 16 = -1 → (∀ g, M.testBit g = true ↔ (g < p ∧ ¬ WN u (-1) (nI g))) → ∃ M' e', lp (fun k x => t_X6_must_17 LM (fun x1 x2 d => k (x1, x2, d)) x.1 x.2.1 x.2.2) F (nI M, nI p, d) = some (nI M', e') ∧ FR e e' ∧ FAR e' ∧ ∀ g, M'.testBit g = true ↔ (g < bP u ∧ ¬ WN u (-1) (nI g)) := by
      intro n
      induction n with
      | zero =>
        intro p F M d hp hF hd hfar h16 hM
        obtain ⟨F, rfl⟩ : ∃ G, F = G + 1 := ⟨F - 1, by omega⟩
        have : p = bP u := by omega
        subst this
        refine ⟨M, sF d 0 15 (-1), ?_, (hd.tr FB_15).fr (by rw [gF_sF1, hn]) (by rw [gF_sFn (by decide), h16, hb]), FAR_cg hfar (gF_sFn (by decide)) (fun _ => rfl) (fun _ => rfl), hM⟩
        show t_X6_must_17 LM (fun x1 x2 d => lp _ F (x1, x2, d)) (nI M) (nI (bP u)) d = _
        rw [t_X6_must_17, LM0, gd_h (show inb 0 4128 = true by decide), show gA d (32 * 0 + 0) (ix 0) = wOf d 0 from rfl, hd.w, hP.1, ← hr.P, if_pos (nI_le (Nat.le_refl _) (by have := hr.P; omega)), bd_q]
      | succ n ih =>
        intro p F M d hp hF hd hfar h16 hM
        obtain ⟨F, rfl⟩ : ∃ G, F = G + 1 := ⟨F - 1, by omega⟩
        have hPu := hr.P
        have hd1 := hd.tr (FB_15 (v := nI p))
        obtain ⟨e2, v2, t1, t2, t3, t4, t5⟩ := won_m (bar := -1) (nop := nI p) (hd1.ru hr) (FAR_cg hfar (gF_sFn (by decide)) (fun _ => rfl) (fun _ => rfl)) ((gF_sFn (by decide)).trans h16) (gF_sF1 _ _ _ _)
        have hd2 := hd1.tr (FB.of t3)
        have h162 : gF e2 0 16 = -1 := (t3.1 16 (by decide) (by decide) (by decide) (by decide)).trans ((gF_sFn (by decide)).trans h16)
        show ∃ M' e', t_X6_must_17 LM (fun x1 x2 d => lp _ F (x1, x2, d)) (nI M) (nI p) d = _ ∧ _
        rw [t_X6_must_17, LM0, gd_h (show inb 0 4128 = true by decide), show gA d (32 * 0 + 0) (ix 0) = wOf d 0 from rfl, hd.w, hP.1, ← hr.P, if_neg (nI_ge (by omega) (by omega)), bd_q, t1, ob, t2, ob]
        rcases t5 with ⟨y, x⟩ | ⟨y, x⟩
        · rw [y, if_neg (by decide), t_X6_must_49, t_X6_one, if_pos rfl, ob, bit_0 _ (by omega), or_z _ _ rfl, bd_q, nI_1]
          refine ih _ _ _ _ (by omega) (by omega) hd2 t4 h162 (fun g => ?_)
          rw [hM g]
          constructor
          · rintro ⟨a, b⟩; exact ⟨by omega, b⟩
          · rintro ⟨a, b⟩
            by_cases q : g = p
            · rw [q] at b; exact absurd x b
            · exact ⟨by omega, b⟩
        · rw [y, if_pos rfl, t_X6_must_49, t_X6_one, if_neg (by decide), ob, bit_e _ (by omega), nx_or, bd_q, nI_1]
          refine ih _ _ _ _ (by omega) (by omega) hd2 t4 h162 (fun g => ?_)
          rw [Nat.testBit_or, Bool.or_eq_true, hM g, Nat.testBit_two_pow, decide_eq_true_eq]
          constructor
          · rintro (⟨a, b⟩ | q)
            · exact ⟨by omega, b⟩
            · rw [← q]; exact ⟨by omega, x⟩
          · rintro ⟨a, b⟩
            by_cases q : g = p
            · exact .inr q.symm
            · exact .inl ⟨by omega, b⟩
    have hPu := hr.P
    obtain ⟨M, e', t1, t2, t3, t4⟩ := main (bP u) 0 FU 0 e1 (by omega) (by unfold FU; omega) (FB.of r3) r4 ((r3.1 16 (by decide) (by decide) (by decide) (by decide)).trans hb) (fun g => by
      rw [Nat.zero_testBit]
      exact ⟨fun z => (by cases z), fun z => by omega⟩)
    exact ⟨M, e', t1, t2, t3, fun g => by rw [t4 g]; exact ⟨fun q => ⟨w, q⟩, fun q => q.2⟩⟩
  · rw [z, if_pos rfl]
    refine ⟨0, e1, rfl, r3, r4, fun g => ?_⟩
    rw [Nat.zero_testBit]
    exact ⟨fun z => (by cases z), fun q => absurd q.1 w⟩
