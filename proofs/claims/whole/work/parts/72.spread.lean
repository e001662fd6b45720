/-! ===== the class's walk: its picture ===== -/
theorem al_al {α : Type} (a b a' b' : Nat) (x : Option (α × Nat × Nat)) : al a b (al a' b' x) = al (a' + a) (b' + b) x := by
  cases x with
  | none => rfl
  | some q =>
    obtain ⟨r, k, n⟩ := q
    show some (r, k + a' + a, n + b' + b) = some (r, k + (a' + a), n + (b' + b))
    rw [Nat.add_assoc, Nat.add_assoc]
theorem al_0 {α : Type} (x : Option (α × Nat × Nat)) : al 0 0 x = x := by
  cases x <;> rfl
theorem BK_ag {d d' : Dt} {b : Nat} {u : Nat → Int32} (hv : VB u) (ha : AG d d' b) (h : BK d b u) : BK d' b u := BK_congr ha (fun _ _ _ => rfl) hv h
/-- the place v of x among the states X -/
def PLc (X : Nat → Nat) (s : Nat) (x : Option Nat) (v : Int32) : Prop := match x with
  | none => v = -1
  | some q => ∃ j, j < s ∧ X j = q ∧ v = nI j
theorem PLc.mono {X X' : Nat → Nat} {s s' : Nat} {x : Option Nat} {v : Int32} (h : PLc X s x v) (hs : s ≤ s') (hX : ∀ i, i < s → X' i = X i) : PLc X' s' x v := by
  cases x with
  | none => exact h
  | some q =>
    obtain ⟨j, a, b, c⟩ := h
    exact ⟨j, by omega, (hX j a).trans b, c⟩
def sxs (u : Nat → Int32) (bar nop : Int32) (q : Nat) : List (Option Nat) := sxf u bar nop q (wys u (qp q)) 0
theorem sxf_snoc (u : Nat → Int32) (bar nop : Int32) (q : Nat) : ∀ (n c : Nat), sxf u bar nop q (n + 1) c = sxf u bar nop q n c ++ (if wo u q (c + n) = true ∧ gol u (qp q) (c + n) ≠ nop then [nxs u bar q (gl u q (c + n))] else []) := by
  intro n
  induction n with
  | zero =>
    intro c
    show (if wo u q c = true ∧ gol u (qp q) c ≠ nop then [nxs u bar q (gl u q c)] else []) = [] ++ (if wo u q c = true ∧ gol u (qp q) c ≠ nop then [nxs u bar q (gl u q c)] else [])
    rw [List.nil_append]
  | succ n ih =>
    intro c
    have e : sxf u bar nop q (n + 1 + 1) c = (if wo u q c = true ∧ gol u (qp q) c ≠ nop then nxs u bar q (gl u q c) :: sxf u bar nop q (n + 1) (c + 1) else sxf u bar nop q (n + 1) (c + 1)) := rfl
    have e2 : sxf u bar nop q (n + 1) c = (if wo u q c = true ∧ gol u (qp q) c ≠ nop then nxs u bar q (gl u q c) :: sxf u bar nop q n (c + 1) else sxf u bar nop q n (c + 1)) := rfl
    rw [e, e2, ih (c + 1), show c + 1 + n = c + (n + 1) by omega]
    split <;> rfl
theorem sxf_len (u : Nat → Int32) (bar nop : Int32) (q : Nat) : ∀ (n c : Nat), (sxf u bar nop q n c).length ≤ n := by
  intro n
  induction n with
  | zero => intro c; exact Nat.le_refl _
  | succ n ih =>
    intro c
    unfold sxf
    have := ih (c + 1)
    split
    · rw [List.length_cons]; omega
    · omega
/-- the ways of state i stand in the rows -/
def WYi (d : Dt) (o : Nat) (u : Nat → Int32) (bar nop : Int32) (s : Nat) (X : Nat → Nat) (wc i : Nat) : Prop := ∃ f, gA d (32 * o + 8) i = nI f ∧ gA d (32 * o + 8) (i + 1) = nI (f + (sxs u bar nop (X i)).length) ∧ f + (sxs u bar nop (X i)).length ≤ wc ∧ ∀ j x, (sxs u bar nop (X i))[j]? = some x → PLc X s x (gA d (32 * o + 9) (f + j))
/-- a way to part g is gone -/
def AW (u : Nat → Int32) (nop : Int32) (q x g : Nat) : Prop := x < wys u (qp q) ∧ wo u q x = true ∧ gol u (qp q) x ≠ nop ∧ gl u q x = g
/-- the walk stands ahead of state k -/
def GK (Rch B0 : Nat → Prop) (u : Nat → Int32) (bar nop : Int32) (fs : Nat) (L : Nat → Nat) (d : Dt) (o s : Nat) (X : Nat → Nat) (wc ap k : Nat) : Prop :=
  GB L d o u s X ∧ (∀ i, i < s → Rch (X i)) ∧ (∀ i, i < k → WYi d o u bar nop s X wc i) ∧ (0 < k → gA d (32 * o + 8) k = nI wc) ∧ gF d o 5 = nI wc ∧ wc ≤ L (32 * o + 9) ∧ wc ≤ 6 * k ∧ gF d o 6 = nI ap ∧ (∀ g, ap.testBit g = true ↔ (B0 g ∨ ∃ i x, fs ≤ i ∧ i < k ∧ AW u nop (X i) x g)) ∧ k ≤ s
/-- it stands at way c of state k, whose ways begin at f -/
def GJ (Rch B0 : Nat → Prop) (u : Nat → Int32) (bar nop : Int32) (fs : Nat) (L : Nat → Nat) (d : Dt) (o s : Nat) (X : Nat → Nat) (wc ap k c f : Nat) : Prop :=
  GB L d o u s X ∧ (∀ i, i < s → Rch (X i)) ∧ (∀ i, i < k → WYi d o u bar nop s X wc i) ∧ gA d (32 * o + 8) k = nI f ∧ wc = f + (sxf u bar nop (X k) c 0).length ∧ f ≤ 6 * k ∧ (∀ j x, (sxf u bar nop (X k) c 0)[j]? = some x → PLc X s x (gA d (32 * o + 9) (f + j))) ∧ gF d o 5 = nI wc ∧ wc ≤ L (32 * o + 9) ∧ gF d o 6 = nI ap ∧ (∀ g, ap.testBit g = true ↔ (B0 g ∨ ∃ i x, fs ≤ i ∧ PC k c i x ∧ AW u nop (X i) x g)) ∧ k < s
/-- what the walk leaves -/
def SF (o : Nat) (d d' : Dt) : Prop := (∀ x, x ≠ o → AG d d' x) ∧ ∀ j, j ≠ 4 → j ≠ 5 → j ≠ 6 → gF d' o j = gF d o j
theorem SF.rf (o : Nat) (d : Dt) : SF o d d := ⟨fun x _ => AG.refl d x, fun _ _ _ _ => rfl⟩
theorem SF.tr {o : Nat} {d d' d'' : Dt} (h : SF o d d') (h2 : SF o d' d'') : SF o d d'' := ⟨fun x hx => (h.1 x hx).trans (h2.1 x hx), fun j a b c => (h2.2 j a b c).trans (h.2 j a b c)⟩
theorem GJ.cg6 {Rch B0 B1 : Nat → Prop} {u : Nat → Int32} {bar nop : Int32} {fs : Nat} {L : Nat → Nat} {d : Dt} {o s : Nat} {X : Nat → Nat} {wc ap k c f ap' c' : Nat} (h : GJ Rch B0 u bar nop fs L d o s X wc ap k c f) (hl : sxf u bar nop (X k) c' 0 = sxf u bar nop (X k) c 0) (hb : ∀ g, ap'.testBit g = true ↔ (B1 g ∨ ∃ i x, fs ≤ i ∧ PC k c' i x ∧ AW u nop (X i) x g)) : GJ Rch B1 u bar nop fs L (sF d o 6 (nI ap')) o s X wc ap' k c' f := by
  obtain ⟨⟨g1, g2, g3, g4, g5⟩, a2, a3, a4, a5, a6, a7, a8, a9, a10, a11, a12⟩ := h
  refine ⟨⟨(gF_sFn (by omega)).trans g1, g2, g3, g4, g5⟩, a2, a3, a4, by rw [hl]; exact a5, a6, fun j x hj => ?_, (gF_sFn (by omega)).trans a8, a9, gF_sF1 _ _ _ _, hb, a12⟩
  rw [hl] at hj
  exact a7 j x hj
/-- a way that is closed, or barred -/
theorem GJ.shut {Rch B0 : Nat → Prop} {u : Nat → Int32} {bar nop : Int32} {fs : Nat} {L : Nat → Nat} {d : Dt} {o s : Nat} {X : Nat → Nat} {wc ap k c f : Nat} (h : GJ Rch B0 u bar nop fs L d o s X wc ap k c f) (ho : ¬ (wo u (X k) c = true ∧ gol u (qp (X k)) c ≠ nop)) : GJ Rch B0 u bar nop fs L d o s X wc ap k (c + 1) f := by
  obtain ⟨a1, a2, a3, a4, a5, a6, a7, a8, a9, a10, a11, a12⟩ := h
  have hl : sxf u bar nop (X k) (c + 1) 0 = sxf u bar nop (X k) c 0 := by
    rw [sxf_snoc, if_neg (by rw [Nat.zero_add]; exact ho), List.append_nil]
  refine ⟨a1, a2, a3, a4, by rw [hl]; exact a5, a6, fun j x hj => by rw [hl] at hj; exact a7 j x hj, a8, a9, a10, fun g => ?_, a12⟩
  rw [a11 g]
  constructor
  · rintro (q | ⟨i, x, q1, q2, q3⟩)
    · exact .inl q
    · exact .inr ⟨i, x, q1, PC_w q2, q3⟩
  · rintro (q | ⟨i, x, q1, q2, q3⟩)
    · exact .inl q
    · rcases PC_s q2 with z | ⟨z, z2⟩
      · exact .inr ⟨i, x, q1, z, q3⟩
      · rw [z, z2] at q3; exact absurd ⟨q3.2.1, q3.2.2.1⟩ ho
/-- a state is met and a way put to it -/
theorem GJ.step {Rch B0 : Nat → Prop} {u : Nat → Int32} {bar nop : Int32} {fs : Nat} {L : Nat → Nat} {d : Dt} {o s : Nat} {X : Nat → Nat} {wc ap k c f : Nat} (hv : VB u) (hg : GLn L o) (h : GJ Rch B0 u bar nop fs L d o s X wc ap k c f) (hfs : fs ≤ k) (hR : ∀ q q', Rch q → Ed u bar nop q q' → Rch q') (hc : c < wys u (qp (X k))) (ho : wo u (X k) c = true) (hn : gol u (qp (X k)) c ≠ nop) :
    ∃ L' d' s' X' kc ns, (t_X4_meet L (sF d o 6 (nI (ap ||| 2 ^ gl u (X k) c))) o (nI (arrS u (gl u (X k) c) (com u bar (gl u (X k) c) (qt (X k)) (qh (X k)))))).bind (fun q24 => al q24.2.1 q24.2.2 (t_X4_addWay q24.1.2.1 q24.1.2.2 o q24.1.1)) = some ((L', d'), kc, ns) ∧ CO o L L' kc ns ∧ GJ Rch B0 u bar nop fs L' d' o s' X' (wc + 1) (ap ||| 2 ^ gl u (X k) c) k (c + 1) f ∧ SF o d d' ∧ s ≤ s' ∧ ∀ i, i < s → X' i = X i := by
  have hP := hv.P.2
  have hB : ∀ g, (ap ||| 2 ^ gl u (X k) c).testBit g = true ↔ (B0 g ∨ ∃ i x, fs ≤ i ∧ PC k (c + 1) i x ∧ AW u nop (X i) x g) := by
    intro g
    rw [Nat.testBit_or, Bool.or_eq_true, h.2.2.2.2.2.2.2.2.2.2.1 g, Nat.testBit_two_pow, decide_eq_true_eq]
    constructor
    · rintro ((q | ⟨i, x, q1, q2, q3⟩) | q)
      · exact .inl q
      · exact .inr ⟨i, x, q1, PC_w q2, q3⟩
      · exact .inr ⟨k, c, hfs, .inr ⟨rfl, by omega⟩, hc, ho, hn, q⟩
    · rintro (q | ⟨i, x, q1, q2, q3⟩)
      · exact .inl (.inl q)
      · rcases PC_s q2 with z | ⟨z, z2⟩
        · exact .inl (.inr ⟨i, x, q1, z, q3⟩)
        · rw [z, z2] at q3; exact .inr q3.2.2.2
  have hk := h.2.2.2.2.2.2.2.2.2.2.2
  have hq := (h.1.2.2.2.1 k hk).1
  have g := gl_eq hv hq.1 hc
  have hsx : sxf u bar nop (X k) (c + 1) 0 = sxf u bar nop (X k) c 0 ++ [nxs u bar (X k) (gl u (X k) c)] := by
    rw [sxf_snoc, if_pos (by rw [Nat.zero_add]; exact ⟨ho, hn⟩), Nat.zero_add]
  have hwys := wys_lt hv hq.1
  have hsl := sxf_len u bar nop (X k) c 0
  generalize hD : sF d o 6 (nI (ap ||| 2 ^ gl u (X k) c)) = D
  have sD : SF o d D := by
    rw [← hD]
    exact ⟨fun x hx => AG_sF hx, fun j _ _ h6 => gF_sFn (fun y => h6 y.2)⟩
  obtain ⟨⟨g1, g2, g3, g4, g5⟩, a2, a3, a4, a5, a6, a7, a8, a9, a10, a11, a12⟩ := h
  have e4 : gF D o 4 = nI s := by rw [← hD]; exact (gF_sFn (by omega)).trans g1
  have e5 : gF D o 5 = nI wc := by rw [← hD]; exact (gF_sFn (by omega)).trans a8
  have e6 : gF D o 6 = nI (ap ||| 2 ^ gl u (X k) c) := by rw [← hD]; exact gF_sF1 _ _ _ _
  have eA : ∀ a i, gA D a i = gA d a i := fun a i => by rw [← hD]; rfl
  have hGB : GB L D o u s X := ⟨e4, g2, g3, fun i hi => by rw [eA, eA]; exact g4 i hi, fun x hx hi => by rw [eA]; exact g5 x hx hi⟩
  have hch := chS_le hg.1
  -- behind the meeting
  have go : ∀ (L1 : Nat → Nat) (d1 : Dt) (s1 : Nat) (X1 : Nat → Nat) (v : Int32) (k1 n1 : Nat), CO o L L1 k1 n1 → GB L1 d1 o u s1 X1 → (∀ i, i < s1 → Rch (X1 i)) → MF o L D L1 d1 → s ≤ s1 → (∀ i, i < s → X1 i = X i) → PLc X1 s1 (nxs u bar (X k) (gl u (X k) c)) v → ∃ L' d' kc ns, al k1 n1 (t_X4_addWay L1 d1 o v) = some ((L', d'), kc, ns) ∧ CO o L L' kc ns ∧ GJ Rch B0 u bar nop fs L' d' o s1 X1 (wc + 1) (ap ||| 2 ^ gl u (X k) c) k (c + 1) f ∧ SF o d d' := by
    intro L1 d1 s1 X1 v k1 n1 c1 b1 r1 m1 hs1 hX1 p1
    have hg1 := c1.1
    obtain ⟨m1a, m1b, m1c, m1d, m1e, m1f⟩ := m1
    obtain ⟨L2, d2, kc, ns, w1, w2, w3, w4, w5, w6⟩ := addWay_q (L := L1) (d := d1) (o := o) (wc := wc) v hg1 ((m1b 5 (by decide)).trans e5) (by rw [m1e]; exact a9) (by omega)
    obtain ⟨w6a, w6b, w6c, w6d, w6e⟩ := w6
    obtain ⟨bb1, bb2, bb3, bb4, bb5⟩ := b1
    have row8 : ∀ i, i ≤ s → gA d2 (32 * o + 8) i = gA d (32 * o + 8) i := fun i hi => by
      rw [w6c _ _ (by omega), m1c i (by have := hg.2.1; omega), eA]
    have row9 : ∀ i, i < wc → gA d2 (32 * o + 9) i = gA d (32 * o + 9) i := fun i hi => by
      rw [w6d i hi, m1d, eA]
    refine ⟨L2, d2, kc + k1, ns + n1, by rw [w1, al_e], c1.tr w2, ⟨⟨(w6b 4 (by decide)).trans bb1, by rw [w6e _ (by omega)]; exact bb2, by rw [w6e _ (by omega)]; exact bb3, fun i hi => by rw [w6c _ _ (by omega), w6c _ _ (by omega)]; exact bb4 i hi, fun x hx hi => by rw [w6e _ (by omega)] at hx; rw [w6c _ _ (by omega)]; exact bb5 x hx hi⟩, r1, fun i hi => ?_, by rw [row8 k (by omega)]; exact a4, ?_, a6, fun j x hj => ?_, w3, w5, ?_, fun g' => ?_, by omega⟩, ?_⟩
    · obtain ⟨f', y1, y2, y3, y4⟩ := a3 i hi
      rw [← hX1 i (by omega)] at y2 y3 y4
      refine ⟨f', by rw [row8 i (by omega)]; exact y1, by rw [row8 (i + 1) (by omega)]; exact y2, by omega, fun j x hj => ?_⟩
      have hj' : j < (sxs u bar nop (X1 i)).length := (List.getElem?_eq_some_iff.mp hj).1
      rw [row9 _ (by omega)]
      exact (y4 j x hj).mono hs1 hX1
    · rw [hX1 k hk, hsx, List.length_append, List.length_singleton]
      omega
    · rw [hX1 k hk, hsx] at hj
      by_cases z : j < (sxf u bar nop (X k) c 0).length
      · rw [List.getElem?_append_left z] at hj
        rw [row9 _ (by omega)]
        exact (a7 j x hj).mono hs1 hX1
      · have hj' := (List.getElem?_eq_some_iff.mp hj).1
        rw [List.length_append, List.length_singleton] at hj'
        have z2 : j = (sxf u bar nop (X k) c 0).length := by omega
        rw [List.getElem?_append_right (by omega), z2, Nat.sub_self] at hj
        cases hj
        rw [z2, ← a5, w4]
        exact p1
    · rw [w6b 6 (by decide), m1b 6 (by decide)]
      exact e6
    · rw [hB g']
      constructor
      · rintro (q | ⟨i, x, q1, q2, q3⟩)
        · exact .inl q
        · refine .inr ⟨i, x, q1, q2, ?_⟩
          rw [hX1 i (by rcases q2 with z | ⟨z, _⟩ <;> omega)]
          exact q3
      · rintro (q | ⟨i, x, q1, q2, q3⟩)
        · exact .inl q
        · refine .inr ⟨i, x, q1, q2, ?_⟩
          rw [hX1 i (by rcases q2 with z | ⟨z, _⟩ <;> omega)] at q3
          exact q3
    · exact (sD.tr ⟨m1a, fun j h4 _ _ => m1b j h4⟩).tr ⟨w6a, fun j _ h5 _ => w6b j h5⟩
  cases hx : nxs u bar (X k) (gl u (X k) c) with
  | none =>
    have al := arv_none hx
    have lt := arrS_lt hv (bar := bar) g.2 (qt_NB (X k)) (qh_le (X k))
    rw [meet_lost lt al, ob]
    dsimp only
    obtain ⟨L2, d2, kc, ns, y1, y2, y3, y4⟩ := go L D s X (-1) 0 0 (CO.rf hg) hGB a2 (MF.rf o L D) (Nat.le_refl _) (fun _ _ => rfl) (by rw [hx]; rfl)
    exact ⟨L2, d2, s, X, kc, ns, y1, y2, y3, y4, Nat.le_refl _, fun _ _ => rfl⟩
  | some q' =>
    have ac := arv_some hv g.2 (qt_NB (X k)) (qh_le (X k)) hx
    have hE : Ed u bar nop (X k) q' := ⟨c, hc, ho, hn, hx⟩
    have hq' := hE.ok hv hq
    rw [ac]
    by_cases ex : ∃ j, j < s ∧ X j = q'
    · obtain ⟨j, j1, j2⟩ := ex
      rw [← j2, meet_old hv hg hGB j1, ob]
      dsimp only
      obtain ⟨L2, d2, kc, ns, y1, y2, y3, y4⟩ := go L D s X (nI j) 0 0 (CO.rf hg) hGB a2 (MF.rf o L D) (Nat.le_refl _) (fun _ _ => rfl) (by rw [hx]; exact ⟨j, j1, j2, rfl⟩)
      exact ⟨L2, d2, s, X, kc, ns, y1, y2, y3, y4, Nat.le_refl _, fun _ _ => rfl⟩
    · have h0 : ∀ i, i < s → X i ≠ q' := fun i hi z => ex ⟨i, hi, z⟩
      obtain ⟨L1, d1, k1, n1, m1, m2, m3, m4, _⟩ := meet_new hv hg hGB hq' h0
      rw [m1, ob]
      dsimp only
      obtain ⟨L2, d2, kc, ns, y1, y2, y3, y4⟩ := go L1 d1 (s + 1) (apn X s q') (nI s) k1 n1 m2 m3 (fun i hi => by
        by_cases z : i = s
        · rw [z, apn_s]; exact hR _ _ (a2 k hk) hE
        · rw [apn_n z]; exact a2 i (by omega)) m4 (by omega) (fun i hi => apn_n (by omega)) (by rw [hx]; exact ⟨s, by omega, apn_s _ _ _, rfl⟩)
      exact ⟨L2, d2, s + 1, apn X s q', kc, ns, y1, y2, y3, y4, by omega, fun i hi => apn_n (by omega)⟩
