/-! ===== THE RELATION of class and reference ===== -/
def wK (dm : Dt) (i : Nat) : Nat → Int32 := fun j => gA dm 0 (1376 * i + j)
/-- numbers of parts: 1 and on, each once -/
def NP (w : Nat → Int32) : Prop := (∀ p, p < bP w → ∃ n, n < bP w ∧ w (152 + p) = nI (n + 1)) ∧ ∀ p q, p < bP w → q < bP w → w (152 + p) = w (152 + q) → p = q
theorem NP_cg {w w' : Nat → Int32} (hv : VB w) (h0 : w' 0 = w 0) (h : ∀ p, p < 24 → w' (152 + p) = w (152 + p)) (hn : NP w) : NP w' := by
  have hP : bP w' = bP w := by unfold bP; rw [h0]
  have h24 := hv.P.2
  refine ⟨fun p hp => ?_, fun p q hp hq e => ?_⟩
  · rw [hP] at hp ⊢
    rw [h p (by omega)]
    exact hn.1 p hp
  · rw [hP] at hp hq
    rw [h p (by omega), h q (by omega)] at e
    exact hn.2 p q hp hq e
/-- image i -/
def IM (d dm : Dt) (i : Nat) : Prop := (gF d (3 + i) 6 = 0 ∧ gA dm 1 i = 0) ∨ (gF d (3 + i) 6 = 1 ∧ gA dm 1 i = 1 ∧ SI d (3 + i) (wK dm (i + 1)) ∧ NP (wK dm (i + 1)))
theorem IM_cg {d d' dm dm' : Dt} {i : Nat} (h : IM d dm i) (ha : AG d d' (3 + i)) (hb : AG d d' (3 + i + 4)) (hw : ∀ j, j < 1376 → wK dm' (i + 1) j = wK dm (i + 1) j) (h1 : gA dm' 1 i = gA dm 1 i) : IM d' dm' i := by
  rcases h with ⟨a, b⟩ | ⟨a, b, c, e⟩
  · exact .inl ⟨(ha.1 6).trans a, h1.trans b⟩
  · exact .inr ⟨(ha.1 6).trans a, h1.trans b, SI_congr ha hb hw c, NP_cg c.1 (hw 0 (by decide)) (fun p hp => hw _ (by omega)) e⟩
def sgn (b : Nat) : Int32 := (nI b).toInt8.toInt32
/-- the text -/
def TX (d dm : Dt) : Prop := ∃ n, n ≤ 600 ∧ gF d 1 1 = nI n ∧ gF dm 0 4 = nI n ∧ ∀ i, i < n → ∃ b, b < 256 ∧ gA dm (32 * 0 + 3) i = nI b ∧ gA d (32 * 1 + 3) i = sgn b
/-- the log -/
def LGR (d dm : Dt) : Prop := ∃ c, c ≤ 60 ∧ gF d 0 4 = nI c ∧ gF dm 0 23 = nI c ∧ ∀ i, i < c → gA d (32 * 0 + 3) i = gA dm (32 * 0 + 24) i ∧ NB (gA dm (32 * 0 + 24) i) 24
def LEN (L : Nat → Nat) : Prop := LS2 L 2 ∧ LS2 L 3 ∧ LS2 L 4 ∧ LB L 5 ∧ L (32 * 0 + 3) = 60 ∧ L (32 * 0 + 8) = 24 ∧ L (32 * 0 + 9) = 24 ∧ L (32 * 0 + 10) = 24 ∧ L (32 * 1 + 3) = 600 ∧ L (32 * 1 + 7) = 144 ∧ L (32 * 1 + 8) = 144
def POT (L : Nat → Nat) (k n : Nat) : Prop := 64 * k ≤ n ∧ n ≤ 382514 + PT L 9 + PT L 10
def RLx (L : Nat → Nat) (d dm : Dt) (k n : Nat) : Prop := LEN L ∧ SI d 2 (wOf dm) ∧ NP (wOf dm) ∧ IM d dm 0 ∧ IM d dm 1 ∧ TX d dm ∧ gF d 1 2 = gF dm 0 9 ∧ LGR d dm ∧ (gF dm 0 15 = -1 ∧ gF dm 0 16 = -1) ∧ FAR dm ∧ FRE L d (bk (wOf dm)) ∧ GI L d 10 ∧ POT L k n
theorem RLx.room {L : Nat → Nat} {d dm : Dt} {k n : Nat} (h : RLx L d dm k n) : k ≤ 600000 ∧ n ≤ 7302250 := by
  obtain ⟨_, _, _, _, _, _, _, _, _, _, h9, h10, hp⟩ := h
  have a := PT_le h9.1.1
  have b := PT_le h10.1
  obtain ⟨c, e⟩ := hp
  omega
theorem LS2_cg {L L' : Nat → Nat} {o : Nat} (h : LS2 L o) (he : ∀ a, a < 288 → L' a = L a) (ho : o ≤ 4) : LS2 L' o := by
  obtain ⟨a, b, c, e⟩ := h
  refine ⟨?_, by rw [he _ (by omega)]; exact b, by rw [he _ (by omega)]; exact c, by rw [he _ (by omega)]; exact e⟩
  unfold LB
  rw [he _ (by omega), he _ (by omega), he _ (by omega), he _ (by omega), he _ (by omega), he _ (by omega), he _ (by omega), he _ (by omega), he _ (by omega), he _ (by omega), he _ (by omega)]
  exact a
theorem LEN_cg {L L' : Nat → Nat} (h : LEN L) (he : ∀ a, a < 288 → L' a = L a) : LEN L' := by
  obtain ⟨a1, a2, a3, a4, a5, a6, a7, a8, a9, a10, a11⟩ := h
  refine ⟨LS2_cg a1 he (by decide), LS2_cg a2 he (by decide), LS2_cg a3 he (by decide), ?_, by rw [he _ (by omega)]; exact a5, by rw [he _ (by omega)]; exact a6, by rw [he _ (by omega)]; exact a7, by rw [he _ (by omega)]; exact a8, by rw [he _ (by omega)]; exact a9, by rw [he _ (by omega)]; exact a10, by rw [he _ (by omega)]; exact a11⟩
  unfold LB
  rw [he _ (by omega), he _ (by omega), he _ (by omega), he _ (by omega), he _ (by omega), he _ (by omega), he _ (by omega), he _ (by omega), he _ (by omega), he _ (by omega), he _ (by omega)]
  exact a4
theorem RLx.ru {L : Nat → Nat} {d dm : Dt} {k n : Nat} (h : RLx L d dm k n) : RU (bk (wOf dm)) dm := ⟨h.2.1.1, rfl⟩
theorem RLx.bkk {L : Nat → Nat} {d dm : Dt} {k n : Nat} (h : RLx L d dm k n) : BK d 6 (bk (wOf dm)) := bk_K h.2.1.1 h.2.1.2.1
theorem RLx.lb {L : Nat → Nat} {d dm : Dt} {k n : Nat} (h : RLx L d dm k n) : LB L 6 := h.1.1.1
/-- calls of the graphs -/
theorem RLx.gr {L L' : Nat → Nat} {d d' dm dm' : Dt} {k n k' n' : Nat} (h : RLx L d dm k n) (hc : CF d d') (hf : FR dm dm') (hF : FAR dm') (h9 : FRE L' d' (bk (wOf dm))) (h10 : GI L' d' 10) (hL : ∀ a, a < 288 → L' a = L a) (hp : POT L' k' n') : RLx L' d' dm' k' n' := by
  obtain ⟨a1, a2, a3, a4, a5, a6, a7, a8, a9, a10, a11, a12, a13⟩ := h
  have ag : ∀ x, x ≠ 0 → x ≠ 9 → x ≠ 10 → AG d d' x := hc.1
  have arr : ∀ i, gA dm' 0 i = gA dm 0 i := fun i => hf.2 0 i (by decide) (by decide) (by decide) (by decide) (by decide) (by decide)
  have arr1 : ∀ i, gA dm' 1 i = gA dm 1 i := fun i => hf.2 1 i (by decide) (by decide) (by decide) (by decide) (by decide) (by decide)
  refine ⟨LEN_cg a1 hL, ?_, ?_, ?_, ?_, ?_, ?_, ?_, ?_, hF, ?_, h10, hp⟩
  · rw [hf.w]
    exact SI_congr (ag 2 (by decide) (by decide) (by decide)) (ag 6 (by decide) (by decide) (by decide)) (fun _ _ => rfl) a2
  · rw [hf.w]; exact a3
  · exact IM_cg a4 (ag 3 (by decide) (by decide) (by decide)) (ag 7 (by decide) (by decide) (by decide)) (fun j _ => arr _) (arr1 0)
  · exact IM_cg a5 (ag 4 (by decide) (by decide) (by decide)) (ag 8 (by decide) (by decide) (by decide)) (fun j _ => arr _) (arr1 1)
  · obtain ⟨m, t1, t2, t3, t4⟩ := a6
    have a1' := ag 1 (by decide) (by decide) (by decide)
    refine ⟨m, t1, (a1'.1 1).trans t2, (hf.1 4 (by decide) (by decide) (by decide) (by decide)).trans t3, fun i hi => ?_⟩
    obtain ⟨b, b1, b2, b3⟩ := t4 i hi
    exact ⟨b, b1, (hf.2 3 i (by decide) (by decide) (by decide) (by decide) (by decide) (by decide)).trans b2, (a1'.2 3 (by decide) i).trans b3⟩
  · rw [(ag 1 (by decide) (by decide) (by decide)).1 2, hf.1 9 (by decide) (by decide) (by decide) (by decide)]; exact a7
  · obtain ⟨c, c1, c2, c3, c4⟩ := a8
    refine ⟨c, c1, (hc.2.1 4 (by decide)).trans c2, (hf.1 23 (by decide) (by decide) (by decide) (by decide)).trans c3, fun i hi => ?_⟩
    have e24 : gA dm' (32 * 0 + 24) i = gA dm (32 * 0 + 24) i := hf.2 24 i (by decide) (by decide) (by decide) (by decide) (by decide) (by decide)
    rw [hc.2.2 3 (by decide), e24]
    exact c4 i hi
  · exact ⟨(hf.1 15 (by decide) (by decide) (by decide) (by decide)).trans a9.1, (hf.1 16 (by decide) (by decide) (by decide) (by decide)).trans a9.2⟩
  · rw [hf.w]; exact h9
theorem POT.co {o : Nat} {L L' : Nat → Nat} {k n kc ns : Nat} (ho : o = 9 ∨ o = 10) (h : POT L k n) (hc : CO o L L' kc ns) : POT L' (k + kc) (n + ns) := by
  obtain ⟨a, b⟩ := h
  obtain ⟨_, c2, c3, c4⟩ := hc
  refine ⟨by omega, ?_⟩
  have e : ∀ o', (o' = 9 ∨ o' = 10) → o' ≠ o → PT L' o' = PT L o' := by
    intro o' h1 h2
    unfold PT
    rw [c2 _ (by omega), c2 _ (by omega), c2 _ (by omega), c2 _ (by omega), c2 _ (by omega), c2 _ (by omega)]
  rcases ho with z | z
  · rw [z] at c3 e
    have := e 10 (.inr rfl) (by decide)
    omega
  · rw [z] at c3 e
    have := e 9 (.inl rfl) (by decide)
    omega
theorem LF.le {o : Nat} {L L' : Nat → Nat} (h : LF o L L') (ho : o = 9 ∨ o = 10) : ∀ a, a < 288 → L' a = L a := fun a ha => h a (by omega)
/-- a graph keeps what it is while the other changes -/
theorem GI_LF {o o' : Nat} {L L' : Nat → Nat} {d d' : Dt} (h : GI L d o) (hl : LF o' L L') (ho : o ≠ o') (ha : AG d d' o) : GI L' d' o := by
  obtain ⟨⟨c1, c2, c3, c4, c5, c6, c7⟩, s, h1, h2, h3, h4⟩ := GI_cg h ha
  have e : ∀ j, j < 32 → L' (32 * o + j) = L (32 * o + j) := fun j hj => hl _ (by omega)
  refine ⟨⟨by rw [e 7 (by decide)]; exact c1, by rw [e 7 (by decide), e 8 (by decide)]; exact c2, by rw [e 9 (by decide)]; exact c3, by rw [e 10 (by decide)]; exact c4, by rw [e 11 (by decide)]; exact c5, by rw [e 12 (by decide)]; exact c6, by rw [e 15 (by decide)]; exact c7⟩, s, by rw [e 7 (by decide)]; exact h1, h2, h3, fun x hx => ?_⟩
  rw [e 10 (by decide)] at hx
  exact h4 x hx
theorem GSp.gi {L : Nat → Nat} {d : Dt} {u : Nat → Int32} {s : Nat} {X : Nat → Nat} {wc b ap : Nat} (hv : VB u) (hg : GLn L 9) (h : GSp L d u s X wc b ap) : GI L d 9 := h.1.1.gi hv hg
/-- a call of graph 9 alone -/
theorem RLx.g9 {L L' : Nat → Nat} {d d' dm dm' : Dt} {k n kc ns : Nat} (h : RLx L d dm k n) (hc : CF d d') (h10 : AG d d' 10) (hco : CO 9 L L' kc ns) (h7 : gF d' 0 7 = 1) (hs : ∃ s X wc b ap, GSp L' d' (bk (wOf dm)) s X wc b ap) (hf : FR dm dm') (hF : FAR dm') : RLx L' d' dm' (k + kc) (n + ns) := by
  obtain ⟨s, X, wc, b, ap, hg⟩ := hs
  have hv := h.ru.v
  refine h.gr hc hf hF ⟨hg.gi hv hco.1, .inr ⟨h7, s, X, wc, b, ap, hg⟩⟩ (GI_LF h.2.2.2.2.2.2.2.2.2.2.2.1 hco.2.1 (by decide) h10) (LF.le hco.2.1 (.inl rfl)) (POT.co (.inl rfl) h.2.2.2.2.2.2.2.2.2.2.2.2 hco)
/-- nothing changes but what the reference's walks write -/
theorem RLx.fr {L : Nat → Nat} {d dm dm' : Dt} {k n : Nat} (h : RLx L d dm k n) (hf : FR dm dm') (hF : FAR dm') : RLx L d dm' k n :=
  h.gr (CF.rf d) hf hF h.2.2.2.2.2.2.2.2.2.2.1 h.2.2.2.2.2.2.2.2.2.2.2.1 (fun _ _ => rfl) h.2.2.2.2.2.2.2.2.2.2.2.2
/-- calls of play -/
theorem RLx.wr {L : Nat → Nat} {d d' dm dm' : Dt} {k n : Nat} (h : RLx L d dm k n) (hs : SI d' 2 (wOf dm')) (ha : ∀ o, o ≠ 2 → AG d d' o) (hm : MG dm dm') : RLx L d' dm' k n := by
  obtain ⟨a1, a2, a3, a4, a5, a6, a7, a8, a9, a10, a11, a12, a13⟩ := h
  have hb : bk (wOf dm') = bk (wOf dm) := bk_cg (fun i h1 h2 => hm.2 0 i (by omega))
  refine ⟨a1, hs, NP_cg a2.1 (hm.2 0 0 (by omega)) (fun p hp => hm.2 0 _ (by omega)) a3, ?_, ?_, ?_, ?_, ?_, ?_, ?_, ?_, GI_cg a12 (ha 10 (by decide)), a13⟩
  · exact IM_cg a4 (ha 3 (by decide)) (ha 7 (by decide)) (fun j _ => hm.2 0 _ (by omega)) (hm.2 1 0 (.inl (by decide)))
  · exact IM_cg a5 (ha 4 (by decide)) (ha 8 (by decide)) (fun j _ => hm.2 0 _ (by omega)) (hm.2 1 1 (.inl (by decide)))
  · obtain ⟨m, t1, t2, t3, t4⟩ := a6
    have a1' := ha 1 (by decide)
    refine ⟨m, t1, (a1'.1 1).trans t2, (hm.1 4 (by decide) (by decide)).trans t3, fun i hi => ?_⟩
    obtain ⟨b, b1, b2, b3⟩ := t4 i hi
    exact ⟨b, b1, (hm.2 3 i (.inl (by decide))).trans b2, (a1'.2 3 (by decide) i).trans b3⟩
  · rw [(ha 1 (by decide)).1 2, hm.1 9 (by decide) (by decide)]; exact a7
  · obtain ⟨c, c1, c2, c3, c4⟩ := a8
    have a0 := ha 0 (by decide)
    refine ⟨c, c1, (a0.1 4).trans c2, (hm.1 23 (by decide) (by decide)).trans c3, fun i hi => ?_⟩
    have e24 : gA dm' (32 * 0 + 24) i = gA dm (32 * 0 + 24) i := hm.2 24 i (.inl (by decide))
    rw [a0.2 3 (by decide), e24]
    exact c4 i hi
  · exact ⟨(hm.1 15 (by decide) (by decide)).trans a9.1, (hm.1 16 (by decide) (by decide)).trans a9.2⟩
  · obtain ⟨s, Y, s1, s2, s3, s4⟩ := a10
    refine ⟨s, Y, s1, (hm.1 21 (by decide) (by decide)).trans s2, fun i hi => ?_, fun x hx hi => ?_⟩
    · rw [hm.2 19 i (.inl (by decide))]; exact s3 i hi
    · rw [hm.2 20 x (.inl (by decide))]; exact s4 x hx hi
  · rw [hb]
    refine ⟨GI_cg a11.1 (ha 9 (by decide)), ?_⟩
    rw [(ha 0 (by decide)).1 7]
    rcases a11.2 with z | ⟨z, s, X, wc, b, ap, z2⟩
    · exact .inl z
    · exact .inr ⟨z, s, X, wc, b, ap, GS_cg z2 (ha 9 (by decide))⟩
/-! the calls that are through already -/
theorem rb_of {L : Nat → Nat} {d dm : Dt} {k n : Nat} (h : RLx L d dm k n) : RB L d dm := ⟨h.2.1.1, h.2.1.2.1, h.lb⟩
theorem ok_fault : ST_fault RLx := fun L d dm k n h => ⟨_, rfl, congrArg some h.2.2.2.2.2.2.1.symm, h⟩
theorem ok_part : ST_part RLx := fun L d dm k n p1 p2 h => by
  obtain ⟨r, a, b⟩ := call_part (rb_of h) p1 p2
  exact ⟨r, a, b, h⟩
theorem ok_effect : ST_effect RLx := fun L d dm k n p1 p2 p3 h => by
  obtain ⟨r, a, b⟩ := call_effect (rb_of h) p1 p2 p3
  exact ⟨r, a, b, h⟩
theorem ok_choice : ST_choice RLx := fun L d dm k n p1 p2 p3 h => by
  obtain ⟨r, a, b⟩ := call_choice (rb_of h) p1 p2 p3
  exact ⟨r, a, b, h⟩
theorem ok_now : ST_now RLx := fun L d dm k n p1 h => by
  obtain ⟨r, a, b⟩ := call_now h.2.1 h.1.1 p1
  exact ⟨r, a, b, h⟩
theorem ok_number : ST_number RLx := fun L d dm k n p1 h => by
  obtain ⟨r, a, b⟩ := call_number h.2.1 h.1.1 p1
  exact ⟨r, a, b, h⟩
theorem ok_choose : ST_choose RLx := fun L d dm k n p1 h => by
  obtain ⟨r, d', dm', a, b, c, e, f⟩ := call_choose h.2.1 h.1.1 h.2.2.2.2.2.2.2.2.1.2 p1
  exact ⟨r, d', dm', a, b, h.wr c e f⟩
theorem ok_roll : ST_roll RLx := fun L d dm k n p1 h => by
  obtain ⟨r, d', dm', a, b, c, e, f⟩ := call_roll h.2.1 h.1.1 h.2.2.2.2.2.2.2.2.1.2 p1
  exact ⟨r, d', dm', a, b, h.wr c e f⟩
theorem ok_begin : ST_begin RLx := fun L d dm k n h => by
  obtain ⟨r, d', dm', a, b, c, e, f⟩ := call_begin h.2.1 h.1.1 h.2.2.2.2.2.2.2.2.1.2
  exact ⟨r, d', dm', a, b, h.wr c e f⟩
theorem ok_seed : ST_seed RLx := fun L d dm k n p1 h => by
  obtain ⟨r, d', dm', a, b, c, e, f⟩ := call_seed (L := L) h.2.1 p1
  exact ⟨r, d', dm', a, b, h.wr c e f⟩
