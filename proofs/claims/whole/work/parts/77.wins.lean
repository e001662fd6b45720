/-! ===== the class's graph: the fewest turns to a win ===== -/
theorem Ed_mem {u : Nat → Int32} {bar nop : Int32} {q q' : Nat} (h : Ed u bar nop q q') : some q' ∈ sxs u bar nop q := by
  obtain ⟨c, c1, c2, c3, c4⟩ := h
  have mem : ∀ (n c0 : Nat), c0 ≤ c → c < c0 + n → some q' ∈ sxf u bar nop q n c0 := by
    intro n
    induction n with
    | zero => intro c0 h1 h2; omega
    | succ n ih =>
      intro c0 h1 h2
      unfold sxf
      by_cases z : c0 = c
      · rw [z, if_pos ⟨c2, c3⟩, c4]; simp
      · have := ih (c0 + 1) (by omega) (by omega)
        split
        · exact List.mem_cons_of_mem _ this
        · exact this
  exact mem _ 0 (by omega) (by omega)
theorem mem_Ed {u : Nat → Int32} {bar nop : Int32} {q q' : Nat} (h : some q' ∈ sxs u bar nop q) : Ed u bar nop q q' := by
  obtain ⟨c, _, c1, c2, c3, c4⟩ := sxf_mem _ _ _ h
  exact ⟨c, by omega, c2, c3, c4⟩
/-- in n turns to a win; in n turns and no fewer -/
def Dn (u : Nat → Int32) (bar : Int32) (n q : Nat) : Prop := ∃ q', RR u bar (-1) q n q' ∧ bE u (qp q') = 1
def Dm (u : Nat → Int32) (bar : Int32) (n q : Nat) : Prop := Dn u bar n q ∧ ∀ m, m < n → ¬ Dn u bar m q
theorem Dn.up {u : Nat → Int32} {bar : Int32} {n q q' : Nat} (h : Ed u bar (-1) q q') (h2 : Dn u bar n q') : Dn u bar (n + 1) q := by
  obtain ⟨r, a, b⟩ := h2
  exact ⟨r, RR_head h n r a, b⟩
theorem Dn.dn {u : Nat → Int32} {bar : Int32} {n q : Nat} (h : Dn u bar (n + 1) q) : ∃ q', Ed u bar (-1) q q' ∧ Dn u bar n q' := by
  obtain ⟨r, a, b⟩ := h
  obtain ⟨r', c, e⟩ := RR_tail n r a
  exact ⟨r', c, r, e, b⟩
theorem Dm.dn {u : Nat → Int32} {bar : Int32} {n q : Nat} (h : Dm u bar (n + 1) q) : ∃ q', Ed u bar (-1) q q' ∧ Dm u bar n q' := by
  obtain ⟨q', a, b⟩ := h.1.dn
  exact ⟨q', a, b, fun m hm hd => h.2 (m + 1) (by omega) (Dn.up a hd)⟩
theorem Dm.of {u : Nat → Int32} {bar : Int32} {n q : Nat} (h : Dn u bar n q) : ∃ m, m ≤ n ∧ Dm u bar m q := by
  obtain ⟨m, a, b⟩ := pk_least (fun m => Dn u bar m q) ⟨n, h⟩
  refine ⟨m, ?_, a, b⟩
  rcases Nat.lt_or_ge n m with z | z
  · exact absurd h (b n z)
  · exact z
theorem Dm.un {u : Nat → Int32} {bar : Int32} {n m q : Nat} (h : Dm u bar n q) (h2 : Dm u bar m q) : n = m := by
  rcases Nat.lt_trichotomy n m with z | z | z
  · exact absurd h.1 (h2.2 n z)
  · exact z
  · exact absurd h2.1 (h.2 m z)
theorem Dm.lt {u : Nat → Int32} {bar : Int32} {s : Nat} {X : Nat → Nat} (hc : CLo u bar (-1) s X) {m i : Nat} (hi : i < s) (h : Dm u bar m (X i)) : m < s := by
  have ex : ∀ k, k ≤ m → ∃ j, j < s ∧ Dm u bar (m - k) (X j) := by
    intro k
    induction k with
    | zero => intro _; exact ⟨i, hi, h⟩
    | succ k ih =>
      intro hk
      obtain ⟨j, j1, j2⟩ := ih (by omega)
      obtain ⟨q', a, b⟩ := Dm.dn (n := m - (k + 1)) (by rw [show m - (k + 1) + 1 = m - k by omega]; exact j2)
      obtain ⟨j', y1, y2⟩ := hc.2 j j1 q' a
      exact ⟨j', y1, by rw [y2]; exact b⟩
  have hf : ∀ n, ∃ j, n ≤ m → j < s ∧ Dm u bar n (X j) := fun n => by
    by_cases c : n ≤ m
    · obtain ⟨j, a, b⟩ := ex (m - n) (by omega)
      rw [show m - (m - n) = n by omega] at b
      exact ⟨j, fun _ => ⟨a, b⟩⟩
    · exact ⟨0, fun z => absurd z c⟩
  have := inj_le s (m + 1) (fun n => Classical.choose (hf n)) (fun a b ha hb e => by
    have h1 := (Classical.choose_spec (hf a) (by omega)).2
    have h2 := (Classical.choose_spec (hf b) (by omega)).2
    have e' : Classical.choose (hf a) = Classical.choose (hf b) := e
    rw [e'] at h1
    exact h1.un h2) (fun a ha => (Classical.choose_spec (hf a) (by omega)).1)
  omega
/-- what is known ahead of turn T -/
def TW (u : Nat → Int32) (bar : Int32) (T q : Nat) (v : Int32) : Prop := (∃ n, n < T ∧ v = nI n ∧ Dm u bar n q) ∨ (v = -1 ∧ ∀ n, n < T → ¬ Dn u bar n q)
def WI (L : Nat → Nat) (d : Dt) (o : Nat) (u : Nat → Int32) (bar : Int32) (s : Nat) (X : Nat → Nat) : Prop := gF d o 16 = 1 ∧ s ≤ L (32 * o + 15) ∧ ∀ i, i < s → FRES u bar (some (X i)) (gA d (32 * o + 15) i)
theorem TW.fin {u : Nat → Int32} {bar : Int32} {T q : Nat} {v : Int32} (h : TW u bar T q v) (hT : ∀ n, T ≤ n → ¬ Dm u bar n q) : FRES u bar (some q) v := by
  rcases h with ⟨n, a, b, c⟩ | ⟨a, b⟩
  · obtain ⟨q', c1, c2⟩ := c.1
    refine .inl ⟨n, q', b, c1, c2, fun n' q2 h1 h2 => ?_⟩
    rcases Nat.lt_or_ge n' n with z | z
    · exact absurd ⟨q2, h1, h2⟩ (c.2 n' z)
    · exact z
  · refine .inr ⟨a, fun n q' h1 h2 => ?_⟩
    obtain ⟨m, m1, m2⟩ := Dm.of ⟨q', h1, h2⟩
    rcases Nat.lt_or_ge m T with z | z
    · exact b m z m2.1
    · exact hT m z m2
theorem leadsTo_c {L : Nat → Nat} {d : Dt} {o s i wc : Nat} {u : Nat → Int32} {bar : Int32} {X : Nat → Nat} (hv : VB u) (hg : GLn L o) (h : GC u bar (-1) L d o s X wc) (hs : s ≤ L (32 * o + 15)) (hi : i < s) (p2 : Int32) (hp : p2 ≠ -1) : ∃ v, t_X4_leadsTo L d o (nI i) p2 = some v ∧ ((v = 1 ∧ ∃ j, j < s ∧ Ed u bar (-1) (X i) (X j) ∧ gA d (32 * o + 15) j = p2) ∨ (v = 0 ∧ ∀ j, j < s → Ed u bar (-1) (X i) (X j) → gA d (32 * o + 15) j ≠ p2)) := by
  have hinj := h.1.inj hg
  obtain ⟨hB, hW, _, h5, h9, h6⟩ := h
  obtain ⟨h1, h2, h3, h4, h10⟩ := hB
  obtain ⟨f0, y1, y2, y3, y4⟩ := hW i hi
  have hch := chS_le hg.1
  have hL9 : L (32 * o + 9) < 2 ^ 31 := by have := hg.2.2.1; unfold chW at this; omega
  have main : ∀ (l : List (Option Nat)) (w F : Nat), w + l.length = f0 + (sxs u bar (-1) (X i)).length → l.length < F → (∀ x, x ∈ l → x ∈ sxs u bar (-1) (X i)) → (∀ j x, l[j]? = some x → PLc X s x (gA d (32 * o + 9) (w + j))) → ∃ v, lp (fun k x => t_X4_leadsTo_7 L d o (nI i) p2 (fun x3 => k x3) x) F (nI w) = some v ∧ ((v = 1 ∧ ∃ j, j < s ∧ Ed u bar (-1) (X i) (X j) ∧ gA d (32 * o + 15) j = p2) ∨ (v = 0 ∧ ∀ j, j < s → some (X j) ∈ l → gA d (32 * o + 15) j ≠ p2)) := by
    intro l
    induction l with
    | nil =>
      intro w F hw hF _ _
      obtain ⟨F, rfl⟩ : ∃ G, F = G + 1 := ⟨F - 1, by omega⟩
      rw [List.length_nil] at hw
      refine ⟨0, ?_, .inr ⟨rfl, fun j _ hj => absurd hj (by simp)⟩⟩
      show t_X4_leadsTo_7 L d o (nI i) p2 (fun x3 => lp _ F x3) (nI w) = _
      rw [t_X4_leadsTo_7, nI_1, gdi (by have := hg.2.1; omega) (by omega), ix_nI (by omega), y2, if_pos (nI_le (by omega) (by omega))]
    | cons x l ih =>
      intro w F hw hF hx hpl
      obtain ⟨F, rfl⟩ : ∃ G, F = G + 1 := ⟨F - 1, by omega⟩
      rw [List.length_cons] at hw hF
      have p0 : PLc X s x (gA d (32 * o + 9) w) := hpl 0 x rfl
      show ∃ v, t_X4_leadsTo_7 L d o (nI i) p2 (fun x3 => lp _ F x3) (nI w) = _ ∧ _
      rw [t_X4_leadsTo_7, nI_1, gdi (by have := hg.2.1; omega) (by omega), ix_nI (by omega), y2, if_neg (nI_ge (by omega) (by omega)), gdi (by omega) (by omega), ix_nI (by omega), nI_1]
      have next : (∀ j, j < s → some (X j) = x → gA d (32 * o + 15) j ≠ p2) → ∃ v, lp (fun k x => t_X4_leadsTo_7 L d o (nI i) p2 (fun x3 => k x3) x) F (nI (w + 1)) = some v ∧ ((v = 1 ∧ ∃ j, j < s ∧ Ed u bar (-1) (X i) (X j) ∧ gA d (32 * o + 15) j = p2) ∨ (v = 0 ∧ ∀ j, j < s → some (X j) ∈ x :: l → gA d (32 * o + 15) j ≠ p2)) := by
        intro hno
        obtain ⟨v, r1, r2⟩ := ih (w + 1) F (by omega) (by omega) (fun y hy => hx y (List.mem_cons_of_mem _ hy)) (fun j y hj => by
          have := hpl (j + 1) y (by rw [List.getElem?_cons_succ]; exact hj)
          rw [show w + 1 + j = w + (j + 1) by omega]
          exact this)
        refine ⟨v, r1, ?_⟩
        rcases r2 with q | ⟨q, q2⟩
        · exact .inl q
        · refine .inr ⟨q, fun j hj hm => ?_⟩
          rcases List.mem_cons.mp hm with z | z
          · exact hno j hj z
          · exact q2 j hj z
      cases x with
      | none =>
        have e : gA d (32 * o + 9) w = -1 := p0
        rw [e, t_X4_turnsToWinOf, if_pos (by decide), ob, if_neg (fun z => hp z.symm)]
        exact next (fun j _ z => by cases z)
      | some q =>
        obtain ⟨j, j1, j2, j3⟩ := p0
        rw [j3, t_X4_turnsToWinOf, if_neg (nI_pos (by omega)), h1, if_neg (nI_ge j1 (by omega)), gdi (by omega) (by omega), ix_nI (by omega), ob]
        by_cases z : gA d (32 * o + 15) j = p2
        · rw [if_pos z]
          refine ⟨1, rfl, .inl ⟨rfl, j, j1, ?_, z⟩⟩
          rw [j2]
          exact mem_Ed (hx _ (by simp))
        · rw [if_neg z]
          refine next (fun j' hj' e => ?_)
          have : X j' = X j := (Option.some.inj e).trans j2.symm
          rw [hinj j' j hj' j1 this]
          exact z
  have hlen : (sxs u bar (-1) (X i)).length ≤ 6 := Nat.le_trans (sxf_len _ _ _ _ _ _) (wys_lt hv (h4 i hi).1.1)
  unfold t_X4_leadsTo
  rw [gdi (by have := hg.2.1; omega) (by omega), bd_q, ix_nI (by omega), y1]
  obtain ⟨v, r1, r2⟩ := main (sxs u bar (-1) (X i)) f0 FU rfl (by unfold FU; omega) (fun _ h => h) y4
  refine ⟨v, r1, ?_⟩
  rcases r2 with q | ⟨q, q2⟩
  · exact .inl q
  · exact .inr ⟨q, fun j hj hE => q2 j hj (Ed_mem hE)⟩
/-- what measuring leaves -/
def NF (o : Nat) (L : Nat → Nat) (d : Dt) (L' : Nat → Nat) (d' : Dt) : Prop := FF o d d' ∧ (∀ j, j ≠ 16 → gF d' o j = gF d o j) ∧ (∀ a i, a ≠ 32 * o + 15 → gA d' a i = gA d a i) ∧ ∀ a, a ≠ 32 * o + 15 → L' a = L a
theorem NF.rf (o : Nat) (L : Nat → Nat) (d : Dt) : NF o L d L d := ⟨fun x _ => AG.refl d x, fun _ _ => rfl, fun _ _ _ => rfl, fun _ _ => rfl⟩
theorem NF.tr {o : Nat} {L L' L'' : Nat → Nat} {d d' d'' : Dt} (h : NF o L d L' d') (h2 : NF o L' d' L'' d'') : NF o L d L'' d'' := ⟨fun x hx => (h.1 x hx).trans (h2.1 x hx), fun j a => (h2.2.1 j a).trans (h.2.1 j a), fun a i b => (h2.2.2.1 a i b).trans (h.2.2.1 a i b), fun a b => (h2.2.2.2 a b).trans (h.2.2.2 a b)⟩
theorem NF_sA {o : Nat} {L : Nat → Nat} {d : Dt} {i : Nat} {v : Int32} : NF o L d L (sA d (32 * o + 15) i v) := ⟨fun x hx => AG_sA (j := 15) (by decide) hx, fun _ _ => rfl, fun a j h => by rw [gA_sAi, if_neg (fun y => h y.1)], fun _ _ => rfl⟩
theorem GC.nf {u : Nat → Int32} {bar nop : Int32} {L L' : Nat → Nat} {d d' : Dt} {o s : Nat} {X : Nat → Nat} {wc : Nat} (h : GC u bar nop L d o s X wc) (hf : NF o L d L' d') : GC u bar nop L' d' o s X wc := by
  obtain ⟨⟨g1, g2, g3, g4, g5⟩, a2, a3, a4, a5, a6⟩ := h
  obtain ⟨_, f1, f2, f3⟩ := hf
  refine ⟨⟨(f1 4 (by decide)).trans g1, by rw [f3 _ (by omega)]; exact g2, by rw [f3 _ (by omega)]; exact g3, fun i hi => ?_, fun x hx hi => ?_⟩, fun i hi => ?_, fun hs => ?_, (f1 5 (by decide)).trans a4, by rw [f3 _ (by omega)]; exact a5, a6⟩
  · rw [f2 _ _ (by omega), f2 _ _ (by omega)]; exact g4 i hi
  · rw [f3 _ (by omega)] at hx
    rw [f2 _ _ (by omega)]; exact g5 x hx hi
  · obtain ⟨f, y1, y2, y3, y4⟩ := a2 i hi
    refine ⟨f, by rw [f2 _ _ (by omega)]; exact y1, by rw [f2 _ _ (by omega)]; exact y2, y3, fun j x hj => ?_⟩
    rw [f2 _ _ (by omega)]; exact y4 j x hj
  · rw [f2 _ _ (by omega)]; exact a3 hs
