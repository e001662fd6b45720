/-! ===== the class's graph: odds behind one turn ===== -/
/-- a row of f over the states -/
def RW (d : Dt) (a s : Nat) (X f : Nat → Nat) : Prop := ∀ i, i < s → gA d a i = nI (f (X i))
theorem oddsOf_c {L : Nat → Nat} {d : Dt} {o s : Nat} {X f : Nat → Nat} {x : Option Nat} {v : Int32} (h4 : gF d o 4 = nI s) (hs : s ≤ L (32 * o + 11)) (hs2 : s < 2 ^ 31) (hr : RW d (32 * o + 11) s X f) (hp : PLc X s x v) : t_X4_oddsOf L d o v = some (nI (oo f x)) := by
  unfold t_X4_oddsOf
  cases x with
  | none =>
    have : v = -1 := hp
    rw [this, if_pos (by decide)]
    rfl
  | some q =>
    obtain ⟨j, j1, j2, j3⟩ := hp
    rw [j3, if_neg (nI_pos (by omega)), h4, if_neg (nI_ge j1 hs2), gdi (by omega) (by omega), ix_nI (by omega), hr j j1, j2]
    rfl
theorem hasWon_c {L : Nat → Nat} {d : Dt} {o s i : Nat} {u : Nat → Int32} {X : Nat → Nat} (hv : VB u) (hg : GLn L o) (h : GB L d o u s X) (hi : i < s) : t_X4_hasWon L d o (nI i) = some (if bE u (qp (X i)) = 1 then 1 else 0) := by
  obtain ⟨h1, h2, h3, h4, h5⟩ := h
  obtain ⟨b1, b2, b3⟩ := h4 i hi
  have := chS_le hg.1
  unfold t_X4_hasWon
  rw [gdi (by omega) (by omega), ix_nI (by omega), b2, fateOf_q hv b1, ob]
  by_cases e : bE u (qp (X i)) = 1
  · rw [if_pos e, if_pos rfl]
  · rw [if_neg e, if_neg (by decide)]
theorem sxs_roll {u : Nat → Int32} (hv : VB u) {bar : Int32} {q : Nat} (hq : VQ u q) (h3 : bE u (qp q) = 3) : sxs u bar (-1) q = [nxs u bar q (gl u q 0), nxs u bar q (gl u q 1)] := by
  have w0 := roll_wys h3
  unfold sxs
  rw [w0]
  unfold sxf
  rw [if_pos ⟨roll_wo h3 0, gol_m1 hv hq (by rw [w0]; decide)⟩]
  unfold sxf
  rw [if_pos ⟨roll_wo h3 (0 + 1), gol_m1 hv hq (by rw [w0]; decide)⟩]
  rfl
theorem mxo_lt (f : Option Nat → Nat) (x : Option Nat) (a : Nat) : (if f x ≤ a then a else f x) = if a < f x then f x else a := by
  by_cases c : f x ≤ a
  · rw [if_pos c, if_neg (by omega)]
  · rw [if_neg c, if_pos (by omega)]
theorem behind_q {L : Nat → Nat} {d : Dt} {o s i wc : Nat} {u : Nat → Int32} {bar : Int32} {X f : Nat → Nat} (hv : VB u) (hg : GLn L o) (hb : BK d 6 u) (hl : LB L 6) (h : GC u bar (-1) L d o s X wc) (hs : s ≤ L (32 * o + 11)) (hr : RW d (32 * o + 11) s X f) (hf : ∀ j, j < s → f (X j) ≤ 1000000) (hi : i < s) : t_X4_oddsBehindTurn L d o (nI i) = some (nI (odn u bar f (X i))) := by
  have hc := h.clo
  obtain ⟨hB, hW, _, h5, h9, h6⟩ := h
  have hBB := hB
  obtain ⟨h1, h2, h3, h4, h10⟩ := hB
  obtain ⟨b1, b2, b3⟩ := h4 i hi
  obtain ⟨f0, y1, y2, y3, y4⟩ := hW i hi
  have hch := chS_le hg.1
  have hch11 := chS_le hg.2.2.2.2.1
  have hP := hv.P.2
  have hp := b1.1
  have hwl : wc < 2 ^ 20 := by omega
  have hL9 : L (32 * o + 9) < 2 ^ 31 := by have := hg.2.2.1; unfold chW at this; omega
  have hok : OK u bar f (X i) := fun q' hE => by
    obtain ⟨j, j1, j2⟩ := hc.2 i hi q' hE
    rw [← j2]
    exact hf j j1
  unfold t_X4_oddsBehindTurn odn
  rw [hasWon_c hv hg hBB hi, ob]
  by_cases e1 : bE u (qp (X i)) = 1
  · rw [if_pos e1, if_neg (by decide), if_pos e1]; rfl
  · rw [if_neg e1, if_pos rfl, if_neg e1, gdi (by have := hg.2.1; omega) (by omega), ix_nI (by omega), y1, bd_q, gdi (by omega) (by omega), b2, partOf_c hv b1, ob, isRoll_eq hv hb hl hp, ob]
    by_cases e3 : bE u (qp (X i)) = 3
    · have r := rn_ok hv b1 e3
      have w0 := roll_wys e3
      have hsx := sxs_roll hv (bar := bar) b1 e3
      rw [hsx] at y2 y3 y4
      have y2' : gA d (32 * o + 8) (i + 1) = nI (f0 + 2) := y2
      have y3' : f0 + 2 ≤ wc := y3
      have p0 : PLc X s (nxs u bar (X i) (gl u (X i) 0)) (gA d (32 * o + 9) f0) := y4 0 _ rfl
      have p1 := y4 1 _ rfl
      have rneed : gA d (32 * 6 + 3) (qp (X i)) = nI (rn u (X i)) := ((hb.2.2 _ hp).2.2.2.1 e3).1.trans r.1
      have l0 := oo_le hv b1 hok (c := 0) (by rw [w0]; decide) (roll_wo e3 0)
      have l1 := oo_le hv b1 hok (c := 1) (by rw [w0]; decide) (roll_wo e3 1)
      rw [if_pos e3, if_neg (by decide), if_pos e3, nI_1, gdi (by have := hg.2.1; omega) (by omega), ix_nI (by omega), y2', nI_subN (by omega), show f0 + 2 - f0 = 2 by omega, if_pos (show nI 2 = 2 from rfl), hl.2.1, gdi (show qp (X i) < 24 by omega) (by omega), ix_nI (by omega), rneed, bd_q, gdi (by omega) (by omega), ix_nI (by omega), oddsOf_c h1 hs (by omega) hr p0, ob, bd_q, nI_1, gdi (by omega) (by omega), ix_nI (by omega), oddsOf_c h1 hs (by omega) hr p1, ob, bd_q]
      generalize oo f (nxs u bar (X i) (gl u (X i) 0)) = a at l0
      generalize oo f (nxs u bar (X i) (gl u (X i) 1)) = b at l1
      have m1 : (7 - rn u (X i)) * a ≤ (7 - rn u (X i)) * 1000000 := Nat.mul_le_mul_left _ l0
      have m2 : (rn u (X i) - 1) * b ≤ (rn u (X i) - 1) * 1000000 := Nat.mul_le_mul_left _ l1
      rw [show (7 : Int32) = nI 7 from rfl, show (1 : Int32) = nI 1 from rfl, show (6 : Int32) = nI 6 from rfl, nI_subN (by omega), nI_subN (by omega), nI_mulN, nI_mulN, nI_add, pk_div (by omega) (by decide) (by decide)]
    · rw [if_neg e3, if_pos rfl, if_neg e3, t_X4_oddsBehindTurn_110]
      have main : ∀ (l : List (Option Nat)) (w F a : Nat), w + l.length = f0 + (sxs u bar (-1) (X i)).length → l.length < F → a ≤ 1000000 → (∀ x, x ∈ l → oo f x ≤ 1000000) → (∀ j x, l[j]? = some x → PLc X s x (gA d (32 * o + 9) (w + j))) → lp (fun k x => t_X4_oddsBehindTurn_116 L d o (nI i) (fun x4 x5 => k (x4, x5)) x.1 x.2) F (nI a, nI w) = some (nI (mxo (oo f) l a)) := by
        intro l
        induction l with
        | nil =>
          intro w F a hw hF ha _ _
          obtain ⟨F, rfl⟩ : ∃ G, F = G + 1 := ⟨F - 1, by omega⟩
          rw [List.length_nil] at hw
          show t_X4_oddsBehindTurn_116 L d o (nI i) (fun x4 x5 => lp _ F (x4, x5)) (nI a) (nI w) = _
          rw [t_X4_oddsBehindTurn_116, nI_1, gdi (by have := hg.2.1; omega) (by omega), ix_nI (by omega), y2, if_pos (nI_le (by omega) (by omega))]
          rfl
        | cons x l ih =>
          intro w F a hw hF ha hx hpl
          obtain ⟨F, rfl⟩ : ∃ G, F = G + 1 := ⟨F - 1, by omega⟩
          rw [List.length_cons] at hw hF
          have p0 := hpl 0 x rfl
          have lx := hx x (by simp)
          show t_X4_oddsBehindTurn_116 L d o (nI i) (fun x4 x5 => lp _ F (x4, x5)) (nI a) (nI w) = _
          rw [t_X4_oddsBehindTurn_116, nI_1, gdi (by have := hg.2.1; omega) (by omega), ix_nI (by omega), y2, if_neg (nI_ge (by omega) (by omega)), gdi (by omega) (by omega), ix_nI (by omega), show gA d (32 * o + 9) w = gA d (32 * o + 9) (w + 0) from rfl, oddsOf_c h1 hs (by omega) hr p0, ob, bd_q, nI_1]
          have em : (if nI a < nI (oo f x) then nI (oo f x) else nI a) = nI (if oo f x ≤ a then a else oo f x) := by
            by_cases c : oo f x ≤ a
            · rw [if_pos c, if_neg (nI_nlt c (by omega))]
            · rw [if_neg c, if_pos (nI_lt (by omega) (by omega))]
          rw [em]
          refine ih (w + 1) F _ (by omega) (by omega) (by split <;> omega) (fun y hy => hx y (List.mem_cons_of_mem _ hy)) (fun j y hj => ?_)
          have := hpl (j + 1) y (by rw [List.getElem?_cons_succ]; exact hj)
          rw [show w + 1 + j = w + (j + 1) by omega]
          exact this
      have hlen : (sxs u bar (-1) (X i)).length ≤ 6 := Nat.le_trans (sxf_len _ _ _ _ _ _) (wys_lt hv hp)
      refine main (sxs u bar (-1) (X i)) f0 FU 0 rfl (by unfold FU; omega) (by omega) (fun x hx => ?_) y4
      obtain ⟨c, _, c1, c2, c3, c4⟩ := sxf_mem _ _ _ hx
      rw [← c4]
      exact oo_le hv b1 hok (by omega) c2
/-- odds depend on those of the ways alone -/
theorem odn_cg {u : Nat → Int32} (hv : VB u) {bar : Int32} {f g : Nat → Nat} {q : Nat} (hq : VQ u q) (h : ∀ q', Ed u bar (-1) q q' → f q' = g q') : odn u bar f q = odn u bar g q := by
  have hoo : ∀ c, c < wys u (qp q) → wo u q c = true → oo f (nxs u bar q (gl u q c)) = oo g (nxs u bar q (gl u q c)) := by
    intro c h1 h2
    cases e : nxs u bar q (gl u q c) with
    | none => rfl
    | some q' => exact h q' ⟨c, h1, h2, gol_m1 hv hq h1, e⟩
  unfold odn
  by_cases e1 : bE u (qp q) = 1
  · rw [if_pos e1, if_pos e1]
  · rw [if_neg e1, if_neg e1]
    by_cases e3 : bE u (qp q) = 3
    · rw [if_pos e3, if_pos e3, hoo 0 (by rw [roll_wys e3]; decide) (roll_wo e3 0), hoo 1 (by rw [roll_wys e3]; decide) (roll_wo e3 1)]
    · rw [if_neg e3, if_neg e3]
      have : ∀ (l : List (Option Nat)) (a : Nat), (∀ x, x ∈ l → oo f x = oo g x) → mxo (oo f) l a = mxo (oo g) l a := by
        intro l
        induction l with
        | nil => intro a _; rfl
        | cons x l ih =>
          intro a hx
          unfold mxo
          rw [hx x (by simp)]
          exact ih _ (fun y hy => hx y (List.mem_cons_of_mem _ hy))
      refine this _ _ (fun x hx => ?_)
      obtain ⟨c, _, c1, c2, c3, c4⟩ := sxf_mem _ _ _ hx
      rw [← c4]
      exact hoo c (by omega) c2
theorem od_still {u : Nat → Int32} (hv : VB u) {bar : Int32} {s : Nat} {X : Nat → Nat} (hc : CLo u bar (-1) s X) {t : Nat} (h : ∀ i, i < s → od u bar (t + 1) (X i) = od u bar t (X i)) : ∀ (r i : Nat), i < s → od u bar (t + r) (X i) = od u bar t (X i) := by
  intro r
  induction r with
  | zero => intro i _; rfl
  | succ r ih =>
    intro i hi
    rw [← h i hi]
    show odn u bar (od u bar (t + r)) (X i) = odn u bar (od u bar t) (X i)
    refine odn_cg hv (hc.1 i hi) (fun q' hE => ?_)
    obtain ⟨j, j1, j2⟩ := hc.2 i hi q' hE
    rw [← j2]
    exact ih j j1
