/-! ===== leaves of both systems over states as numbers q ===== -/
theorem slotOf_c {L : Nat → Nat} {d : Dt} {n : Nat} (h : n < 2 ^ 19) : t_X4_slotOf L d (nI n) = some (nI (n / 64 * 9 + n / 4 % 16) - 1) := by
  unfold t_X4_slotOf
  rw [pk_shrN (by omega) ((6 : Int32) &&& 31) 6 (by decide), pk_shrN (by omega) ((2 : Int32) &&& 31) 2 (by decide), pk_andN (by omega) 4 (by decide), show (9 : Int32) = nI 9 from rfl, nI_mulN, nI_add]
theorem slotOf_q {L : Nat → Nat} {d : Dt} {u : Nat → Int32} (hv : VB u) {q : Nat} (h : VQ u q) : t_X4_slotOf L d (nI (cc u q)) = some (nI (sl q)) := by
  rw [slotOf_c (cc_lt hv h), cc_sl u h.2.1, nI_pred]
theorem fateOf_q {L : Nat → Nat} {d : Dt} {u : Nat → Int32} (hv : VB u) {q : Nat} (h : VQ u q) : t_X3_fateOf L d (nI (cc u q)) = some (if bE u (qp q) = 1 then 1 else 0) := by
  have := cc_lt hv h
  rw [fateOf_eq (by omega), cc_fate]
  split <;> rfl
theorem find_q {L : Nat → Nat} {d : Dt} {o : Nat} {u : Nat → Int32} (hv : VB u) {q : Nat} (h : VQ u q) (hL : 2304 * bP u ≤ L (32 * o + 10)) (hL2 : L (32 * o + 10) < 2 ^ 31) : t_X4_find L d o (nI (cc u q)) = some (gA d (32 * o + 10) (sl q) - 1) := by
  have hs := VQ_sl h
  unfold t_X4_find
  rw [slotOf_q hv h, ob, fateOf_q hv h, ob, if_neg (by split <;> decide), if_neg (nI_pos (by omega)), if_pos (nI_lt (by omega) hL2), gdi (by omega) (by omega), ix_nI (by omega)]
theorem find_lost {L : Nat → Nat} {d : Dt} {o n : Nat} (h : n < 2 ^ 19) (h2 : n % 4 = 2) : t_X4_find L d o (nI n) = some (-1) := by
  unfold t_X4_find
  rw [slotOf_c h, ob, fateOf_eq (by omega), ob, h2, if_pos (show nI 2 = 2 from rfl)]
theorem partOf_c {L : Nat → Nat} {d : Dt} {u : Nat → Int32} (hv : VB u) {q : Nat} (h : VQ u q) : t_X3_partOf L d (nI (cc u q)) = some (nI (qp q)) := by
  have := hv.P.2
  have := h.1
  exact st_part (by omega) (qt_NB q) (qh_le q) (by split <;> decide)
theorem thingsOf_c {L : Nat → Nat} {d : Dt} {u : Nat → Int32} (hv : VB u) {q : Nat} (h : VQ u q) : t_X3_thingsOf L d (nI (cc u q)) = some (qt q) := by
  have := hv.P.2
  have := h.1
  exact st_things (by omega) (qt_NB q) (qh_le q) (by split <;> decide)
theorem waysFrom_c {L : Nat → Nat} {d : Dt} {b : Nat} {u : Nat → Int32} (hv : VB u) (hb : BK d b u) (hl : LB L b) {p : Nat} (hp : p < bP u) : t_X0_waysFrom L d b (nI p) = some (nI (wys u p)) := by
  have hP := hv.P
  have hV := hv.2.2.2 p hp
  have hE := hV.E
  have hC := hV.C
  have hB := hb.2.2 p hp
  unfold t_X0_waysFrom wys
  rw [hasPart_in hv hb hp, ob, if_neg (by decide), hl.1, gdi (show p < 24 by omega) (by omega), ix_nI (by omega), hB.1, hE.1, hl.2.2.2.2.2.2.2.1, gdi (show p < 24 by omega) (by omega), hB.2.2.1, hC.1]
  by_cases e : bE u p = 3
  · rw [if_pos e, e]; rfl
  · rw [if_neg e, if_neg (show ¬ nI (bE u p) = 3 from fun q => e (nI_inj (b := 3) (by omega) (by decide) q))]
    have e6 : (if nI (bC u p) < 6 then nI (bC u p) else 6) = nI (bC u p) := by
      by_cases c : bC u p < 6
      · rw [if_pos (show nI (bC u p) < 6 from nI_lt (b := 6) c (by decide))]
      · rw [if_neg (show ¬ nI (bC u p) < 6 from nI_nlt (b := 6) (by omega) (by omega)), show bC u p = 6 by omega]; rfl
    rw [e6]
    by_cases e0 : bE u p = 0
    · rw [if_pos e0]
    · rw [if_neg e0, hV.2.2.2.1 e0]
theorem wys_won {u : Nat → Int32} {p : Nat} (h : bE u p = 1) : wys u p = 0 := by
  unfold wys
  rw [if_neg (by omega), if_neg (by omega)]
theorem cc_going {u : Nat → Int32} {q : Nat} (h : bE u (qp q) ≠ 1) : cc u q = sc (qp q) (ix (qt q)) (qh q) 0 := by
  unfold cc
  rw [if_neg h]
theorem wayOut_c {L : Nat → Nat} {d : Dt} {b : Nat} {u : Nat → Int32} (hv : VB u) (hb : BK d b u) (hl : LB L b) {q c : Nat} (hq : VQ u q) (hc : c < wys u (qp q)) : t_X0_wayOut L d b (nI (cc u q)) (nI c) = some (if wo u q c = true then nI (gl u q c) else -1) := by
  have e1 : bE u (qp q) ≠ 1 := fun e => by rw [wys_won e] at hc; omega
  have g := gl_eq hv hq.1 hc
  rw [cc_going e1, wayOut_eq hv hb hl hq.1 (qt_NB q) (qh_le q) hc]
  by_cases o : wo u q c = true
  · rw [if_pos o, if_pos ((wo_iff u q c).mp o), g.1]
  · rw [if_neg o, if_neg (fun z => o ((wo_iff u q c).mpr z))]
theorem goOn_c {L : Nat → Nat} {d : Dt} {b : Nat} {u : Nat → Int32} (hv : VB u) (hb : BK d b u) (hl : LB L b) {q g : Nat} {bar : Int32} (hq : VQ u q) (hg : g < bP u) : t_X0_goOn L d b (nI (cc u q)) (nI g) bar = some (nI (arrS u g (com u bar g (qt q) (qh q)))) := by
  have := hv.P.2
  have := hq.1
  exact goOn_eq hv hb hl (by omega) hg (qt_NB q) hq.2.1 (qh_le q) (by split <;> decide)
/-! the reference -/
theorem bk_msk (w : Nat → Int32) {p : Nat} (t : Int32) (hp : p < 24) : ∀ (n c : Nat) (m : Int32), c + n ≤ 6 → msk (bk w) p t n c m = msk w p t n c m := by
  intro n
  induction n with
  | zero => intro c m _; rfl
  | succ n ih =>
    intro c m h
    unfold msk
    rw [bk_opn w t hp (by omega)]
    exact ih _ _ (by omega)
theorem bk_stn {w : Nat → Int32} (hv : VB w) {p : Nat} (t : Int32) (hp : p < bP w) : stn (bk w) p t = stn w p t := by
  have := hv.P.2
  have := (hv.2.2.2 p hp).C.2
  unfold stn
  rw [bk_E w (by omega), bk_C w (by omega), bk_msk w t (by omega) _ _ _ (by omega)]
/-- what the reference's leaves want: u is its book -/
def RU (u : Nat → Int32) (dm : Dt) : Prop := VB (wOf dm) ∧ u = bk (wOf dm)
theorem RU.v {u : Nat → Int32} {dm : Dt} (h : RU u dm) : VB u := h.2 ▸ bk_V h.1
theorem RU.P {u : Nat → Int32} {dm : Dt} (h : RU u dm) : bP u = bP (wOf dm) := by rw [h.2]; exact bk_P _
theorem q_nI (q : Nat) : nI q = nI (sq (qp q) (ix (qt q)) (qh q)) := by rw [q_sq]
theorem ixt_lt (q : Nat) : ix (qt q) < 256 := by rw [qt_ix]; omega
theorem waysOf_q {u : Nat → Int32} {dm : Dt} (h : RU u dm) {q : Nat} (hq : VQ u q) : t_X6_waysOf LM dm (nI q) = some (nI (wys u (qp q))) := by
  have hp := hq.1
  rw [h.P] at hp
  have := h.1.P.2
  rw [q_nI q, waysOf_eq h.1 hp (ixt_lt q) (qh_le q), h.2, bk_wys _ (by omega)]
theorem isWay_q {u : Nat → Int32} {dm : Dt} (h : RU u dm) {q c : Nat} (hq : VQ u q) (hc : c < wys u (qp q)) : t_X6_isWay LM dm (nI q) (nI c) = some (if wo u q c = true then 1 else 0) := by
  have hp := hq.1
  rw [h.P] at hp
  have := h.1.P.2
  have hw := wys_lt h.v hq.1
  have hc' : c < wys (wOf dm) (qp q) := by rw [h.2, bk_wys _ (by omega)] at hc; exact hc
  rw [q_nI q, isWay_eq h.1 hp (qt_NB q) (qh_le q) hc']
  have e : wo u q c = true ↔ (bE (wOf dm) (qp q) = 3 ∨ opn (wOf dm) (qp q) (qt q) c = true) := by
    rw [wo_iff, h.2, bk_E _ (by omega), bk_opn _ _ (by omega) (by omega)]
  by_cases o : wo u q c = true
  · rw [if_pos o, if_pos (e.mp o)]
  · rw [if_neg o, if_neg (fun z => o (e.mpr z))]
theorem goalOf_q {u : Nat → Int32} {dm : Dt} (h : RU u dm) {q c : Nat} (hq : VQ u q) (hc : c < wys u (qp q)) : t_X6_goalOf LM dm (nI q) (nI c) = some (nI (gl u q c)) := by
  have hp := hq.1
  rw [h.P] at hp
  have := h.1.P.2
  have hw := wys_lt h.v hq.1
  have hc' : c < wys (wOf dm) (qp q) := by rw [h.2, bk_wys _ (by omega)] at hc; exact hc
  rw [← (gl_eq h.v hq.1 hc).1]
  rw [q_nI q, goalOf_eq h.1 hp (ixt_lt q) (qh_le q) hc', h.2, bk_gol _ (by omega) (by omega)]
def stq (u : Nat → Int32) (q : Nat) : Nat := if bE u (qp q) = 1 then 1 else stn u (qp q) (qt q)
theorem standsAt_q {u : Nat → Int32} {dm : Dt} (h : RU u dm) {q : Nat} (hq : VQ u q) : t_X6_standsAt LM dm (nI q) = some (nI (stq u q)) := by
  have hp := hq.1
  rw [h.P] at hp
  have := h.1.P.2
  have h2 : bE (wOf dm) (qp q) ≠ 2 := by rw [← bk_E _ (by omega), ← h.2]; exact hq.2.2
  rw [q_nI q, standsAt_eq h.1 hp (qt_NB q) (qh_le q) h2]
  unfold stq
  rw [h.2, bk_E _ (by omega), bk_stn h.1 _ hp]
theorem msk_open {u : Nat → Int32} {p : Nat} {t : Int32} : ∀ (n c : Nat) (m : Int32), msk u p t n c m ≠ 0 → m ≠ 0 ∨ ∃ x, c ≤ x ∧ x < c + n ∧ opn u p t x = true := by
  intro n
  induction n with
  | zero => intro c m h; exact .inl h
  | succ n ih =>
    intro c m h
    unfold msk at h
    by_cases o : opn u p t c = true
    · exact .inr ⟨c, by omega, by omega, o⟩
    · rw [if_neg o] at h
      rcases ih _ _ h with z | ⟨x, a, b, e⟩
      · exact .inl z
      · exact .inr ⟨x, by omega, by omega, e⟩
theorem stq_cases {u : Nat → Int32} (hv : VB u) {q : Nat} (hq : VQ u q) : (bE u (qp q) = 1 ∧ stq u q = 1) ∨ (bE u (qp q) ≠ 1 ∧ stq u q = 0 ∧ ∃ c, c < wys u (qp q) ∧ wo u q c = true) ∨ (bE u (qp q) ≠ 1 ∧ stq u q = 3 ∧ ∀ c, c < wys u (qp q) → ¬ wo u q c = true) := by
  have hE := (hv.2.2.2 _ hq.1).E
  have hC := (hv.2.2.2 _ hq.1).C
  have h2 := hq.2.2
  unfold stq
  by_cases e1 : bE u (qp q) = 1
  · exact .inl ⟨e1, if_pos e1⟩
  · rw [if_neg e1]
    unfold stn
    by_cases e3 : bE u (qp q) = 3
    · refine .inr (.inl ⟨e1, if_pos e3, 0, ?_, (wo_iff u q 0).mpr (.inl e3)⟩)
      unfold wys
      rw [if_pos e3]
      decide
    · have ew : wys u (qp q) = bC u (qp q) := by
        unfold wys
        rw [if_neg e3, if_pos (by omega)]
      rw [if_neg e3, ew]
      by_cases m : msk u (qp q) (qt q) (bC u (qp q)) 0 0 = 0
      · refine .inr (.inr ⟨e1, if_pos m, fun c hc o => ?_⟩)
        rcases (wo_iff u q c).mp o with z | z
        · exact e3 z
        · exact msk_ne z (by omega) _ _ _ (by omega) (by omega) m
      · refine .inr (.inl ⟨e1, if_neg m, ?_⟩)
        rcases msk_open _ _ _ m with z | ⟨x, _, b, e⟩
        · exact absurd rfl z
        · exact ⟨x, by omega, (wo_iff u q x).mpr (.inr e)⟩
/-- only newThings, newHealth may differ -/
def NWd (d d' : Dt) : Prop := (∀ j, j ≠ 17 → j ≠ 18 → gF d' 0 j = gF d 0 j) ∧ ∀ a i, gA d' a i = gA d a i
theorem NWd.refl (d : Dt) : NWd d d := ⟨fun _ _ _ => rfl, fun _ _ => rfl⟩
theorem NWd.trans {d d' d'' : Dt} (h : NWd d d') (h2 : NWd d' d'') : NWd d d'' := ⟨fun j a b => (h2.1 j a b).trans (h.1 j a b), fun a i => (h2.2 a i).trans (h.2 a i)⟩
theorem NWd.w {d d' : Dt} (h : NWd d d') : wOf d' = wOf d := by
  funext i
  exact h.2 0 i
theorem NWd.ru {u : Nat → Int32} {d d' : Dt} (h : NWd d d') (hr : RU u d) : RU u d' := by
  unfold RU
  rw [h.w]
  exact hr
def enc (x : Option Nat) : Int32 := match x with
  | none => -2
  | some q => nI q
theorem stateAt_q {u : Nat → Int32} {dm : Dt} (h : RU u dm) {g hh : Nat} {t : Int32} (hg : g < bP u) (ht : NB t 256) (h9 : hh ≤ 9) : ∃ dm', t_X6_stateAt LM dm (nI g) t (nI hh) = some (enc (if nI g = gF dm 0 15 then none else arv u (gF dm 0 16) g t hh), dm') ∧ NWd dm dm' := by
  have hg' := hg
  rw [h.P] at hg'
  have := h.1.P.2
  by_cases e : nI g = gF dm 0 15
  · refine ⟨dm, ?_, NWd.refl dm⟩
    unfold t_X6_stateAt
    rw [if_pos e, if_pos e]
    rfl
  · refine ⟨nw dm (com (wOf dm) (gF dm 0 16) g t hh).1 (com (wOf dm) (gF dm 0 16) g t hh).2, ?_, ?_⟩
    · rw [stateAt_eq h.1 hg' ht h9 (fun z => e z.symm), if_neg e]
      unfold arv
      rw [h.2, bk_com h.1 _ hg', bk_E _ (by omega)]
      by_cases c : (com (wOf dm) (gF dm 0 16) g t hh).2 = 0 ∨ bE (wOf dm) g = 2
      · rw [if_pos c, if_pos c]
        rfl
      · rw [if_neg c, if_neg c]
        rfl
    · exact ⟨fun j a b => nw_o a b, fun _ _ => rfl⟩
theorem healthOf_q {dm : Dt} {q : Nat} (h : q < 61440) : t_X6_healthOf LM dm (nI q) = some (nI (qh q)) := by
  rw [q_nI q, sq_health (by unfold qp; omega) (ixt_lt q) (qh_le q)]
theorem thingsOf_q {dm : Dt} {q : Nat} (h : q < 61440) : t_X6_thingsOf LM dm (nI q) = some (qt q) := by
  rw [q_nI q, sq_things (by unfold qp; omega) (ixt_lt q) (qh_le q), ← (nb_ix (qt_NB q) (by decide)).1]
theorem partOf_q {dm : Dt} {q : Nat} (h : q < 61440) : t_X6_partOf LM dm (nI q) = some (nI (qp q)) := by
  rw [q_nI q, sq_part (by unfold qp; omega) (ixt_lt q) (qh_le q)]
/-- where way c leads, in the reference: a barred part is lost -/
def nxm (u : Nat → Int32) (bar nop : Int32) (q c : Nat) : Option Nat := if gol u (qp q) c = nop then none else nxs u bar q (gl u q c)
theorem wayTo_q {u : Nat → Int32} {dm : Dt} (h : RU u dm) {q c : Nat} (hq : VQ u q) (hc : c < wys u (qp q)) : ∃ dm', t_X6_wayTo LM dm (nI q) (nI c) = some (enc (nxm u (gF dm 0 16) (gF dm 0 15) q c), dm') ∧ NWd dm dm' := by
  have hl := VQ_lt h.v hq
  have g := gl_eq h.v hq.1 hc
  obtain ⟨dm', e, n⟩ := stateAt_q h (t := qt q) (hh := qh q) g.2 (qt_NB q) (qh_le q)
  refine ⟨dm', ?_, n⟩
  unfold t_X6_wayTo nxm
  rw [goalOf_q h hq hc, ob, thingsOf_q hl, ob, healthOf_q hl, ob, e, ob, g.1]
  rfl
