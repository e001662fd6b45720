/-! ===== the reference: where one is now; sure wins ===== -/
def nwo (w : Nat → Int32) (p : Nat) (t : Int32) (h : Nat) : Option Nat := if fat w p h = 2 then none else some (sq p (ix t) h)
theorem nwo_ok {w : Nat → Int32} {p h r : Nat} {t : Int32} (hp : p < bP w) (ht : NB t 256) (hh : h ≤ 9) (e : nwo w p t h = some r) : VQ w r ∧ qp r = p ∧ qt r = t ∧ qh r = h := by
  unfold nwo at e
  have et := nb_ix ht (by decide)
  by_cases c : fat w p h = 2
  · rw [if_pos c] at e; cases e
  · rw [if_neg c] at e
    cases e
    have h1 : qp (sq p (ix t) h) = p := sq_qp et.2 hh
    have h2 : qh (sq p (ix t) h) = h := sq_qh hh
    refine ⟨⟨by rw [h1]; exact hp, ?_, ?_⟩, h1, ?_, h2⟩
    · rw [h2]
      apply Nat.pos_of_ne_zero
      intro z
      apply c
      unfold fat
      rw [if_pos z]
    · rw [h1]
      intro z
      apply c
      unfold fat
      split
      · rfl
      · first | rw [if_neg (show ¬ bE w p = 1 by omega), if_pos z] | rw [if_neg (show ¬ bE w p = 1 by omega)]
    · rw [sq_qt et.2 hh]
      exact et.1.symm
theorem nowState_q {dm : Dt} (hv : VB (wOf dm)) {p h : Nat} {t : Int32} (hq : PL (wOf dm) p t h) : t_X6_nowState LM dm = some (enc (nwo (wOf dm) p t h)) := by
  have hst := stands_eq hv hq
  obtain ⟨h3, h4, h5, hp, ht, hh⟩ := hq
  have hf := fat_lt (wOf dm) p h
  have slt := stF_lt (wOf dm) p t h
  unfold t_X6_nowState nwo
  rw [hst, ob, LM0, gd_h (show inb 3 4128 = true by decide), gd_h (show inb 4 4128 = true by decide), gd_h (show inb 5 4128 = true by decide), show gA dm (32 * 0 + 0) (ix 3) = wOf dm 3 from rfl, show gA dm (32 * 0 + 0) (ix 4) = wOf dm 4 from rfl, show gA dm (32 * 0 + 0) (ix 5) = wOf dm 5 from rfl, h3, h4, h5, stateOf_t ht, ob]
  have e : stF (wOf dm) p t h = 2 ↔ fat (wOf dm) p h = 2 := by
    unfold stF stn
    split
    · rename_i z
      constructor
      · intro q
        split at q
        · omega
        · split at q <;> omega
      · intro q; omega
    · exact Iff.rfl
  by_cases c : fat (wOf dm) p h = 2
  · rw [e.mpr c, if_pos (show nI 2 = 2 from rfl), if_pos c]; rfl
  · rw [if_neg (show ¬ nI (stF (wOf dm) p t h) = 2 from fun q => c (e.mp (nI_inj (b := 2) (by omega) (by decide) q))), if_neg c]; rfl
theorem LM27 : LM (32 * 0 + 27) = 61440 := rfl
theorem LM28 : LM (32 * 0 + 28) = 61440 := rfl
theorem nar0 : vp_nar .boolean 0 = 0 := by decide +kernel
theorem nar1 : vp_nar .boolean 1 = 1 := by decide +kernel
def bo (p : Prop) [Decidable p] : Int32 := if p then 1 else 0
theorem bo_t {p : Prop} [Decidable p] (h : p) : bo p = 1 := if_pos h
theorem bo_f {p : Prop} [Decidable p] (h : ¬ p) : bo p = 0 := if_neg h
theorem nar_bo (p : Prop) [Decidable p] : vp_nar .boolean (bo p) = bo p := by
  by_cases h : p
  · rw [bo_t h]; exact nar1
  · rw [bo_f h]; exact nar0
theorem isB_bo (p : Prop) [Decidable p] : isB (bo p) = true := by
  by_cases h : p
  · rw [bo_t h]; rfl
  · rw [bo_f h]; rfl
/-- what is sure stands in row 28 -/
def SU (e : Dt) (s : Nat) (Y f : Nat → Nat) : Prop := ∀ i, i < s → gA e 28 (Y i) = bo (f (Y i) = 1000000)
theorem isSureAt_q {u : Nat → Int32} (hv : VB u) {e : Dt} {s : Nat} {Y f : Nat → Nat} (hY : ∀ i, i < s → VQ u (Y i)) (h : SU e s Y f) (x : Option Nat) (hx : ∀ q, x = some q → ∃ j, j < s ∧ Y j = q) : t_X6_isSureAt LM e (enc x) = some (bo (oo f x = 1000000)) := by
  unfold t_X6_isSureAt
  cases x with
  | none => rw [if_pos enc_none]; rfl
  | some q =>
    obtain ⟨j, hj, e1⟩ := hx q rfl
    have hl : q < 61440 := e1 ▸ VQ_lt hv (hY j hj)
    have := h j hj
    rw [if_neg (enc_some_ne hl), enc_q, LM28, gdi hl (by omega), ix_nI (by omega), ← e1, show gA e (32 * 0 + 28) (Y j) = _ from this]
    show _ = some (bo (f (Y j) = 1000000))
    by_cases c : f (Y j) = 1000000
    · rw [bo_t c]; rfl
    · rw [bo_f c]; rfl
theorem roll_M {n a b : Nat} (h2 : 2 ≤ n) (h6 : n ≤ 6) (ha : a ≤ 1000000) (hb : b ≤ 1000000) : ((7 - n) * a + (n - 1) * b) / 6 = 1000000 ↔ (a = 1000000 ∧ b = 1000000) := by
  rcases (show n = 2 ∨ n = 3 ∨ n = 4 ∨ n = 5 ∨ n = 6 by omega) with rfl | rfl | rfl | rfl | rfl <;> omega
theorem SU.nw {e e' : Dt} {s : Nat} {Y f : Nat → Nat} (h : SU e s Y f) (h2 : ∀ i, gA e' 28 i = gA e 28 i) : SU e' s Y f := fun i hi => (h2 _).trans (h i hi)
theorem makesSure_q {u : Nat → Int32} {bar : Int32} {e : Dt} {s : Nat} {Y f : Nat → Nat} (hr : RU u e) (hb : gF e 0 16 = bar) (hn : gF e 0 15 = -1) (hc : CLo u bar (-1) s Y) (h : SU e s Y f) (hf : ∀ i, i < s → f (Y i) ≤ 1000000) {i : Nat} (hi : i < s) : ∃ e', t_X6_makesSure LM e (nI (Y i)) = some (bo (odn u bar f (Y i) = 1000000), e') ∧ NWd e e' := by
  have hv := hr.v
  have hq := hc.1 i hi
  have hP := hv.P.2
  have hp := hq.1
  have hok : OK u bar f (Y i) := fun q' hE => by
    obtain ⟨j, h1, h2⟩ := hc.2 i hi q' hE
    rw [← h2]
    exact hf j h1
  have hx : ∀ c, c < wys u (qp (Y i)) → wo u (Y i) c = true → ∀ q, nxs u bar (Y i) (gl u (Y i) c) = some q → ∃ j, j < s ∧ Y j = q := fun c h1 h2 q h3 => hc.2 i hi q ⟨c, h1, h2, gol_m1 hv hq h1, h3⟩
  have hw : ∀ i, i < 800 → ((i < 2 ∨ 8 ≤ i) ∧ ¬ (152 ≤ i ∧ i < 176)) → u i = wOf e i := by rw [hr.2]; exact bk_h8 _
  have hE := (hv.2.2.2 _ hp).E
  unfold t_X6_makesSure odn
  rw [standsAt_q hr hq, ob]
  rcases stq_cases hv hq with ⟨e1, e2⟩ | h'
  · rw [e2, if_pos (show nI 1 = 1 from rfl), bo_t (if_pos e1)]
    exact ⟨e, rfl, NWd.refl e⟩
  · have e1 : bE u (qp (Y i)) ≠ 1 := by rcases h' with q | q <;> exact q.1
    have e2 : ¬ nI (stq u (Y i)) = 1 := by rcases h' with q | q <;> (rw [q.2.1]; decide)
    have hw6 := wys_lt hv hp
    rw [if_neg e2, partOf_q (VQ_lt hv hq), ob, LM0, show (8 : Int32) + nI (qp (Y i)) = nI (8 + qp (Y i)) from nI_add 8 _, gdi (show 8 + qp (Y i) < 4128 by omega) (by omega), wg (by omega), ← hw _ (by omega) (by omega), hE.1]
    -- one way
    have wy : ∀ (c : Nat) (d : Dt), c < wys u (qp (Y i)) → wo u (Y i) c = true → NWd e d → ∀ (x2 x3 : Int32) (K : Int32 → Int32 → Int32 → Dt → Option (Int32 × Dt)), ∃ d', NWd e d' ∧ t_X6_makesSure_38 LM (nI (Y i)) K x2 x3 (nI c) d = t_X6_makesSure_77 LM (nI (Y i)) K x2 x3 (nI c) (bo (oo f (nxs u bar (Y i) (gl u (Y i) c)) = 1000000)) d' := by
      intro c d hc' ow hd x2 x3 K
      obtain ⟨d1, s1, s2⟩ := wayTo_o (hd.ru hr) ((hd.1 16 (by decide) (by decide)).trans hb) ((hd.1 15 (by decide) (by decide)).trans hn) hq hc'
      have o0 := isSureAt_q hv hc.1 (h.nw (e' := d1) (fun i => (s2.2 28 i).trans (hd.2 28 i))) _ (hx c hc' ow)
      refine ⟨d1, hd.trans s2, ?_⟩
      rw [t_X6_makesSure_38, waysOf_q (hd.ru hr) hq, ob, if_neg (nI_ge hc' (by omega)), isWay_q (hd.ru hr) hq hc', ob, if_pos ow, if_neg (by decide), s1, ob]
      dsimp only
      rw [o0, ob]
      by_cases z : oo f (nxs u bar (Y i) (gl u (Y i) c)) = 1000000
      · rw [bo_t z, if_neg (by decide)]
      · rw [bo_f z, if_pos rfl, t_X6_makesSure_76]
    by_cases h3 : bE u (qp (Y i)) = 3
    · have r := rn_ok hv hq h3
      have w0 := roll_wys h3
      have l0 := oo_le hv hq hok (c := 0) (by rw [w0]; decide) (roll_wo h3 0)
      have l1 := oo_le hv hq hok (c := 1) (by rw [w0]; decide) (roll_wo h3 1)
      rw [h3, if_pos (show nI 3 = 3 from rfl), t_X6_makesSure_32]
      have en : ∀ (F : Nat) (x : Int32) (d : Dt), NWd e d → (x = 0 ∨ x = 1) → ∃ d', lp (fun k x => t_X6_makesSure_38 LM (nI (Y i)) (fun x2 x3 x4 d => k (x2, x3, x4, d)) x.1 x.2.1 x.2.2.1 x.2.2.2) (F + 1) (1, x, nI 2, d) = some (x, d') ∧ NWd e d' := by
        intro F x d hd hx'
        refine ⟨d, ?_, hd⟩
        show t_X6_makesSure_38 LM (nI (Y i)) (fun x2 x3 x4 d => lp _ F (x2, x3, x4, d)) 1 x (nI 2) d = _
        rw [t_X6_makesSure_38, waysOf_q (hd.ru hr) hq, ob, w0, if_pos (nI_le (by decide) (by decide))]
        rcases hx' with rfl | rfl <;> rfl
      obtain ⟨d1, n1, s1⟩ := wy 0 e (by rw [w0]; decide) (roll_wo h3 0) (NWd.refl e) 1 1 (fun x2 x3 x4 d => lp (fun k x => t_X6_makesSure_38 LM (nI (Y i)) (fun x2 x3 x4 d => k (x2, x3, x4, d)) x.1 x.2.1 x.2.2.1 x.2.2.2) 999999 (x2, x3, x4, d))
      have st0 : ∀ v : Int32, (v = 0 ∨ v = 1) → t_X6_makesSure_77 LM (nI (Y i)) (fun x2 x3 x4 d => lp (fun k x => t_X6_makesSure_38 LM (nI (Y i)) (fun x2 x3 x4 d => k (x2, x3, x4, d)) x.1 x.2.1 x.2.2.1 x.2.2.2) 999999 (x2, x3, x4, d)) 1 1 (nI 0) v d1 = lp (fun k x => t_X6_makesSure_38 LM (nI (Y i)) (fun x2 x3 x4 d => k (x2, x3, x4, d)) x.1 x.2.1 x.2.2.1 x.2.2.2) 999999 (1, v, nI 1, d1) := by
        intro v hv'
        rcases hv' with rfl | rfl
        · rw [t_X6_makesSure_77, if_neg (by decide), if_neg (by decide), if_pos rfl, t_X6_makesSure_96, t_X6_makesSure_114, nI_1]
        · rw [t_X6_makesSure_77, if_neg (by decide), if_neg (by decide), if_neg (by decide), t_X6_makesSure_114, nI_1]
      have bo01 : ∀ (p : Prop) [Decidable p], bo p = 0 ∨ bo p = 1 := fun p _ => by
        by_cases z : p
        · exact .inr (bo_t z)
        · exact .inl (bo_f z)
      obtain ⟨d2, n2, s2⟩ := wy 1 d1 (by rw [w0]; decide) (roll_wo h3 1) n1 1 (bo (oo f (nxs u bar (Y i) (gl u (Y i) 0)) = 1000000)) (fun x2 x3 x4 d => lp (fun k x => t_X6_makesSure_38 LM (nI (Y i)) (fun x2 x3 x4 d => k (x2, x3, x4, d)) x.1 x.2.1 x.2.2.1 x.2.2.2) 999998 (x2, x3, x4, d))
      have g1 : lp (fun k x => t_X6_makesSure_38 LM (nI (Y i)) (fun x2 x3 x4 d => k (x2, x3, x4, d)) x.1 x.2.1 x.2.2.1 x.2.2.2) FU (1, 1, 0, e) = lp (fun k x => t_X6_makesSure_38 LM (nI (Y i)) (fun x2 x3 x4 d => k (x2, x3, x4, d)) x.1 x.2.1 x.2.2.1 x.2.2.2) 999999 (1, bo (oo f (nxs u bar (Y i) (gl u (Y i) 0)) = 1000000), nI 1, d1) := s1.trans (st0 _ (bo01 _))
      rw [g1]
      show ∃ e', t_X6_makesSure_38 LM (nI (Y i)) (fun x2 x3 x4 d => lp _ 999998 (x2, x3, x4, d)) 1 (bo (oo f (nxs u bar (Y i) (gl u (Y i) 0)) = 1000000)) (nI 1) d1 = _ ∧ _
      rw [s2]
      have rm := roll_M r.2.1 r.2.2 l0 l1
      by_cases z0 : oo f (nxs u bar (Y i) (gl u (Y i) 0)) = 1000000
      · by_cases z1 : oo f (nxs u bar (Y i) (gl u (Y i) 1)) = 1000000
        · rw [bo_t z0, bo_t z1, t_X6_makesSure_77, if_neg (by decide), if_neg (by decide), if_neg (by decide), t_X6_makesSure_114, nI_1, bo_t (by rw [if_neg (by omega), if_pos (by omega)]; exact rm.mpr ⟨z0, z1⟩)]
          exact en 999997 1 d2 n2 (.inr rfl)
        · rw [bo_t z0, bo_f z1, t_X6_makesSure_77, if_neg (by decide), if_neg (by decide), if_pos rfl, t_X6_makesSure_96, t_X6_makesSure_114, nI_1, bo_f (by rw [if_neg (by omega), if_pos (by omega)]; exact fun q => z1 (rm.mp q).2)]
          exact en 999997 0 d2 n2 (.inl rfl)
      · rw [bo_f z0, t_X6_makesSure_77, if_neg (by decide), if_pos rfl, t_X6_makesSure_96, t_X6_makesSure_114, nI_1, bo_f (by rw [if_neg (by omega), if_pos (by omega)]; exact fun q => z0 (rm.mp q).1)]
        exact en 999997 0 d2 n2 (.inl rfl)
    · rw [if_neg (show ¬ nI (bE u (qp (Y i))) = 3 from fun q => h3 (nI_inj (b := 3) (by omega) (by decide) q)), t_X6_makesSure_32]
      have eodn : (if bE u (qp (Y i)) = 1 then 1000000 else if bE u (qp (Y i)) = 3 then ((7 - rn u (Y i)) * oo f (nxs u bar (Y i) (gl u (Y i) 0)) + (rn u (Y i) - 1) * oo f (nxs u bar (Y i) (gl u (Y i) 1))) / 6 else mxo (oo f) (sxf u bar (-1) (Y i) (wys u (qp (Y i))) 0) 0) = mxo (oo f) (sxf u bar (-1) (Y i) (wys u (qp (Y i))) 0) 0 := by rw [if_neg e1, if_neg h3]
      have main : ∀ (n c F a : Nat) (d : Dt), c + n = wys u (qp (Y i)) → n < F → a ≤ 1000000 → NWd e d → ∃ e', lp (fun k x => t_X6_makesSure_38 LM (nI (Y i)) (fun x2 x3 x4 d => k (x2, x3, x4, d)) x.1 x.2.1 x.2.2.1 x.2.2.2) F (0, bo (a = 1000000), nI c, d) = some (bo (mxo (oo f) (sxf u bar (-1) (Y i) n c) a = 1000000), e') ∧ NWd e e' := by
        intro n
        induction n with
        | zero =>
          intro c F a d hc' hF ha hd
          obtain ⟨F, rfl⟩ : ∃ G, F = G + 1 := ⟨F - 1, by omega⟩
          refine ⟨d, ?_, hd⟩
          show t_X6_makesSure_38 LM (nI (Y i)) (fun x2 x3 x4 d => lp _ F (x2, x3, x4, d)) 0 (bo (a = 1000000)) (nI c) d = _
          rw [t_X6_makesSure_38, waysOf_q (hd.ru hr) hq, ob, if_pos (nI_le (by omega) (by omega)), gd_h (isB_bo _)]
          rfl
        | succ n ih =>
          intro c F a d hc' hF ha hd
          obtain ⟨F, rfl⟩ : ∃ G, F = G + 1 := ⟨F - 1, by omega⟩
          show ∃ e', t_X6_makesSure_38 LM (nI (Y i)) (fun x2 x3 x4 d => lp _ F (x2, x3, x4, d)) 0 (bo (a = 1000000)) (nI c) d = _ ∧ _
          unfold sxf
          by_cases ow : wo u (Y i) c = true
          · obtain ⟨d1, n1, s1⟩ := wy c d (by omega) ow hd 0 (bo (a = 1000000)) (fun x2 x3 x4 d => lp (fun k x => t_X6_makesSure_38 LM (nI (Y i)) (fun x2 x3 x4 d => k (x2, x3, x4, d)) x.1 x.2.1 x.2.2.1 x.2.2.2) F (x2, x3, x4, d))
            have l0 := oo_le hv hq hok (c := c) (by omega) ow
            have go := ih (c + 1) F (if oo f (nxs u bar (Y i) (gl u (Y i) c)) ≤ a then a else oo f (nxs u bar (Y i) (gl u (Y i) c))) d1 (by omega) (by omega) (by split <;> omega) n1
            rw [s1, if_pos ⟨ow, gol_m1 hv hq (by omega)⟩]
            unfold mxo
            by_cases za : a = 1000000
            · rw [bo_t za, t_X6_makesSure_77, if_pos rfl, if_neg (by decide), t_X6_makesSure_109, t_X6_makesSure_114, nI_1]
              rw [show bo ((if oo f (nxs u bar (Y i) (gl u (Y i) c)) ≤ a then a else oo f (nxs u bar (Y i) (gl u (Y i) c))) = 1000000) = 1 from bo_t (by rw [if_pos (by omega)]; exact za)] at go
              exact go
            · by_cases zo : oo f (nxs u bar (Y i) (gl u (Y i) c)) = 1000000
              · rw [bo_f za, bo_t zo, t_X6_makesSure_77, if_pos rfl, if_pos rfl, if_neg (by decide), t_X6_makesSure_109, t_X6_makesSure_114, nI_1]
                rw [show bo ((if oo f (nxs u bar (Y i) (gl u (Y i) c)) ≤ a then a else oo f (nxs u bar (Y i) (gl u (Y i) c))) = 1000000) = 1 from bo_t (by rw [if_neg (by omega)]; exact zo)] at go
                exact go
              · rw [bo_f za, bo_f zo, t_X6_makesSure_77, if_pos rfl, if_pos rfl, if_pos rfl, t_X6_makesSure_114, nI_1]
                rw [show bo ((if oo f (nxs u bar (Y i) (gl u (Y i) c)) ≤ a then a else oo f (nxs u bar (Y i) (gl u (Y i) c))) = 1000000) = 0 from bo_f (by split <;> assumption)] at go
                exact go
          · rw [if_neg (fun z => ow z.1), t_X6_makesSure_38, waysOf_q (hd.ru hr) hq, ob, if_neg (nI_ge (by omega) (by omega)), isWay_q (hd.ru hr) hq (by omega), ob, if_neg ow, if_pos rfl, t_X6_makesSure_76]
            have go := ih (c + 1) F a d (by omega) (by omega) ha hd
            by_cases za : a = 1000000
            · rw [bo_t za, t_X6_makesSure_77, if_pos rfl, if_neg (by decide), t_X6_makesSure_109, t_X6_makesSure_114, nI_1]
              rw [bo_t za] at go
              exact go
            · rw [bo_f za, t_X6_makesSure_77, if_pos rfl, if_pos rfl, if_pos rfl, t_X6_makesSure_114, nI_1]
              rw [bo_f za] at go
              exact go
      have := main (wys u (qp (Y i))) 0 FU 0 e (by omega) (by unfold FU; omega) (by omega) (NWd.refl e)
      rw [bo_f (by decide)] at this
      rw [← eodn] at this
      exact this
