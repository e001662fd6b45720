/-! ===== blind, to its end ===== -/
/-- draws alone so far -/
def DRW (d dm e em : Dt) : Prop := (∃ j, j < 2 ^ 31 ∧ gF e 2 2 = nI j ∧ gA em 0 2 = nI j) ∧ (∀ o i, ¬ (o = 2 ∧ i = 2) → gF e o i = gF d o i) ∧ (∀ a i, gA e a i = gA d a i) ∧ (∀ j, j ≠ 17 → j ≠ 18 → gF em 0 j = gF dm 0 j) ∧ ∀ a i, ¬ (a = 0 ∧ i = 2) → gA em a i = gA dm a i
theorem DRW.nw {d dm e em em' : Dt} (h : DRW d dm e em) (hn : NWd em em') : DRW d dm e em' := by
  obtain ⟨⟨j, j1, j2, j3⟩, a, b, c, e'⟩ := h
  exact ⟨⟨j, j1, j2, (hn.2 0 2).trans j3⟩, a, b, fun j h1 h2 => (hn.1 j h1 h2).trans (c j h1 h2), fun x i hx => (hn.2 x i).trans (e' x i hx)⟩
theorem DRW.dr {d dm e em : Dt} {j : Nat} (h : DRW d dm e em) (hj : j < 2 ^ 31) : DRW d dm (sF e 2 2 (nI j)) (sA em 0 2 (nI j)) := by
  obtain ⟨_, a, b, c, e'⟩ := h
  exact ⟨⟨j, hj, gF_sF1 _ _ _ _, by rw [gA_sAi, if_pos ⟨rfl, rfl⟩]⟩, fun o i hx => by rw [gF_sFn hx]; exact a o i hx, b, c, fun x i hx => by rw [gA_sAi, if_neg hx]; exact e' x i hx⟩
theorem DRW.bkq {d dm e em : Dt} (h : DRW d dm e em) : bk (wOf em) = bk (wOf dm) := bk_cg (fun i _ h2 => h.2.2.2.2 0 i (by omega))
theorem DRW.ru {d dm e em : Dt} (h : DRW d dm e em) (hv : VB (wOf dm)) : RU (bk (wOf dm)) em := ⟨VB_congr (fun i _ h2 => h.2.2.2.2 0 i (by omega)) hv, h.bkq.symm⟩
theorem DRW.bc {d dm e em : Dt} {u : Nat → Int32} (h : DRW d dm e em) (hv : VB u) (hb : BK d 6 u) : BK e 6 u := BK_congr ⟨fun j => h.2.1 6 j (by omega), fun j hj i => h.2.2.1 _ i⟩ (fun _ _ _ => rfl) hv hb
def ATq (u : Nat → Int32) (x y : Int32) : Prop := (∃ q, VQ u q ∧ x = nI (cc u q) ∧ y = nI q) ∨ (∃ n, n < 2 ^ 19 ∧ n % 4 = 2 ∧ x = nI n ∧ y = -2)
theorem AT_nx {u : Nat → Int32} (hv : VB u) {bar : Int32} {g : Nat} {t : Int32} {h : Nat} (hg : g < bP u) (ht : NB t 256) (hh : h ≤ 9) : ATq u (nI (arrS u g (com u bar g t h))) (enc (arv u bar g t h)) := by
  cases e : arv u bar g t h with
  | none => exact .inr ⟨_, arrS_lt hv hg ht hh, arv_none e, rfl, rfl⟩
  | some q => exact .inl ⟨q, (arv_ok hv hg ht hh e).1, by rw [arv_some hv hg ht hh e], rfl⟩
def OUTb (x : Int32) (b : Bool) : Prop := ∃ v : Int32, (∀ L d, t_X3_fateOf L d x = some v) ∧ (v = 1 ↔ b = true)
theorem q_nm2 {u : Nat → Int32} (hv : VB u) {q : Nat} (hq : VQ u q) : ¬ nI q = -2 := fun z => by
  have := VQ_lt hv hq
  exact nI_pos (show q < 2 ^ 31 by omega) (by rw [z]; decide)
theorem rb_end {u : Nat → Int32} {dm : Dt} (h : RU u dm) {x y : Int32} (ha : ATq u x y) : ∃ b, OUTb x b ∧ t_X6_readsBlindly_111 LM y dm = some (if b = true then 1 else 0, dm) := by
  have hv := h.v
  unfold t_X6_readsBlindly_111
  rcases ha with ⟨q, hq, rfl, rfl⟩ | ⟨n, n1, n2, rfl, rfl⟩
  · rw [if_neg (q_nm2 hv hq), standsAt_q h hq, ob]
    rcases stq_cases hv hq with ⟨e1, e2⟩ | h'
    · refine ⟨true, ⟨1, fun L d => by rw [fateOf_q hv hq, if_pos e1], by decide⟩, ?_⟩
      rw [e2, if_pos (show nI 1 = 1 from rfl)]; rfl
    · have e1 : bE u (qp q) ≠ 1 := by rcases h' with z | z <;> exact z.1
      have e2 : ¬ nI (stq u q) = 1 := by rcases h' with z | z <;> (rw [z.2.1]; decide)
      refine ⟨false, ⟨0, fun L d => by rw [fateOf_q hv hq, if_neg e1], by decide⟩, ?_⟩
      rw [if_neg e2]; rfl
  · refine ⟨false, ⟨2, fun L d => by rw [fateOf_eq (by omega), n2]; rfl, by decide⟩, ?_⟩
    rw [if_pos rfl]; rfl
theorem rb_lp {L : Nat → Nat} {d dm : Dt} (hv : VB (wOf dm)) (hb : BK d 6 (bk (wOf dm))) (hl : LB L 6) (h15 : gF dm 0 15 = -1) (h16 : gF dm 0 16 = -1) : ∀ (n i F : Nat) (x y : Int32) (e em : Dt), i + n = 60 → n < F → ATq (bk (wOf dm)) x y → DRW d dm e em → ∃ x' e' em' b, lp (fun k x => t_X5_blindEnd_14 L (fun x1 x2 d => k (x1, x2, d)) x.1 x.2.1 x.2.2) F (x, nI i, e) = some (x', e') ∧ OUTb x' b ∧ lp (fun k x => t_X6_readsBlindly_15 LM (fun x1 x2 d => k (x1, x2, d)) x.1 x.2.1 x.2.2) F (y, nI i, em) = some (if b = true then 1 else 0, em') ∧ DRW d dm e' em' := by
  have hvu := bk_V hv
  have hP := hvu.P.2
  intro n
  induction n with
  | zero =>
    intro i F x y e em hi hF ha hd
    obtain ⟨F, rfl⟩ : ∃ G, F = G + 1 := ⟨F - 1, by omega⟩
    have le : (60 : Int32) ≤ nI i := nI_le (a := 60) (by omega) (by omega)
    obtain ⟨b, b1, b2⟩ := rb_end (hd.ru hv) ha
    refine ⟨x, e, em, b, ?_, b1, ?_, hd⟩
    · show t_X5_blindEnd_14 L (fun x1 x2 d => lp _ F (x1, x2, d)) x (nI i) e = _
      rw [t_X5_blindEnd_14, if_pos le]
    · show t_X6_readsBlindly_15 LM (fun x1 x2 d => lp _ F (x1, x2, d)) y (nI i) em = _
      rw [t_X6_readsBlindly_15, if_pos le, b2]
  | succ n ih =>
    intro i F x y e em hi hF ha hd
    obtain ⟨F, rfl⟩ : ∃ G, F = G + 1 := ⟨F - 1, by omega⟩
    have le : ¬ (60 : Int32) ≤ nI i := nI_ge (b := 60) (by omega) (by decide)
    have hr := hd.ru hv
    have hbe := hd.bc hvu hb
    obtain ⟨b, b1, b2⟩ := rb_end hr ha
    have m16 : ∀ em', DRW d dm e em' → gF em' 0 16 = -1 := fun em' h => (h.2.2.2.1 16 (by decide) (by decide)).trans h16
    show ∃ x' e' em' b, t_X5_blindEnd_14 L (fun x1 x2 d => lp _ F (x1, x2, d)) x (nI i) e = _ ∧ OUTb x' b ∧ t_X6_readsBlindly_15 LM (fun x1 x2 d => lp _ F (x1, x2, d)) y (nI i) em = _ ∧ _
    rw [t_X5_blindEnd_14, if_neg le, t_X6_readsBlindly_15, if_neg le]
    unfold t_X5_blindWay
    rcases ha with ⟨q, hq, rfl, rfl⟩ | ⟨n', n1, n2, rfl, rfl⟩
    · have hcc := cc_lt hvu hq
      have hfa := cc_fate (bk (wOf dm)) q
      rw [if_neg (q_nm2 hvu hq), standsAt_q hr hq, ob, isOver_eq (by omega), ob, hfa]
      by_cases e1 : bE (bk (wOf dm)) (qp q) = 1
      · have e2 : stq (bk (wOf dm)) q = 1 := by unfold stq; rw [if_pos e1]
        rw [e2, if_neg (show ¬ nI 1 = 0 by decide), if_pos e1, if_neg (show ¬ (1 : Nat) = 0 by decide), if_neg (show ¬ (1 : Int32) = 0 by decide), ob, if_pos rfl]
        exact ⟨_, e, em, b, rfl, b1, b2, hd⟩
      · have hgo := cc_going e1
        rw [if_neg e1, if_pos rfl, if_pos rfl, partOf_c hvu hq, ob, isRoll_eq hvu hbe hl hq.1, ob]
        obtain ⟨⟨j, j1, j2, j3⟩, _⟩ := id hd
        have hw : ∀ em', DRW d dm e em' → ∀ i, i < 800 → ((i < 2 ∨ 8 ≤ i) ∧ ¬ (152 ≤ i ∧ i < 176)) → wOf em' i = bk (wOf dm) i := fun em' h i h1 h2 => by
          rw [← h.bkq]; exact (bk_h8 _ i h1 h2).symm
        have hE := (hvu.2.2.2 _ hq.1).E
        -- on to part g, after the draw
        have onw : ∀ (c j' : Nat), j' < 2 ^ 31 → c < wys (bk (wOf dm)) (qp q) → ∃ x' e' em' b, (t_X0_goOn L (sF e 2 2 (nI j')) 6 (nI (cc (bk (wOf dm)) q)) (nI (gl (bk (wOf dm)) q c)) (-1)).bind (fun v5 => lp (fun k x => t_X5_blindEnd_14 L (fun x1 x2 d => k (x1, x2, d)) x.1 x.2.1 x.2.2) F (v5, nI (i + 1), sF e 2 2 (nI j'))) = some (x', e') ∧ OUTb x' b ∧ t_X6_readsBlindly_95 LM (fun x1 x2 d => lp (fun k x => t_X6_readsBlindly_15 LM (fun x1 x2 d => k (x1, x2, d)) x.1 x.2.1 x.2.2) F (x1, x2, d)) (nI q) (nI i) (nI c) (sA em 0 2 (nI j')) = some (if b = true then 1 else 0, em') ∧ DRW d dm e' em' := by
          intro c j' hj' hc
          have hd1 := hd.dr hj'
          have hgl := gl_eq hvu hq.1 hc
          obtain ⟨em1, s1, s2⟩ := wayTo_o (bar := -1) (hd1.ru hv) ((hd1.2.2.2.1 16 (by decide) (by decide)).trans h16) ((hd1.2.2.2.1 15 (by decide) (by decide)).trans h15) hq hc
          rw [goOn_c hvu (hd1.bc hvu hb) hl hq hgl.2, ob, t_X6_readsBlindly_95, s1, ob]
          dsimp only
          rw [nI_1]
          exact ih (i + 1) F _ _ _ _ (by omega) (by omega) (AT_nx hvu hgl.2 (qt_NB q) (qh_le q)) (hd1.nw s2)
        have nm1 : ∀ c, c < wys (bk (wOf dm)) (qp q) → ¬ nI (gl (bk (wOf dm)) q c) = -1 := fun c hc z => by
          have := (gl_eq hvu hq.1 hc).2
          exact nI_pos (show gl (bk (wOf dm)) q c < 2 ^ 31 by omega) (by rw [z]; decide)
        have e8 : gA em (32 * 0 + 0) (ix (nI (8 + qp q))) = nI (bE (bk (wOf dm)) (qp q)) := by
          have := hq.1
          rw [wg (by omega), hw em hd _ (by omega) (by omega)]; exact hE.1
        have hp24 := hq.1
        by_cases e3 : bE (bk (wOf dm)) (qp q) = 3
        · have e2 : stq (bk (wOf dm)) q = 0 := by unfold stq stn; rw [if_neg e1, if_pos e3]
          have hroll := (hvu.2.2.2 _ hq.1).2.2.2.2.1 e3
          have w2 := roll_wys e3
          have dc : t_X2_draw L e 2 6 = some (nI (drw j 6), sF e 2 2 (nI (nxt j))) := draw_c (m := 6) j2 j1 (by decide) (by decide)
          have dmm : t_X6_draw LM em 6 = some (nI (drw j 6), sA em 0 2 (nI (nxt j))) := draw_m (m := 6) j3 j1 (by decide) (by decide)
          have hjn := nxt_lt j
          have hd1 := hd.dr (j := nxt j) (by omega)
          obtain ⟨l2, l3, l4, l5, _⟩ := hl
          obtain ⟨_, _, _, b3, _⟩ := (hd1.bc hvu hb).2.2 _ hq.1
          obtain ⟨c3, c4, c5⟩ := b3 e3
          have g0 : gl (bk (wOf dm)) q 0 = ix (bk (wOf dm) (104 + qp q)) := by unfold gl gol; rw [if_pos e3, if_pos rfl]
          have g1 : gl (bk (wOf dm)) q 1 = ix (bk (wOf dm) (128 + qp q)) := by unfold gl gol; rw [if_pos e3, if_neg (by decide)]
          have i0 := (nb_ix hroll.2.2.1 (by omega)).1
          have i1 := (nb_ix hroll.2.2.2 (by omega)).1
          have e80 : gA (sA em 0 2 (nI (nxt j))) (32 * 0 + 0) (ix (nI (80 + qp q))) = bk (wOf dm) (80 + qp q) := by
            rw [wg (by omega), ← hd1.bkq]; exact (bk_h8 _ _ (by omega) (by omega)).symm
          unfold t_X0_rollTarget
          rw [e2, if_pos (show nI 0 = 0 from rfl), if_pos e3, if_neg (show ¬ (1 : Int32) = 0 by decide), ob, dc, ob, partOf_q (VQ_lt hvu hq), ob, LM0, show (8 : Int32) + nI (qp q) = nI (8 + qp q) from nI_add 8 _, gdi (show 8 + qp q < 4128 by omega) (by omega), e8, e3, if_pos (show nI 3 = 3 from rfl), dmm, ob, show (80 : Int32) + nI (qp q) = nI (80 + qp q) from nI_add 80 _]
          dsimp only
          rw [gdi (show 80 + qp q < 4128 by omega) (by omega), e80, isRoll_eq hvu (hd1.bc hvu hb) ⟨l2, l3, l4, l5, by assumption⟩ hq.1, if_pos e3, ob, if_neg (show ¬ (1 : Int32) = 0 by decide), l3, gdi (show qp q < 24 by omega) (by omega), ix_nI (by omega), c3]
          by_cases lt : nI (drw j 6) + 1 < bk (wOf dm) (80 + qp q)
          · rw [if_pos lt, if_pos lt, l5, gdi (show qp q < 24 by omega) (by omega), c5, i1, ← g1, ob, ob]
            dsimp only
            rw [if_neg (nm1 1 (by rw [w2]; decide)), nI_1]
            exact onw 1 (nxt j) (by omega) (by rw [w2]; decide)
          · rw [if_neg lt, if_neg lt, l4, gdi (show qp q < 24 by omega) (by omega), c4, i0, ← g0, ob, ob]
            dsimp only
            rw [if_neg (nm1 0 (by rw [w2]; decide)), nI_1]
            exact onw 0 (nxt j) (by omega) (by rw [w2]; decide)
        · have ew : wys (bk (wOf dm)) (qp q) = bC (bk (wOf dm)) (qp q) := by
            have := hq.2.2
            unfold wys
            rw [if_neg e3, if_pos (by omega)]
          have oc : t_X0_openChoices L e 6 (nI (cc (bk (wOf dm)) q)) = some (msk (bk (wOf dm)) (qp q) (qt q) (wys (bk (wOf dm)) (qp q)) 0 0) := by
            rw [hgo, ew]; exact openChoices_eq hvu hbe hl hq.1 (qt_NB q) (qh_le q)
          rw [if_neg e3, if_pos rfl, oc, ob]
          by_cases m0 : msk (bk (wOf dm)) (qp q) (qt q) (wys (bk (wOf dm)) (qp q)) 0 0 = 0
          · have e2 : stq (bk (wOf dm)) q = 3 := by unfold stq stn; rw [if_neg e1, if_neg e3, ← ew, if_pos m0]
            rw [e2, if_neg (show ¬ nI 3 = 0 by decide), if_pos m0, ob, if_pos rfl]
            exact ⟨_, e, em, b, rfl, b1, b2, hd⟩
          · have e2 : stq (bk (wOf dm)) q = 0 := by unfold stq stn; rw [if_neg e1, if_neg e3, ← ew, if_neg m0]
            have hw6 := wys_lt hvu hq.1
            have wop : ∀ c, wo (bk (wOf dm)) q c = opn (bk (wOf dm)) (qp q) (qt q) c := fun c => by
              unfold wo; rw [decide_eq_false e3, Bool.false_or]
            have mb := mk_bits (o := fun c => wo (bk (wOf dm)) q c) hw6
            have mm : msk (bk (wOf dm)) (qp q) (qt q) (wys (bk (wOf dm)) (qp q)) 0 0 = mkm (fun c => wo (bk (wOf dm)) q c) (wys (bk (wOf dm)) (qp q)) 0 0 := by
              rw [msk_mk]; exact ((mk_cg _ _ _ (fun x _ _ => wop x)).1).symm
            have hpos : 0 < cnt (fun c => wo (bk (wOf dm)) q c) (wys (bk (wOf dm)) (qp q)) 0 := by
              rcases msk_open _ _ _ m0 with z | ⟨x, _, x2, x3⟩
              · exact absurd rfl z
              · exact cnt_pos _ _ x (Nat.zero_le _) x2 (by rw [wop]; exact x3)
            have hle := cnt_le (fun c => wo (bk (wOf dm)) q c) (wys (bk (wOf dm)) (qp q)) 0
            have hjn := nxt_lt j
            have hd1 := hd.dr (j := nxt j) (by omega)
            have hlt : drw j (cnt (fun c => wo (bk (wOf dm)) q c) (wys (bk (wOf dm)) (qp q)) 0) < cnt (fun c => wo (bk (wOf dm)) q c) (wys (bk (wOf dm)) (qp q)) 0 := Nat.mod_lt _ hpos
            obtain ⟨c', k1, k2, k3, k4⟩ := nth_q (L := L) (d := sF e 2 2 (nI (nxt j))) (x0 := nI (drw j (cnt (fun c => wo (bk (wOf dm)) q c) (wys (bk (wOf dm)) (qp q)) 0))) (y := nI (drw j (cnt (fun c => wo (bk (wOf dm)) q c) (wys (bk (wOf dm)) (qp q)) 0))) (hd1.ru hv) hq (M := mkm (fun c => wo (bk (wOf dm)) q c) (wys (bk (wOf dm)) (qp q)) 0 0) mb.2 (wys (bk (wOf dm)) (qp q)) 0 FU _ (by omega) (by unfold FU; omega) hlt
            have nc : t_X5_nthOf L (sF e 2 2 (nI (nxt j))) (mkm (fun c => wo (bk (wOf dm)) q c) (wys (bk (wOf dm)) (qp q)) 0 0) (nI (drw j (cnt (fun c => wo (bk (wOf dm)) q c) (wys (bk (wOf dm)) (qp q)) 0))) = some (nI c') := k3
            have nmm : t_X6_nthOpen LM (sA em 0 2 (nI (nxt j))) (nI q) (nI (drw j (cnt (fun c => wo (bk (wOf dm)) q c) (wys (bk (wOf dm)) (qp q)) 0))) = some (nI c') := k4
            have n3 : ¬ nI (bE (bk (wOf dm)) (qp q)) = 3 := fun z => e3 (nI_inj (by omega) (by decide) z)
            rw [e2, if_pos (show nI 0 = 0 from rfl), if_neg m0, mm, bitCount_eq, ob, mb.1, draw_c j2 j1 hpos (by omega), ob, partOf_q (VQ_lt hvu hq), ob, LM0, show (8 : Int32) + nI (qp q) = nI (8 + qp q) from nI_add 8 _, gdi (show 8 + qp q < 4128 by omega) (by omega), e8, if_neg n3, manyOpen_q hr hq, ob, draw_m j3 j1 hpos (by omega), ob]
            dsimp only
            rw [nc, ob, nmm, ob, wayOut_c hvu (hd1.bc hvu hb) hl hq k1, if_pos k2, ob, ob]
            dsimp only
            rw [if_neg (nm1 c' k1), nI_1]
            exact onw c' (nxt j) (by omega) k1
    · rw [if_pos rfl, isOver_eq (by omega), ob, if_neg (show ¬ n' % 4 = 0 by omega), if_neg (show ¬ (1 : Int32) = 0 by decide), ob, if_pos rfl]
      exact ⟨_, e, em, b, rfl, b1, b2, hd⟩
theorem ok_blind : ST_blind RLx := by
  intro L d dm k n p1 h
  have hv := h.2.1.1
  have hb : BK d 6 (wOf dm) := h.2.1.2.1
  have hP := hv.P
  have hvu := bk_V hv
  have triv : ∀ v : Int32, ∃ (r : Int32) (d' dm' : Dt), some (v, d) = some (r, d') ∧ some (v, dm) = some (r, dm') ∧ RLx L d' dm' k n := fun v => ⟨v, d, dm, rfl, rfl, h⟩
  unfold t_X5_blind t_X6_blind
  rw [in_I, Int32.toInt_toInt64, show (1 : Int64).toInt = ((1 : Nat) : Int) from rfl, show (99 : Int64).toInt = ((99 : Nat) : Int) from rfl, ob]
  rcases cmp1 p1 1 99 1 99 rfl rfl with ⟨a, b⟩ | ⟨a, a2, b⟩ | ⟨a, a2, b, t, ht1, ht, rfl⟩
  · rw [if_pos a, if_neg b, if_pos rfl]; exact triv _
  · rw [if_neg a, if_neg a2, if_neg b, if_pos rfl]; exact triv _
  · rw [if_neg a, if_pos a2, if_pos b, if_neg (show ¬ (1 : Int32) = 0 by decide), LM0, gd_h (show inb 0 4128 = true by decide), show gA dm (32 * 0 + 0) (ix 0) = wOf dm 0 from rfl, hb.1, hP.1]
    by_cases z : bP (wOf dm) = 0
    · rw [z, if_pos (show nI 0 = 0 from rfl), if_pos (show nI 0 = 0 from rfl)]; exact triv _
    · have nz : ¬ nI (bP (wOf dm)) = 0 := nI_ne0 (by omega) (by omega)
      have h15 := h.2.2.2.2.2.2.2.2.1.1
      have h16 := h.2.2.2.2.2.2.2.2.1.2
      have hPu : bP (bk (wOf dm)) = bP (wOf dm) := bk_P _
      rw [if_neg nz, if_neg nz]
      -- one reading
      have one : ∀ e em, DRW d dm e em → ∃ x' e' em' b, t_X5_blindEnd L e = some (x', e') ∧ OUTb x' b ∧ t_X6_readsBlindly LM em = some (if b = true then 1 else 0, em') ∧ DRW d dm e' em' := by
        intro e em hd
        have hH := hvu.H
        have h1 : gA em (32 * 0 + 0) (ix 1) = nI (bH (bk (wOf dm))) := by
          rw [← hH.1, bk_h8 _ 1 (by omega) (by omega)]
          exact hd.2.2.2.2 0 1 (by omega)
        obtain ⟨em1, s1, s2⟩ := stateAt_q (hd.ru hv) (g := 0) (t := 0) (hh := bH (bk (wOf dm))) (by omega) ⟨0, by decide, rfl⟩ hH.2.2
        have s1' : t_X6_stateAt LM em 0 0 (nI (bH (bk (wOf dm)))) = some (enc (arv (bk (wOf dm)) (-1) 0 0 (bH (bk (wOf dm)))), em1) := by
          have := s1
          rw [(hd.2.2.2.1 15 (by decide) (by decide)).trans h15, (hd.2.2.2.1 16 (by decide) (by decide)).trans h16, if_neg (show ¬ nI 0 = -1 by decide)] at this
          exact this
        unfold t_X5_blindEnd t_X6_readsBlindly
        rw [beginning_eq hvu (hd.bc hvu h.bkk) h.lb (by omega), ob, LM0, gd_h (show inb 1 4128 = true by decide), h1, s1', ob]
        exact rb_lp hv h.bkk h.lb h15 h16 60 0 FU _ _ e em1 (by omega) (by unfold FU; omega) (AT_nx hvu (by omega) ⟨0, by decide, rfl⟩ hH.2.2) (hd.nw s2)
      obtain ⟨j0, hj0, ej0⟩ := nI_of (x := wOf dm 2) (fun q => by
        have q1 := Int32.lt_iff_toInt_lt.mp q
        have q2 := Int32.le_iff_toInt_le.mp h.2.1.2.2.2.1
        omega)
      have main : ∀ (m i F : Nat) (v : Int32) (e em : Dt), i + m = t → m < F → DRW d dm e em → ∃ r e' em', lp (fun k x => t_X5_blind_34 L (nI t) (fun x2 x3 d => k (x2, x3, d)) x.1 x.2.1 x.2.2) F (v, nI i, e) = some (r, e') ∧ lp (fun k x => t_X6_blind_31 LM (nI t) (fun x2 x3 d => k (x2, x3, d)) x.1 x.2.1 x.2.2) F (v, nI i, em) = some (r, em') ∧ DRW d dm e' em' := by
        intro m
        induction m with
        | zero =>
          intro i F v e em hi hF hd
          obtain ⟨F, rfl⟩ : ∃ G, F = G + 1 := ⟨F - 1, by omega⟩
          have le : nI t ≤ nI i := nI_le (by omega) (by omega)
          refine ⟨v, e, em, ?_, ?_, hd⟩
          · show t_X5_blind_34 L (nI t) (fun x2 x3 d => lp _ F (x2, x3, d)) v (nI i) e = _
            rw [t_X5_blind_34, if_pos le]
          · show t_X6_blind_31 LM (nI t) (fun x2 x3 d => lp _ F (x2, x3, d)) v (nI i) em = _
            rw [t_X6_blind_31, if_pos le]
        | succ m ih =>
          intro i F v e em hi hF hd
          obtain ⟨F, rfl⟩ : ∃ G, F = G + 1 := ⟨F - 1, by omega⟩
          have le : ¬ nI t ≤ nI i := nI_ge (by omega) (by omega)
          obtain ⟨x', e', em', b', o1, ⟨v', o2, o3⟩, o4, o5⟩ := one e em hd
          show ∃ r e' em', t_X5_blind_34 L (nI t) (fun x2 x3 d => lp _ F (x2, x3, d)) v (nI i) e = _ ∧ t_X6_blind_31 LM (nI t) (fun x2 x3 d => lp _ F (x2, x3, d)) v (nI i) em = _ ∧ _
          rw [t_X5_blind_34, if_neg le, o1, ob, t_X6_blind_31, if_neg le, o4, ob]
          dsimp only
          rw [o2, ob]
          cases b' with
          | true =>
            rw [if_pos (o3.mpr rfl), if_pos rfl, t_X6_one, if_neg (by decide), ob, bd_q, t_X5_blind_53, nI_1]
            exact ih (i + 1) F _ e' em' (by omega) (by omega) o5
          | false =>
            rw [if_neg (fun z => absurd (o3.mp z) (by decide)), if_neg (by decide), t_X6_one, if_pos rfl, ob, bd_q, t_X5_blind_53, nI_1, Int32.add_zero]
            exact ih (i + 1) F _ e' em' (by omega) (by omega) o5
      obtain ⟨r, e', em', m1, m2, m3⟩ := main t 0 FU 0 d dm (by omega) (by unfold FU; omega) ⟨⟨j0, hj0, h.2.1.2.2.1.trans ej0, ej0⟩, fun _ _ _ => rfl, fun _ _ => rfl, fun _ _ _ => rfl, fun _ _ _ => rfl⟩
      obtain ⟨⟨j, j1, j2, j3⟩, q1, q2, q3, q4⟩ := m3
      have ag : ∀ o, o ≠ 2 → AG d e' o := fun o ho => ⟨fun i => q1 o i (fun y => ho y.1), fun i _ x => q2 _ x⟩
      refine ⟨r, e', em', m1, m2, h.wr (SI_num h.2.1 (fun i _ h2 _ => q4 0 i (fun y => h2 y.2)) (ag 6 (by decide)) (fun i hi => q1 2 i (fun y => hi y.2)) (fun i x _ _ _ => q2 _ x) (j2.trans j3.symm) ?_ (fun p hp => ?_)) ag ⟨q3, fun a i hx => q4 a i (by omega)⟩⟩
      · show 0 ≤ gA em' 0 2
        rw [j3]; exact nI_pos' j1
      · rw [q2, h.2.1.2.2.2.2.1 p hp]
        have := hP.2
        exact (q4 0 (152 + p) (by omega)).symm
