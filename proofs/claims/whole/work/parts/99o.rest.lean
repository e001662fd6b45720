/-! ===== what follows a part's effects ===== -/
theorem endByRoll_q {L : Nat → Nat} {d : Dt} {p : Nat} (hl : LB L 5) (h0 : gF d 5 0 = nI (p + 1)) (hp : p < 24) (x y z : Int32) : t_X0_endByRoll L d 5 (nI p) x y z = some (sA (sA (sA (sA d (32 * 5 + 2) p 3) (32 * 5 + 3) p x) (32 * 5 + 4) p y) (32 * 5 + 5) p z) := by
  obtain ⟨l2, l3, l4, l5, _⟩ := hl
  unfold t_X0_endByRoll
  rw [hp5 h0 hp, ob, if_neg (show ¬ (1 : Int32) = 0 by decide), l2, gdi hp (by omega), bd_q, l3, gdi hp (by omega), bd_q, l4, gdi hp (by omega), bd_q, l5, gdi hp (by omega), bd_q, ix_nI (by omega)]
theorem FU1 : ∃ G, FU = G + 1 := ⟨FU - 1, by unfold FU; omega⟩
theorem rc_bad {L : Nat → Nat} {d0 dm0 e em : Dt} {p : Nat} (hb : BDs d0 dm0 e em) : t_X1_readChoices L e (nI p) = some e := by
  obtain ⟨F, hF⟩ := FU1
  obtain ⟨_, _, t, t1, t2, t3, t4, t5⟩ := hb
  unfold t_X1_readChoices
  rw [hF]
  show t_X1_readChoices_2 L (nI p) (fun x2 d => lp _ F (x2, d)) 0 e = _
  rw [t_X1_readChoices_2, if_neg (by decide), t3, if_neg (nI_ne0 (by omega) (by omega))]
theorem rc_end {L : Nat → Nat} {e : Dt} {p : Nat} (hl : LB L 5) (hp : p < 24) (h5 : gF e 1 5 = 0) (h2 : ¬ gA e (32 * 5 + 2) p = 0) : t_X1_readChoices L e (nI p) = some e := by
  obtain ⟨F, hF⟩ := FU1
  unfold t_X1_readChoices
  rw [hF]
  show t_X1_readChoices_2 L (nI p) (fun x2 d => lp _ F (x2, d)) 0 e = _
  rw [t_X1_readChoices_2, if_neg (by decide), if_pos h5, hl.1, gdi hp (by omega), ix_nI (by omega), if_neg h2]
theorem target_bad {L : Nat → Nat} {d0 dm0 e em : Dt} (hb : BDs d0 dm0 e em) : t_X1_readTarget L e = some (0, e) := by
  obtain ⟨_, _, t, t1, t2, t3, t4, t5⟩ := hb
  unfold t_X1_readTarget t_X1_readNumber
  rw [bd_q, t3, if_neg (nI_ne0 (by omega) (by omega)), ob]
  dsimp only
  rw [t3, if_neg (nI_ne0 (by omega) (by omega))]
/-- the reference, behind the effects -/
def RST (p : Nat) (dm : Dt) : Option Dt := if (gF dm 0 8) = 0 then (t_X6_isWord LM dm 3 119 105 110 0 0).bind (fun v10 => if v10 = 0 then t_X6_takePart_81 LM (nI p) dm else gd (inb (8 + nI p) (LM (32 * 0 + 2))) (bd (sA dm (32 * 0 + 2) (ix (8 + nI p)) 1) (fun d13 => some d13))) else t_X6_takePart_81 LM (nI p) dm
theorem rest_bad {L : Nat → Nat} {d0 dm0 e em : Dt} {p : Nat} (hb : BDs d0 dm0 e em) : t_X1_readEnd L e (nI p) = some e ∧ RST p em = some em := by
  obtain ⟨F, hF⟩ := FU1
  obtain ⟨_, _, t, t1, t2, t3, t4, t5⟩ := hb
  have nz : ¬ nI t = 0 := nI_ne0 (by omega) (by omega)
  refine ⟨?_, ?_⟩
  · unfold t_X1_readEnd
    rw [t3, if_neg nz]
  · unfold RST
    rw [t4, if_neg nz, t_X6_takePart_81, t4, if_neg nz, t_X6_takePart_117, t4, if_neg nz, t_X6_takePart_219, t_X6_takeChoices, hF]
    have : lp (fun k x => t_X6_takeChoices_0 LM (nI p) (fun d => k d) x) (F + 1) em = some em := by
      show t_X6_takeChoices_0 LM (nI p) (fun d => lp _ F d) em = _
      rw [t_X6_takeChoices_0, t4, if_neg nz, t_X6_takeChoices_241, t4, if_neg nz]
    rw [this, ob]
theorem rest_q {n : Nat} {T : Nat → Nat} {L : Nat → Nat} {d0 dm0 d dm : Dt} {g p a : Nat} (hl : LB L 5) (l7 : L (32 * 1 + 7) = 144) (l8 : L (32 * 1 + 8) = 144) (hc0 : TFc n T L d0) (hm0 : TFm n T dm0) (p24 : p < 24) (hi : INP d0 dm0 d dm g p) (hC : bC (rdm dm) p = 0) (hw : WPS n T d dm a) : ∃ d6 d7 dm', t_X1_readEnd L d (nI p) = some d6 ∧ t_X1_readChoices L d6 (nI p) = some d7 ∧ RST p dm = some dm' ∧ ((∃ g' c', a ≤ c' ∧ GCs d0 dm0 d7 dm' g' ∧ bP (rdm dm') = p + 1 ∧ g' ≤ 6 * (p + 1) ∧ PSc n T L d7 dm' c') ∨ BDs d0 dm0 d7 dm') := by
  have n6 := hc0.1
  have hG := hi.1
  obtain ⟨a1, a2, a3, a4, a5, a6, a7, a8, a9, a10, a11⟩ := id hG
  obtain ⟨w1, w2, w3, w4, w5, w6⟩ := id hw
  have tc := hc0.p a1
  have tm := hm0.p a2
  have hwl := wln_le (T := T) w4
  have b0 : gF d 5 0 = nI (p + 1) := by
    rw [a7.1, ← hi.2.1]; exact (nb_ix a7.2.2.1 (by decide)).1
  have hgb := hi.2.2.2
  rw [hC] at hgb
  have i8 : (8 : Int32) + nI p = nI (8 + p) := nI_add 8 p
  -- a word, and no more
  have plain : ∀ (E s : Nat), 1 ≤ E → E ≤ 2 → wln n T a = slen.getD s 0 → ∃ d1, t_X1_pass L d (nI (slen.getD s 0)) = some d1 ∧ t_X1_readChoices L (sA d1 (32 * 5 + 2) p (nI E)) (nI p) = some (sA d1 (32 * 5 + 2) p (nI E)) ∧ ((∃ g' c', a ≤ c' ∧ GCs d0 dm0 (sA d1 (32 * 5 + 2) p (nI E)) (sA dm (32 * 0 + 2) (8 + p) (nI E)) g' ∧ bP (rdm (sA dm (32 * 0 + 2) (8 + p) (nI E))) = p + 1 ∧ g' ≤ 6 * (p + 1) ∧ PSc n T L (sA d1 (32 * 5 + 2) p (nI E)) (sA dm (32 * 0 + 2) (8 + p) (nI E)) c') ∨ BDs d0 dm0 (sA d1 (32 * 5 + 2) p (nI E)) (sA dm (32 * 0 + 2) (8 + p) (nI E))) := by
    intro E s hE1 hE2 es
    obtain ⟨d1, p1, p2, p3⟩ := pass_q tc w2 hwl
    refine ⟨d1, by rw [← es]; exact p1, ?_, ?_⟩
    · exact rc_end hl p24 ((p3.1 1 5 (by omega)).trans a3) (by rw [gA_sAi, if_pos ⟨rfl, rfl⟩]; exact nI_ne0 (by omega) (by omega))
    · have u := end_upd (nd := 0) (x := 0) (y := 0) (E := E) (g' := g) (d' := sA d1 (32 * 5 + 2) p (nI E)) (dm' := sA dm (32 * 0 + 2) (8 + p) (nI E)) hi hC hE1 (by omega) (fun o j hj => p3.1 o j (by omega)) (fun x i h1 h2 h3 => by rw [gA_sAi, if_neg (by omega)]; exact p3.2 x i) (by rw [gA_sAi, if_pos ⟨rfl, rfl⟩]) (fun z => by omega) (fun _ _ _ _ _ => rfl) (fun x i h1 _ _ => by rw [gA_sAi, if_neg (by omega)]) (fun i h1 _ _ _ => by show gA (sA dm (32 * 0 + 2) (8 + p) (nI E)) (32 * 0 + 2) i = _; rw [gA_sAi, if_neg (fun z => h1 z.2)]; rfl) (by show gA (sA dm (32 * 0 + 2) (8 + p) (nI E)) (32 * 0 + 2) (8 + p) = _; rw [gA_sAi, if_pos ⟨rfl, rfl⟩]) (fun z => by omega) (by
        obtain ⟨g1, g2, g3, g4⟩ := a9.k p3 (KMu.rf dm)
        refine ⟨g1, g2, g3, fun i hi => ?_⟩
        rw [gA_sAi, if_neg (by omega), gA_sAi, if_neg (by omega), gA_sAi, if_neg (by omega), gA_sAi, if_neg (by omega)]
        exact g4 i hi) (Nat.le_refl _) (fun i _ => by rw [gA_sAi, if_neg (by omega)])
      exact .inl ⟨g, a + wln n T a, by omega, u.1, u.2, by omega, ⟨hc0.p u.1.1, hm0.p u.1.2.1, u.1.2.2.1, u.1.2.2.2.1, hwl, w3, p2⟩⟩
  have hlen : ∀ s, t_J0_length_8abf5 L d s = some (nI (slen.getD s 0)) := fun _ => rfl
  unfold t_X1_readEnd RST
  rw [if_pos a3, if_pos a4, isWord_c tc (by decide) w2 w4, ob, bI_if, w_win tm ⟨w4, w5, w6⟩, ob, bI_if]
  by_cases x6 : wd n T a 6 = true
  · obtain ⟨d1, q1, q2, q3⟩ := plain 1 6 (by decide) (by decide) (of_decide_eq_true x6).1
    rw [if_pos x6, if_pos x6, hlen, ob, q1, ob, hl.1, gdi p24 (by omega), bd_q, ix_nI (by omega), i8, LM2, gdi (show 8 + p < 1376 by omega) (by omega), bd_q, ix_nI (by omega)]
    exact ⟨_, _, _, rfl, q2, rfl, q3⟩
  · rw [if_neg x6, if_neg x6, isWord_c tc (by decide) w2 w4, ob, bI_if, t_X6_takePart_81, if_pos a4, w_die tm ⟨w4, w5, w6⟩, ob, bI_if]
    by_cases x7 : wd n T a 7 = true
    · obtain ⟨d1, q1, q2, q3⟩ := plain 2 7 (by decide) (by decide) (of_decide_eq_true x7).1
      rw [if_pos x7, if_pos x7, hlen, ob, q1, ob, hl.1, gdi p24 (by omega), bd_q, ix_nI (by omega), i8, LM2, gdi (show 8 + p < 1376 by omega) (by omega), bd_q, ix_nI (by omega)]
      exact ⟨_, _, _, rfl, q2, rfl, q3⟩
    · rw [if_neg x7, if_neg x7, isWord_c tc (by decide) w2 w4, ob, bI_if, t_X6_takePart_117, if_pos a4, w_roll tm ⟨w4, w5, w6⟩, ob, bI_if]
      by_cases x8 : wd n T a 8 = true
      · have es := (of_decide_eq_true x8).1
        obtain ⟨d1, p1, p2, p3⟩ := pass_q tc w2 hwl
        have p1' : t_X1_pass L d (nI (slen.getD 8 0)) = some d1 := by rw [← es]; exact p1
        rw [if_pos x8, if_pos x8, hlen, ob, p1', ob, i8, LM2, gdi (show 8 + p < 1376 by omega) (by omega), bd_q, ix_nI (by omega)]
        have tm1 : TFm n T (sA dm (32 * 0 + 2) (8 + p) 3) := ⟨tm.1, tm.2.1, fun i hi => ⟨(tm.2.2 i hi).1, by rw [gA_sAi, if_neg (by omega)]; exact (tm.2.2 i hi).2⟩⟩
        have pm1 : PFm dm0 (sA dm (32 * 0 + 2) (8 + p) 3) := a2.st (fun _ _ => rfl) (fun x i h => by rw [gA_sAi, if_neg (fun z => h.1 z.1)])
        have hps : PSc n T L d1 (sA dm (32 * 0 + 2) (8 + p) 3) (a + wln n T a) := ⟨tc.k p3, tm1, (p3.1 1 5 (by omega)).trans a3, a4, hwl, w3, p2⟩
        have pc1 := a1.k p3
        have i80 : (80 : Int32) + nI p = nI (80 + p) := nI_add 80 p
        have i104 : (104 : Int32) + nI p = nI (104 + p) := nI_add 104 p
        have i128 : (128 : Int32) + nI p = nI (128 + p) := nI_add 128 p
        -- class, in trouble
        have bc : ∀ (e em : Dt) (x y z : Int32), BDs d0 dm0 e em → gF e 5 0 = nI (p + 1) → ∃ d6, (t_X0_endByRoll L e 5 (nI p) x y z).bind (fun d13 => some d13) = some d6 ∧ t_X1_readChoices L d6 (nI p) = some d6 ∧ BDs d0 dm0 d6 em := by
          intro e em x y z hb h0
          rw [endByRoll_q hl h0 p24, ob]
          have hb' : BDs d0 dm0 (sA (sA (sA (sA e (32 * 5 + 2) p 3) (32 * 5 + 3) p x) (32 * 5 + 4) p y) (32 * 5 + 5) p z) em := hb.st (fun _ _ _ => rfl) (fun a i _ h => by rw [gA_sAi, if_neg (by omega), gA_sAi, if_neg (by omega), gA_sAi, if_neg (by omega), gA_sAi, if_neg (by omega)]) (fun _ => rfl) (fun _ _ _ => rfl)
          exact ⟨_, rfl, rc_bad hb', hb'⟩
        have w2b : ∀ (e em : Dt) (i : Nat) (v : Int32), BDs d0 dm0 e em → BDs d0 dm0 e (sA em (32 * 0 + 2) i v) := fun e em i v hb => hb.st (fun _ _ _ => rfl) (fun _ _ _ _ => rfl) (fun _ => rfl) (fun a i h => by rw [gA_sAi, if_neg (by omega)])
        have bz : ∀ (e em : Dt), BDs d0 dm0 e em → ¬ gF em 0 8 = 0 := fun e em ⟨_, _, t, t1, t2, _, t4, _⟩ => by rw [t4]; exact nI_ne0 (by omega) (by omega)
        have b190 : ∀ (e em : Dt) (v : Int32), BDs d0 dm0 e em → ∃ em', t_X6_takePart_190 LM (nI p) v (nI (104 + p)) em = some em' ∧ BDs d0 dm0 e em' := by
          intro e em v hb
          have hb1 := w2b e em (104 + p) v hb
          rw [t_X6_takePart_190, LM2, gdi (show 104 + p < 1376 by omega) (by omega), bd_q, ix_nI (by omega), if_neg (bz _ _ hb1), i128, t_X6_takePart_215, LM2, gdi (show 128 + p < 1376 by omega) (by omega), bd_q]
          exact ⟨_, rfl, w2b _ _ _ _ hb1⟩
        rcases number_q (lo := 2) (hi := 6) hps (by decide) (by decide) with ⟨v, d2, dm2, c2, v1, v2, r1, r2, k1, k2, s6, cc2, hp2⟩ | ⟨t, xx, dm1, t1, t2, r1, r2, kk⟩
        · have r1' : t_X1_readNumber L d1 2 6 = some (nI v, d2) := r1
          have r2' : t_X6_takeNumber LM (sA dm (32 * 0 + 2) (8 + p) 3) 2 6 = some (nI v, dm2) := r2
          have kc2 := p3.tr k1
          have gl2 : GLS d2 (sA dm2 (32 * 0 + 2) (80 + p) (nI v)) g := GLS_2 ((GLS_2 (a9.k p3 (KMu.rf dm))).k k1 k2)
          have ps2 : PSc n T L d2 (sA dm2 (32 * 0 + 2) (80 + p) (nI v)) c2 := ⟨hp2.1, ⟨hp2.2.1.1, hp2.2.1.2.1, fun i hi => ⟨(hp2.2.1.2.2 i hi).1, by rw [gA_sAi, if_neg (by omega)]; exact (hp2.2.1.2.2 i hi).2⟩⟩, hp2.2.2.1, hp2.2.2.2.1, hp2.2.2.2.2.1, hp2.2.2.2.2.2.1, hp2.2.2.2.2.2.2⟩
          have pm2 : PFm dm0 (sA dm2 (32 * 0 + 2) (80 + p) (nI v)) := (pm1.k k2).st (fun _ _ => rfl) (fun x i h => by rw [gA_sAi, if_neg (fun z => h.1 z.1)])
          rw [r1', ob, r2', ob]
          dsimp only
          rw [i80, gdi (show 80 + p < 1376 by omega) (by omega), bd_q, ix_nI (by omega), if_pos (show gF (sA dm2 (32 * 0 + 2) (80 + p) (nI v)) 0 8 = 0 from hp2.2.2.2.1), i104]
          rcases goal_q (g := g) ps2 gl2 (by omega) l7 l8 with ⟨x, d3, dm3, c3, x24, y1, y2, kg3, km3, cc3, hp3, gl3, gg3, pre3⟩ | ⟨t, xx, dm1, t1, t2, y1, y2, kk⟩
          · have gl3' : GLS d3 (sA dm3 (32 * 0 + 2) (104 + p) (nI x)) (g + 1) := GLS_2 gl3
            have ps3 : PSc n T L d3 (sA dm3 (32 * 0 + 2) (104 + p) (nI x)) c3 := ⟨hp3.1, ⟨hp3.2.1.1, hp3.2.1.2.1, fun i hi => ⟨(hp3.2.1.2.2 i hi).1, by rw [gA_sAi, if_neg (by omega)]; exact (hp3.2.1.2.2 i hi).2⟩⟩, hp3.2.2.1, hp3.2.2.2.1, hp3.2.2.2.2.1, hp3.2.2.2.2.2.1, hp3.2.2.2.2.2.2⟩
            have pc3 : PFc d0 d3 := (pc1.k k1).st (fun o j _ h1 => kg3.1 o j (fun z => by have := h1 z.1; omega)) (fun x i h1 _ => kg3.2 x i (by omega) (by omega))
            have pm3 : PFm dm0 (sA dm3 (32 * 0 + 2) (104 + p) (nI x)) := (pm2.st (fun j hj => km3.1 j hj.1 hj.2.1 hj.2.2.1 hj.2.2.2.2.2.2) (fun a i h => km3.2 a i h.2.1 h.2.2)).st (fun _ _ => rfl) (fun x i h => by rw [gA_sAi, if_neg (fun z => h.1 z.1)])
            have z0 : gF d3 5 0 = nI (p + 1) := (kg3.1 5 0 (by omega)).trans ((kc2.1 5 0 (by omega)).trans b0)
            rw [y1, ob, y2, ob]
            dsimp only
            rw [t_X6_takePart_190, LM2, gdi (show 104 + p < 1376 by omega) (by omega), bd_q, ix_nI (by omega), if_pos (show gF (sA dm3 (32 * 0 + 2) (104 + p) (nI x)) 0 8 = 0 from hp3.2.2.2.1), i128]
            rcases goal_q (g := g + 1) ps3 gl3' (by omega) l7 l8 with ⟨y, d4, dm4, c4, y24, u1, u2, kg4, km4, cc4, hp4, gl4, gg4, pre4⟩ | ⟨t, xx, dm1, t1, t2, u1, u2, kk⟩
            · have z4 : gF d4 5 0 = nI (p + 1) := (kg4.1 5 0 (by omega)).trans z0
              rw [u1, ob, u2, ob]
              dsimp only
              rw [endByRoll_q hl z4 p24, ob, t_X6_takePart_215, LM2, gdi (show 128 + p < 1376 by omega) (by omega), bd_q, ix_nI (by omega)]
              -- rows of the reference at the end
              have rr : ∀ i, rdm (sA dm4 (32 * 0 + 2) (128 + p) (nI y)) i = if i = 128 + p then nI y else if i = 104 + p then nI x else if i = 80 + p then nI v else if i = 8 + p then 3 else rdm dm i := fun i => by
                show gA (sA dm4 (32 * 0 + 2) (128 + p) (nI y)) (32 * 0 + 2) i = _
                rw [gA_sAi]
                by_cases e1 : i = 128 + p
                · rw [if_pos ⟨rfl, e1⟩, if_pos e1]
                · rw [if_neg (fun z => e1 z.2), if_neg e1, km4.2 _ i (by decide) (by decide), gA_sAi]
                  by_cases e2 : i = 104 + p
                  · rw [if_pos ⟨rfl, e2⟩, if_pos e2]
                  · rw [if_neg (fun z => e2 z.2), if_neg e2, km3.2 _ i (by decide) (by decide), gA_sAi]
                    by_cases e3 : i = 80 + p
                    · rw [if_pos ⟨rfl, e3⟩, if_pos e3]
                    · rw [if_neg (fun z => e3 z.2), if_neg e3, k2.2, gA_sAi]
                      by_cases e4 : i = 8 + p
                      · rw [if_pos ⟨rfl, e4⟩, if_pos e4]
                      · rw [if_neg (fun z => e4 z.2), if_neg e4]; rfl
              have gp : ∀ i, i < g → gA dm4 (32 * 0 + 12) i = gA dm (32 * 0 + 12) i := fun i hi => by
                rw [pre4 i (by omega), gA_sAi, if_neg (by omega), pre3 i hi, gA_sAi, if_neg (by omega), k2.2, gA_sAi, if_neg (by omega)]
              have u := end_upd (nd := v) (x := x) (y := y) (E := 3) (g' := g + 2) (d' := sA (sA (sA (sA d4 (32 * 5 + 2) p 3) (32 * 5 + 3) p (nI v)) (32 * 5 + 4) p (nI x)) (32 * 5 + 5) p (nI y)) (dm' := sA dm4 (32 * 0 + 2) (128 + p) (nI y)) hi hC (by decide) (by decide) (fun o j hj => (kg4.1 o j hj).trans ((kg3.1 o j hj).trans (kc2.1 o j (by omega)))) (fun a i h1 h2 h3 => by
                rw [gA_sAi, if_neg (by omega), gA_sAi, if_neg (by omega), gA_sAi, if_neg (by omega), gA_sAi, if_neg (by omega), kg4.2 a i h1 h2, kg3.2 a i h1 h2]; exact kc2.2 a i) (by
                rw [gA_sAi, if_neg (by omega), gA_sAi, if_neg (by omega), gA_sAi, if_neg (by omega), gA_sAi, if_pos ⟨rfl, rfl⟩]; rfl) (fun _ => ⟨by
                rw [gA_sAi, if_neg (by omega), gA_sAi, if_neg (by omega), gA_sAi, if_pos ⟨rfl, rfl⟩], by
                rw [gA_sAi, if_neg (by omega), gA_sAi, if_pos ⟨rfl, rfl⟩], by rw [gA_sAi, if_pos ⟨rfl, rfl⟩]⟩) (fun j h1 h2 h3 h4 => (km4.1 j h1 h2 h3 h4).trans ((km3.1 j h1 h2 h3 h4).trans (k2.1 j h1 h2 h3))) (fun a i h1 h2 h3 => by
                rw [gA_sAi, if_neg (by omega), km4.2 a i h2 h3, gA_sAi, if_neg (by omega), km3.2 a i h2 h3, gA_sAi, if_neg (by omega), k2.2, gA_sAi, if_neg (by omega)]) (fun i h1 h2 h3 h4 => by rw [rr, if_neg h4, if_neg h3, if_neg h2, if_neg h1]) (by
                rw [rr, if_neg (by omega), if_neg (by omega), if_neg (by omega), if_pos rfl]; rfl) (fun _ => ⟨⟨by rw [rr, if_neg (by omega), if_neg (by omega), if_pos rfl], by rw [rr, if_neg (by omega), if_pos rfl], by rw [rr, if_pos rfl]⟩, ⟨v1, v2⟩, ⟨x24, y24⟩, ⟨g, by omega, by
                rw [gA_sAi, if_neg (by omega), pre4 g (by omega), gA_sAi, if_neg (by omega)]; exact gg3⟩, ⟨g + 1, by omega, by rw [gA_sAi, if_neg (by omega)]; exact gg4⟩⟩) (by
                obtain ⟨g1, g2, g3, g4⟩ := gl4
                refine ⟨g1, g2, g3, fun i hi => ?_⟩
                have := g4 i hi
                simp only [gA_sAi]
                rw [if_neg (by omega), if_neg (by omega), if_neg (by omega), if_neg (by omega), if_neg (by omega), if_neg (by omega), if_neg (by omega), if_neg (by omega), if_neg (by omega), if_neg (by omega)]
                exact this) (by omega) (fun i hi => by rw [gA_sAi, if_neg (by omega)]; exact gp i hi)
              refine ⟨_, _, _, rfl, rc_end hl p24 u.1.2.2.1 (by rw [gA_sAi, if_neg (by omega), gA_sAi, if_neg (by omega), gA_sAi, if_neg (by omega), gA_sAi, if_pos ⟨rfl, rfl⟩]; decide), rfl, .inl ⟨g + 2, c4, by omega, u.1, u.2, by omega, ⟨hc0.p u.1.1, hm0.p u.1.2.1, u.1.2.2.1, u.1.2.2.2.1, hp4.2.2.2.2.1, hp4.2.2.2.2.2.1, hp4.2.2.2.2.2.2⟩⟩⟩
            · have hb0 : BDs d0 dm0 (sF (sF d3 1 5 (nI t)) 1 2 (nI (skp n T c3))) (sF (sF dm1 0 8 (nI t)) 0 9 (nI (skp n T c3))) := BDs.mk0 pc3 pm3 kk t1 (by omega)
              rw [u1, ob, u2, ob]
              dsimp only
              rw [t_X6_takePart_215, LM2, gdi (show 128 + p < 1376 by omega) (by omega), bd_q]
              obtain ⟨d6, h1, h2, h3⟩ := bc _ _ (nI v) (nI x) (nI 0) (w2b _ _ (ix (nI (128 + p))) xx hb0) (by rw [gF_sFn (by omega), gF_sFn (by omega)]; exact z0)
              exact ⟨d6, d6, _, h1, h2, rfl, .inr h3⟩
          · have hb0 : BDs d0 dm0 (sF (sF d2 1 5 (nI t)) 1 2 (nI (skp n T c2))) (sF (sF dm1 0 8 (nI t)) 0 9 (nI (skp n T c2))) := BDs.mk0 (pc1.k k1) pm2 kk t1 (by omega)
            obtain ⟨em', e1, e2⟩ := b190 _ _ xx hb0
            rw [y1, ob, y2, ob]
            dsimp only
            rw [target_bad hb0, ob]
            dsimp only
            obtain ⟨d6, h1, h2, h3⟩ := bc _ _ (nI v) (nI 0) 0 e2 (by rw [gF_sFn (by omega), gF_sFn (by omega)]; exact (kc2.1 5 0 (by omega)).trans b0)
            exact ⟨d6, d6, _, h1, h2, e1, .inr h3⟩
        · have r1' : t_X1_readNumber L d1 2 6 = some (nI 2, sF (sF d1 1 5 (nI t)) 1 2 (nI (skp n T (a + wln n T a)))) := r1
          have r2' : t_X6_takeNumber LM (sA dm (32 * 0 + 2) (8 + p) 3) 2 6 = some (xx, sF (sF dm1 0 8 (nI t)) 0 9 (nI (skp n T (a + wln n T a)))) := r2
          have hb0 : BDs d0 dm0 (sF (sF d1 1 5 (nI t)) 1 2 (nI (skp n T (a + wln n T a)))) (sF (sF dm1 0 8 (nI t)) 0 9 (nI (skp n T (a + wln n T a)))) := BDs.mk0 pc1 pm1 kk t1 (by omega)
          have hb1 := w2b _ _ (80 + p) xx hb0
          obtain ⟨em', e1, e2⟩ := b190 _ _ 0 hb1
          rw [r1', ob, r2', ob]
          dsimp only
          rw [target_bad hb0, ob]
          dsimp only
          rw [target_bad hb0, ob, i80, gdi (show 80 + p < 1376 by omega) (by omega), bd_q, ix_nI (by omega), if_neg (bz _ _ hb1), i104]
          dsimp only
          obtain ⟨d6, h1, h2, h3⟩ := bc _ _ (nI 2) 0 0 e2 (by rw [gF_sFn (by omega), gF_sFn (by omega)]; exact (p3.1 5 0 (by omega)).trans b0)
          exact ⟨d6, d6, _, h1, h2, e1, .inr h3⟩
      · rw [if_neg x8, if_neg x8, t_X6_takePart_219]
        obtain ⟨d', dm', y1, y2, y3⟩ := ch_lp hl l7 l8 hc0 hm0 p24 7 0 FU a g d dm (by omega) (by unfold FU; omega) hi hC hw
        have y2' : t_X6_takeChoices LM dm (nI p) = some dm' := y2
        rw [y2', ob]
        exact ⟨d, d', dm', rfl, y1, rfl, y3⟩
