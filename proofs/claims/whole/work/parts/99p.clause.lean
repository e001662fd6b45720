/-! ===== clauses ===== -/
def OKs (n : Nat) (T : Nat → Nat) (L : Nat → Nat) (d0 dm0 d dm : Dt) (c0 : Nat) : Prop := (∃ g c, c0 < c ∧ GCs d0 dm0 d dm g ∧ g ≤ 6 * bP (rdm dm) ∧ PSc n T L d dm c) ∨ BDs d0 dm0 d dm
theorem close_bad {L : Nat → Nat} {d0 dm0 e em : Dt} (hb : BDs d0 dm0 e em) : t_X1_closeClause L e = some e ∧ t_X6_takeClause_117 LM em = some em := by
  obtain ⟨_, _, t, t1, t2, t3, t4, t5⟩ := hb
  have nz : ¬ nI t = 0 := nI_ne0 (by omega) (by omega)
  unfold t_X1_closeClause t_X6_takeClause_117
  rw [t3, if_neg nz, t4, if_neg nz]
  exact ⟨rfl, rfl⟩
theorem close_q {n c g : Nat} {T : Nat → Nat} {L : Nat → Nat} {d0 dm0 d dm : Dt} (hG : GCs d0 dm0 d dm g) (hg : g ≤ 6 * bP (rdm dm)) (h : PSc n T L d dm c) : ∃ d' dm', t_X1_closeClause L d = some d' ∧ t_X6_takeClause_117 LM dm = some dm' ∧ OKs n T L d0 dm0 d' dm' c := by
  obtain ⟨hc, hm, h5, h8, hcn, hm5, h4⟩ := h
  have n6 := hc.1
  obtain ⟨s1, s2⟩ := skp_le (T := T) hcn
  obtain ⟨d1, a1, a2, a3⟩ := here_q hm hm5 hcn
  have b8 : gF d1 0 8 = 0 := (a3.1 8 (by decide) (by decide) (by decide)).trans h8
  have hb : BDs d0 dm0 (sF (sF d 1 5 (nI 1)) 1 2 (nI (skp n T c))) (sF (sF d1 0 8 (nI 1)) 0 9 (nI (skp n T c))) := BDs.mk0 hG.1 hG.2.1 a3 (by decide) (by decide)
  have bad : t_X1_closeClause_41 L d = some (sF (sF d 1 5 (nI 1)) 1 2 (nI (skp n T c))) := by
    unfold t_X1_closeClause_41
    rw [h4, show (1 : Int32) = nI 1 from rfl, fail_q h5, ob]
  have badm : t_X6_takeClause_139 LM 0 d1 = some (sF (sF d1 0 8 (nI 1)) 0 9 (nI (skp n T c))) := by
    unfold t_X6_takeClause_139
    rw [a2, show (1 : Int32) = nI 1 from rfl, want_0 b8 (by decide) (by decide), ob, if_pos rfl]
  unfold t_X1_closeClause t_X6_takeClause_117
  rw [if_pos h5, hc.2.1, h4, if_pos h8, a1, ob]
  dsimp only
  by_cases z : skp n T c < n
  · obtain ⟨t1, t2⟩ := hc.2.2.2 _ z
    have nle : ¬ nI n ≤ nI (skp n T c) := nI_ge z (by omega)
    rw [if_neg nle, hc.2.2.1, gdi (show skp n T c < 600 by omega) (by omega), ix_nI (by omega), t2, if_pos z]
    by_cases y : T (skp n T c) = 59
    · obtain ⟨e', p1, p2, p3⟩ := pass_q hc h4 (m := 1) (by omega)
      have p1' : t_X1_pass L d 1 = some e' := p1
      rw [if_pos ((sgn_all _ t1).1.2.mpr y), p1', ob, y, if_pos (show nI 59 = 59 from rfl), t_X6_takeClause_139, want_1 b8, ob, if_neg (show ¬ (1 : Int32) = 0 by decide), bd_q, a2, nI_1]
      have km := a3.tr (KMu.s5 d1 (nI (skp n T c + 1)))
      have er : rdm (sF d1 0 5 (nI (skp n T c + 1))) = rdm dm := funext (fun i => km.2 _ i)
      refine ⟨_, _, rfl, rfl, .inl ⟨g, skp n T c + 1, by omega, GC_cur hG p3 km, by rw [er]; exact hg, ⟨hc.k p3, hm.k km, (p3.1 1 5 (by omega)).trans h5, ?_, by omega, gF_sF1 _ _ _ _, p2⟩⟩⟩
      rw [gF_sFn (by omega)]; exact b8
    · have ne : ¬ nI (T (skp n T c)) = 59 := fun q => y (nI_inj (by omega) (by decide) q)
      rw [if_neg (fun q => y ((sgn_all _ t1).1.2.mp q)), bad, if_neg ne, badm]
      exact ⟨_, _, rfl, rfl, .inr hb⟩
  · have le : nI n ≤ nI (skp n T c) := nI_le (by omega) (by omega)
    rw [if_pos le, bad, if_neg z, if_neg (by decide), badm]
    exact ⟨_, _, rfl, rfl, .inr hb⟩
theorem health_upd {d0 dm0 d dm : Dt} {g v : Nat} (h : GCs d0 dm0 d dm g) (h1 : 1 ≤ v) (h9 : v ≤ 9) {d' dm' : Dt} (fd : ∀ o j, ¬ (o = 1 ∧ (j = 4 ∨ j = 6)) → ¬ (o = 5 ∧ j = 1) → gF d' o j = gF d o j) (f6 : gF d' 1 6 = 1) (f51 : gF d' 5 1 = nI v) (ad : ∀ a i, gA d' a i = gA d a i) (fm : ∀ j, j ≠ 5 → j ≠ 6 → j ≠ 7 → j ≠ 10 → gF dm' 0 j = gF dm 0 j) (m10 : gF dm' 0 10 = 1) (am : ∀ a i, ¬ (a = 2 ∧ i = 1) → gA dm' a i = gA dm a i) (r1 : rdm dm' 1 = nI v) : GCs d0 dm0 d' dm' g ∧ bP (rdm dm') = bP (rdm dm) := by
  obtain ⟨a1, a2, a3, a4, a5, a6, a7, a8, a9, a10, a11⟩ := h
  have ro : ∀ i, i ≠ 1 → rdm dm' i = rdm dm i := fun i hi => am 2 i (fun z => hi z.2)
  have oP : bP (rdm dm') = bP (rdm dm) := by unfold bP; rw [ro 0 (by decide)]
  have oE : ∀ q, bE (rdm dm') q = bE (rdm dm) q := fun q => by unfold bE; rw [ro _ (by omega)]
  have oN : ∀ q, bN (rdm dm') q = bN (rdm dm) q := fun q => by unfold bN; rw [ro _ (by omega)]
  have oC : ∀ q, bC (rdm dm') q = bC (rdm dm) q := fun q => by unfold bC; rw [ro _ (by omega)]
  obtain ⟨b1, b2, b3, b4, b5, b6, b7⟩ := a7
  refine ⟨⟨a1.st (fun o j h5 h1 => fd o j (fun z => by have := h1 z.1; omega) (fun z => h5 z.1)) (fun a i _ _ => ad a i), a2.st (fun j hj => fm j hj.1 hj.2.1 hj.2.2.1 hj.2.2.2.2.2.1) (fun a i h => am a i (fun z => h.1 z.1)), (fd 1 5 (by omega) (by omega)).trans a3, (fm 8 (by decide) (by decide) (by decide) (by decide)).trans a4, by rw [fd 1 2 (by omega) (by omega), fm 9 (by decide) (by decide) (by decide) (by decide)]; exact a5, ⟨f6.trans m10.symm, .inr m10⟩, ⟨by rw [fd 5 0 (by omega) (by omega), ro 0 (by decide)]; exact b1, by rw [f51, r1], by rw [ro 0 (by decide)]; exact b3, by rw [r1]; exact ⟨v, by omega, rfl⟩, by unfold bH; rw [r1, ix_nI (by omega)]; exact h1, fun q hq => ?_, fun q h1 h2 => ?_⟩, fun q hq => ?_, ?_, by rw [ro 2 (by decide)]; exact a10, by rw [ro 3 (by decide)]; exact a11⟩, oP⟩
  · rw [oP] at hq
    obtain ⟨⟨k1, k2, k3, k4, k5, k6⟩, ⟨v1, v2, v3, v4, v5, v6, v7⟩⟩ := b6 q hq
    refine ⟨⟨?_, ?_, ?_, ?_, fun k hk => ?_, fun c hc => ?_⟩, ⟨?_, ?_, ?_, ?_, ?_, fun k hk => ?_, fun c hc => ?_⟩⟩
    · rw [ad, ro _ (by omega)]; exact k1
    · rw [ad, ro _ (by omega)]; exact k2
    · rw [ad, ro _ (by omega)]; exact k3
    · rw [oE, ad, ad, ad, ro (80 + q) (by omega), ro (104 + q) (by omega), ro (128 + q) (by omega)]; exact k4
    · rw [oN] at hk
      rw [ad, ad, ro (176 + (4 * q + k)) (by omega), ro (272 + (4 * q + k)) (by omega)]; exact k5 k hk
    · rw [oC] at hc
      rw [ad, ad, ad, ro (368 + (6 * q + c)) (by omega), ro (512 + (6 * q + c)) (by omega), ro (656 + (6 * q + c)) (by omega)]; exact k6 c hc
    · rw [ro _ (by omega)]; exact v1
    · rw [ro _ (by omega)]; exact v2
    · rw [ro _ (by omega)]; exact v3
    · rw [oE, oC]; exact v4
    · rw [oE, ro (80 + q) (by omega), ro (104 + q) (by omega), ro (128 + q) (by omega)]; exact v5
    · rw [oN] at hk
      have := v6 k hk
      unfold VE bK at this ⊢
      rw [ro (176 + (4 * q + k)) (by omega), ro (272 + (4 * q + k)) (by omega)]; exact this
    · rw [oC] at hc
      rw [ro (368 + (6 * q + c)) (by omega), ro (512 + (6 * q + c)) (by omega), ro (656 + (6 * q + c)) (by omega)]; exact v7 c hc
  · rw [oP] at h1
    rw [ro _ (by omega), ro _ (by omega), ro _ (by omega)]
    exact b7 q h1 h2
  · rw [oP] at hq
    have i0 := a8 q hq
    have mono : ∀ x, IGg dm g x → IGg dm' g x := fun x ⟨i, h1, h2⟩ => ⟨i, h1, (am _ i (by omega)).trans h2⟩
    refine ⟨fun e => ?_, fun c hc => ?_⟩
    · rw [oE] at e
      rw [ro (104 + q) (by omega), ro (128 + q) (by omega)]
      exact ⟨mono _ (i0.1 e).1, mono _ (i0.1 e).2⟩
    · rw [oC] at hc
      rw [ro (368 + (6 * q + c)) (by omega)]
      exact mono _ (i0.2 c hc)
  · obtain ⟨g1, gg2, g3, g4⟩ := a9
    refine ⟨(fd 1 9 (by omega) (by omega)).trans g1, (fm 14 (by decide) (by decide) (by decide) (by decide)).trans gg2, g3, fun i hi => ?_⟩
    rw [ad, ad, am _ i (by omega), am _ i (by omega)]
    exact g4 i hi
/-- a part, word taken -/
theorem part_q {n a g : Nat} {T : Nat → Nat} {L : Nat → Nat} {d0 dm0 d dm : Dt} (hl : LB L 5) (l7 : L (32 * 1 + 7) = 144) (l8 : L (32 * 1 + 8) = 144) (hc0 : TFc n T L d0) (hm0 : TFm n T dm0) (hG : GCs d0 dm0 d dm g) (hg : g ≤ 6 * bP (rdm dm)) (hw : WPS n T d dm a) (hwd : wd n T a 1 = true) : ∃ d' dm', t_X1_readPart L d = some d' ∧ (t_X6_takePart LM dm).bind (fun d8 => t_X6_takeClause_117 LM d8) = some dm' ∧ OKs n T L d0 dm0 d' dm' a := by
  obtain ⟨a1, a2, a3, a4, a5, a6, a7, a8, a9, a10, a11⟩ := id hG
  obtain ⟨w1, w2, w3, w4, w5, w6⟩ := id hw
  have n6 := hc0.1
  have es := (of_decide_eq_true hwd).1
  have e4 : slen.getD 1 0 = 4 := by decide +kernel
  have hwl := wln_le (T := T) w4
  have hP := nb_ix a7.2.2.1 (by decide)
  have hP' : bP (rdm dm) = ix (rdm dm 0) := rfl
  generalize hp : bP (rdm dm) = p at hg hP'
  have r0 : rdm dm 0 = nI p := by rw [hP']; exact hP.1
  have z0 : gF d 5 0 = nI p := a7.1.trans r0
  unfold t_X1_readPart t_X6_takePart
  rw [LM2, gd_h (show inb 0 1376 = true by decide), bd_q, show gA dm (32 * 0 + 2) (ix 0) = nI p from r0]
  by_cases p24 : p < 24
  · obtain ⟨q1, q2, q3⟩ := part_new hG hp p24 hg
    have hlen : ∀ e s, t_J0_length_8abf5 L e s = some (nI (slen.getD s 0)) := fun _ _ => rfl
    obtain ⟨d4, x1, x2, x3⟩ := pass_q (hc0.p q1.1.1) (a := a) (m := 4) (by
      show gF (sF d 5 0 (nI (p + 1))) 1 4 = _
      rw [gF_sFn (by omega)]; exact w2) (by omega)
    obtain ⟨dm4, y1, y2, y3, y4, y5⟩ := takeWord_q (c := a + 4) (hm0.p q1.1.2.1) (by show gF dm 0 5 = _; rw [w3, es, e4]) (by omega)
    have sk := skp_le (T := T) (n := n) (a := a + 4) (by omega)
    have er : rdm dm4 = rdm (sA dm (32 * 0 + 2) 0 (nI (p + 1))) := funext (fun i => y5.2 _ i)
    have inp : INP d0 dm0 d4 dm4 g p := ⟨GC_cur q1.1 x3 y5, by rw [er]; exact q1.2.1, by rw [er]; exact q1.2.2.1, by rw [er]; exact q1.2.2.2⟩
    obtain ⟨d5, dm5, e1, e2, e3⟩ := eff_lp hl hc0 hm0 p24 5 0 FU (skp n T (a + 4)) d4 dm4 (by omega) (by unfold FU; omega) inp (by rw [er]; exact q2) (by rw [er]; exact q3) ⟨skp_skp (by omega), x2, y2, sk.2, y3, y4⟩
    have e1' : t_X1_readEffects L d4 (nI p) = some d5 := e1
    have e2' : t_X6_takeEffects LM (sA dm (32 * 0 + 2) 0 (nI (p + 1))) (nI p) = some dm5 := by
      unfold t_X6_takeEffects
      rw [y1, ob, kind_m ((hm0.p q1.1.2.1).k y5) ⟨sk.2, y3, y4⟩, ob]
      exact e2
    have nm1 : ¬ nI p = -1 := fun z => nI_pos (show p < 2 ^ 31 by omega) (by rw [z]; decide)
    rw [addPart_q hl z0 p24, ob]
    dsimp only
    rw [if_neg nm1, hlen, ob, e4, x1, ob, e1', ob, if_neg (show ¬ (24 : Int32) ≤ nI p from nI_ge (b := 24) p24 (by decide)), t_X6_takePart_19, want_1 a4, ob, if_neg (show ¬ (1 : Int32) = 0 by decide), LM2, gd_h (show inb 0 1376 = true by decide), bd_q, nI_1, show ix 0 = 0 from rfl]
    dsimp only
    rw [e2', ob]
    show ∃ d' dm', _ = some d' ∧ (RST p dm5).bind (fun d8 => t_X6_takeClause_117 LM d8) = some dm' ∧ _
    rcases e3 with ⟨a', h1, h2, h3, h4⟩ | hb
    · obtain ⟨d6, d7, dm6, f1, f2, f3, f4⟩ := rest_q hl l7 l8 hc0 hm0 p24 h2 h3 h4
      rw [f1, ob, f2, ob, f3, ob]
      rcases f4 with ⟨g', c', c1, c2, c3, c4, c5⟩ | hb
      · obtain ⟨d', dm', k1, k2, k3⟩ := close_q c2 (by rw [c3]; exact c4) c5
        rw [k1, ob, k2]
        refine ⟨d', dm', rfl, rfl, ?_⟩
        rcases k3 with ⟨g2, c2, u1, u2⟩ | u
        · exact .inl ⟨g2, c2, by omega, u2⟩
        · exact .inr u
      · obtain ⟨k1, k2⟩ := close_bad (L := L) hb
        rw [k1, ob, k2]
        exact ⟨_, _, rfl, rfl, .inr hb⟩
    · obtain ⟨f1, f2⟩ := rest_bad (L := L) (p := p) hb
      obtain ⟨k1, k2⟩ := close_bad (L := L) hb
      rw [f1, ob, rc_bad hb, ob, f2, ob, k1, ob, k2]
      exact ⟨_, _, rfl, rfl, .inr hb⟩
  · have ap : t_X0_addPart L d 5 = some (-1, d) := by
      unfold t_X0_addPart
      rw [z0, if_neg (show ¬ nI p < 24 from nI_nlt (b := 24) (by omega) (by omega))]
    have hb : BDs d0 dm0 (sF (sF d 1 5 (nI 3)) 1 2 (nI a)) (sF (sF dm 0 8 (nI 3)) 0 9 (nI a)) := BDs.mk0 a1 a2 (KMu.rf dm) (by decide) (by decide)
    rw [ap, ob]
    dsimp only
    rw [if_pos rfl, w2, show (3 : Int32) = nI 3 from rfl, fail_q a3, ob, if_pos (show (24 : Int32) ≤ nI p from nI_le (a := 24) (by omega) (by omega)), t_X6_takePart_19, w5, show (3 : Int32) = nI 3 from rfl, want_0 a4 (by decide) (by decide), ob, if_pos rfl, ob, (close_bad (L := L) hb).2]
    exact ⟨_, _, rfl, rfl, .inr hb⟩
