/-! ===== health; all clauses ===== -/
theorem health_q {n a g : Nat} {T : Nat → Nat} {L : Nat → Nat} {d0 dm0 d dm : Dt} (hc0 : TFc n T L d0) (hm0 : TFm n T dm0) (hG : GCs d0 dm0 d dm g) (hg : g ≤ 6 * bP (rdm dm)) (hw : WPS n T d dm a) (hwd : wd n T a 0 = true) : ∃ d' dm', t_X1_readHealth L d = some d' ∧ t_X6_takeClause_64 LM 1 dm = some dm' ∧ OKs n T L d0 dm0 d' dm' a := by
  obtain ⟨a1, a2, a3, a4, a5, a6, a7, a8, a9, a10, a11⟩ := id hG
  obtain ⟨w1, w2, w3, w4, w5, w6⟩ := id hw
  have n6 := hc0.1
  have es := (of_decide_eq_true hwd).1
  have e6 : slen.getD 0 0 = 6 := by decide +kernel
  have hwl := wln_le (T := T) w4
  have tc := hc0.p a1
  have tm := hm0.p a2
  have hlen : ∀ e s, t_J0_length_8abf5 L e s = some (nI (slen.getD s 0)) := fun _ _ => rfl
  unfold t_X1_readHealth t_X6_takeClause_64
  rw [want_1 a4, ob, if_neg (show ¬ (1 : Int32) = 0 by decide), a6.1]
  dsimp only
  rcases a6.2 with z | z
  · have t2 : TFc n T L (sF d 1 6 1) := ⟨tc.1, by rw [gF_sFn (by omega)]; exact tc.2.1, tc.2.2.1, tc.2.2.2⟩
    obtain ⟨d4, x1, x2, x3⟩ := pass_q t2 (a := a) (m := 6) (by rw [gF_sFn (by omega)]; exact w2) (by omega)
    have tm2 : TFm n T (sF dm 0 10 1) := ⟨tm.1, by rw [gF_sFn (by omega)]; exact tm.2.1, tm.2.2⟩
    have hps : PSc n T L d4 (sF dm 0 10 1) (a + 6) := ⟨t2.k x3, tm2, by rw [x3.1 1 5 (by omega), gF_sFn (by omega)]; exact a3, by rw [gF_sFn (by omega)]; exact a4, by omega, by rw [gF_sFn (by omega), w3, es, e6], x2⟩
    have pc4 : PFc d0 d4 := (a1.st (d' := sF d 1 6 1) (fun o j _ h1 => gF_sFn (fun z => by have := h1 z.1; omega)) (fun _ _ _ _ => rfl)).k x3
    have pm4 : PFm dm0 (sF dm 0 10 1) := a2.st (fun j hj => gF_sFn (fun z => hj.2.2.2.2.2.1 z.2)) (fun _ _ _ => rfl)
    rw [z, if_pos rfl, if_pos rfl, bd_q, hlen, ob, e6, x1, ob, t_X6_takeClause_88, want_1 a4, ob, if_neg (show ¬ (1 : Int32) = 0 by decide), bd_q]
    dsimp only
    rcases number_q (lo := 1) (hi := 9) hps (by decide) (by decide) with ⟨v, d5, dm5, c', v1, v2, r1, r2, k1, k2, s6, cc', hp⟩ | ⟨t, xx, dm1, t1, t2', r1, r2, kk⟩
    · have r1' : t_X1_readNumber L d4 1 9 = some (nI v, d5) := r1
      have r2' : t_X6_takeNumber LM (sF dm 0 10 1) 1 9 = some (nI v, dm5) := r2
      rw [r1', ob, bd_q, r2', ob, LM2, gd_h (show inb 1 1376 = true by decide), bd_q, show ix 1 = 1 from rfl]
      dsimp only
      have u := health_upd (v := v) (d' := sF d5 5 1 (nI v)) (dm' := sA dm5 (32 * 0 + 2) 1 (nI v)) hG v1 v2 (fun o j h1 h2 => by rw [gF_sFn h2, k1.1 o j (by omega), x3.1 o j (by omega), gF_sFn (by omega)]) (by rw [gF_sFn (by omega), k1.1 1 6 (by omega), x3.1 1 6 (by omega), gF_sF1]) (gF_sF1 _ _ _ _) (fun a i => (k1.2 a i).trans (x3.2 a i)) (fun j h1 h2 h3 h4 => (k2.1 j h1 h2 h3).trans (gF_sFn (fun z => h4 z.2))) ((k2.1 10 (by decide) (by decide) (by decide)).trans (gF_sF1 _ _ _ _)) (fun a i h => by rw [gA_sAi, if_neg h]; exact k2.2 a i) (by show gA (sA dm5 (32 * 0 + 2) 1 (nI v)) (32 * 0 + 2) 1 = _; rw [gA_sAi, if_pos ⟨rfl, rfl⟩])
      have ps : PSc n T L (sF d5 5 1 (nI v)) (sA dm5 (32 * 0 + 2) 1 (nI v)) c' := ⟨hc0.p u.1.1, hm0.p u.1.2.1, u.1.2.2.1, u.1.2.2.2.1, hp.2.2.2.2.1, hp.2.2.2.2.2.1, by rw [gF_sFn (by omega)]; exact hp.2.2.2.2.2.2⟩
      obtain ⟨d', dm', q1, q2, q3⟩ := close_q u.1 (by rw [u.2]; exact hg) ps
      rw [q1, ob, q2]
      refine ⟨d', dm', rfl, rfl, ?_⟩
      rcases q3 with ⟨g2, c2, u1, u2⟩ | u
      · exact .inl ⟨g2, c2, by omega, u2⟩
      · exact .inr u
    · have r1' : t_X1_readNumber L d4 1 9 = some (nI 1, sF (sF d4 1 5 (nI t)) 1 2 (nI (skp n T (a + 6)))) := r1
      have r2' : t_X6_takeNumber LM (sF dm 0 10 1) 1 9 = some (xx, sF (sF dm1 0 8 (nI t)) 0 9 (nI (skp n T (a + 6)))) := r2
      have hb0 : BDs d0 dm0 (sF (sF d4 1 5 (nI t)) 1 2 (nI (skp n T (a + 6)))) (sF (sF dm1 0 8 (nI t)) 0 9 (nI (skp n T (a + 6)))) := BDs.mk0 pc4 pm4 kk t1 (by omega)
      have hb : BDs d0 dm0 (sF (sF (sF d4 1 5 (nI t)) 1 2 (nI (skp n T (a + 6)))) 5 1 (nI 1)) (sA (sF (sF dm1 0 8 (nI t)) 0 9 (nI (skp n T (a + 6)))) (32 * 0 + 2) 1 xx) := hb0.st (fun o j h => gF_sFn (fun z => h z.1)) (fun _ _ _ _ => rfl) (fun _ => rfl) (fun a i h => by rw [gA_sAi, if_neg (by omega)])
      rw [r1', ob, bd_q, r2', ob, LM2, gd_h (show inb 1 1376 = true by decide), bd_q, show ix 1 = 1 from rfl]
      dsimp only
      rw [(close_bad (L := L) hb).1, ob, (close_bad (L := L) hb).2]
      exact ⟨_, _, rfl, rfl, .inr hb⟩
  · have hb : BDs d0 dm0 (sF (sF d 1 5 (nI 3)) 1 2 (nI a)) (sF (sF dm 0 8 (nI 3)) 0 9 (nI a)) := BDs.mk0 a1 a2 (KMu.rf dm) (by decide) (by decide)
    rw [z, if_neg (by decide), if_neg (by decide), w2, show (3 : Int32) = nI 3 from rfl, fail_q a3, ob, t_X6_takeClause_88, w5, show (3 : Int32) = nI 3 from rfl, want_0 a4 (by decide) (by decide), ob, if_pos rfl, (close_bad (L := L) hb).2]
    exact ⟨_, _, rfl, rfl, .inr hb⟩
theorem clause_q {n a g : Nat} {T : Nat → Nat} {L : Nat → Nat} {d0 dm0 d dm : Dt} (hl : LB L 5) (l7 : L (32 * 1 + 7) = 144) (l8 : L (32 * 1 + 8) = 144) (hc0 : TFc n T L d0) (hm0 : TFm n T dm0) (hG : GCs d0 dm0 d dm g) (hg : g ≤ 6 * bP (rdm dm)) (h4 : gF d 1 4 = nI a) (hsk : skp n T a = a) (han : a ≤ n) (hm5 : gF dm 0 5 = nI a) (K : Dt → Option (Int32 × Dt)) : ∃ d' dm', ((t_X1_isWord L d 0).bind (fun v11 => if v11 = 0 then (t_X1_isWord L d 1).bind (fun v13 => if v13 = 0 then (t_X1_fail L d 1 (gF d 1 4)).bind (fun d15 => K d15) else (t_X1_readPart L d).bind (fun d16 => K d16)) else (t_X1_readHealth L d).bind (fun d17 => K d17))) = K d' ∧ t_X6_takeClause LM dm = some dm' ∧ OKs n T L d0 dm0 d' dm' a := by
  obtain ⟨a1, a2, a3, a4, _⟩ := id hG
  have tc := hc0.p a1
  have tm := hm0.p a2
  obtain ⟨dm1, x1, x2, x3, x4, x5⟩ := takeWord_q (c := a) tm hm5 han
  rw [hsk] at x2 x3 x4
  have hG1 := GC_cur hG (KCu.rf d) x5
  have er : rdm dm1 = rdm dm := funext (fun i => x5.2 _ i)
  have hw : WPS n T d dm1 a := ⟨hsk, h4, x2, han, x3, x4⟩
  unfold t_X6_takeClause
  rw [x1, ob, w_part (tm.k x5) hw.2.2.2, ob, bI_if, w_health (tm.k x5) hw.2.2.2, isWord_c tc (by decide) h4 han, ob, bI_if, isWord_c tc (by decide) h4 han, ob, bI_if]
  by_cases w0 : wd n T a 0 = true
  · have w1 : ¬ wd n T a 1 = true := fun z => by
      have q0 := (of_decide_eq_true w0).1
      have q1 := (of_decide_eq_true z).1
      rw [show slen.getD 0 0 = 6 by decide +kernel] at q0
      rw [show slen.getD 1 0 = 4 by decide +kernel] at q1
      omega
    obtain ⟨d', dm', h1, h2, h3⟩ := health_q hc0 hm0 hG1 (by rw [er]; exact hg) hw w0
    rw [if_pos w0, if_neg w1, if_pos w0, h1, ob, h2]
    exact ⟨d', dm', rfl, rfl, h3⟩
  · rw [if_neg w0, if_neg w0]
    by_cases w1 : wd n T a 1 = true
    · obtain ⟨d', dm', h1, h2, h3⟩ := part_q hl l7 l8 hc0 hm0 hG1 (by rw [er]; exact hg) hw w1
      rw [if_pos w1, if_pos w1, h1, ob, h2]
      exact ⟨d', dm', rfl, rfl, h3⟩
    · have hb : BDs d0 dm0 (sF (sF d 1 5 (nI 1)) 1 2 (nI a)) (sF (sF dm1 0 8 (nI 1)) 0 9 (nI a)) := BDs.mk0 a1 a2 x5 (by decide) (by decide)
      rw [if_neg w1, if_neg w1, h4, show (1 : Int32) = nI 1 from rfl, fail_q a3, ob, t_X6_takeClause_63, t_X6_takeClause_64, x3, show (1 : Int32) = nI 1 from rfl, want_0 hG1.2.2.2.1 (by decide) (by decide), ob, if_pos rfl, (close_bad (L := L) hb).2]
      exact ⟨_, _, rfl, rfl, .inr hb⟩
theorem parse_lp {n : Nat} {T : Nat → Nat} {L : Nat → Nat} {d0 dm0 : Dt} (hl : LB L 5) (l7 : L (32 * 1 + 7) = 144) (l8 : L (32 * 1 + 8) = 144) (hc0 : TFc n T L d0) (hm0 : TFm n T dm0) : ∀ (m c x g F : Nat) (d dm : Dt), n - c ≤ m → m + 2 < F → x ≤ c → GCs d0 dm0 d dm g → g ≤ 6 * bP (rdm dm) → PSc n T L d dm c → ∃ d' dm', lp (fun k x => t_X1_parse_39 L (fun x1 d => k (x1, d)) x.1 x.2) F (nI x, d) = t_X1_parse_111 L d' ∧ lp (fun k x => t_X6_book_73 LM (fun d => k d) x) F dm = t_X6_book_94 LM dm' ∧ ((∃ g, GCs d0 dm0 d' dm' g) ∨ BDs d0 dm0 d' dm') := by
  have n6 := hc0.1
  intro m
  induction m with
  | zero =>
    intro c x g F d dm hm hF hx hG hg hp
    obtain ⟨F, rfl⟩ : ∃ G, F = G + 1 := ⟨F - 1, by omega⟩
    obtain ⟨hc, hmm, h5, h8, hcn, hm5, h4⟩ := hp
    have sk := skp_le (T := T) hcn
    obtain ⟨d1, a1, a2, a3⟩ := here_q hmm hm5 hcn
    refine ⟨d, d1, ?_, ?_, .inl ⟨g, GC_cur hG (KCu.rf d) a3⟩⟩
    · show t_X1_parse_39 L (fun x1 d => lp _ F (x1, d)) (nI x) d = _
      rw [t_X1_parse_39, hc.2.1, h4, if_pos (show nI n ≤ nI (skp n T c) from nI_le (by omega) (by omega))]
      split <;> rfl
    · show t_X6_book_73 LM (fun d => lp _ F d) dm = _
      rw [t_X6_book_73, if_pos h8, a1, ob, if_neg (show ¬ skp n T c < n by omega), if_pos (show (-1 : Int32) < 0 by decide)]
  | succ m ih =>
    intro c x g F d dm hm hF hx hG hg hp
    obtain ⟨F, rfl⟩ : ∃ G, F = G + 1 := ⟨F - 1, by omega⟩
    obtain ⟨hc, hmm, h5, h8, hcn, hm5, h4⟩ := hp
    have sk := skp_le (T := T) hcn
    obtain ⟨d1, a1, a2, a3⟩ := here_q hmm hm5 hcn
    by_cases z : skp n T c < n
    · have t1 := (hmm.2.2 _ z).1
      obtain ⟨d', dm', q1, q2, q3⟩ := clause_q hl l7 l8 hc0 hm0 (GC_cur hG (KCu.rf d) a3) (by rw [show rdm d1 = rdm dm from funext (fun i => a3.2 _ i)]; exact hg) h4 (skp_skp hcn) sk.2 a2 (fun d => lp (fun k x => t_X1_parse_39 L (fun x1 d => k (x1, d)) x.1 x.2) F (nI (x + 1), d))
      have ec : lp (fun k x => t_X1_parse_39 L (fun x1 d => k (x1, d)) x.1 x.2) (F + 1) (nI x, d) = lp (fun k x => t_X1_parse_39 L (fun x1 d => k (x1, d)) x.1 x.2) F (nI (x + 1), d') := by
        refine Eq.trans ?_ q1
        show t_X1_parse_39 L (fun x1 d => lp _ F (x1, d)) (nI x) d = _
        rw [t_X1_parse_39, if_neg (show ¬ (600 : Int32) ≤ nI x from nI_ge (b := 600) (by omega) (by decide)), hc.2.1, h4, if_neg (show ¬ nI n ≤ nI (skp n T c) from nI_ge z (by omega)), if_pos h5, ← nI_1]
        rfl
      have em : lp (fun k x => t_X6_book_73 LM (fun d => k d) x) (F + 1) dm = lp (fun k x => t_X6_book_73 LM (fun d => k d) x) F dm' := by
        show t_X6_book_73 LM (fun d => lp _ F d) dm = _
        rw [t_X6_book_73, if_pos h8, a1, ob, if_pos z, if_neg (nI_pos (by omega)), q2, ob]
      rw [ec, em]
      rcases q3 with ⟨g', c', u1, u2, u3, u4⟩ | hb
      · exact ih c' (x + 1) g' F d' dm' (by omega) (by omega) (by omega) u2 u3 u4
      · obtain ⟨F, rfl⟩ : ∃ G, F = G + 1 := ⟨F - 1, by omega⟩
        obtain ⟨_, _, t, t1, t2, t3, t4, t5⟩ := id hb
        have nz : ¬ nI t = 0 := nI_ne0 (by omega) (by omega)
        refine ⟨d', dm', ?_, ?_, .inr hb⟩
        · show t_X1_parse_39 L (fun x1 d => lp _ F (x1, d)) (nI (x + 1)) d' = _
          rw [t_X1_parse_39, t3, if_neg nz]
          split
          · rfl
          · split <;> rfl
        · show t_X6_book_73 LM (fun d => lp _ F d) dm' = _
          rw [t_X6_book_73, t4, if_neg nz]
    · refine ⟨d, d1, ?_, ?_, .inl ⟨g, GC_cur hG (KCu.rf d) a3⟩⟩
      · show t_X1_parse_39 L (fun x1 d => lp _ F (x1, d)) (nI x) d = _
        rw [t_X1_parse_39, hc.2.1, h4, if_pos (show nI n ≤ nI (skp n T c) from nI_le (by omega) (by omega))]
        split <;> rfl
      · show t_X6_book_73 LM (fun d => lp _ F d) dm = _
        rw [t_X6_book_73, if_pos h8, a1, ob, if_neg z, if_pos (show (-1 : Int32) < 0 by decide)]
