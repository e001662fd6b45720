/-! ===== the choices, to the end ===== -/
/-- a thing behind a word -/
theorem thing_c {n a s : Nat} {T : Nat → Nat} {L : Nat → Nat} {d : Dt} (ht : TFc n T L d) (h5 : gF d 1 5 = 0) (h4 : gF d 1 4 = nI a) (ha : a ≤ n) (hs : s < 12) : (wd n T a s = false → t_X1_readThingBehind L d s = some (-1, d)) ∧ (wd n T a s = true → ∃ d1, t_X1_readThingBehind L d s = (t_X1_readNumber L d1 0 7).bind (fun q6 => some (q6.1, q6.2)) ∧ gF d1 1 4 = nI (skp n T (a + wln n T a)) ∧ KCu d d1) := by
  unfold t_X1_readThingBehind
  rw [if_pos h5, isWord_c ht hs h4 ha, ob, bI_if]
  refine ⟨fun z => by rw [if_neg (by rw [z]; decide)], fun z => ?_⟩
  rw [if_pos z]
  have e : wln n T a = slen.getD s 0 := (of_decide_eq_true z).1
  obtain ⟨d1, p1, p2, p3⟩ := pass_q ht h4 (wln_le (T := T) ha)
  unfold t_J0_length_8abf5
  rw [ob, ← e, p1, ob]
  exact ⟨d1, rfl, p2, p3⟩
theorem thing_bad {L : Nat → Nat} {d0 dm0 d dm : Dt} {s : Nat} (h : BDs d0 dm0 d dm) : t_X1_readThingBehind L d s = some (-1, d) := by
  obtain ⟨_, _, t, t1, t2, t3, _⟩ := h
  unfold t_X1_readThingBehind
  rw [t3, if_neg (nI_ne0 (by omega) (by omega))]
theorem ch_lp {n : Nat} {T : Nat → Nat} {L : Nat → Nat} {d0 dm0 : Dt} {p : Nat} (hl : LB L 5) (l7 : L (32 * 1 + 7) = 144) (l8 : L (32 * 1 + 8) = 144) (hc0 : TFc n T L d0) (hm0 : TFm n T dm0) (p24 : p < 24) : ∀ (m k F a g : Nat) (d dm : Dt), k + m = 7 → m < F → INP d0 dm0 d dm g p → bC (rdm dm) p = k → WPS n T d dm a → ∃ d' dm', lp (fun k x => t_X1_readChoices_2 L (nI p) (fun x2 d => k (x2, d)) x.1 x.2) F (nI k, d) = some d' ∧ lp (fun k x => t_X6_takeChoices_0 LM (nI p) (fun d => k d) x) F dm = some dm' ∧ ((∃ g' c', a ≤ c' ∧ GCs d0 dm0 d' dm' g' ∧ bP (rdm dm') = p + 1 ∧ g' ≤ 6 * (p + 1) ∧ PSc n T L d' dm' c') ∨ BDs d0 dm0 d' dm') := by
  have n6 := hc0.1
  intro m
  induction m with
  | zero =>
    intro k F a g d dm hk hF hi hN
    have := (nb_ix (hi.1.2.2.2.2.2.2.1.2.2.2.2.2.1 p (by rw [hi.2.1]; omega)).2.2.2.1 (by decide)).2
    have : bC (rdm dm) p = ix (rdm dm (56 + p)) := rfl
    omega
  | succ m ih =>
    intro k F a g d dm hk hF hi hN hw
    obtain ⟨F, rfl⟩ : ∃ G, F = G + 1 := ⟨F - 1, by omega⟩
    have hG := hi.1
    obtain ⟨a1, a2, a3, a4, a5, a6, a7, a8, a9, a10, a11⟩ := id hG
    obtain ⟨w1, w2, w3, w4, w5, w6⟩ := id hw
    have tc := hc0.p a1
    have tm := hm0.p a2
    have qp := a7.2.2.2.2.2.1 p (by rw [hi.2.1]; omega)
    have k6 : k ≤ 6 := by
      have := (nb_ix qp.2.2.2.1 (by decide)).2
      have : bC (rdm dm) p = ix (rdm dm (56 + p)) := rfl
      omega
    have b9 : gA d (32 * 5 + 9) p = nI k := by
      rw [qp.1.2.2.1, ← hN]; exact (nb_ix qp.2.2.2.1 (by decide)).1
    have b56 : rdm dm (56 + p) = nI k := by
      rw [← hN]; exact (nb_ix qp.2.2.2.1 (by decide)).1
    have b0 : gF d 5 0 = nI (p + 1) := by
      rw [a7.1, ← hi.2.1]; exact (nb_ix a7.2.2.1 (by decide)).1
    have b2 : gA d (32 * 5 + 2) p = 0 := by
      have e0 : ix (rdm dm (8 + p)) = 0 := hi.2.2.1
      rw [qp.1.1, (nb_ix qp.2.1 (by decide)).1, e0]; rfl
    have hgb := hi.2.2.2
    rw [hN] at hgb
    show ∃ d' dm', t_X1_readChoices_2 L (nI p) (fun x2 d => lp _ F (x2, d)) (nI k) d = _ ∧ t_X6_takeChoices_0 LM (nI p) (fun d => lp _ F d) dm = _ ∧ _
    rw [t_X1_readChoices_2, if_neg (show ¬ (6 : Int32) < nI k from nI_nlt (a := 6) k6 (by decide)), if_pos a3, hl.1, gdi p24 (by omega), ix_nI (by omega), b2, if_pos rfl, isWord_c tc (by decide) w2 w4, ob, bI_if, t_X6_takeChoices_0, if_pos a4, w_go tm ⟨w4, w5, w6⟩, ob, bI_if]
    by_cases go : wd n T a 9 = true
    · have wl2 : wln n T a = 2 := ((of_decide_eq_true go).1).trans (by decide +kernel)
      have hwl := wln_le (T := T) w4
      rw [if_pos go, if_pos go, LM2, show (56 : Int32) + nI p = nI (56 + p) from nI_add 56 p, gdi (show 56 + p < 1376 by omega) (by omega), bd_q, ix_nI (by omega), show gA dm (32 * 0 + 2) (56 + p) = nI k from b56]
      have outc : ∀ (e : Dt) (x : Int32), (∃ em, BDs d0 dm0 e em) → lp (fun k x => t_X1_readChoices_2 L (nI p) (fun x2 d => k (x2, d)) x.1 x.2) F (x, e) = some e := by
        intro e x ⟨em, hb⟩
        obtain ⟨F, rfl⟩ : ∃ G, F = G + 1 := ⟨F - 1, by omega⟩
        obtain ⟨_, _, t, t1, t2, t3, t4, t5⟩ := hb
        show t_X1_readChoices_2 L (nI p) (fun x2 d => lp _ F (x2, d)) x e = _
        rw [t_X1_readChoices_2, t3, if_neg (nI_ne0 (by omega) (by omega) : ¬ nI t = 0)]
        split <;> rfl
      have outm : ∀ (em : Dt), (∃ e, BDs d0 dm0 e em) → lp (fun k x => t_X6_takeChoices_0 LM (nI p) (fun d => k d) x) F em = some em := by
        intro em ⟨e, hb⟩
        obtain ⟨F, rfl⟩ : ∃ G, F = G + 1 := ⟨F - 1, by omega⟩
        obtain ⟨_, _, t, t1, t2, t3, t4, t5⟩ := hb
        show t_X6_takeChoices_0 LM (nI p) (fun d => lp _ F d) em = _
        rw [t_X6_takeChoices_0, t4, if_neg (nI_ne0 (by omega) (by omega) : ¬ nI t = 0), t_X6_takeChoices_241, t4, if_neg (nI_ne0 (by omega) (by omega) : ¬ nI t = 0)]
      by_cases e6 : k = 6
      · subst e6
        have hb : BDs d0 dm0 (sF (sF d 1 5 (nI 3)) 1 2 (nI a)) (sF (sF dm 0 8 (nI 3)) 0 9 (nI a)) := BDs.mk0 a1 a2 (KMu.rf dm) (by decide) (by decide)
        rw [if_pos (show nI 6 = 6 from rfl), if_pos (show (6 : Int32) ≤ nI 6 by decide), w2, show (3 : Int32) = nI 3 from rfl, fail_q a3, ob, t_X6_takeChoices_44, w5, show (3 : Int32) = nI 3 from rfl, want_0 a4 (by decide) (by decide), ob, if_pos rfl, t_X6_takeChoices_238]
        exact ⟨_, _, rfl, outm _ ⟨_, hb⟩, .inr hb⟩
      · have k5 : k < 6 := by omega
        have nk6 : ¬ nI k = 6 := fun z => e6 (nI_inj (by omega) (by decide) z)
        obtain ⟨d1, p1, p2, p3⟩ := pass_q tc w2 (m := 2) (by omega)
        have p1' : t_X1_pass L d (nI (slen.getD 9 0)) = some d1 := by
          rw [show slen.getD 9 0 = 2 by decide +kernel]; exact p1
        have i1 : (6 : Int32) * nI p + nI k = nI (6 * p + k) := by rw [show (6 : Int32) = nI 6 from rfl, nI_mulN, nI_add]
        unfold t_J0_length_8abf5
        rw [if_neg nk6, if_neg (show ¬ (6 : Int32) ≤ nI k from nI_ge (b := 6) k5 (by decide)), ob, p1', ob, t_X6_takeChoices_44, want_1 a4, ob, if_neg (show ¬ (1 : Int32) = 0 by decide), i1, bd_q]
        dsimp only
        -- in trouble: written, and out
        have bad : ∀ (e em : Dt) (x y z : Int32), BDs d0 dm0 e em → gF e 5 0 = nI (p + 1) → gA e (32 * 5 + 9) p = nI k → ∃ d' dm', (t_X0_addChoice L e 5 (nI p) x y z).bind (fun d13 => lp (fun k x => t_X1_readChoices_2 L (nI p) (fun x2 d => k (x2, d)) x.1 x.2) F (nI k + 1, d13)) = some d' ∧ t_X6_takeChoices_226 LM (nI p) (fun d => lp (fun k x => t_X6_takeChoices_0 LM (nI p) (fun d => k d) x) F d) (nI k) em = some dm' ∧ ((∃ g' c', a ≤ c' ∧ GCs d0 dm0 d' dm' g' ∧ bP (rdm dm') = p + 1 ∧ g' ≤ 6 * (p + 1) ∧ PSc n T L d' dm' c') ∨ BDs d0 dm0 d' dm') := by
          intro e em x y z hb h0 h9
          rw [addChoice_q hl h0 p24 h9 k5, ob, t_X6_takeChoices_226, LM2, show (56 : Int32) + nI p = nI (56 + p) from nI_add 56 p, gdi (show 56 + p < 1376 by omega) (by omega), bd_q, t_X6_takeChoices_238]
          have hb' : BDs d0 dm0 (sA (sA (sA (sA e (32 * 5 + 10) (6 * p + k) x) (32 * 5 + 11) (6 * p + k) y) (32 * 5 + 12) (6 * p + k) z) (32 * 5 + 9) p (nI (k + 1))) (sA em (32 * 0 + 2) (ix (nI (56 + p))) (nI k + 1)) := hb.st (fun _ _ _ => rfl) (fun a i _ h => by rw [gA_sAi, if_neg (by omega), gA_sAi, if_neg (by omega), gA_sAi, if_neg (by omega), gA_sAi, if_neg (by omega)]) (fun _ => rfl) (fun a i h => by rw [gA_sAi, if_neg (by omega)])
          exact ⟨_, _, outc _ _ ⟨_, hb'⟩, outm _ ⟨_, hb'⟩, .inr hb'⟩
        -- all read
        have good : ∀ (e em : Dt) (a' tg : Nat) (x y : Int32), a ≤ a' → QCh d dm e em g (6 * p + k) tg x y → tg < 24 → VT x → VT y → WPS n T e em a' → ∃ d' dm', (t_X0_addChoice L e 5 (nI p) (nI tg) x y).bind (fun d13 => lp (fun k x => t_X1_readChoices_2 L (nI p) (fun x2 d => k (x2, d)) x.1 x.2) F (nI k + 1, d13)) = some d' ∧ t_X6_takeChoices_226 LM (nI p) (fun d => lp (fun k x => t_X6_takeChoices_0 LM (nI p) (fun d => k d) x) F d) (nI k) em = some dm' ∧ ((∃ g' c', a ≤ c' ∧ GCs d0 dm0 d' dm' g' ∧ bP (rdm dm') = p + 1 ∧ g' ≤ 6 * (p + 1) ∧ PSc n T L d' dm' c') ∨ BDs d0 dm0 d' dm') := by
          intro e em a' tg x y ha' hq ht hx hy hw'
          obtain ⟨u1, u2⟩ := ch_upd hi hN k5 ht hx hy hq
          rw [addChoice_q hl ((hq.1.1 5 0 (by omega)).trans b0) p24 ((hq.1.2 _ _ (by omega) (by omega)).trans b9) k5, ob, t_X6_takeChoices_226, LM2, show (56 : Int32) + nI p = nI (56 + p) from nI_add 56 p, gdi (show 56 + p < 1376 by omega) (by omega), bd_q, t_X6_takeChoices_238, ix_nI (by omega), nI_1]
          obtain ⟨d', dm', y1, y2, y3⟩ := ih (k + 1) F a' (g + 1) _ _ (by omega) (by omega) u1 u2 hw'
          refine ⟨d', dm', y1, y2, ?_⟩
          rcases y3 with ⟨g', c', z1, z2⟩ | z
          · exact .inl ⟨g', c', by omega, z2⟩
          · exact .inr z
        have y144 : 6 * p + k < 144 := by omega
        have pfc : ∀ e, KGc d e → PFc d0 e := fun e h => a1.st (fun o j _ h1 => h.1 o j (fun z => by have := h1 z.1; omega)) (fun x i h1 _ => h.2 x i (by omega) (by omega))
        have pfm : ∀ e em tg x y, QCh d dm e em g (6 * p + k) tg x y → PFm dm0 em := fun e em tg x y h => a2.st (fun j hj => h.2.2.2.2.1.1 j hj.1 hj.2.1 hj.2.2.1 hj.2.2.2.2.2.2) (fun x i hx => h.2.2.2.2.1.2 x i hx.1 hx.2.1 hx.2.2)
        -- without
        have g11 : ∀ (e em : Dt) (a' tg : Nat) (x : Int32), a ≤ a' → QCh d dm e em g (6 * p + k) tg x (-1) → tg < 24 → VT x → WPS n T e em a' → ∃ d' dm', (t_X1_readThingBehind L e 11).bind (fun q12 => (t_X0_addChoice L q12.2 5 (nI p) (nI tg) x q12.1).bind (fun d13 => lp (fun k x => t_X1_readChoices_2 L (nI p) (fun x2 d => k (x2, d)) x.1 x.2) F (nI k + 1, d13))) = some d' ∧ t_X6_takeChoices_161 LM (nI p) (fun d => lp (fun k x => t_X6_takeChoices_0 LM (nI p) (fun d => k d) x) F d) (nI k) (nI (6 * p + k)) em = some dm' ∧ ((∃ g' c', a ≤ c' ∧ GCs d0 dm0 d' dm' g' ∧ bP (rdm dm') = p + 1 ∧ g' ≤ 6 * (p + 1) ∧ PSc n T L d' dm' c') ∨ BDs d0 dm0 d' dm') := by
          intro e em a' tg x ha' hq ht hx hw'
          obtain ⟨v1, v2, v3, v4, v5, v6⟩ := id hw'
          have te := hc0.p (pfc e hq.1)
          have tem := hm0.p (pfm e em tg x (-1) hq)
          have e5 : gF e 1 5 = 0 := (hq.1.1 1 5 (by omega)).trans a3
          have e8 : gF em 0 8 = 0 := (hq.2.2.2.2.1.1 8 (by decide) (by decide) (by decide) (by decide)).trans a4
          have tg' := thing_c (s := 11) te e5 v2 v4 (by decide)
          rw [t_X6_takeChoices_161, if_pos e8, w_without tem ⟨v4, v5, v6⟩]
          by_cases z : wd n T a' 11 = true
          · obtain ⟨d2, r1, r2, r3⟩ := tg'.2 z
            rw [r1, if_pos z]
            have hps : PSc n T L d2 em (a' + wln n T a') := ⟨te.k r3, tem, (r3.1 1 5 (by omega)).trans e5, e8, wln_le v4, v3, r2⟩
            have q2 := hq.k r3 (KMu.rf em)
            rcases number_q (lo := 0) (hi := 7) hps (by decide) (by decide) with ⟨v, d3, dm3, c', u1, u2, s1, s2, t1, t2, s6, cc', hp2⟩ | ⟨t, xx, dm1, t1, t2, s1, s2, kk⟩
            · have s1' : t_X1_readNumber L d2 0 7 = some (nI v, d3) := s1
              have s2' : t_X6_takeNumber LM em 0 7 = some (nI v, dm3) := s2
              have q3 := (q2.k t1 t2).w (i := 656 + (6 * p + k)) (w1' := x) (w2' := nI v) (v := nI v) (.inr ⟨rfl, rfl, rfl⟩) y144
              have tm3 := hm0.p (pfm _ _ _ _ _ q3)
              obtain ⟨dm4, x1, x2, x3, x4, x5⟩ := takeWord_q (c := c') tm3 hp2.2.2.2.2.2.1 hp2.2.2.2.2.1
              have sk := skp_le (T := T) hp2.2.2.2.2.1
              rw [s1', ob, ob, s2', ob, show (656 : Int32) + nI (6 * p + k) = nI (656 + (6 * p + k)) from nI_add 656 _, LM2, gdi (show 656 + (6 * p + k) < 1376 by omega) (by omega), bd_q, ix_nI (by omega)]
              dsimp only
              rw [if_pos (show gF (sA dm3 (32 * 0 + 2) (656 + (6 * p + k)) (nI v)) 0 8 = 0 from hp2.2.2.2.1), x1, ob]
              exact good d3 dm4 (skp n T c') tg x (nI v) (by omega) (q3.k (KCu.rf d3) x5) ht hx (.inr ⟨v, by omega, rfl⟩) ⟨skp_skp hp2.2.2.2.2.1, hp2.2.2.2.2.2.2, x2, sk.2, x3, x4⟩
            · have s1' : t_X1_readNumber L d2 0 7 = some (nI 0, sF (sF d2 1 5 (nI t)) 1 2 (nI (skp n T (a' + wln n T a')))) := s1
              have s2' : t_X6_takeNumber LM em 0 7 = some (xx, sF (sF dm1 0 8 (nI t)) 0 9 (nI (skp n T (a' + wln n T a')))) := s2
              have hb0 : BDs d0 dm0 (sF (sF d2 1 5 (nI t)) 1 2 (nI (skp n T (a' + wln n T a')))) (sF (sF dm1 0 8 (nI t)) 0 9 (nI (skp n T (a' + wln n T a')))) := BDs.mk0 ((pfc e hq.1).k r3) (pfm e em tg x (-1) hq) kk t1 (by omega)
              have hb1 : BDs d0 dm0 (sF (sF d2 1 5 (nI t)) 1 2 (nI (skp n T (a' + wln n T a')))) (sA (sF (sF dm1 0 8 (nI t)) 0 9 (nI (skp n T (a' + wln n T a')))) (32 * 0 + 2) (656 + (6 * p + k)) xx) := hb0.st (fun _ _ _ => rfl) (fun _ _ _ _ => rfl) (fun _ => rfl) (fun a i h => by rw [gA_sAi, if_neg (by omega)])
              rw [s1', ob, ob, s2', ob, show (656 : Int32) + nI (6 * p + k) = nI (656 + (6 * p + k)) from nI_add 656 _, LM2, gdi (show 656 + (6 * p + k) < 1376 by omega) (by omega), bd_q, ix_nI (by omega)]
              dsimp only
              rw [if_neg (show ¬ gF (sA (sF (sF dm1 0 8 (nI t)) 0 9 (nI (skp n T (a' + wln n T a')))) (32 * 0 + 2) (656 + (6 * p + k)) xx) 0 8 = 0 from by rw [gF_sA, gF_sFn (by omega), gF_sF1]; exact nI_ne0 (by omega) (by omega))]
              exact bad _ _ _ _ _ hb1 (by rw [gF_sFn (by omega), gF_sFn (by omega), r3.1 5 0 (by omega)]; exact (hq.1.1 5 0 (by omega)).trans b0) ((r3.2 _ _).trans ((hq.1.2 _ _ (by omega) (by omega)).trans b9))
          · rw [tg'.1 (by cases h : wd n T a' 11 with | true => exact absurd h z | false => rfl), ob, if_neg z]
            exact good e em a' tg x (-1) ha' hq ht hx (.inl rfl) hw'
        -- with
        have g10 : ∀ (e em : Dt) (a' tg : Nat), a ≤ a' → QCh d dm e em g (6 * p + k) tg (-1) (-1) → tg < 24 → WPS n T e em a' → ∃ d' dm', (t_X1_readThingBehind L e 10).bind (fun q11 => (t_X1_readThingBehind L q11.2 11).bind (fun q12 => (t_X0_addChoice L q12.2 5 (nI p) (nI tg) q11.1 q12.1).bind (fun d13 => lp (fun k x => t_X1_readChoices_2 L (nI p) (fun x2 d => k (x2, d)) x.1 x.2) F (nI k + 1, d13)))) = some d' ∧ t_X6_takeChoices_109 LM (nI p) (fun d => lp (fun k x => t_X6_takeChoices_0 LM (nI p) (fun d => k d) x) F d) (nI k) (nI (6 * p + k)) em = some dm' ∧ ((∃ g' c', a ≤ c' ∧ GCs d0 dm0 d' dm' g' ∧ bP (rdm dm') = p + 1 ∧ g' ≤ 6 * (p + 1) ∧ PSc n T L d' dm' c') ∨ BDs d0 dm0 d' dm') := by
          intro e em a' tg ha' hq ht hw'
          obtain ⟨v1, v2, v3, v4, v5, v6⟩ := id hw'
          have te := hc0.p (pfc e hq.1)
          have tem := hm0.p (pfm e em tg (-1) (-1) hq)
          have e5 : gF e 1 5 = 0 := (hq.1.1 1 5 (by omega)).trans a3
          have e8 : gF em 0 8 = 0 := (hq.2.2.2.2.1.1 8 (by decide) (by decide) (by decide) (by decide)).trans a4
          have tg' := thing_c (s := 10) te e5 v2 v4 (by decide)
          rw [t_X6_takeChoices_109, if_pos e8, w_with tem ⟨v4, v5, v6⟩, ob, bI_if]
          by_cases z : wd n T a' 10 = true
          · obtain ⟨d2, r1, r2, r3⟩ := tg'.2 z
            rw [r1, if_pos z]
            have hps : PSc n T L d2 em (a' + wln n T a') := ⟨te.k r3, tem, (r3.1 1 5 (by omega)).trans e5, e8, wln_le v4, v3, r2⟩
            have q2 := hq.k r3 (KMu.rf em)
            rcases number_q (lo := 0) (hi := 7) hps (by decide) (by decide) with ⟨v, d3, dm3, c', u1, u2, s1, s2, t1, t2, s6, cc', hp2⟩ | ⟨t, xx, dm1, t1, t2, s1, s2, kk⟩
            · have s1' : t_X1_readNumber L d2 0 7 = some (nI v, d3) := s1
              have s2' : t_X6_takeNumber LM em 0 7 = some (nI v, dm3) := s2
              have q3 := (q2.k t1 t2).w (i := 512 + (6 * p + k)) (w1' := nI v) (w2' := -1) (v := nI v) (.inl ⟨rfl, rfl, rfl⟩) y144
              have tm3 := hm0.p (pfm _ _ _ _ _ q3)
              obtain ⟨dm4, x1, x2, x3, x4, x5⟩ := takeWord_q (c := c') tm3 hp2.2.2.2.2.2.1 hp2.2.2.2.2.1
              have sk := skp_le (T := T) hp2.2.2.2.2.1
              rw [s1', ob, ob, s2', ob, show (512 : Int32) + nI (6 * p + k) = nI (512 + (6 * p + k)) from nI_add 512 _, LM2, gdi (show 512 + (6 * p + k) < 1376 by omega) (by omega), bd_q, ix_nI (by omega)]
              dsimp only
              rw [if_pos (show gF (sA dm3 (32 * 0 + 2) (512 + (6 * p + k)) (nI v)) 0 8 = 0 from hp2.2.2.2.1), x1, ob]
              exact g11 d3 dm4 (skp n T c') tg (nI v) (by omega) (q3.k (KCu.rf d3) x5) ht (.inr ⟨v, by omega, rfl⟩) ⟨skp_skp hp2.2.2.2.2.1, hp2.2.2.2.2.2.2, x2, sk.2, x3, x4⟩
            · have s1' : t_X1_readNumber L d2 0 7 = some (nI 0, sF (sF d2 1 5 (nI t)) 1 2 (nI (skp n T (a' + wln n T a')))) := s1
              have s2' : t_X6_takeNumber LM em 0 7 = some (xx, sF (sF dm1 0 8 (nI t)) 0 9 (nI (skp n T (a' + wln n T a')))) := s2
              have hb0 : BDs d0 dm0 (sF (sF d2 1 5 (nI t)) 1 2 (nI (skp n T (a' + wln n T a')))) (sF (sF dm1 0 8 (nI t)) 0 9 (nI (skp n T (a' + wln n T a')))) := BDs.mk0 ((pfc e hq.1).k r3) (pfm e em tg (-1) (-1) hq) kk t1 (by omega)
              have hb1 : BDs d0 dm0 (sF (sF d2 1 5 (nI t)) 1 2 (nI (skp n T (a' + wln n T a')))) (sA (sF (sF dm1 0 8 (nI t)) 0 9 (nI (skp n T (a' + wln n T a')))) (32 * 0 + 2) (512 + (6 * p + k)) xx) := hb0.st (fun _ _ _ => rfl) (fun _ _ _ _ => rfl) (fun _ => rfl) (fun a i h => by rw [gA_sAi, if_neg (by omega)])
              have nz : ¬ gF (sA (sF (sF dm1 0 8 (nI t)) 0 9 (nI (skp n T (a' + wln n T a')))) (32 * 0 + 2) (512 + (6 * p + k)) xx) 0 8 = 0 := by rw [gF_sA, gF_sFn (by omega), gF_sF1]; exact nI_ne0 (by omega) (by omega)
              rw [s1', ob, ob, s2', ob, show (512 : Int32) + nI (6 * p + k) = nI (512 + (6 * p + k)) from nI_add 512 _, LM2, gdi (show 512 + (6 * p + k) < 1376 by omega) (by omega), bd_q, ix_nI (by omega)]
              dsimp only
              rw [if_neg nz, thing_bad hb1, ob, t_X6_takeChoices_161, if_neg nz]
              exact bad _ _ _ _ _ hb1 (by rw [gF_sFn (by omega), gF_sFn (by omega), r3.1 5 0 (by omega)]; exact (hq.1.1 5 0 (by omega)).trans b0) ((r3.2 _ _).trans ((hq.1.2 _ _ (by omega) (by omega)).trans b9))
          · rw [tg'.1 (by cases h : wd n T a' 10 with | true => exact absurd h z | false => rfl), ob, if_neg z]
            exact g11 e em a' tg (-1) ha' hq ht (.inl rfl) hw'
        have hps : PSc n T L d1 dm (a + 2) := ⟨tc.k p3, tm, (p3.1 1 5 (by omega)).trans a3, a4, by omega, by rw [w3, wl2], p2⟩
        rcases goal_q (g := g) hps (a9.k p3 (KMu.rf dm)) (by omega) l7 l8 with ⟨v, d2, dm2, c', v4, r1, r2, kg, km, cc', hp2, gl2, gg, pre⟩ | ⟨t, xx, dm1, t1, t2, r1, r2, kk⟩
        · have q0 : QCh d dm d2 (sA (sA (sA dm2 (32 * 0 + 2) (368 + (6 * p + k)) (nI v)) (32 * 0 + 2) (512 + (6 * p + k)) (-1)) (32 * 0 + 2) (656 + (6 * p + k)) (-1)) g (6 * p + k) v (-1) (-1) := by
            refine ⟨⟨fun o j hj => (kg.1 o j hj).trans (p3.1 o j (by omega)), fun x i h1 h2 => (kg.2 x i h1 h2).trans (p3.2 x i)⟩, GLS_2 (GLS_2 (GLS_2 gl2)), fun i hi => ?_, ?_, ⟨fun j h1 h2 h3 h4 => km.1 j h1 h2 h3 h4, fun x i h1 h2 h3 => ?_⟩, fun i => ?_⟩
            · rw [gA_sAi, if_neg (by omega), gA_sAi, if_neg (by omega), gA_sAi, if_neg (by omega)]; exact pre i hi
            · rw [gA_sAi, if_neg (by omega), gA_sAi, if_neg (by omega), gA_sAi, if_neg (by omega)]; exact gg
            · rw [gA_sAi, if_neg (by omega), gA_sAi, if_neg (by omega), gA_sAi, if_neg (by omega)]; exact km.2 x i h2 h3
            · show gA (sA (sA (sA dm2 (32 * 0 + 2) (368 + (6 * p + k)) (nI v)) (32 * 0 + 2) (512 + (6 * p + k)) (-1)) (32 * 0 + 2) (656 + (6 * p + k)) (-1)) (32 * 0 + 2) i = _
              rw [gA_sAi, gA_sAi, gA_sAi]
              by_cases x1 : i = 656 + (6 * p + k)
              · rw [if_pos ⟨rfl, x1⟩, if_neg (by omega), if_neg (by omega), if_pos x1]
              · rw [if_neg (fun z => x1 z.2)]
                by_cases x2 : i = 512 + (6 * p + k)
                · rw [if_pos ⟨rfl, x2⟩, if_neg (by omega), if_pos x2]
                · rw [if_neg (fun z => x2 z.2)]
                  by_cases x3 : i = 368 + (6 * p + k)
                  · rw [if_pos ⟨rfl, x3⟩, if_pos x3]
                  · rw [if_neg (fun z => x3 z.2), if_neg x3, if_neg x2, if_neg x1]; exact km.2 _ i (by decide) (by decide)
          have tm3 := hm0.p (pfm _ _ _ _ _ q0)
          obtain ⟨dm4, x1, x2, x3, x4, x5⟩ := takeWord_q (c := c') tm3 hp2.2.2.2.2.2.1 hp2.2.2.2.2.1
          have sk := skp_le (T := T) hp2.2.2.2.2.1
          rw [r1, ob, r2, ob, show (368 : Int32) + nI (6 * p + k) = nI (368 + (6 * p + k)) from nI_add 368 _, show (512 : Int32) + nI (6 * p + k) = nI (512 + (6 * p + k)) from nI_add 512 _, show (656 : Int32) + nI (6 * p + k) = nI (656 + (6 * p + k)) from nI_add 656 _, LM2, gdi (show 368 + (6 * p + k) < 1376 by omega) (by omega), bd_q, gdi (show 512 + (6 * p + k) < 1376 by omega) (by omega), bd_q, gdi (show 656 + (6 * p + k) < 1376 by omega) (by omega), bd_q, ix_nI (by omega), ix_nI (by omega), ix_nI (by omega)]
          dsimp only
          rw [if_pos (show gF (sA (sA (sA dm2 (32 * 0 + 2) (368 + (6 * p + k)) (nI v)) (32 * 0 + 2) (512 + (6 * p + k)) (-1)) (32 * 0 + 2) (656 + (6 * p + k)) (-1)) 0 8 = 0 from hp2.2.2.2.1), x1, ob]
          exact g10 d2 dm4 (skp n T c') v (by omega) (q0.k (KCu.rf d2) x5) v4 ⟨skp_skp hp2.2.2.2.2.1, hp2.2.2.2.2.2.2, x2, sk.2, x3, x4⟩
        · have hb0 : BDs d0 dm0 (sF (sF d1 1 5 (nI t)) 1 2 (nI (skp n T (a + 2)))) (sF (sF dm1 0 8 (nI t)) 0 9 (nI (skp n T (a + 2)))) := BDs.mk0 (a1.k p3) a2 kk t1 (by omega)
          have hb1 : BDs d0 dm0 (sF (sF d1 1 5 (nI t)) 1 2 (nI (skp n T (a + 2)))) (sA (sA (sA (sF (sF dm1 0 8 (nI t)) 0 9 (nI (skp n T (a + 2)))) (32 * 0 + 2) (368 + (6 * p + k)) xx) (32 * 0 + 2) (512 + (6 * p + k)) (-1)) (32 * 0 + 2) (656 + (6 * p + k)) (-1)) := hb0.st (fun _ _ _ => rfl) (fun _ _ _ _ => rfl) (fun _ => rfl) (fun a i h => by rw [gA_sAi, if_neg (by omega), gA_sAi, if_neg (by omega), gA_sAi, if_neg (by omega)])
          have nz : ¬ gF (sA (sA (sA (sF (sF dm1 0 8 (nI t)) 0 9 (nI (skp n T (a + 2)))) (32 * 0 + 2) (368 + (6 * p + k)) xx) (32 * 0 + 2) (512 + (6 * p + k)) (-1)) (32 * 0 + 2) (656 + (6 * p + k)) (-1)) 0 8 = 0 := by rw [gF_sA, gF_sA, gF_sA, gF_sFn (by omega), gF_sF1]; exact nI_ne0 (by omega) (by omega)
          rw [r1, ob, r2, ob, show (368 : Int32) + nI (6 * p + k) = nI (368 + (6 * p + k)) from nI_add 368 _, show (512 : Int32) + nI (6 * p + k) = nI (512 + (6 * p + k)) from nI_add 512 _, show (656 : Int32) + nI (6 * p + k) = nI (656 + (6 * p + k)) from nI_add 656 _, LM2, gdi (show 368 + (6 * p + k) < 1376 by omega) (by omega), bd_q, gdi (show 512 + (6 * p + k) < 1376 by omega) (by omega), bd_q, gdi (show 656 + (6 * p + k) < 1376 by omega) (by omega), bd_q, ix_nI (by omega), ix_nI (by omega), ix_nI (by omega)]
          dsimp only
          rw [if_neg nz, thing_bad hb1, ob, thing_bad hb1, ob, t_X6_takeChoices_109, if_neg nz, t_X6_takeChoices_161, if_neg nz]
          exact bad _ _ _ _ _ hb1 (by rw [gF_sFn (by omega), gF_sFn (by omega)]; exact (p3.1 5 0 (by omega)).trans b0) ((p3.2 _ _).trans b9)
    · rw [if_neg go, if_neg go, t_X6_takeChoices_241, if_pos a4, bd_q, w5]
      refine ⟨d, _, rfl, rfl, .inl ⟨g, a, Nat.le_refl _, GC_cur hG (KCu.rf d) (KMu.s5 dm _), hi.2.1, by omega, ⟨tc, tm.k (KMu.s5 dm _), a3, ?_, w4, gF_sF1 _ _ _ _, by rw [w1]; exact w2⟩⟩⟩
      rw [gF_sFn (by omega)]; exact a4
