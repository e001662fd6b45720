/-! ===== the effects, to the end ===== -/
theorem eff_lp {n : Nat} {T : Nat → Nat} {L : Nat → Nat} {d0 dm0 : Dt} {g p : Nat} (hl : LB L 5) (hc0 : TFc n T L d0) (hm0 : TFm n T dm0) (p24 : p < 24) : ∀ (m k F a : Nat) (d dm : Dt), k + m = 5 → m < F → INP d0 dm0 d dm g p → bN (rdm dm) p = k → bC (rdm dm) p = 0 → WPS n T d dm a → ∃ d' dm', lp (fun k x => t_X1_readEffects_2 L (nI p) (fun x2 d => k (x2, d)) x.1 x.2) F (nI k, d) = some d' ∧ lp (fun k x => t_X6_takeEffects_9 LM (nI p) (fun x2 d => k (x2, d)) x.1 x.2) F (kdn n T a, dm) = some dm' ∧ ((∃ a', a ≤ a' ∧ INP d0 dm0 d' dm' g p ∧ bC (rdm dm') p = 0 ∧ WPS n T d' dm' a') ∨ BDs d0 dm0 d' dm') := by
  have n6 := hc0.1
  intro m
  induction m with
  | zero =>
    intro k F a d dm hk hF hi hN
    have := (nb_ix (hi.1.2.2.2.2.2.2.1.2.2.2.2.2.1 p (by rw [hi.2.1]; omega)).2.2.1 (by decide)).2
    have : bN (rdm dm) p = ix (rdm dm (32 + p)) := rfl
    omega
  | succ m ih =>
    intro k F a d dm hk hF hi hN hC hw
    obtain ⟨F, rfl⟩ : ∃ G, F = G + 1 := ⟨F - 1, by omega⟩
    have hG := hi.1
    obtain ⟨a1, a2, a3, a4, a5, a6, a7, a8, a9, a10, a11⟩ := id hG
    obtain ⟨w1, w2, w3, w4, w5, w6⟩ := id hw
    have tc := hc0.p a1
    have tm := hm0.p a2
    have k4 : k ≤ 4 := by
      have := (nb_ix (a7.2.2.2.2.2.1 p (by rw [hi.2.1]; omega)).2.2.1 (by decide)).2
      have : bN (rdm dm) p = ix (rdm dm (32 + p)) := rfl
      omega
    have b6 : gA d (32 * 5 + 6) p = nI k := by
      have q := (a7.2.2.2.2.2.1 p (by rw [hi.2.1]; omega))
      rw [q.1.2.1, ← hN]
      exact (nb_ix q.2.2.1 (by decide)).1
    have b32 : rdm dm (32 + p) = nI k := by
      have q := (a7.2.2.2.2.2.1 p (by rw [hi.2.1]; omega))
      rw [← hN]
      exact (nb_ix q.2.2.1 (by decide)).1
    have b0 : gF d 5 0 = nI (p + 1) := by
      rw [a7.1, ← hi.2.1]; exact (nb_ix a7.2.2.1 (by decide)).1
    show ∃ d' dm', t_X1_readEffects_2 L (nI p) (fun x2 d => lp _ F (x2, d)) (nI k) d = _ ∧ t_X6_takeEffects_9 LM (nI p) (fun x2 d => lp _ F (x2, d)) (kdn n T a) dm = _ ∧ _
    rw [t_X1_readEffects_2, if_neg (show ¬ (4 : Int32) < nI k from nI_nlt (a := 4) k4 (by decide)), if_pos a3, kind_c tc w2 w4, ob, t_X6_takeEffects_9]
    rcases kdn_cases n T a with e | ⟨κ, κ4, e, wl4⟩
    · rw [e, if_pos rfl, if_pos (by decide)]
      exact ⟨d, dm, rfl, rfl, .inl ⟨a, Nat.le_refl _, hi, hC, hw⟩⟩
    · have ne : ¬ nI κ = -1 := fun z => nI_pos (show κ < 2 ^ 31 by omega) (by rw [z]; decide)
      rw [e, if_neg ne, if_neg (nI_pos (by omega)), if_pos a4, LM2, show (32 : Int32) + nI p = nI (32 + p) from nI_add 32 p, gdi (show 32 + p < 1376 by omega) (by omega), bd_q, ix_nI (by omega), show gA dm (32 * 0 + 2) (32 + p) = nI k from b32]
      -- out of the loop in trouble
      have outc : ∀ (e : Dt) (x : Int32), (∃ em, BDs d0 dm0 e em) → lp (fun k x => t_X1_readEffects_2 L (nI p) (fun x2 d => k (x2, d)) x.1 x.2) F (x, e) = some e := by
        intro e x ⟨em, hb⟩
        obtain ⟨F, rfl⟩ : ∃ G, F = G + 1 := ⟨F - 1, by omega⟩
        obtain ⟨_, _, t, t1, t2, t3, t4, t5⟩ := hb
        show t_X1_readEffects_2 L (nI p) (fun x2 d => lp _ F (x2, d)) x e = _
        rw [t_X1_readEffects_2, t3, if_neg (nI_ne0 (by omega) (by omega) : ¬ nI t = 0)]
        split <;> rfl
      have outm : ∀ (em : Dt), (∃ e, BDs d0 dm0 e em) → lp (fun k x => t_X6_takeEffects_9 LM (nI p) (fun x2 d => k (x2, d)) x.1 x.2) F (nI κ, em) = some em := by
        intro em ⟨e, hb⟩
        obtain ⟨F, rfl⟩ : ∃ G, F = G + 1 := ⟨F - 1, by omega⟩
        obtain ⟨_, _, t, t1, t2, t3, t4, t5⟩ := hb
        show t_X6_takeEffects_9 LM (nI p) (fun x2 d => lp _ F (x2, d)) (nI κ) em = _
        rw [t_X6_takeEffects_9, if_neg (nI_pos (by omega)), t4, if_neg (nI_ne0 (by omega) (by omega) : ¬ nI t = 0)]
      by_cases e4 : k = 4
      · subst e4
        have hb : BDs d0 dm0 (sF (sF d 1 5 (nI 3)) 1 2 (nI a)) (sF (sF dm 0 8 (nI 3)) 0 9 (nI a)) := BDs.mk0 a1 a2 (KMu.rf dm) (by decide) (by decide)
        rw [if_pos (show nI 4 = 4 from rfl), if_pos (show (4 : Int32) ≤ nI 4 by decide), w2, show (3 : Int32) = nI 3 from rfl, fail_q a3, ob, t_X6_takeEffects_41, w5, show (3 : Int32) = nI 3 from rfl, want_0 a4 (by decide) (by decide), ob, if_pos rfl, t_X6_takeEffects_131]
        exact ⟨_, _, rfl, outm _ ⟨_, hb⟩, .inr hb⟩
      · have k3 : k < 4 := by omega
        have nk4 : ¬ nI k = 4 := fun z => e4 (nI_inj (by omega) (by decide) z)
        have hwl := wln_le (T := T) w4
        obtain ⟨d1, p1, p2, p3⟩ := pass_q tc w2 (m := 4) (by omega)
        have p1' : t_X1_pass L d (nI (slen.getD 2 0)) = some d1 := by
          rw [show slen.getD 2 0 = 4 by decide +kernel]; exact p1
        unfold t_J0_length_8abf5
        rw [if_neg nk4, if_neg (show ¬ (4 : Int32) ≤ nI k from nI_ge (b := 4) k3 (by decide)), ob, p1', ob, t_X6_takeEffects_41, want_1 a4, ob, if_neg (show ¬ (1 : Int32) = 0 by decide)]
        have i1 : (176 : Int32) + 4 * nI p + nI k = nI (176 + (4 * p + k)) := by
          rw [show (4 : Int32) = nI 4 from rfl, nI_mulN, show (176 : Int32) = nI 176 from rfl, nI_add, nI_add]; congr 1; omega
        have i2 : (272 : Int32) + 4 * nI p + nI k = nI (272 + (4 * p + k)) := by
          rw [show (4 : Int32) = nI 4 from rfl, nI_mulN, show (272 : Int32) = nI 272 from rfl, nI_add, nI_add]; congr 1; omega
        dsimp only
        rw [i1, i2, LM2, gdi (show 176 + (4 * p + k) < 1376 by omega) (by omega), bd_q, ix_nI (by omega)]
        -- the size, then on
        have hps : PSc n T L d1 (sA dm (32 * 0 + 2) (176 + (4 * p + k)) (nI κ)) (a + 4) := by
          refine ⟨tc.k p3, ⟨tm.1, tm.2.1, fun i hi => ⟨(tm.2.2 i hi).1, ?_⟩⟩, (p3.1 1 5 (by omega)).trans a3, a4, by omega, ?_, p2⟩
          · rw [gA_sAi, if_neg (by omega)]; exact (tm.2.2 i hi).2
          · show gF dm 0 5 = _
            rw [w3, wl4]
        have aft : ∀ lo hii, lo ≤ hii → hii ≤ 9 → (κ < 2 → hii ≤ 7) → ∃ d' dm', (t_X1_readNumber L d1 (nI lo) (nI hii)).bind (fun q12 => t_X1_readEffects_87 L (nI p) (fun x2 d => lp (fun k x => t_X1_readEffects_2 L (nI p) (fun x2 d => k (x2, d)) x.1 x.2) F (x2, d)) (nI k) (nI κ) q12.1 q12.2) = some d' ∧ (t_X6_takeNumber LM (sA dm (32 * 0 + 2) (176 + (4 * p + k)) (nI κ)) (nI lo) (nI hii)).bind (fun q13 => t_X6_takeEffects_102 LM (nI p) (fun x2 d => lp (fun k x => t_X6_takeEffects_9 LM (nI p) (fun x2 d => k (x2, d)) x.1 x.2) F (x2, d)) (nI κ) (nI k) q13.1 (nI (272 + (4 * p + k))) q13.2) = some dm' ∧ ((∃ a', a ≤ a' ∧ INP d0 dm0 d' dm' g p ∧ bC (rdm dm') p = 0 ∧ WPS n T d' dm' a') ∨ BDs d0 dm0 d' dm') := by
          intro lo hii hlh h9 h7
          rcases number_q (lo := lo) (hi := hii) hps (by omega) hlh with ⟨v, d2, dm2, c', v1, v2, r1, r2, q1, q2, s6, cc', hp2⟩ | ⟨t, x, dm1, t1, t2, r1, r2, kk⟩
          · have kc2 := p3.tr q1
            have eff := eff_upd (v := v) (κ := κ) hi hN k3 κ4 (by omega) (fun z => by have := h7 z; omega)
            obtain ⟨f1, f2, f3⟩ := eff
            -- the reference's rows after the number
            have km2 : KMu (sA (sA (sA dm (32 * 0 + 2) (176 + (4 * p + k)) (nI κ)) (32 * 0 + 2) (272 + (4 * p + k)) (nI v)) (32 * 0 + 2) (32 + p) (nI (k + 1))) (sA (sA dm2 (32 * 0 + 2) (272 + (4 * p + k)) (nI v)) (32 * 0 + 2) (32 + p) (nI (k + 1))) := by
              refine ⟨fun j h1 h2 h3 => q2.1 j h1 h2 h3, fun a i => ?_⟩
              rw [gA_sAi, gA_sAi, q2.2, gA_sAi (sA (sA dm (32 * 0 + 2) (176 + (4 * p + k)) (nI κ)) (32 * 0 + 2) (272 + (4 * p + k)) (nI v)), gA_sAi (sA dm (32 * 0 + 2) (176 + (4 * p + k)) (nI κ))]
            have kc3 : KCu (sA (sA (sA d (32 * 5 + 7) (4 * p + k) (nI κ)) (32 * 5 + 8) (4 * p + k) (nI v)) (32 * 5 + 6) p (nI (k + 1))) (sA (sA (sA d2 (32 * 5 + 7) (4 * p + k) (nI κ)) (32 * 5 + 8) (4 * p + k) (nI v)) (32 * 5 + 6) p (nI (k + 1))) := by
              refine ⟨fun o j h => kc2.1 o j h, fun a i => ?_⟩
              simp only [gA_sAi, kc2.2]
            have ae := addEffect_q (L := L) (d := d2) (p := p) (k := k) hl ((kc2.1 5 0 (by omega)).trans b0) p24 ((kc2.2 _ _).trans b6) k3 (nI κ) (nI v)
            rw [r1, ob, r2, ob]
            dsimp only
            rw [t_X1_readEffects_87, ae, ob, nI_1, t_X6_takeEffects_102, LM2, gdi (show 272 + (4 * p + k) < 1376 by omega) (by omega), bd_q, show (32 : Int32) + nI p = nI (32 + p) from nI_add 32 p, gdi (show 32 + p < 1376 by omega) (by omega), bd_q, ix_nI (by omega), ix_nI (by omega), nI_1]
            rw [if_pos (show gF (sA (sA dm2 (32 * 0 + 2) (272 + (4 * p + k)) (nI v)) (32 * 0 + 2) (32 + p) (nI (k + 1))) 0 8 = 0 from hp2.2.2.2.1)]
            have tm2 : TFm n T (sA (sA dm2 (32 * 0 + 2) (272 + (4 * p + k)) (nI v)) (32 * 0 + 2) (32 + p) (nI (k + 1))) := hm0.p (f1.1.2.1.k km2)
            obtain ⟨dm4, x1, x2, x3, x4, x5⟩ := takeWord_q (c := c') tm2 hp2.2.2.2.2.2.1 hp2.2.2.2.2.1
            have sk := skp_le (T := T) hp2.2.2.2.2.1
            have cw : CWd n T dm4 (skp n T c') := ⟨sk.2, x3, x4⟩
            rw [x1, ob, kind_m (tm2.k x5) cw, ob, t_X6_takeEffects_131]
            have km4 := km2.tr x5
            have er : rdm dm4 = rdm (sA (sA (sA dm (32 * 0 + 2) (176 + (4 * p + k)) (nI κ)) (32 * 0 + 2) (272 + (4 * p + k)) (nI v)) (32 * 0 + 2) (32 + p) (nI (k + 1))) := funext (fun i => km4.2 _ i)
            obtain ⟨d', dm', y1, y2, y3⟩ := ih (k + 1) F (skp n T c') _ dm4 (by omega) (by omega) ⟨GC_cur f1.1 kc3 km4, by rw [er]; exact f1.2.1, by rw [er]; exact f1.2.2.1, by rw [er]; exact f1.2.2.2⟩ (by rw [er]; exact f2) (by rw [er, f3]; exact hC) ⟨skp_skp hp2.2.2.2.2.1, hp2.2.2.2.2.2.2, x2, cw⟩
            refine ⟨d', dm', y1, y2, ?_⟩
            rcases y3 with ⟨a', z1, z2⟩ | z
            · exact .inl ⟨a', by omega, z2⟩
            · exact .inr z
          · have hb0 : BDs d0 dm0 (sF (sF d1 1 5 (nI t)) 1 2 (nI (skp n T (a + 4)))) (sF (sF dm1 0 8 (nI t)) 0 9 (nI (skp n T (a + 4)))) := BDs.mk0 (a1.k p3) (show PFm dm0 (sA dm (32 * 0 + 2) (176 + (4 * p + k)) (nI κ)) from a2.st (fun j _ => rfl) (fun x i hx => by rw [gA_sAi, if_neg (fun z => hx.1 z.1)])) kk t1 (by omega)
            have ae := addEffect_q (L := L) (d := sF (sF d1 1 5 (nI t)) 1 2 (nI (skp n T (a + 4)))) (p := p) (k := k) hl (by rw [gF_sFn (by omega), gF_sFn (by omega)]; exact (p3.1 5 0 (by omega)).trans b0) p24 ((p3.2 _ _).trans b6) k3 (nI κ) (nI lo)
            rw [r1, ob, r2, ob]
            dsimp only
            rw [t_X1_readEffects_87, ae, ob, t_X6_takeEffects_102, LM2, gdi (show 272 + (4 * p + k) < 1376 by omega) (by omega), bd_q, show (32 : Int32) + nI p = nI (32 + p) from nI_add 32 p, gdi (show 32 + p < 1376 by omega) (by omega), bd_q]
            rw [if_neg (show ¬ gF (sA (sA (sF (sF dm1 0 8 (nI t)) 0 9 (nI (skp n T (a + 4)))) (32 * 0 + 2) (ix (nI (272 + (4 * p + k)))) x) (32 * 0 + 2) (ix (nI (32 + p))) (nI k + 1)) 0 8 = 0 from by rw [gF_sA, gF_sA, gF_sFn (by omega), gF_sF1]; exact nI_ne0 (by omega) (by omega)), t_X6_takeEffects_131]
            have hb : BDs d0 dm0 (sA (sA (sA (sF (sF d1 1 5 (nI t)) 1 2 (nI (skp n T (a + 4)))) (32 * 5 + 7) (4 * p + k) (nI κ)) (32 * 5 + 8) (4 * p + k) (nI lo)) (32 * 5 + 6) p (nI (k + 1))) (sA (sA (sF (sF dm1 0 8 (nI t)) 0 9 (nI (skp n T (a + 4)))) (32 * 0 + 2) (ix (nI (272 + (4 * p + k)))) x) (32 * 0 + 2) (ix (nI (32 + p))) (nI k + 1)) := hb0.st (fun _ _ _ => rfl) (fun a i _ h => by rw [gA_sAi, if_neg (by omega), gA_sAi, if_neg (by omega), gA_sAi, if_neg (by omega)]) (fun _ => rfl) (fun a i h => by rw [gA_sAi, if_neg (by omega), gA_sAi, if_neg (by omega)])
            exact ⟨_, _, outc _ _ ⟨_, hb⟩, outm _ ⟨_, hb⟩, .inr hb⟩
        have cs : κ = 0 ∨ κ = 1 ∨ 2 ≤ κ := by omega
        rcases cs with z | z | z
        · subst z
          rw [if_pos (show nI 0 = 0 from rfl), t_X1_readEffects_58, t_X1_readEffects_63, if_neg (by decide), if_neg (show ¬ (2 : Int32) ≤ nI 0 by decide)]
          exact aft 0 7 (by decide) (by decide) (fun _ => by decide)
        · subst z
          rw [if_neg (show ¬ nI 1 = 0 by decide), if_pos (show nI 1 = 1 from rfl), t_X1_readEffects_58, t_X1_readEffects_63, if_neg (by decide), if_neg (show ¬ (2 : Int32) ≤ nI 1 by decide)]
          exact aft 0 7 (by decide) (by decide) (fun _ => by decide)
        · rw [if_neg (nI_ne0 (by omega) (by omega) : ¬ nI κ = 0), if_neg (fun y => by have := nI_inj (a := κ) (b := 1) (by omega) (by decide) y; omega), t_X1_readEffects_63, if_pos rfl, if_pos (show (2 : Int32) ≤ nI κ from nI_le (a := 2) z (by omega))]
          exact aft 1 9 (by decide) (by decide) (fun y => by omega)
