/-! ===== the draft ===== -/
def PFc (d0 d : Dt) : Prop := (∀ x, x ≠ 1 → x ≠ 5 → AG d0 d x) ∧ gF d 1 1 = gF d0 1 1 ∧ ∀ i, gA d (32 * 1 + 3) i = gA d0 (32 * 1 + 3) i
def PFm (d0 d : Dt) : Prop := (∀ j, (j ≠ 5 ∧ j ≠ 6 ∧ j ≠ 7 ∧ j ≠ 8 ∧ j ≠ 9 ∧ j ≠ 10 ∧ j ≠ 14) → gF d 0 j = gF d0 0 j) ∧ ∀ a i, (a ≠ 2 ∧ a ≠ 12 ∧ a ≠ 13) → gA d a i = gA d0 a i
theorem PFc.st {d0 d d' : Dt} (h : PFc d0 d) (hF : ∀ o j, o ≠ 5 → (o = 1 → j = 1) → gF d' o j = gF d o j) (hA : ∀ a i, (a < 39 ∨ 41 ≤ a) → (a < 160 ∨ 192 ≤ a) → gA d' a i = gA d a i) : PFc d0 d' :=
  ⟨fun x h1 h5 => (h.1 x h1 h5).trans ⟨fun j => hF x j h5 (fun z => absurd z h1), fun j hj i => hA _ i (by omega) (by omega)⟩, (hF 1 1 (by decide) (fun _ => rfl)).trans h.2.1, fun i => (hA _ i (by omega) (by omega)).trans (h.2.2 i)⟩
theorem PFc.k {d0 d d' : Dt} (h : PFc d0 d) (k : KCu d d') : PFc d0 d' := h.st (fun o j _ h1 => k.1 o j (fun z => by have := h1 z.1; omega)) (fun a i _ _ => k.2 a i)
theorem PFm.st {d0 d d' : Dt} (h : PFm d0 d) (hF : ∀ j, (j ≠ 5 ∧ j ≠ 6 ∧ j ≠ 7 ∧ j ≠ 8 ∧ j ≠ 9 ∧ j ≠ 10 ∧ j ≠ 14) → gF d' 0 j = gF d 0 j) (hA : ∀ a i, (a ≠ 2 ∧ a ≠ 12 ∧ a ≠ 13) → gA d' a i = gA d a i) : PFm d0 d' := ⟨fun j hj => (hF j hj).trans (h.1 j hj), fun a i ha => (hA a i ha).trans (h.2 a i ha)⟩
theorem PFm.k {d0 d d' : Dt} (h : PFm d0 d) (k : KMu d d') : PFm d0 d' := h.st (fun j hj => k.1 j hj.1 hj.2.1 hj.2.2.1) (fun a i _ => k.2 a i)
theorem TFc.p {n : Nat} {T : Nat → Nat} {L : Nat → Nat} {d d' : Dt} (h : TFc n T L d) (k : PFc d d') : TFc n T L d' := ⟨h.1, k.2.1.trans h.2.1, h.2.2.1, fun i hi => ⟨(h.2.2.2 i hi).1, (k.2.2 i).trans (h.2.2.2 i hi).2⟩⟩
theorem TFm.p {n : Nat} {T : Nat → Nat} {d d' : Dt} (h : TFm n T d) (k : PFm d d') : TFm n T d' := ⟨h.1, (k.1 4 (by decide)).trans h.2.1, fun i hi => ⟨(h.2.2 i hi).1, (k.2 _ i (by decide)).trans (h.2.2 i hi).2⟩⟩
def BDs (d0 dm0 d dm : Dt) : Prop := PFc d0 d ∧ PFm dm0 dm ∧ ∃ t, 1 ≤ t ∧ t ≤ 4 ∧ gF d 1 5 = nI t ∧ gF dm 0 8 = nI t ∧ gF d 1 2 = gF dm 0 9
theorem BDs.mk0 {d0 dm0 d dm dm1 : Dt} {t : Nat} {x : Int32} (hc : PFc d0 d) (hm : PFm dm0 dm) (k : KMu dm dm1) (h1 : 1 ≤ t) (h4 : t ≤ 4) : BDs d0 dm0 (sF (sF d 1 5 (nI t)) 1 2 x) (sF (sF dm1 0 8 (nI t)) 0 9 x) := by
  refine ⟨hc.st (fun o j _ h => ?_) (fun _ _ _ _ => rfl), (hm.k k).st (fun j hj => ?_) (fun _ _ _ => rfl), t, h1, h4, ?_, ?_, ?_⟩
  · rw [gF_sFn (fun z => by have := h z.1; omega), gF_sFn (fun z => by have := h z.1; omega)]
  · rw [gF_sFn (by omega), gF_sFn (by omega)]
  · rw [gF_sFn (by omega), gF_sF1]
  · rw [gF_sFn (by omega), gF_sF1]
  · rw [gF_sF1, gF_sF1]
theorem BDs.st {d0 dm0 d dm d' dm' : Dt} (h : BDs d0 dm0 d dm) (hF : ∀ o j, o ≠ 5 → gF d' o j = gF d o j) (hA : ∀ a i, (a < 39 ∨ 41 ≤ a) → (a < 160 ∨ 192 ≤ a) → gA d' a i = gA d a i) (hm : ∀ j, gF dm' 0 j = gF dm 0 j) (hA' : ∀ a i, (a ≠ 2 ∧ a ≠ 12 ∧ a ≠ 13) → gA dm' a i = gA dm a i) : BDs d0 dm0 d' dm' := by
  obtain ⟨a, b, t, t1, t2, t3, t4, t5⟩ := h
  exact ⟨a.st (fun o j h5 _ => hF o j h5) hA, b.st (fun j _ => hm j) hA', t, t1, t2, (hF 1 5 (by decide)).trans t3, (hm 8).trans t4, by rw [hF 1 2 (by decide), hm 9]; exact t5⟩
/-- goals told so far -/
def GLS (d dm : Dt) (g : Nat) : Prop := gF d 1 9 = nI g ∧ gF dm 0 14 = nI g ∧ g ≤ 144 ∧ ∀ i, i < g → gA d (32 * 1 + 7) i = gA dm (32 * 0 + 12) i ∧ gA d (32 * 1 + 8) i = gA dm (32 * 0 + 13) i ∧ NB (gA dm (32 * 0 + 12) i) 24
def KGc (d d' : Dt) : Prop := (∀ o j, ¬ (o = 1 ∧ (j = 4 ∨ j = 9)) → gF d' o j = gF d o j) ∧ ∀ a i, a ≠ 39 → a ≠ 40 → gA d' a i = gA d a i
def KGm (d d' : Dt) : Prop := (∀ j, j ≠ 5 → j ≠ 6 → j ≠ 7 → j ≠ 14 → gF d' 0 j = gF d 0 j) ∧ ∀ a i, a ≠ 12 → a ≠ 13 → gA d' a i = gA d a i
theorem GLS.k {d dm d' dm' : Dt} {g : Nat} (h : GLS d dm g) (kc : KCu d d') (km : KMu dm dm') : GLS d' dm' g := by
  obtain ⟨a, b, c, e⟩ := h
  refine ⟨(kc.1 1 9 (by omega)).trans a, (km.1 14 (by decide) (by decide) (by decide)).trans b, c, fun i hi => ?_⟩
  rw [kc.2, kc.2, km.2, km.2]
  exact e i hi
theorem goal_q {n c g : Nat} {T : Nat → Nat} {L : Nat → Nat} {d dm : Dt} (h : PSc n T L d dm c) (hg : GLS d dm g) (hg4 : g < 144) (l7 : L (32 * 1 + 7) = 144) (l8 : L (32 * 1 + 8) = 144) : (∃ v d' dm' c', v < 24 ∧ t_X1_readTarget L d = some (nI v, d') ∧ t_X6_takeGoal LM dm = some (nI v, dm') ∧ KGc d d' ∧ KGm dm dm' ∧ c < c' ∧ PSc n T L d' dm' c' ∧ GLS d' dm' (g + 1) ∧ gA dm' (32 * 0 + 12) g = nI v ∧ ∀ i, i < g → gA dm' (32 * 0 + 12) i = gA dm (32 * 0 + 12) i) ∨ (∃ t x dm1, 1 ≤ t ∧ t ≤ 2 ∧ t_X1_readTarget L d = some (nI 0, sF (sF d 1 5 (nI t)) 1 2 (nI (skp n T c))) ∧ t_X6_takeGoal LM dm = some (x, sF (sF dm1 0 8 (nI t)) 0 9 (nI (skp n T c))) ∧ KMu dm dm1) := by
  have h4 := h.2.2.2.2.2.2
  unfold t_X1_readTarget t_X6_takeGoal
  rcases number_q (lo := 0) (hi := 23) h (by decide) (by decide) with ⟨v, d', dm', c', v1, v2, r1, r2, k1, k2, s6, cc', hp⟩ | ⟨t, x, dm1, t1, t2, r1, r2, k⟩
  · left
    have r1' : t_X1_readNumber L d 0 23 = some (nI v, d') := r1
    have r2' : t_X6_takeNumber LM dm 0 23 = some (nI v, dm') := r2
    have hg' := hg.k k1 k2
    obtain ⟨g1, g2, g3, g4⟩ := hg'
    rw [bd_q, r1', ob, r2', ob]
    dsimp only
    rw [if_pos hp.2.2.1, if_pos hp.2.2.2.1, g1, g2, l7, l8, if_neg (nI_ge hg4 (by omega)), gdi (show g < 144 by omega) (by omega), bd_q, LM12, LM13, gdi (show g < 200 by omega) (by omega), bd_q]
    rw [show gF (sA d' (32 * 1 + 7) (ix (nI g)) (nI v)) 1 9 = nI g from g1, gdi (show g < 144 by omega) (by omega), bd_q, bd_q, show gF (sA dm' (32 * 0 + 12) (ix (nI g)) (nI v)) 0 14 = nI g from g2, gdi (show g < 200 by omega) (by omega), bd_q, bd_q, ix_nI (by omega), h4]
    rw [show gF (sA (sA d' (32 * 1 + 7) g (nI v)) (32 * 1 + 8) g (nI (skp n T c))) 1 9 = nI g from g1, show gF (sA (sA dm' (32 * 0 + 12) g (nI v)) (32 * 0 + 13) g (gF (sA dm' (32 * 0 + 12) g (nI v)) 0 6)) 0 14 = nI g from g2, nI_1, show gF (sA dm' (32 * 0 + 12) g (nI v)) 0 6 = nI (skp n T c) from s6]
    refine ⟨v, _, _, c', by omega, rfl, rfl, ⟨fun o j hj => ?_, fun a i h1 h2 => ?_⟩, ⟨fun j a b e f => ?_, fun a i h1 h2 => ?_⟩, cc', ?_, ⟨?_, ?_, by omega, fun i hi => ?_⟩, ?_, fun i hi => ?_⟩
    · rw [gF_sFn (by omega)]; exact k1.1 o j (by omega)
    · show gA (sA (sA d' (32 * 1 + 7) g (nI v)) (32 * 1 + 8) g (nI (skp n T c))) a i = _
      rw [gA_sAi, if_neg (by omega), gA_sAi, if_neg (by omega)]; exact k1.2 a i
    · rw [gF_sFn (by omega)]; exact k2.1 j a b e
    · show gA (sA (sA dm' (32 * 0 + 12) g (nI v)) (32 * 0 + 13) g (nI (skp n T c))) a i = _
      rw [gA_sAi, if_neg (by omega), gA_sAi, if_neg (by omega)]; exact k2.2 a i
    · obtain ⟨q1, q2, q3, q4, q5, q6, q7⟩ := hp
      refine ⟨⟨q1.1, ?_, q1.2.2.1, fun i hi => ⟨(q1.2.2.2 i hi).1, ?_⟩⟩, ⟨q2.1, ?_, fun i hi => ⟨(q2.2.2 i hi).1, ?_⟩⟩, ?_, ?_, q5, ?_, ?_⟩
      · rw [gF_sFn (by omega)]; exact q1.2.1
      · show gA (sA (sA d' (32 * 1 + 7) g (nI v)) (32 * 1 + 8) g (nI (skp n T c))) (32 * 1 + 3) i = _
        rw [gA_sAi, if_neg (by omega), gA_sAi, if_neg (by omega)]; exact (q1.2.2.2 i hi).2
      · rw [gF_sFn (by omega)]; exact q2.2.1
      · show gA (sA (sA dm' (32 * 0 + 12) g (nI v)) (32 * 0 + 13) g (nI (skp n T c))) (32 * 0 + 3) i = _
        rw [gA_sAi, if_neg (by omega), gA_sAi, if_neg (by omega)]; exact (q2.2.2 i hi).2
      · rw [gF_sFn (by omega)]; exact q3
      · rw [gF_sFn (by omega)]; exact q4
      · rw [gF_sFn (by omega)]; exact q6
      · rw [gF_sFn (by omega)]; exact q7
    · exact gF_sF1 _ _ _ _
    · exact gF_sF1 _ _ _ _
    · show gA (sA (sA d' (32 * 1 + 7) g (nI v)) (32 * 1 + 8) g (nI (skp n T c))) (32 * 1 + 7) i = gA (sA (sA dm' (32 * 0 + 12) g (nI v)) (32 * 0 + 13) g (nI (skp n T c))) (32 * 0 + 12) i ∧ gA (sA (sA d' (32 * 1 + 7) g (nI v)) (32 * 1 + 8) g (nI (skp n T c))) (32 * 1 + 8) i = gA (sA (sA dm' (32 * 0 + 12) g (nI v)) (32 * 0 + 13) g (nI (skp n T c))) (32 * 0 + 13) i ∧ NB (gA (sA (sA dm' (32 * 0 + 12) g (nI v)) (32 * 0 + 13) g (nI (skp n T c))) (32 * 0 + 12) i) 24
      have q1 : ∀ (e : Dt) (a1 a2 i : Nat) (x y : Int32), a1 ≠ a2 → gA (sA (sA e a1 g x) a2 g y) a1 i = (if i = g then x else gA e a1 i) ∧ gA (sA (sA e a1 g x) a2 g y) a2 i = if i = g then y else gA e a2 i := fun e a1 a2 i x y ne => by
        refine ⟨?_, ?_⟩
        · rw [gA_sAi, if_neg (fun z => ne z.1), gA_sAi]
          by_cases z : i = g
          · rw [if_pos ⟨rfl, z⟩, if_pos z]
          · rw [if_neg (fun w => z w.2), if_neg z]
        · rw [gA_sAi]
          by_cases z : i = g
          · rw [if_pos ⟨rfl, z⟩, if_pos z]
          · rw [if_neg (fun w => z w.2), if_neg z, gA_sAi, if_neg (fun w => ne w.1.symm)]
      rw [(q1 d' (32 * 1 + 7) (32 * 1 + 8) i _ _ (by decide)).1, (q1 d' (32 * 1 + 7) (32 * 1 + 8) i _ _ (by decide)).2, (q1 dm' (32 * 0 + 12) (32 * 0 + 13) i _ _ (by decide)).1, (q1 dm' (32 * 0 + 12) (32 * 0 + 13) i _ _ (by decide)).2]
      by_cases e : i = g
      · rw [if_pos e, if_pos e, if_pos e, if_pos e]
        exact ⟨rfl, rfl, v, by omega, rfl⟩
      · rw [if_neg e, if_neg e, if_neg e, if_neg e]
        exact g4 i (by omega)
    · show gA (sA (sA dm' (32 * 0 + 12) g (nI v)) (32 * 0 + 13) g (nI (skp n T c))) (32 * 0 + 12) g = _
      rw [gA_sAi, if_neg (by omega), gA_sAi, if_pos ⟨rfl, rfl⟩]
    · show gA (sA (sA dm' (32 * 0 + 12) g (nI v)) (32 * 0 + 13) g (nI (skp n T c))) (32 * 0 + 12) i = _
      rw [gA_sAi, if_neg (by omega), gA_sAi, if_neg (by omega)]; exact k2.2 _ i
  · right
    have r1' : t_X1_readNumber L d 0 23 = some (nI 0, sF (sF d 1 5 (nI t)) 1 2 (nI (skp n T c))) := r1
    have r2' : t_X6_takeNumber LM dm 0 23 = some (x, sF (sF dm1 0 8 (nI t)) 0 9 (nI (skp n T c))) := r2
    refine ⟨t, x, dm1, t1, t2, ?_, ?_, k⟩
    · rw [bd_q, r1', ob]
      dsimp only
      rw [gF_sFn (by omega), gF_sF1, if_neg (nI_ne0 (by omega) (by omega))]
    · rw [r2', ob]
      dsimp only
      rw [gF_sFn (by omega), gF_sF1, if_neg (nI_ne0 (by omega) (by omega))]
/-- the draft's parts: bounds as the text gives them -/
def DVp (r : Nat → Int32) (p : Nat) : Prop := NB (r (8 + p)) 4 ∧ NB (r (32 + p)) 5 ∧ NB (r (56 + p)) 7 ∧ (bE r p ≠ 0 → bC r p = 0) ∧ (bE r p = 3 → NB (r (80 + p)) 7 ∧ 2 ≤ ix (r (80 + p)) ∧ NB (r (104 + p)) 24 ∧ NB (r (128 + p)) 24) ∧ (∀ k, k < bN r p → VE r p k) ∧ ∀ c, c < bC r p → NB (r (368 + (6 * p + c))) 24 ∧ VT (r (512 + (6 * p + c))) ∧ VT (r (656 + (6 * p + c)))
def DRF (d : Dt) (r : Nat → Int32) : Prop := gF d 5 0 = r 0 ∧ gF d 5 1 = r 1 ∧ NB (r 0) 25 ∧ NB (r 1) 10 ∧ 1 ≤ bH r ∧ (∀ p, p < bP r → BKp d 5 r p ∧ DVp r p) ∧ ∀ p, bP r ≤ p → p < 24 → r (8 + p) = 0 ∧ r (32 + p) = 0 ∧ r (56 + p) = 0
def PCl (p i : Nat) : Prop := i = 8 + p ∨ i = 32 + p ∨ i = 56 + p ∨ i = 80 + p ∨ i = 104 + p ∨ i = 128 + p ∨ (176 + 4 * p ≤ i ∧ i < 176 + 4 * p + 4) ∨ (272 + 4 * p ≤ i ∧ i < 272 + 4 * p + 4) ∨ (368 + 6 * p ≤ i ∧ i < 368 + 6 * p + 6) ∨ (512 + 6 * p ≤ i ∧ i < 512 + 6 * p + 6) ∨ (656 + 6 * p ≤ i ∧ i < 656 + 6 * p + 6)
def CPc (d d' : Dt) (p : Nat) : Prop := gF d' 5 0 = gF d 5 0 ∧ gF d' 5 1 = gF d 5 1 ∧ (∀ j i, (j = 2 ∨ j = 3 ∨ j = 4 ∨ j = 5 ∨ j = 6 ∨ j = 9) → i ≠ p → gA d' (32 * 5 + j) i = gA d (32 * 5 + j) i) ∧ (∀ j i, (j = 7 ∨ j = 8) → ¬ (4 * p ≤ i ∧ i < 4 * p + 4) → gA d' (32 * 5 + j) i = gA d (32 * 5 + j) i) ∧ ∀ j i, (j = 10 ∨ j = 11 ∨ j = 12) → ¬ (6 * p ≤ i ∧ i < 6 * p + 6) → gA d' (32 * 5 + j) i = gA d (32 * 5 + j) i
theorem DRF_upd {d d' : Dt} {r r' : Nat → Int32} {p : Nat} (h : DRF d r) (hp : bP r = p + 1) (hc : CPc d d' p) (hr : ∀ i, i < 1376 → ¬ PCl p i → r' i = r i) (hb : BKp d' 5 r' p) (hv : DVp r' p) : DRF d' r' ∧ bP r' = p + 1 := by
  obtain ⟨a1, a2, a3, a4, a5, a6, a7⟩ := h
  obtain ⟨c1, c2, c3, c4, c5⟩ := hc
  have p24 : p < 24 := by
    have := nb_ix a3 (by decide)
    have : bP r = ix (r 0) := rfl
    omega
  have r0 : r' 0 = r 0 := hr 0 (by omega) (by unfold PCl; omega)
  have r1 : r' 1 = r 1 := hr 1 (by omega) (by unfold PCl; omega)
  have hP : bP r' = p + 1 := by unfold bP; rw [r0]; exact hp
  refine ⟨⟨by rw [c1, r0]; exact a1, by rw [c2, r1]; exact a2, by rw [r0]; exact a3, by rw [r1]; exact a4, by unfold bH; rw [r1]; exact a5, fun q hq => ?_, fun q h1 h2 => ?_⟩, hP⟩
  · by_cases e : q = p
    · rw [e]; exact ⟨hb, hv⟩
    · have hq' : q < p := by omega
      obtain ⟨⟨k1, k2, k3, k4, k5, k6⟩, ⟨v1, v2, v3, v4, v5, v6, v7⟩⟩ := a6 q (by omega)
      have eE : bE r' q = bE r q := by unfold bE; rw [hr _ (by omega) (by unfold PCl; omega)]
      have eN : bN r' q = bN r q := by unfold bN; rw [hr _ (by omega) (by unfold PCl; omega)]
      have eC : bC r' q = bC r q := by unfold bC; rw [hr _ (by omega) (by unfold PCl; omega)]
      have N5 : bN r q < 5 := (nb_ix v2 (by decide)).2
      have C7 : bC r q < 7 := (nb_ix v3 (by decide)).2
      refine ⟨⟨?_, ?_, ?_, ?_, ?_, ?_⟩, ⟨?_, ?_, ?_, ?_, ?_, ?_, ?_⟩⟩
      · rw [c3 2 q (by omega) (by omega), hr _ (by omega) (by unfold PCl; omega)]; exact k1
      · rw [c3 6 q (by omega) (by omega), hr _ (by omega) (by unfold PCl; omega)]; exact k2
      · rw [c3 9 q (by omega) (by omega), hr _ (by omega) (by unfold PCl; omega)]; exact k3
      · rw [eE, c3 3 q (by omega) (by omega), c3 4 q (by omega) (by omega), c3 5 q (by omega) (by omega), hr (80 + q) (by omega) (by unfold PCl; omega), hr (104 + q) (by omega) (by unfold PCl; omega), hr (128 + q) (by omega) (by unfold PCl; omega)]; exact k4
      · intro k hk
        rw [eN] at hk
        rw [c4 7 _ (by omega) (by omega), c4 8 _ (by omega) (by omega), hr (176 + (4 * q + k)) (by omega) (by unfold PCl; omega), hr (272 + (4 * q + k)) (by omega) (by unfold PCl; omega)]; exact k5 k hk
      · intro c hc
        rw [eC] at hc
        rw [c5 10 _ (by omega) (by omega), c5 11 _ (by omega) (by omega), c5 12 _ (by omega) (by omega), hr (368 + (6 * q + c)) (by omega) (by unfold PCl; omega), hr (512 + (6 * q + c)) (by omega) (by unfold PCl; omega), hr (656 + (6 * q + c)) (by omega) (by unfold PCl; omega)]; exact k6 c hc
      · rw [hr _ (by omega) (by unfold PCl; omega)]; exact v1
      · rw [hr _ (by omega) (by unfold PCl; omega)]; exact v2
      · rw [hr _ (by omega) (by unfold PCl; omega)]; exact v3
      · rw [eE, eC]; exact v4
      · rw [eE, hr (80 + q) (by omega) (by unfold PCl; omega), hr (104 + q) (by omega) (by unfold PCl; omega), hr (128 + q) (by omega) (by unfold PCl; omega)]; exact v5
      · intro k hk
        rw [eN] at hk
        have := v6 k hk
        unfold VE bK at this ⊢
        rw [hr (176 + (4 * q + k)) (by omega) (by unfold PCl; omega), hr (272 + (4 * q + k)) (by omega) (by unfold PCl; omega)]; exact this
      · intro c hc
        rw [eC] at hc
        rw [hr (368 + (6 * q + c)) (by omega) (by unfold PCl; omega), hr (512 + (6 * q + c)) (by omega) (by unfold PCl; omega), hr (656 + (6 * q + c)) (by omega) (by unfold PCl; omega)]; exact v7 c hc
  · rw [hP] at h1
    rw [hr (8 + q) (by omega) (by unfold PCl; omega), hr (32 + q) (by omega) (by unfold PCl; omega), hr (56 + q) (by omega) (by unfold PCl; omega)]
    exact a7 q (by omega) h2
def IGg (dm : Dt) (g : Nat) (x : Int32) : Prop := ∃ i, i < g ∧ gA dm (32 * 0 + 12) i = x
def IGL (dm : Dt) (g : Nat) (r : Nat → Int32) (p : Nat) : Prop := (bE r p = 3 → IGg dm g (r (104 + p)) ∧ IGg dm g (r (128 + p))) ∧ ∀ c, c < bC r p → IGg dm g (r (368 + (6 * p + c)))
theorem IGL_upd {dm dm' : Dt} {r r' : Nat → Int32} {g g' p q : Nat} (hp : q < p) (hp4 : p < 24) (hv : DVp r q) (hr : ∀ i, i < 1376 → ¬ PCl p i → r' i = r i) (hg : g ≤ g') (hm : ∀ i, i < g → gA dm' (32 * 0 + 12) i = gA dm (32 * 0 + 12) i) (h : IGL dm g r q) : IGL dm' g' r' q := by
  have C7 : bC r q < 7 := (nb_ix hv.2.2.1 (by decide)).2
  have eE : bE r' q = bE r q := by unfold bE; rw [hr _ (by omega) (by unfold PCl; omega)]
  have eC : bC r' q = bC r q := by unfold bC; rw [hr _ (by omega) (by unfold PCl; omega)]
  have mono : ∀ x, IGg dm g x → IGg dm' g' x := fun x ⟨i, h1, h2⟩ => ⟨i, by omega, (hm i h1).trans h2⟩
  refine ⟨fun e => ?_, fun c hc => ?_⟩
  · rw [eE] at e
    rw [hr (104 + q) (by omega) (by unfold PCl; omega), hr (128 + q) (by omega) (by unfold PCl; omega)]
    exact ⟨mono _ (h.1 e).1, mono _ (h.1 e).2⟩
  · rw [eC] at hc
    rw [hr (368 + (6 * q + c)) (by omega) (by unfold PCl; omega)]
    exact mono _ (h.2 c hc)
