/-! ===== keep, goBack ===== -/
def cps (b b1 : Nat) : List (Nat × Nat) → Dt → Dt
  | [], d => d
  | q :: l, d => cps b b1 l (sR d (32 * b + q.1) (va_cpy (gA d (32 * b1 + q.1)) (gA d (32 * b + q.1)) 0 0 q.2))
theorem cps_F (b b1 : Nat) : ∀ (l : List (Nat × Nat)) (d : Dt) (o j : Nat), gF (cps b b1 l d) o j = gF d o j := by
  intro l
  induction l with
  | nil => intro d o j; rfl
  | cons q l ih => intro d o j; unfold cps; rw [ih]; rfl
theorem cps_o {b b1 : Nat} : ∀ (l : List (Nat × Nat)) (d : Dt) (a i : Nat), (∀ q, q ∈ l → a ≠ 32 * b + q.1) → gA (cps b b1 l d) a i = gA d a i := by
  intro l
  induction l with
  | nil => intro d a i _; rfl
  | cons q l ih =>
    intro d a i h
    unfold cps
    rw [ih _ _ _ (fun q' h' => h q' (List.mem_cons_of_mem _ h')), gA_sRi, if_neg (h q (by simp))]
theorem cps_in {b b1 : Nat} (hb : b ≠ b1) : ∀ (l : List (Nat × Nat)) (d : Dt) (j n i : Nat), (j, n) ∈ l → (l.map (fun q => q.1)).Nodup → (∀ q, q ∈ l → q.1 < 32) → i < n → gA (cps b b1 l d) (32 * b + j) i = gA d (32 * b1 + j) i := by
  intro l
  induction l with
  | nil => intro d j n i h; exact absurd h (by simp)
  | cons q l ih =>
    intro d j n i h hn h32 hi
    rw [List.map_cons, List.nodup_cons] at hn
    unfold cps
    rcases List.mem_cons.mp h with e | e
    · have e1 : q.1 = j := by rw [← e]
      have e2 : q.2 = n := by rw [← e]
      rw [cps_o _ _ _ _ (fun q' h' z => hn.1 (List.mem_map.mpr ⟨q', h', by omega⟩)), gA_sRi, if_pos (by rw [e1]), pk_cpy_in (by omega) (by omega), e1]
      congr 1
      omega
    · rw [ih _ j n i e hn.2 (fun q' h' => h32 q' (List.mem_cons_of_mem _ h')) hi]
      have h1 := h32 q (by simp)
      have h2 := h32 (j, n) (List.mem_cons_of_mem _ e)
      have h2' : j < 32 := h2
      rw [gA_sRi, if_neg (by omega)]
def cpl : List (Nat × Nat) := [(2, 24), (3, 24), (4, 24), (5, 24), (6, 24), (7, 96), (8, 96), (9, 24), (10, 144), (11, 144), (12, 144)]
theorem copyB_q {L : Nat → Nat} {d : Dt} {b b1 : Nat} (hb : b ≠ b1) (h : LB L b) (h1 : LB L b1) : t_X0_copyFrom L d b b1 = some (cps b b1 cpl (sF (sF d b 0 (gF d b1 0)) b 1 (gF d b1 1))) := by
  obtain ⟨a2, a3, a4, a5, a6, a7, a8, a9, a10, a11, a12⟩ := h
  obtain ⟨c2, c3, c4, c5, c6, c7, c8, c9, c10, c11, c12⟩ := h1
  unfold t_X0_copyFrom
  rw [bd_q, gF_sFn (fun y => hb y.1.symm), bd_q, a2, a3, a4, a5, a6, a7, a8, a9, a10, a11, a12, c2, c3, c4, c5, c6, c7, c8, c9, c10, c11, c12, gd_h (show cpok 24 24 0 0 24 = true by decide), bd_q, gd_h (show cpok 24 24 0 0 24 = true by decide), bd_q, gd_h (show cpok 24 24 0 0 24 = true by decide), bd_q, gd_h (show cpok 24 24 0 0 24 = true by decide), bd_q, gd_h (show cpok 24 24 0 0 24 = true by decide), bd_q, gd_h (show cpok 96 96 0 0 96 = true by decide), bd_q, gd_h (show cpok 96 96 0 0 96 = true by decide), bd_q, gd_h (show cpok 24 24 0 0 24 = true by decide), bd_q, gd_h (show cpok 144 144 0 0 144 = true by decide), bd_q, gd_h (show cpok 144 144 0 0 144 = true by decide), bd_q, gd_h (show cpok 144 144 0 0 144 = true by decide), bd_q]
  rfl
/-- book b is a copy of book b1 -/
theorem copyB_r {L : Nat → Nat} {d : Dt} {b b1 : Nat} (hb : b ≠ b1) (h : LB L b) (h1 : LB L b1) : ∃ d', t_X0_copyFrom L d b b1 = some d' ∧ (∀ x, x ≠ b → AG d d' x) ∧ gF d' b 0 = gF d b1 0 ∧ gF d' b 1 = gF d b1 1 ∧ ∀ j n i, (j, n) ∈ cpl → i < n → gA d' (32 * b + j) i = gA d (32 * b1 + j) i := by
  have l32 : ∀ q, q ∈ cpl → q.1 < 32 := by decide
  refine ⟨_, copyB_q hb h h1, fun x hx => ⟨fun j => ?_, fun j hj i => ?_⟩, ?_, ?_, fun j n i hj hi => ?_⟩
  · rw [cps_F, gF_sFn (fun y => hx y.1), gF_sFn (fun y => hx y.1)]
  · rw [cps_o _ _ _ _ (fun q hq => by have := l32 q hq; omega)]; rfl
  · rw [cps_F, gF_sFn (by omega), gF_sF1]
  · rw [cps_F, gF_sF1]
  · rw [cps_in hb _ _ j n i hj (by decide) l32 hi]; rfl
theorem BK_cp {d d' : Dt} {b b1 : Nat} {w : Nat → Int32} (hv : VB w) (hb : BK d b1 w) (h0 : gF d' b 0 = gF d b1 0) (h1 : gF d' b 1 = gF d b1 1) (hr : ∀ j n i, (j, n) ∈ cpl → i < n → gA d' (32 * b + j) i = gA d (32 * b1 + j) i) : BK d' b w := by
  have hP := hv.P.2
  refine ⟨h0.trans hb.1, h1.trans hb.2.1, fun p hp => ?_⟩
  have hV := hv.2.2.2 p hp
  have N5 := hV.N.2
  have C7 := hV.C.2
  obtain ⟨a, b', c, e, f, g⟩ := hb.2.2 p hp
  refine ⟨(hr 2 24 p (by decide) (by omega)).trans a, (hr 6 24 p (by decide) (by omega)).trans b', (hr 9 24 p (by decide) (by omega)).trans c, fun z => ?_, fun q hq => ?_, fun q hq => ?_⟩
  · rw [hr 3 24 p (by decide) (by omega), hr 4 24 p (by decide) (by omega), hr 5 24 p (by decide) (by omega)]; exact e z
  · rw [hr 7 96 _ (by decide) (by omega), hr 8 96 _ (by decide) (by omega)]; exact f q hq
  · rw [hr 10 144 _ (by decide) (by omega), hr 11 144 _ (by decide) (by omega), hr 12 144 _ (by decide) (by omega)]; exact g q hq
/-- situation o becomes a copy of situation o1 -/
theorem copyS_q {L : Nat → Nat} {d : Dt} {o o1 : Nat} {w : Nat → Int32} (ho : o ≠ o1) (hoo : o ≤ 4) (hoo1 : o1 ≤ 4) (ho2 : 2 ≤ o) (ho3 : 2 ≤ o1) (h : LS2 L o) (h1 : LS2 L o1) (hs : SI d o1 w) : ∃ d', t_X2_copyFrom L d o o1 = some d' ∧ SI d' o w ∧ (∀ x, x ≠ o → x ≠ o + 4 → AG d d' x) ∧ gF d' o 6 = gF d o 6 := by
  obtain ⟨d1, r1, r2, r3, r4, r5⟩ := copyB_r (L := L) (d := d) (b := o + 4) (b1 := o1 + 4) (by omega) h.1 h1.1
  obtain ⟨hv, hk, s2, s0, sn, sb⟩ := hs
  have hP := hv.P.2
  have a1 := r2 o1 (by omega)
  have ao := r2 o (by omega)
  have hB : isB (gF d o1 3) = true := by
    rcases sb with q | q
    · rw [q.1]; rfl
    · rw [q.1]; rfl
  unfold t_X2_copyFrom
  rw [r1, ob, h.2.1, h1.2.1, gd_h (show cpok 24 24 0 0 24 = true by decide), bd_q, bd_q, bd_q, bd_q, bd_q]
  generalize hd2 : sR d1 (32 * o + 1) (va_cpy (gA d1 (32 * o1 + 1)) (gA d1 (32 * o + 1)) (ix 0) (ix 0) (ix 24)) = d2
  have f2 : ∀ x j, gF d2 x j = gF d1 x j := fun x j => by rw [← hd2]; rfl
  have e2 : gF d2 o1 2 = gF d o1 2 := (f2 _ _).trans (a1.1 2)
  have e3 : ∀ v, gF (sF d2 o 2 v) o1 3 = gF d o1 3 := fun v => by rw [gF_sFn (fun y => ho y.1.symm), f2]; exact a1.1 3
  rw [e3, gd_h hB, h.2.2.1, h1.2.2.1, gd_h (show cpok 576 576 0 0 576 = true by decide), bd_q]
  generalize hd3 : sF d2 o 2 (gF d2 o1 2) = d3
  have e4 : gF (sF d3 o 3 (gF d o1 3)) o1 4 = gF d o1 4 := by
    rw [gF_sFn (fun y => ho y.1.symm), ← hd3, gF_sFn (fun y => ho y.1.symm), f2]; exact a1.1 4
  rw [e4]
  have e5 : gF (sF (sF d3 o 3 (gF d o1 3)) o 4 (gF d o1 4)) o1 5 = gF d o1 5 := by
    rw [gF_sFn (fun y => ho y.1.symm), gF_sFn (fun y => ho y.1.symm), ← hd3, gF_sFn (fun y => ho y.1.symm), f2]; exact a1.1 5
  rw [e5]
  generalize hd4 : sF (sF (sF d3 o 3 (gF d o1 3)) o 4 (gF d o1 4)) o 5 (gF d o1 5) = d4
  have g4 : ∀ a i, gA d4 a i = gA d2 a i := fun a i => by rw [← hd4, ← hd3]; rfl
  have F4 : ∀ x j, x ≠ o → gF d4 x j = gF d1 x j := fun x j hx => by rw [← hd4, gF_sFn (fun y => hx y.1), gF_sFn (fun y => hx y.1), gF_sFn (fun y => hx y.1), ← hd3, gF_sFn (fun y => hx y.1), f2]
  have A2 : ∀ a i, a ≠ 32 * o + 1 → gA d2 a i = gA d1 a i := fun a i ha => by rw [← hd2, gA_sRi, if_neg ha]
  have ag : ∀ x, x ≠ o → AG d1 (sR d4 (32 * o + 7) (va_cpy (gA d4 (32 * o1 + 7)) (gA d4 (32 * o + 7)) (ix 0) (ix 0) (ix 576))) x := fun x hx => ⟨fun j => F4 x j hx, fun j hj i => by rw [gA_sRi, if_neg (by omega), g4, A2 _ _ (by omega)]⟩
  have agk := ag (o + 4) (by omega)
  have c1 : ∀ i, i < 24 → gA (sR d4 (32 * o + 7) (va_cpy (gA d4 (32 * o1 + 7)) (gA d4 (32 * o + 7)) (ix 0) (ix 0) (ix 576))) (32 * o + 1) i = gA d (32 * o1 + 1) i := fun i hi => by
    rw [gA_sRi, if_neg (by omega), g4, ← hd2, gA_sRi, if_pos rfl, show ix 0 = 0 from rfl, show ix 24 = 24 from rfl, pk_cpy_in (by omega) (by omega), Nat.zero_add, Nat.sub_zero]
    exact a1.2 1 (by decide) i
  have c7 : ∀ i, i < 576 → gA (sR d4 (32 * o + 7) (va_cpy (gA d4 (32 * o1 + 7)) (gA d4 (32 * o + 7)) (ix 0) (ix 0) (ix 576))) (32 * o + 7) i = gA d (32 * o1 + 7) i := fun i hi => by
    rw [gA_sRi, if_pos rfl, show ix 0 = 0 from rfl, show ix 576 = 576 from rfl, pk_cpy_in (by omega) (by omega), Nat.zero_add, Nat.sub_zero, g4, A2 _ _ (by omega)]
    exact a1.2 7 (by decide) i
  have fo2 : gF d4 o 2 = gF d o1 2 := by rw [← hd4, gF_sFn (by omega), gF_sFn (by omega), gF_sFn (by omega), ← hd3, gF_sF1, e2]
  have fo3 : gF d4 o 3 = gF d o1 3 := by rw [← hd4, gF_sFn (by omega), gF_sFn (by omega), gF_sF1]
  have fo4 : gF d4 o 4 = gF d o1 4 := by rw [← hd4, gF_sFn (by omega), gF_sF1]
  have fo5 : gF d4 o 5 = gF d o1 5 := by rw [← hd4, gF_sF1]
  refine ⟨_, rfl, ⟨hv, BK_cp hv hk ((agk.1 0).trans r3) ((agk.1 1).trans r4) (fun j n i hj hi => ?_), ?_, s0, fun p hp => ?_, ?_⟩, fun x hx hx4 => (r2 x hx4).trans (ag x hx), ?_⟩
  · have hj32 : j < 32 := by
      have : ∀ q, q ∈ cpl → q.1 < 32 := by decide
      exact this (j, n) hj
    exact (agk.2 j hj32 i).trans (r5 j n i hj hi)
  · exact fo2.trans s2
  · rw [c1 p (by omega)]; exact sn p hp
  · rcases sb with ⟨q1, q2⟩ | ⟨q1, p, x, t, q2, q3, q4, q5⟩
    · exact .inl ⟨fo3.trans q1, q2⟩
    · exact .inr ⟨fo3.trans q1, p, x, t, q2, fo4.trans q3, fo5.trans q4, fun i hi => by rw [c7 i hi]; exact q5 i hi⟩
  · show gF d4 o 6 = _
    rw [← hd4, gF_sFn (by omega), gF_sFn (by omega), gF_sFn (by omega), ← hd3, gF_sFn (by omega), f2]
    exact ao.1 6
theorem copyM_q {d : Dt} {x y : Nat} (hx : x + 1376 ≤ 4128) (hy : y + 1376 ≤ 4128) (hxy : x + 1376 ≤ y ∨ y + 1376 ≤ x) : ∃ d', t_X6_copy LM d (nI x) (nI y) = some d' ∧ (∀ o, gF d' o = gF d o) ∧ (∀ a i, a ≠ 0 → gA d' a i = gA d a i) ∧ ∀ i, gA d' 0 i = if y ≤ i ∧ i < y + 1376 then gA d 0 (x + (i - y)) else gA d 0 i := by
  have main : ∀ (n k F : Nat) (e : Dt), k + n = 1376 → n < F → (∀ o, gF e o = gF d o) → (∀ a i, a ≠ 0 → gA e a i = gA d a i) → (∀ i, gA e 0 i = if y ≤ i ∧ i < y + k then gA d 0 (x + (i - y)) else gA d 0 i) → ∃ d', lp (fun k' z => t_X6_copy_2 LM (nI x) (nI y) (fun x3 d => k' (x3, d)) z.1 z.2) F (nI k, e) = some d' ∧ (∀ o, gF d' o = gF d o) ∧ (∀ a i, a ≠ 0 → gA d' a i = gA d a i) ∧ ∀ i, gA d' 0 i = if y ≤ i ∧ i < y + 1376 then gA d 0 (x + (i - y)) else gA d 0 i := by
    intro n
    induction n with
    | zero =>
      intro k F e hk hF h1 h2 h3
      obtain ⟨F, rfl⟩ : ∃ G, F = G + 1 := ⟨F - 1, by omega⟩
      have : k = 1376 := by omega
      subst this
      refine ⟨e, ?_, h1, h2, h3⟩
      show t_X6_copy_2 LM (nI x) (nI y) (fun x3 d => lp _ F (x3, d)) (nI 1376) e = _
      rw [t_X6_copy_2, if_pos (show (1376 : Int32) ≤ nI 1376 by decide)]
    | succ n ih =>
      intro k F e hk hF h1 h2 h3
      obtain ⟨F, rfl⟩ : ∃ G, F = G + 1 := ⟨F - 1, by omega⟩
      show ∃ d', t_X6_copy_2 LM (nI x) (nI y) (fun x3 d => lp _ F (x3, d)) (nI k) e = _ ∧ _
      rw [t_X6_copy_2, if_neg (show ¬ (1376 : Int32) ≤ nI k from nI_ge (b := 1376) (by omega) (by decide)), nI_add, nI_add, LM0, gdi (show x + k < 4128 by omega) (by omega), gdi (show y + k < 4128 by omega) (by omega), bd_q, ix_nI (by omega), ix_nI (by omega), nI_1]
      refine ih (k + 1) F _ (by omega) (by omega) h1 (fun a i ha => by rw [gA_sAi, if_neg (fun z => ha z.1)]; exact h2 a i ha) (fun i => ?_)
      rw [gA_sAi]
      by_cases z : i = y + k
      · rw [if_pos ⟨rfl, z⟩, if_pos (by omega), h3, if_neg (by omega)]
        congr 1
        omega
      · rw [if_neg (fun q => z q.2), h3]
        by_cases w : y ≤ i ∧ i < y + k
        · rw [if_pos w, if_pos (by omega)]
        · rw [if_neg w, if_neg (by omega)]
  exact main 1376 0 FU d (by omega) (by unfold FU; omega) (fun _ => rfl) (fun _ _ _ => rfl) (fun i => by rw [if_neg (by omega)])
theorem LM1 : LM (32 * 0 + 1) = 2 := rfl
theorem k_cases (x : Int32) : (x < 0 ∧ ¬ inb x 2 = true) ∨ (¬ x < 0 ∧ ¬ x < 2 ∧ ¬ inb x 2 = true) ∨ ∃ i, i < 2 ∧ x = nI i := by
  rcases pk_ix x (n := 2) (by decide) with q | q | ⟨j, hj, rfl⟩
  · exact .inl ⟨q, inb_neg (n := 2) (by decide) q⟩
  · have h2 := Int32.le_iff_toInt_le.mp q
    rw [nI_toInt (by decide)] at h2
    refine .inr (.inl ⟨fun z => ?_, fun z => ?_, inb_ge (n := 2) (by decide) q⟩)
    · have h1 := Int32.lt_iff_toInt_lt.mp z
      have : (0 : Int32).toInt = 0 := rfl
      omega
    · have h1 := Int32.lt_iff_toInt_lt.mp z
      have : (2 : Int32).toInt = 2 := rfl
      omega
  · exact .inr (.inr ⟨j, hj, rfl⟩)
theorem ok_keep : ST_keep RLx := by
  intro L d dm k n p1 h
  have triv : ∀ v : Int32, ∃ (r : Int32) (d' dm' : Dt), some (v, d) = some (r, d') ∧ some (v, dm) = some (r, dm') ∧ RLx L d' dm' k n := fun v => ⟨v, d, dm, rfl, rfl, h⟩
  unfold t_X5_keep t_X6_keep
  rw [in_k p1 1 1 rfl, ob]
  rcases k_cases p1 with ⟨a, b⟩ | ⟨a, a2, b⟩ | ⟨i, hi, rfl⟩
  · rw [if_pos a, if_neg b, if_pos rfl]; exact triv _
  · rw [if_neg a, if_neg a2, if_neg b, if_pos rfl]; exact triv _
  · have hls : LS2 L (3 + i) := by
      rcases (show i = 0 ∨ i = 1 by omega) with z | z
      · rw [z]; exact h.1.2.1
      · rw [z]; exact h.1.2.2.1
    obtain ⟨d1, r1, r2, r3, r4⟩ := copyS_q (L := L) (d := d) (o := 3 + i) (o1 := 2) (by omega) (by omega) (by omega) (by omega) (by omega) hls h.1.1 h.2.1
    obtain ⟨dm1, t1, t2, t3, t4⟩ := copyM_q (d := dm) (x := 0) (y := 1376 * (i + 1)) (by omega) (by omega) (by omega)
    have e1 : (1376 : Int32) * (nI i + 1) = nI (1376 * (i + 1)) := by rw [nI_1, show (1376 : Int32) = nI 1376 from rfl, nI_mulN]
    rw [if_neg (nI_pos (by omega)), if_pos (show nI i < 2 from nI_lt (b := 2) hi (by decide)), gdi hi (by omega), ix_nI (by omega), r1, ob, gdi hi (by omega), bd_q, if_pos (in_nI hi (by omega)), if_neg (show ¬ (1 : Int32) = 0 by decide), e1, show t_X6_copy LM dm 0 (nI (1376 * (i + 1))) = _ from t1, ob, LM1, gdi hi (by omega), bd_q, nar1]
    have wk : ∀ j, j < 1376 → gA dm1 0 (1376 * (i + 1) + j) = wOf dm j := fun j hj => by
      rw [t4, if_pos (by omega), show 0 + (1376 * (i + 1) + j - 1376 * (i + 1)) = j by omega]
      rfl
    have wlo : ∀ j, j < 1376 → gA dm1 0 j = gA dm 0 j := fun j hj => by rw [t4, if_neg (by omega)]
    have ag : ∀ x, x ≠ 3 + i → x ≠ 3 + i + 4 → AG d (sF d1 (3 + i) 6 1) x := fun x hx h4 => (r3 x hx h4).trans (AG_sF hx)
    -- the image that was kept
    have im : IM (sF d1 (3 + i) 6 1) (sA dm1 (32 * 0 + 1) i 1) i := by
      refine .inr ⟨gF_sF1 _ _ _ _, by rw [gA_sAi, if_pos ⟨rfl, rfl⟩], ?_, ?_⟩
      · have s' : SI (sF d1 (3 + i) 6 1) (3 + i) (wOf dm) := by
          obtain ⟨v, b, g2, g0, gn, gb⟩ := r2
          refine ⟨v, BK_ag v (AG_sF (by omega)) b, (gF_sFn (by omega)).trans g2, g0, gn, ?_⟩
          rw [gF_sFn (by omega)]
          rcases gb with q | ⟨q, p, x, t, q1, q2, q3, q4⟩
          · exact .inl q
          · exact .inr ⟨q, p, x, t, q1, (gF_sFn (by omega)).trans q2, (gF_sFn (by omega)).trans q3, q4⟩
        exact SI_congr (AG.refl _ _) (AG.refl _ _) (fun j hj => by
          show gA (sA dm1 (32 * 0 + 1) i 1) 0 _ = _
          rw [gA_sAi, if_neg (fun y => absurd y.1 (by decide))]
          exact wk j hj) s'
      · refine NP_cg h.2.1.1 ?_ (fun p hp => ?_) h.2.2.1
        · show gA (sA dm1 (32 * 0 + 1) i 1) 0 _ = _
          rw [gA_sAi, if_neg (fun y => absurd y.1 (by decide))]
          exact wk 0 (by omega)
        · show gA (sA dm1 (32 * 0 + 1) i 1) 0 _ = _
          rw [gA_sAi, if_neg (fun y => absurd y.1 (by decide))]
          exact wk _ (by omega)
    have oth : ∀ i', i' < 2 → i' ≠ i → IM d dm i' → IM (sF d1 (3 + i) 6 1) (sA dm1 (32 * 0 + 1) i 1) i' := by
      intro i' h1 h2 h3
      refine IM_cg h3 (ag _ (by omega) (by omega)) (ag _ (by omega) (by omega)) (fun j hj => ?_) ?_
      · show gA (sA dm1 (32 * 0 + 1) i 1) 0 _ = gA dm 0 _
        rw [gA_sAi, if_neg (fun y => absurd y.1 (by decide)), t4, if_neg (by omega)]
      · rw [gA_sAi, if_neg (fun y => h2 y.2)]; exact t3 1 i' (by decide)
    have hw : wOf (sA dm1 (32 * 0 + 1) i 1) = fun j => gA dm1 0 j := by
      funext j
      show gA (sA dm1 (32 * 0 + 1) i 1) 0 j = _
      rw [gA_sAi, if_neg (fun y => absurd y.1 (by decide))]
    have hwl : ∀ j, j < 1376 → wOf (sA dm1 (32 * 0 + 1) i 1) j = wOf dm j := fun j hj => by rw [hw]; exact wlo j hj
    have hbk : bk (wOf (sA dm1 (32 * 0 + 1) i 1)) = bk (wOf dm) := bk_cg (fun j h1 _ => hwl j (by omega))
    have fM : ∀ j, gF (sA dm1 (32 * 0 + 1) i 1) 0 j = gF dm 0 j := fun j => congrFun (t2 0) j
    have aM : ∀ a j, a ≠ 0 → a ≠ 1 → gA (sA dm1 (32 * 0 + 1) i 1) a j = gA dm a j := fun a j h1 h2 => by
      rw [gA_sAi, if_neg (fun y => h2 y.1)]; exact t3 a j h1
    obtain ⟨a1, a2, a3, a4, a5, a6, a7, a8, a9, a10, a11, a12, a13⟩ := h
    refine ⟨_, _, _, rfl, rfl, ⟨a1, SI_congr (ag 2 (by omega) (by omega)) (ag 6 (by omega) (by omega)) hwl a2, NP_cg a2.1 (hwl 0 (by omega)) (fun p hp => hwl _ (by omega)) a3, ?_, ?_, TX_cg a6 ((ag 1 (by omega) (by omega)).1 1) (fun x => (ag 1 (by omega) (by omega)).2 3 (by decide) x) (fM 4) (fun x => aM 3 x (by decide) (by decide)), ?_, LGR_cg a8 ((ag 0 (by omega) (by omega)).1 4) (fun x => (ag 0 (by omega) (by omega)).2 3 (by decide) x) (fM 23) (fun x => aM 24 x (by decide) (by decide)), ⟨(fM 15).trans a9.1, (fM 16).trans a9.2⟩, FAR_cg a10 (fM 21) (fun x => aM 19 x (by decide) (by decide)) (fun x => aM 20 x (by decide) (by decide)), ⟨GI_cg a11.1 (ag 9 (by omega) (by omega)), ?_⟩, GI_cg a12 (ag 10 (by omega) (by omega)), a13⟩⟩
    · rcases (show i = 0 ∨ i = 1 by omega) with z | z
      · rw [z] at im ⊢; exact im
      · exact oth 0 (by omega) (by omega) a4
    · rcases (show i = 0 ∨ i = 1 by omega) with z | z
      · exact oth 1 (by omega) (by omega) a5
      · rw [z] at im ⊢; exact im
    · rw [(ag 1 (by omega) (by omega)).1 2, fM 9]; exact a7
    · rw [hbk, (ag 0 (by omega) (by omega)).1 7]
      rcases a11.2 with y | ⟨y, s, X, wc, b, ap, y2⟩
      · exact .inl y
      · exact .inr ⟨y, s, X, wc, b, ap, GS_cg y2 (ag 9 (by omega) (by omega))⟩
theorem ok_goBack : ST_goBack RLx := by
  intro L d dm k n p1 h
  have triv : ∀ v : Int32, ∃ (r : Int32) (d' dm' : Dt), some (v, d) = some (r, d') ∧ some (v, dm) = some (r, dm') ∧ RLx L d' dm' k n := fun v => ⟨v, d, dm, rfl, rfl, h⟩
  unfold t_X5_goBack t_X6_goBack
  rw [in_k p1 1 1 rfl, ob]
  rcases k_cases p1 with ⟨a, b⟩ | ⟨a, a2, b⟩ | ⟨i, hi, rfl⟩
  · rw [if_pos a, if_neg b, if_pos rfl]; exact triv _
  · rw [if_neg a, if_neg a2, if_neg b, if_pos rfl]; exact triv _
  · have hls : LS2 L (3 + i) := by
      rcases (show i = 0 ∨ i = 1 by omega) with z | z
      · rw [z]; exact h.1.2.1
      · rw [z]; exact h.1.2.2.1
    have him : IM d dm i := by
      rcases (show i = 0 ∨ i = 1 by omega) with z | z
      · rw [z]; exact h.2.2.2.1
      · rw [z]; exact h.2.2.2.2.1
    have e1 : (1376 : Int32) * (nI i + 1) = nI (1376 * (i + 1)) := by rw [nI_1, show (1376 : Int32) = nI 1376 from rfl, nI_mulN]
    rw [if_neg (nI_pos (by omega)), if_pos (show nI i < 2 from nI_lt (b := 2) hi (by decide)), gdi hi (by omega), gdi hi (by omega), ix_nI (by omega), if_pos (in_nI hi (by omega)), if_neg (show ¬ (1 : Int32) = 0 by decide), LM1, gdi hi (by omega)]
    rcases him with ⟨c1, c2⟩ | ⟨c1, c2, c3, c4⟩
    · rw [c1, if_pos rfl, show gA dm (32 * 0 + 1) i = 0 from c2, if_pos rfl]
      exact triv _
    · obtain ⟨d1, r1, r2, r3, r4⟩ := copyS_q (L := L) (d := d) (o := 2) (o1 := 3 + i) (by omega) (by omega) (by omega) (by omega) (by omega) h.1.1 hls c3
      obtain ⟨dm1, t1, t2, t3, t4⟩ := copyM_q (d := dm) (x := 1376 * (i + 1)) (y := 0) (by omega) (by omega) (by omega)
      rw [c1, if_neg (show ¬ (1 : Int32) = 0 by decide), r1, ob, bd_q, show gA dm (32 * 0 + 1) i = 1 from c2, if_neg (show ¬ (1 : Int32) = 0 by decide), e1, show t_X6_copy LM dm (nI (1376 * (i + 1))) 0 = _ from t1, ob]
      have wlo : ∀ j, j < 1376 → wOf dm1 j = wK dm (i + 1) j := fun j hj => by
        show gA dm1 0 j = _
        rw [t4, if_pos (by omega)]
        rfl
      have ag : ∀ x, x ≠ 0 → x ≠ 2 → x ≠ 6 → AG d (sF d1 0 7 0) x := fun x h0 h2 h6 => (r3 x h2 h6).trans (AG_sF h0)
      have a0 := r3 0 (by decide) (by decide)
      have fM : ∀ j, gF dm1 0 j = gF dm 0 j := fun j => congrFun (t2 0) j
      refine ⟨_, _, dm1, rfl, rfl, h.md (SI_congr (AG_sF (by decide)) (AG_sF (by decide)) wlo r2) (NP_cg c3.1 (wlo 0 (by omega)) (fun p hp => wlo _ (by omega)) c4) (fun x h0 _ h2 _ h6 => ag x h0 h2 h6) (TX_cg h.2.2.2.2.2.1 ((ag 1 (by decide) (by decide) (by decide)).1 1) (fun x => (ag 1 (by decide) (by decide) (by decide)).2 3 (by decide) x) (fM 4) (fun x => t3 3 x (by decide))) ?_ (LGR_cg h.2.2.2.2.2.2.2.1 ((gF_sFn (by decide)).trans (a0.1 4)) (fun x => (a0.2 3 (by decide) x)) (fM 23) (fun x => t3 24 x (by decide))) ⟨(fM 15).trans h.2.2.2.2.2.2.2.2.1.1, (fM 16).trans h.2.2.2.2.2.2.2.2.1.2⟩ (fun x hx => by rw [t4, if_neg (by omega)]) (fun x => t3 1 x (by decide)) (fM 21) (fun x => t3 19 x (by decide)) (fun x => t3 20 x (by decide)) (.inl (gF_sF1 _ _ _ _))⟩
      rw [(ag 1 (by decide) (by decide) (by decide)).1 2, fM 9]
      exact h.2.2.2.2.2.2.1
