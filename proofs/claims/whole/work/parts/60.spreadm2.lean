/-! ===== the reference's walk: one way more ===== -/
theorem bit_e : ∀ g, g < 24 → (1 : Int32) <<< (nI g &&& 31) = nI (2 ^ g) := by decide +kernel
theorem PC_s {k c i x : Nat} (h : PC k (c + 1) i x) : PC k c i x ∨ (i = k ∧ x = c) := by
  rcases h with q | ⟨q, q2⟩
  · exact .inl (.inl q)
  · by_cases z : x = c
    · exact .inr ⟨q, z⟩
    · exact .inl (.inr ⟨q, by omega⟩)
theorem PC_w {k c i x : Nat} (h : PC k c i x) : PC k (c + 1) i x := by
  rcases h with q | ⟨q, q2⟩
  · exact .inl q
  · exact .inr ⟨q, by omega⟩
/-- a way to a barred part -/
theorem BI.bar {u : Nat → Int32} {bar nop : Int32} {o : Option Nat} {B : Nat → Prop} {e : Dt} {s : Nat} {Y f : Nat → Nat} {m k c : Nat} (h : BI u bar nop o B e s Y f m k c) (hn : gol u (qp (Y k)) c = nop) : BI u bar nop o B e s Y f m k (c + 1) := by
  have hx : nxm u bar nop (Y k) c = none := by unfold nxm; rw [if_pos hn]
  obtain ⟨a1, a2, a3, a4, a5, a6, a7, a8, a9, a10, a11⟩ := h
  refine ⟨a1, a2, a3, a4, a5, a6, a7, fun i x hp hi hw hop q' hq => ?_, a9, a10, fun g => ?_⟩
  · rcases PC_s hp with q | ⟨q, q2⟩
    · exact a8 i x q hi hw hop q' hq
    · rw [q, q2, hx] at hq; cases hq
  · rw [a11 g]
    constructor
    · rintro (q | ⟨i, x, q, r⟩)
      · exact .inl q
      · exact .inr ⟨i, x, PC_w q, r⟩
    · rintro (q | ⟨i, x, q, r1, r2⟩)
      · exact .inl q
      · rcases PC_s q with q | ⟨q, q2⟩
        · exact .inr ⟨i, x, q, r1, r2⟩
        · have := r2.2.2.1
          rw [q, q2] at this; exact absurd hn this
/-- a way on which one is lost -/
theorem BI.lost {u : Nat → Int32} {bar nop : Int32} {o : Option Nat} {B : Nat → Prop} {e : Dt} {s : Nat} {Y f : Nat → Nat} {m k c : Nat} (h : BI u bar nop o B e s Y f m k c) (hk : k < s) (hc : c < wys u (qp (Y k))) (ho : wo u (Y k) c = true) (hg : gl u (Y k) c < 24) (hn : gol u (qp (Y k)) c ≠ nop) (hx : nxm u bar nop (Y k) c = none) : BI u bar nop o B (sF e 0 22 (nI (m ||| 2 ^ gl u (Y k) c))) s Y f (m ||| 2 ^ gl u (Y k) c) k (c + 1) := by
  obtain ⟨a1, a2, a3, a4, a5, a6, a7, a8, a9, a10, a11⟩ := h
  refine ⟨a1, a2, a3, a4, a5, a6, a7, fun i x hp hi hw hop q' hq => ?_, gF_sF1 _ _ _ _, ?_, fun g => ?_⟩
  · rcases PC_s hp with q | ⟨q, q2⟩
    · exact a8 i x q hi hw hop q' hq
    · rw [q, q2, hx] at hq; cases hq
  · exact Nat.or_lt_two_pow a10 (Nat.pow_lt_pow_right (by decide) hg)
  · rw [Nat.testBit_or, Bool.or_eq_true, a11 g, Nat.testBit_two_pow, decide_eq_true_eq]
    constructor
    · rintro ((q | ⟨i, x, q, r⟩) | q)
      · exact .inl q
      · exact .inr ⟨i, x, PC_w q, r⟩
      · exact .inr ⟨k, c, .inr ⟨rfl, by omega⟩, hk, hc, ho, hn, hx, q⟩
    · rintro (q | ⟨i, x, q, r1, r2⟩)
      · exact .inl (.inl q)
      · rcases PC_s q with q | ⟨q, q2⟩
        · exact .inl (.inr ⟨i, x, q, r1, r2⟩)
        · refine .inr ?_
          have := r2.2.2.2.2
          rw [q, q2] at this; exact this
/-- a way to a state that was found before -/
theorem BI.old {u : Nat → Int32} {bar nop : Int32} {o : Option Nat} {B : Nat → Prop} {e : Dt} {s : Nat} {Y f : Nat → Nat} {m k c q' j : Nat} (h : BI u bar nop o B e s Y f m k c) (hk : k < s) (hx : nxm u bar nop (Y k) c = some q') (hj : j < s) (hq : Y j = q') : BI u bar nop o B e s Y f m k (c + 1) := by
  obtain ⟨a1, a2, a3, a4, a5, a6, a7, a8, a9, a10, a11⟩ := h
  refine ⟨a1, a2, a3, a4, a5, a6, a7, fun i x hp hi hw hop q1 h1 => ?_, a9, a10, fun g => ?_⟩
  · rcases PC_s hp with q | ⟨q, q2⟩
    · exact a8 i x q hi hw hop q1 h1
    · rw [q, q2, hx] at h1
      cases h1
      exact ⟨j, hj, hq, by rw [q]; exact a7 hk j hj⟩
  · rw [a11 g]
    constructor
    · rintro (q | ⟨i, x, q, r⟩)
      · exact .inl q
      · exact .inr ⟨i, x, PC_w q, r⟩
    · rintro (q | ⟨i, x, q, r1, r2⟩)
      · exact .inl q
      · rcases PC_s q with q | ⟨q, q2⟩
        · exact .inr ⟨i, x, q, r1, r2⟩
        · have := r2.2.2.2.1
          rw [q, q2, hx] at this; cases this
def apn (Y : Nat → Nat) (s q : Nat) : Nat → Nat := fun i => if i = s then q else Y i
theorem apn_s (Y : Nat → Nat) (s q : Nat) : apn Y s q s = q := if_pos rfl
theorem apn_n {Y : Nat → Nat} {s q i : Nat} (h : i ≠ s) : apn Y s q i = Y i := if_neg h
/-- the reference with state q found, far v -/
def fnd (e : Dt) (s q v : Nat) : Dt := sF (sA (sA e (32 * 0 + 20) q (nI v)) (32 * 0 + 19) s (nI q)) 0 21 (nI (s + 1))
theorem fnd21 (e : Dt) (s q v : Nat) : gF (fnd e s q v) 0 21 = nI (s + 1) := gF_sF1 _ _ _ _
theorem fnd22 (e : Dt) (s q v : Nat) : gF (fnd e s q v) 0 22 = gF e 0 22 := gF_sFn (by decide)
theorem fnd19 (e : Dt) (s q v i : Nat) : gA (fnd e s q v) 19 i = if i = s then nI q else gA e 19 i := by
  show gA (sA (sA e (32 * 0 + 20) q (nI v)) (32 * 0 + 19) s (nI q)) 19 i = _
  rw [gA_sAi]
  by_cases c : i = s
  · rw [if_pos ⟨rfl, c⟩, if_pos c]
  · rw [if_neg (fun z => c z.2), if_neg c, gA_sAi, if_neg (fun z => absurd z.1 (by decide))]
theorem fnd20 (e : Dt) (s q v i : Nat) : gA (fnd e s q v) 20 i = if i = q then nI v else gA e 20 i := by
  show gA (sA (sA e (32 * 0 + 20) q (nI v)) (32 * 0 + 19) s (nI q)) 20 i = _
  rw [gA_sAi, if_neg (fun z => absurd z.1 (by decide)), gA_sAi]
  by_cases c : i = q
  · rw [if_pos ⟨rfl, c⟩, if_pos c]
  · rw [if_neg (fun z => c z.2), if_neg c]
theorem FR_fnd (e : Dt) (s q v : Nat) : FR e (fnd e s q v) := (FR_20.trans FR_19).trans FR_21
theorem reach_old {e : Dt} {q : Nat} {v : Int32} (hq : q < 61440) (h : gA e 20 q ≠ 0) : t_X6_reach LM e (nI q) v = some e := by
  unfold t_X6_reach
  rw [if_neg (fun z => by have := congrArg Int32.toInt z; rw [nI_toInt (by omega)] at this; have h2 : (-2 : Int32).toInt = -2 := rfl; omega), LM20, gdi hq (by omega), ix_nI (by omega), if_neg h]
theorem reach_new {e : Dt} {q s v : Nat} (hq : q < 61440) (h : gA e 20 q = 0) (hs : s < 61440) (h21 : gF e 0 21 = nI s) : t_X6_reach LM e (nI q) (nI v) = some (fnd e s q (v + 1)) := by
  unfold t_X6_reach
  rw [if_neg (fun z => by have := congrArg Int32.toInt z; rw [nI_toInt (by omega)] at this; have h2 : (-2 : Int32).toInt = -2 := rfl; omega), LM20, gdi hq (by omega), ix_nI (by omega), show gA e (32 * 0 + 20) q = 0 from h, if_pos rfl, gdi hq (by omega), bd_q, gF_sA, h21, LM19, gdi hs (by omega), bd_q, ix_nI (by omega), bd_q, gF_sA, gF_sA, h21, nI_1, nI_1]
  rfl
theorem BI.room {u : Nat → Int32} {bar nop : Int32} {o : Option Nat} {B : Nat → Prop} {e : Dt} {s : Nat} {Y f : Nat → Nat} {m k c q' : Nat} (hv : VB u) (h : BI u bar nop o B e s Y f m k c) (hq : VQ u q') (h0 : ∀ i, i < s → Y i ≠ q') : s < 61440 := by
  obtain ⟨a1, a2, a3, a4, _⟩ := h
  have := inj_le 61440 (s + 1) (apn Y s q') (fun i j hi hj z => by
    by_cases x : i = s
    · by_cases y : j = s
      · omega
      · rw [x, apn_s, apn_n y] at z
        exact absurd z.symm (h0 j (by omega))
    · by_cases y : j = s
      · rw [y, apn_s, apn_n x] at z
        exact absurd z (h0 i (by omega))
      · rw [apn_n x, apn_n y] at z
        exact a4 i j (by omega) (by omega) z) (fun i hi => by
    by_cases x : i = s
    · rw [x, apn_s]; exact VQ_lt hv hq
    · rw [apn_n x]; exact VQ_lt hv (a3 i (by omega)).1)
  omega
/-- a way to a new state -/
theorem BI.new {u : Nat → Int32} {bar nop : Int32} {o : Option Nat} {B : Nat → Prop} {e : Dt} {s : Nat} {Y f : Nat → Nat} {m k c q' : Nat} (hv : VB u) (h : BI u bar nop o B e s Y f m k c) (hk : k < s) (hc : c < wys u (qp (Y k))) (ho : wo u (Y k) c = true) (hx : nxm u bar nop (Y k) c = some q') (h0 : ∀ i, i < s → Y i ≠ q') : BI u bar nop o B (fnd e s q' (f k + 1 + 1)) (s + 1) (apn Y s q') (apn f s (f k + 1)) m k (c + 1) := by
  have hr := h
  obtain ⟨a1, a2, a3, a4, a5, a6, a7, a8, a9, a10, a11⟩ := h
  have hE := nxm_Ed hc ho hx
  have hq := hE.ok hv (a3 k hk).1
  have hr := hr.room hv hq h0
  have ln : ∀ i, i < s → apn Y s q' i = Y i := fun i hi => apn_n (by omega)
  have lf : ∀ i, i < s → apn f s (f k + 1) i = f i := fun i hi => apn_n (by omega)
  refine ⟨fnd21 _ _ _ _, by omega, fun i hi => ?_, fun i j hi hj z => ?_, fun x hx' hi => ?_, fun i j hij hj => ?_, fun _ j hj => ?_, fun i x hp hi hw hop q1 h1 => ?_, ?_, a10, fun g => ?_⟩
  · by_cases z : i = s
    · subst z
      rw [apn_s, apn_s, fnd19, if_pos rfl, fnd20, if_pos rfl]
      obtain ⟨_, _, _, b4, b5⟩ := a3 k hk
      exact ⟨hq, rfl, rfl, by omega, b5.step hE⟩
    · obtain ⟨b1, b2, b3, b4⟩ := a3 i (by omega)
      rw [apn_n z, apn_n z, fnd19, if_neg z, fnd20, if_neg (h0 i (by omega))]
      exact ⟨b1, b2, b3, b4⟩
  · by_cases x : i = s
    · by_cases y : j = s
      · omega
      · rw [x, apn_s, apn_n y] at z
        exact absurd z.symm (h0 j (by omega))
    · by_cases y : j = s
      · rw [y, apn_s, apn_n x] at z
        exact absurd z (h0 i (by omega))
      · rw [apn_n x, apn_n y] at z
        exact a4 i j (by omega) (by omega) z
  · have h1 := hi s (by omega)
    rw [apn_s] at h1
    rw [fnd20, if_neg (fun z => h1 z.symm)]
    refine a5 x hx' (fun i hi' => ?_)
    have := hi i (by omega)
    rw [ln i hi'] at this
    exact this
  · by_cases y : j = s
    · by_cases x : i = s
      · rw [x, y]; exact Nat.le_refl _
      · rw [y, apn_s, apn_n x]
        exact a7 hk i (by omega)
    · rw [lf j (by omega), lf i (by omega)]
      exact a6 i j hij (by omega)
  · rw [lf k hk]
    by_cases y : j = s
    · rw [y, apn_s]; exact Nat.le_refl _
    · rw [lf j (by omega)]; exact a7 hk j (by omega)
  · have his : i < s := by
      rcases hp with z | ⟨z, _⟩ <;> omega
    rw [ln i his] at hw hop h1
    rw [lf i his]
    rcases PC_s hp with q | ⟨q, q2⟩
    · obtain ⟨j, c1, c2, c3⟩ := a8 i x q his hw hop q1 h1
      exact ⟨j, by omega, by rw [ln j c1]; exact c2, by rw [lf j c1]; exact c3⟩
    · rw [q, q2, hx] at h1
      cases h1
      exact ⟨s, by omega, apn_s _ _ _, by rw [apn_s, q]; exact Nat.le_refl _⟩
  · rw [fnd22]; exact a9
  · rw [a11 g]
    constructor
    · rintro (q | ⟨i, x, q, r1, r2⟩)
      · exact .inl q
      · exact .inr ⟨i, x, PC_w q, by omega, by rw [ln i r1]; exact r2⟩
    · rintro (q | ⟨i, x, q, r1, r2⟩)
      · exact .inl q
      · have his : i < s := by
          rcases q with z | ⟨z, _⟩ <;> omega
        rw [ln i his] at r2
        rcases PC_s q with q | ⟨q, q2⟩
        · exact .inr ⟨i, x, q, his, r2⟩
        · have := r2.2.2.2.1
          rw [q, q2, hx] at this; cases this
