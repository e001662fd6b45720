/-! ===== the reference's walk over all states, in breadth ===== -/
theorem LM19 : LM (32 * 0 + 19) = 61440 := rfl
theorem LM20 : LM (32 * 0 + 20) = 61440 := rfl
/-- what the walks of the reference leave -/
def FR (d d' : Dt) : Prop := (∀ j, j ≠ 17 → j ≠ 18 → j ≠ 21 → j ≠ 22 → gF d' 0 j = gF d 0 j) ∧ ∀ a i, a ≠ 19 → a ≠ 20 → a ≠ 25 → a ≠ 26 → a ≠ 27 → a ≠ 28 → gA d' a i = gA d a i
theorem FR.refl (d : Dt) : FR d d := ⟨fun _ _ _ _ _ => rfl, fun _ _ _ _ _ _ _ _ => rfl⟩
theorem FR.trans {d d' d'' : Dt} (h : FR d d') (h2 : FR d' d'') : FR d d'' := ⟨fun j a b c e => (h2.1 j a b c e).trans (h.1 j a b c e), fun a i b c e f g k => (h2.2 a i b c e f g k).trans (h.2 a i b c e f g k)⟩
theorem FR.nw {d d' : Dt} (h : NWd d d') : FR d d' := ⟨fun j a b _ _ => h.1 j a b, fun a i _ _ _ _ _ _ => h.2 a i⟩
theorem FR.w {d d' : Dt} (h : FR d d') : wOf d' = wOf d := by
  funext i
  exact h.2 0 i (by decide) (by decide) (by decide) (by decide) (by decide) (by decide)
theorem FR.ru {u : Nat → Int32} {d d' : Dt} (h : FR d d') (hr : RU u d) : RU u d' := by
  unfold RU
  rw [h.w]
  exact hr
theorem FR_21 {d : Dt} {v : Int32} : FR d (sF d 0 21 v) := ⟨fun j _ _ a _ => gF_sFn (fun q => a q.2), fun _ _ _ _ _ _ _ _ => rfl⟩
theorem FR_22 {d : Dt} {v : Int32} : FR d (sF d 0 22 v) := ⟨fun j _ _ _ a => gF_sFn (fun q => a q.2), fun _ _ _ _ _ _ _ _ => rfl⟩
theorem FR_19 {d : Dt} {i : Nat} {v : Int32} : FR d (sA d (32 * 0 + 19) i v) := ⟨fun _ _ _ _ _ => rfl, fun a j h1 _ _ _ _ _ => by rw [gA_sAi, if_neg (fun q => h1 q.1)]⟩
theorem FR_20 {d : Dt} {i : Nat} {v : Int32} : FR d (sA d (32 * 0 + 20) i v) := ⟨fun _ _ _ _ _ => rfl, fun a j _ h1 _ _ _ _ => by rw [gA_sAi, if_neg (fun q => h1 q.1)]⟩
theorem FR_26 {d : Dt} {i : Nat} {v : Int32} : FR d (sA d (32 * 0 + 26) i v) := ⟨fun _ _ _ _ _ => rfl, fun a j _ _ _ h1 _ _ => by rw [gA_sAi, if_neg (fun q => h1 q.1)]⟩
theorem FR_25 {d : Dt} {i : Nat} {v : Int32} : FR d (sA d (32 * 0 + 25) i v) := ⟨fun _ _ _ _ _ => rfl, fun a j _ _ h1 _ _ _ => by rw [gA_sAi, if_neg (fun q => h1 q.1)]⟩
theorem FR_27 {d : Dt} {i : Nat} {v : Int32} : FR d (sA d (32 * 0 + 27) i v) := ⟨fun _ _ _ _ _ => rfl, fun a j _ _ _ _ h1 _ => by rw [gA_sAi, if_neg (fun q => h1 q.1)]⟩
theorem FR_28 {d : Dt} {i : Nat} {v : Int32} : FR d (sA d (32 * 0 + 28) i v) := ⟨fun _ _ _ _ _ => rfl, fun a j _ _ _ _ _ h1 => by rw [gA_sAi, if_neg (fun q => h1 q.1)]⟩
/-- far is 0 but at what was found -/
def FAR (d : Dt) : Prop := ∃ (s : Nat) (Y : Nat → Nat), s ≤ 61440 ∧ gF d 0 21 = nI s ∧ (∀ i, i < s → gA d 19 i = nI (Y i) ∧ Y i < 61440) ∧ ∀ x, x < 61440 → (∀ i, i < s → Y i ≠ x) → gA d 20 x = 0
theorem beginSpread_q {d : Dt} (h : FAR d) : ∃ d', t_X6_beginSpread LM d = some d' ∧ FR d d' ∧ gF d' 0 21 = 0 ∧ gF d' 0 22 = 0 ∧ ∀ x, x < 61440 → gA d' 20 x = 0 := by
  obtain ⟨s, Y, hs, h21, hY, hz⟩ := h
  have main : ∀ (n i F : Nat) (e : Dt), i + n = s → n < F → FR d e → gF e 0 21 = nI s → (∀ i, i < s → gA e 19 i = nI (Y i)) → (∀ x, x < 61440 → (∀ j, i ≤ j → j < s → Y j ≠ x) → gA e 20 x = 0) → ∃ d', lp (fun k x => t_X6_beginSpread_2 LM (fun x1 d => k (x1, d)) x.1 x.2) F (nI i, e) = some d' ∧ FR d d' ∧ gF d' 0 21 = 0 ∧ gF d' 0 22 = 0 ∧ ∀ x, x < 61440 → gA d' 20 x = 0 := by
    intro n
    induction n with
    | zero =>
      intro i F e hi hF hfr e21 e19 ez
      obtain ⟨F, rfl⟩ : ∃ G, F = G + 1 := ⟨F - 1, by omega⟩
      refine ⟨sF (sF e 0 21 0) 0 22 0, ?_, (hfr.trans FR_21).trans FR_22, ?_, ?_, ?_⟩
      · show t_X6_beginSpread_2 LM (fun x1 d => lp _ F (x1, d)) (nI i) e = _
        rw [t_X6_beginSpread_2, e21, if_pos (nI_le (by omega) (by omega)), bd_q, bd_q]
      · rw [gF_sFn (by decide), gF_sF1]
      · rw [gF_sF1]
      · intro x hx
        exact ez x hx (fun j _ _ => by omega)
    | succ n ih =>
      intro i F e hi hF hfr e21 e19 ez
      obtain ⟨F, rfl⟩ : ∃ G, F = G + 1 := ⟨F - 1, by omega⟩
      have hYi := (hY i (by omega)).2
      have := ih (i + 1) F (sA e (32 * 0 + 20) (Y i) 0) (by omega) (by omega) (hfr.trans FR_20) e21 (fun j hj => by rw [gA_sAi, if_neg (fun q => absurd q.1 (by decide))]; exact e19 j hj) (fun x hx hj => by
        rw [gA_sAi]
        by_cases c : x = Y i
        · rw [if_pos ⟨rfl, c⟩]
        · rw [if_neg (fun q => c q.2)]
          refine ez x hx (fun j h1 h2 e => ?_)
          by_cases b : j = i
          · rw [b] at e; exact c e.symm
          · exact hj j (by omega) h2 e)
      obtain ⟨d', r1, r2⟩ := this
      refine ⟨d', ?_, r2⟩
      show t_X6_beginSpread_2 LM (fun x1 d => lp _ F (x1, d)) (nI i) e = _
      have e19' : gA e (32 * 0 + 19) i = nI (Y i) := e19 i (by omega)
      rw [t_X6_beginSpread_2, e21, if_neg (nI_ge (by omega) (by omega)), LM19, gdi (by omega) (by omega), ix_nI (by omega), e19', LM20, gdi hYi (by omega), bd_q, ix_nI (by omega), nI_1]
      exact r1
  exact main s 0 FU d (by omega) (by unfold FU; omega) (FR.refl d) h21 (fun i hi => (hY i hi).1) (fun x hx hj => hz x hx (fun i hi => hj i (by omega) hi))
def RO (u : Nat → Int32) (bar nop : Int32) (o : Option Nat) (n q : Nat) : Prop := match o with
  | none => False
  | some r => RR u bar nop r n q
theorem RO.step {u : Nat → Int32} {bar nop : Int32} {o : Option Nat} {n q q' : Nat} (h : RO u bar nop o n q) (he : Ed u bar nop q q') : RO u bar nop o (n + 1) q' := by
  cases o with
  | none => exact h.elim
  | some r => exact ⟨q, h, he⟩
theorem nxm_Ed {u : Nat → Int32} {bar nop : Int32} {q c q' : Nat} (hc : c < wys u (qp q)) (ho : wo u q c = true) (h : nxm u bar nop q c = some q') : Ed u bar nop q q' := by
  unfold nxm at h
  by_cases e : gol u (qp q) c = nop
  · rw [if_pos e] at h; cases h
  · rw [if_neg e] at h; exact ⟨c, hc, ho, e, h⟩
theorem Ed_nxm {u : Nat → Int32} {bar nop : Int32} {q q' : Nat} (h : Ed u bar nop q q') : ∃ c, c < wys u (qp q) ∧ wo u q c = true ∧ nxm u bar nop q c = some q' := by
  obtain ⟨c, a, b, e, f⟩ := h
  refine ⟨c, a, b, ?_⟩
  unfold nxm
  rw [if_neg e]
  exact f
/-- ways gone through so far: those of the first k states, and c of the next -/
def PC (k c i x : Nat) : Prop := i < k ∨ (i = k ∧ x < c)
/-- a lost way to part g -/
def LW (u : Nat → Int32) (bar nop : Int32) (q x g : Nat) : Prop := x < wys u (qp q) ∧ wo u q x = true ∧ gol u (qp q) x ≠ nop ∧ nxm u bar nop q x = none ∧ gl u q x = g
def BI (u : Nat → Int32) (bar nop : Int32) (o : Option Nat) (B : Nat → Prop) (e : Dt) (s : Nat) (Y f : Nat → Nat) (m k c : Nat) : Prop :=
  gF e 0 21 = nI s ∧ s ≤ 61440 ∧ (∀ i, i < s → VQ u (Y i) ∧ gA e 19 i = nI (Y i) ∧ gA e 20 (Y i) = nI (f i + 1) ∧ f i ≤ i ∧ RO u bar nop o (f i) (Y i)) ∧
  (∀ i j, i < s → j < s → Y i = Y j → i = j) ∧ (∀ x, x < 61440 → (∀ i, i < s → Y i ≠ x) → gA e 20 x = 0) ∧ (∀ i j, i ≤ j → j < s → f i ≤ f j) ∧ (k < s → ∀ j, j < s → f j ≤ f k + 1) ∧
  (∀ i x, PC k c i x → i < s → x < wys u (qp (Y i)) → wo u (Y i) x = true → ∀ q', nxm u bar nop (Y i) x = some q' → ∃ j, j < s ∧ Y j = q' ∧ f j ≤ f i + 1) ∧
  gF e 0 22 = nI m ∧ m < 2 ^ 24 ∧ (∀ g, m.testBit g = true ↔ (B g ∨ ∃ i x, PC k c i x ∧ i < s ∧ LW u bar nop (Y i) x g))
theorem BI.cg {u : Nat → Int32} {bar nop : Int32} {o : Option Nat} {B : Nat → Prop} {e e' : Dt} {s : Nat} {Y f : Nat → Nat} {m k c : Nat} (h : BI u bar nop o B e s Y f m k c) (h21 : gF e' 0 21 = gF e 0 21) (h22 : gF e' 0 22 = gF e 0 22) (h19 : ∀ i, gA e' 19 i = gA e 19 i) (h20 : ∀ i, gA e' 20 i = gA e 20 i) : BI u bar nop o B e' s Y f m k c := by
  obtain ⟨a1, a2, a3, a4, a5, a6, a7, a8, a9, a10, a11⟩ := h
  refine ⟨h21.trans a1, a2, fun i hi => ?_, a4, fun x hx hi => ?_, a6, a7, a8, h22.trans a9, a10, a11⟩
  · obtain ⟨b1, b2, b3, b4⟩ := a3 i hi
    exact ⟨b1, (h19 i).trans b2, (h20 _).trans b3, b4⟩
  · exact (h20 x).trans (a5 x hx hi)
/-- a way that is closed -/
theorem BI.shut {u : Nat → Int32} {bar nop : Int32} {o : Option Nat} {B : Nat → Prop} {e : Dt} {s : Nat} {Y f : Nat → Nat} {m k c : Nat} (h : BI u bar nop o B e s Y f m k c) (ho : ¬ wo u (Y k) c = true) : BI u bar nop o B e s Y f m k (c + 1) := by
  obtain ⟨a1, a2, a3, a4, a5, a6, a7, a8, a9, a10, a11⟩ := h
  refine ⟨a1, a2, a3, a4, a5, a6, a7, fun i x hx hi hw hop => ?_, a9, a10, fun g => ?_⟩
  · refine a8 i x ?_ hi hw hop
    rcases hx with q | ⟨q, q2⟩
    · exact .inl q
    · by_cases z : x = c
      · rw [q, z] at hop; exact absurd hop ho
      · exact .inr ⟨q, by omega⟩
  · rw [a11 g]
    constructor
    · rintro (q | ⟨i, x, q, r⟩)
      · exact .inl q
      · refine .inr ⟨i, x, ?_, r⟩
        rcases q with q | q
        · exact .inl q
        · exact .inr ⟨q.1, by omega⟩
    · rintro (q | ⟨i, x, q, r1, r2⟩)
      · exact .inl q
      · refine .inr ⟨i, x, ?_, r1, r2⟩
        rcases q with q | ⟨q, q2⟩
        · exact .inl q
        · by_cases z : x = c
          · have := r2.2.1
            rw [q, z] at this; exact absurd this ho
          · exact .inr ⟨q, by omega⟩
/-- all ways of state k are gone through -/
theorem BI.next {u : Nat → Int32} {bar nop : Int32} {o : Option Nat} {B : Nat → Prop} {e : Dt} {s : Nat} {Y f : Nat → Nat} {m k c : Nat} (h : BI u bar nop o B e s Y f m k c) (hk : k < s) (hc : ∀ x, c ≤ x → x < wys u (qp (Y k)) → ¬ wo u (Y k) x = true) : BI u bar nop o B e s Y f m (k + 1) 0 := by
  obtain ⟨a1, a2, a3, a4, a5, a6, a7, a8, a9, a10, a11⟩ := h
  have pc : ∀ i x, PC (k + 1) 0 i x → x < wys u (qp (Y i)) → wo u (Y i) x = true → PC k c i x := by
    intro i x q hw hop
    rcases q with q | ⟨_, q⟩
    · by_cases z : i = k
      · refine .inr ⟨z, ?_⟩
        rcases Nat.lt_or_ge x c with y | y
        · exact y
        · rw [z] at hw hop; exact absurd hop (hc x y hw)
      · exact .inl (by omega)
    · omega
  refine ⟨a1, a2, a3, a4, a5, a6, fun hk' j hj => ?_, fun i x hx hi hw hop => a8 i x (pc i x hx hw hop) hi hw hop, a9, a10, fun g => ?_⟩
  · have h1 := a7 hk j hj
    have h2 := a6 k (k + 1) (by omega) hk'
    omega
  · rw [a11 g]
    constructor
    · rintro (q | ⟨i, x, q, r⟩)
      · exact .inl q
      · refine .inr ⟨i, x, ?_, r⟩
        rcases q with q | q
        · exact .inl (by omega)
        · exact .inl (by omega)
    · rintro (q | ⟨i, x, q, r1, r2⟩)
      · exact .inl q
      · exact .inr ⟨i, x, pc i x q r2.1 r2.2.1, r1, r2⟩
