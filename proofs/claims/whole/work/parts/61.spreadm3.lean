/-! ===== the reference's walk: to its end ===== -/
theorem enc_some_ne {q : Nat} (h : q < 61440) : ¬ enc (some q) = -2 := by
  intro z
  have h1 : nI q = -2 := z
  have := congrArg Int32.toInt h1
  rw [nI_toInt (by omega)] at this
  have h2 : (-2 : Int32).toInt = -2 := rfl
  omega
theorem enc_none : enc none = -2 := rfl
theorem enc_q (q : Nat) : enc (some q) = nI q := rfl
theorem spr_step {u : Nat → Int32} {bar nop : Int32} {o : Option Nat} {B : Nat → Prop} {e : Dt} {s : Nat} {Y f : Nat → Nat} {m k c : Nat} (h : BI u bar nop o B e s Y f m k c) (hr : RU u e) (hb : gF e 0 16 = bar) (hn : gF e 0 15 = nop) (hk : k < s) (hc : c < wys u (qp (Y k))) (h0 : stq u (Y k) = 0) (K2 : Int32 → Dt → Option Dt) (K19 : Int32 → Int32 → Int32 → Dt → Option Dt) :
    ∃ e' s' Y' f' m', t_X6_spreadAll_19 LM K2 K19 (nI k) (nI (Y k)) (nI c) e = K19 (nI k) (nI (Y k)) (nI (c + 1)) e' ∧ BI u bar nop o B e' s' Y' f' m' k (c + 1) ∧ FR e e' ∧ s ≤ s' ∧ (∀ i, i < s → Y' i = Y i ∧ f' i = f i) := by
  have hv := hr.v
  obtain ⟨b1, b2, b3, b4, b5⟩ := h.2.2.1 k hk
  have hP := hv.P.2
  have hw := wys_lt hv b1.1
  have hlt := VQ_lt hv b1
  have g := gl_eq hv b1.1 hc
  rw [t_X6_spreadAll_19, waysOf_q hr b1, ob, if_neg (nI_ge hc (by omega)), standsAt_q hr b1, ob, h0, if_pos (show nI 0 = 0 from rfl), isWay_q hr b1 hc, ob]
  by_cases ow : wo u (Y k) c = true
  · obtain ⟨e1, w1, w2⟩ := wayTo_q hr b1 hc
    rw [hb, hn] at w1
    have h1 : BI u bar nop o B e1 s Y f m k c := h.cg (w2.1 21 (by decide) (by decide)) (w2.1 22 (by decide) (by decide)) (fun i => w2.2 19 i) (fun i => w2.2 20 i)
    have hr1 := w2.ru hr
    have n1 : gF e1 0 15 = nop := (w2.1 15 (by decide) (by decide)).trans hn
    have m1 : gF e1 0 22 = nI m := h1.2.2.2.2.2.2.2.2.1
    have f1 : gA e1 20 (Y k) = nI (f k + 1) := (h1.2.2.1 k hk).2.2.1
    rw [if_pos ow, if_neg (by decide), w1, ob]
    dsimp only
    rw [goalOf_q hr1 b1 hc, ob, n1, m1]
    cases hx : nxm u bar nop (Y k) c with
    | none =>
      rw [enc_none, if_pos rfl]
      by_cases en : nI (gl u (Y k) c) = nop
      · rw [if_pos en]
        have hz : BI u bar nop o B (sF e1 0 22 (nI m ||| 0)) s Y f m k c := h1.cg (gF_sFn (by decide)) (by rw [gF_sF1, or_z _ _ rfl, m1]) (fun i => rfl) (fun i => rfl)
        refine ⟨sF e1 0 22 (nI m ||| 0), s, Y, f, m, ?_, hz.bar (g.1.trans en), (FR.nw w2).trans FR_22, Nat.le_refl _, fun i _ => ⟨rfl, rfl⟩⟩
        rw [t_X6_spreadAll_89, t_X6_spreadAll_90, bd_q, LM20, gdi hlt (by omega), t_X6_reach, if_pos rfl, ob, t_X6_spreadAll_106, nI_1]
      · rw [if_neg en, bit_e _ (by omega)]
        refine ⟨sF e1 0 22 (nI (m ||| 2 ^ gl u (Y k) c)), s, Y, f, _, ?_, h1.lost hk hc ow (by omega) (fun z => en (g.1.symm.trans z)) hx, (FR.nw w2).trans FR_22, Nat.le_refl _, fun i _ => ⟨rfl, rfl⟩⟩
        rw [t_X6_spreadAll_90, nx_or, bd_q, LM20, gdi hlt (by omega), t_X6_reach, if_pos rfl, ob, t_X6_spreadAll_106, nI_1]
    | some q' =>
      have hq' := (nxm_Ed hc ow hx).ok hv b1
      have hql := VQ_lt hv hq'
      rw [if_neg (enc_some_ne hql), enc_q]
      have hz : BI u bar nop o B (sF e1 0 22 (nI m ||| 0)) s Y f m k c := h1.cg (gF_sFn (by decide)) (by rw [gF_sF1, or_z _ _ rfl, m1]) (fun i => rfl) (fun i => rfl)
      have f2 : gA (sF e1 0 22 (nI m ||| 0)) (32 * 0 + 20) (Y k) = nI (f k + 1) := f1
      by_cases ex : ∃ j, j < s ∧ Y j = q'
      · obtain ⟨j, hj, ej⟩ := ex
        refine ⟨sF e1 0 22 (nI m ||| 0), s, Y, f, m, ?_, hz.old hk hx hj ej, (FR.nw w2).trans FR_22, Nat.le_refl _, fun i _ => ⟨rfl, rfl⟩⟩
        have fj : gA (sF e1 0 22 (nI m ||| 0)) 20 q' ≠ 0 := by
          have := (hz.2.2.1 j hj)
          rw [← ej, this.2.2.1]
          exact nI_ne0 (by omega) (by have := this.2.2.2.1; have := hz.2.1; omega)
        rw [t_X6_spreadAll_89, t_X6_spreadAll_90, bd_q, LM20, gdi hlt (by omega), reach_old hql fj, ob, t_X6_spreadAll_106, nI_1]
      · have h0' : ∀ i, i < s → Y i ≠ q' := fun i hi z => ex ⟨i, hi, z⟩
        have hs := hz.room hv hq' h0'
        refine ⟨fnd (sF e1 0 22 (nI m ||| 0)) s q' (f k + 1 + 1), s + 1, apn Y s q', apn f s (f k + 1), m, ?_, hz.new hv hk hc ow hx h0', ((FR.nw w2).trans FR_22).trans (FR_fnd _ _ _ _), by omega, fun i hi => ⟨apn_n (by omega), apn_n (by omega)⟩⟩
        rw [t_X6_spreadAll_89, t_X6_spreadAll_90, bd_q, LM20, gdi hlt (by omega), ix_nI (by omega), f2, reach_new hql (hz.2.2.2.2.1 q' hql h0') hs hz.1, ob, t_X6_spreadAll_106, nI_1]
  · refine ⟨e, s, Y, f, m, ?_, h.shut ow, FR.refl e, Nat.le_refl _, fun i _ => ⟨rfl, rfl⟩⟩
    rw [if_neg ow, if_pos rfl, t_X6_spreadAll_106, nI_1]
theorem spr_in {u : Nat → Int32} {bar nop : Int32} {o : Option Nat} {B : Nat → Prop} {k : Nat} (K2 : Int32 → Dt → Option Dt) : ∀ (n c F : Nat) (e : Dt) (s : Nat) (Y f : Nat → Nat) (m : Nat), c + n = wys u (qp (Y k)) → n < F → BI u bar nop o B e s Y f m k c → RU u e → gF e 0 16 = bar → gF e 0 15 = nop → k < s → stq u (Y k) = 0 →
    ∃ e' s' Y' f' m', lp (fun k x => t_X6_spreadAll_19 LM K2 (fun x1 x2 x3 d => k (x1, x2, x3, d)) x.1 x.2.1 x.2.2.1 x.2.2.2) F (nI k, nI (Y k), nI c, e) = K2 (nI (k + 1)) e' ∧ BI u bar nop o B e' s' Y' f' m' (k + 1) 0 ∧ FR e e' ∧ s ≤ s' ∧ (∀ i, i < s → Y' i = Y i ∧ f' i = f i) := by
  intro n
  induction n with
  | zero =>
    intro c F e s Y f m hc hF h hr hb hn hk h0
    obtain ⟨F, rfl⟩ : ∃ G, F = G + 1 := ⟨F - 1, by omega⟩
    have b1 := (h.2.2.1 k hk).1
    have hw := wys_lt hr.v b1.1
    refine ⟨e, s, Y, f, m, ?_, h.next hk (fun x hx hx2 => by omega), FR.refl e, Nat.le_refl _, fun i _ => ⟨rfl, rfl⟩⟩
    show t_X6_spreadAll_19 LM K2 (fun x1 x2 x3 d => lp _ F (x1, x2, x3, d)) (nI k) (nI (Y k)) (nI c) e = _
    rw [t_X6_spreadAll_19, waysOf_q hr b1, ob, if_pos (nI_le (by omega) (by omega)), t_X6_spreadAll_112, nI_1]
  | succ n ih =>
    intro c F e s Y f m hc hF h hr hb hn hk h0
    obtain ⟨F, rfl⟩ : ∃ G, F = G + 1 := ⟨F - 1, by omega⟩
    obtain ⟨e1, s1, Y1, f1, m1, r1, r2, r3, r4, r5⟩ := spr_step h hr hb hn hk (by omega) h0 K2 (fun x1 x2 x3 d => lp (fun k x => t_X6_spreadAll_19 LM K2 (fun x1 x2 x3 d => k (x1, x2, x3, d)) x.1 x.2.1 x.2.2.1 x.2.2.2) F (x1, x2, x3, d))
    have ek := (r5 k hk).1
    obtain ⟨e2, s2, Y2, f2, m2, t1, t2, t3, t4, t5⟩ := ih (c + 1) F e1 s1 Y1 f1 m1 (by rw [ek]; omega) (by omega) r2 (r3.ru hr) ((r3.1 16 (by decide) (by decide) (by decide) (by decide)).trans hb) ((r3.1 15 (by decide) (by decide) (by decide) (by decide)).trans hn) (by omega) (by rw [ek]; exact h0)
    refine ⟨e2, s2, Y2, f2, m2, ?_, t2, r3.trans t3, by omega, fun i hi => ⟨(t5 i (by omega)).1.trans (r5 i hi).1, (t5 i (by omega)).2.trans (r5 i hi).2⟩⟩
    rw [ek] at t1
    exact r1.trans t1
theorem spr_all {u : Nat → Int32} {bar nop : Int32} {o : Option Nat} {B : Nat → Prop} : ∀ (n k F : Nat) (e : Dt) (s : Nat) (Y f : Nat → Nat) (m : Nat), 61441 ≤ k + n → n < F → k ≤ s → BI u bar nop o B e s Y f m k 0 → RU u e → gF e 0 16 = bar → gF e 0 15 = nop →
    ∃ e' s' Y' f' m', lp (fun k x => t_X6_spreadAll_2 LM (fun x1 d => k (x1, d)) x.1 x.2) F (nI k, e) = some e' ∧ BI u bar nop o B e' s' Y' f' m' s' 0 ∧ FR e e' ∧ s ≤ s' ∧ (∀ i, i < s → Y' i = Y i ∧ f' i = f i) := by
  intro n
  induction n with
  | zero =>
    intro k F e s Y f m hn hF hk h
    have := h.2.1
    omega
  | succ n ih =>
    intro k F e s Y f m hn hF hk h hr hb hno
    obtain ⟨F, rfl⟩ : ∃ G, F = G + 1 := ⟨F - 1, by omega⟩
    have hs := h.2.1
    by_cases hks : k = s
    · subst hks
      refine ⟨e, k, Y, f, m, ?_, h, FR.refl e, Nat.le_refl _, fun i _ => ⟨rfl, rfl⟩⟩
      show t_X6_spreadAll_2 LM (fun x1 d => lp _ F (x1, d)) (nI k) e = _
      rw [t_X6_spreadAll_2, h.1, if_pos (nI_le (Nat.le_refl _) (by omega))]
    · obtain ⟨b1, b2, _⟩ := h.2.2.1 k (by omega)
      have hw := wys_lt hr.v b1.1
      have hst := stq_cases hr.v b1
      have go : ∃ e' s' Y' f' m', lp (fun k' x => t_X6_spreadAll_19 LM (fun x1 d => lp (fun k x => t_X6_spreadAll_2 LM (fun x1 d => k (x1, d)) x.1 x.2) F (x1, d)) (fun x1 x2 x3 d => k' (x1, x2, x3, d)) x.1 x.2.1 x.2.2.1 x.2.2.2) FU (nI k, nI (Y k), 0, e) = lp (fun k x => t_X6_spreadAll_2 LM (fun x1 d => k (x1, d)) x.1 x.2) F (nI (k + 1), e') ∧ BI u bar nop o B e' s' Y' f' m' (k + 1) 0 ∧ FR e e' ∧ s ≤ s' ∧ (∀ i, i < s → Y' i = Y i ∧ f' i = f i) := by
        have stop : stq u (Y k) ≠ 0 → stq u (Y k) < 4 → (∀ c, c < wys u (qp (Y k)) → ¬ wo u (Y k) c = true) → ∃ e' s' Y' f' m', lp (fun k' x => t_X6_spreadAll_19 LM (fun x1 d => lp (fun k x => t_X6_spreadAll_2 LM (fun x1 d => k (x1, d)) x.1 x.2) F (x1, d)) (fun x1 x2 x3 d => k' (x1, x2, x3, d)) x.1 x.2.1 x.2.2.1 x.2.2.2) FU (nI k, nI (Y k), 0, e) = lp (fun k x => t_X6_spreadAll_2 LM (fun x1 d => k (x1, d)) x.1 x.2) F (nI (k + 1), e') ∧ BI u bar nop o B e' s' Y' f' m' (k + 1) 0 ∧ FR e e' ∧ s ≤ s' ∧ (∀ i, i < s → Y' i = Y i ∧ f' i = f i) := by
          intro h1 h2 h3
          refine ⟨e, s, Y, f, m, ?_, h.next (by omega) (fun x _ hx => h3 x hx), FR.refl e, Nat.le_refl _, fun i _ => ⟨rfl, rfl⟩⟩
          show t_X6_spreadAll_19 LM _ (fun x1 x2 x3 d => lp _ 999999 (x1, x2, x3, d)) (nI k) (nI (Y k)) (nI 0) e = _
          rw [t_X6_spreadAll_19, waysOf_q hr b1, ob, standsAt_q hr b1, ob, if_neg (show ¬ nI (stq u (Y k)) = 0 from nI_ne0 (by omega) (by omega)), ite_self, t_X6_spreadAll_112, nI_1]
        rcases hst with ⟨e1, e2⟩ | ⟨e1, e2, e3⟩ | ⟨e1, e2, e3⟩
        · exact stop (by omega) (by omega) (fun c hc => by rw [wys_won e1] at hc; omega)
        · exact spr_in _ (wys u (qp (Y k))) 0 FU e s Y f m (by omega) (by unfold FU; omega) h hr hb hno (by omega) e2
        · exact stop (by omega) (by omega) e3
      obtain ⟨e1, s1, Y1, f1, m1, r1, r2, r3, r4, r5⟩ := go
      obtain ⟨e2, s2, Y2, f2, m2, t1, t2, t3, t4, t5⟩ := ih (k + 1) F e1 s1 Y1 f1 m1 (by omega) (by omega) (by omega) r2 (r3.ru hr) ((r3.1 16 (by decide) (by decide) (by decide) (by decide)).trans hb) ((r3.1 15 (by decide) (by decide) (by decide) (by decide)).trans hno)
      refine ⟨e2, s2, Y2, f2, m2, ?_, t2, r3.trans t3, by omega, fun i hi => ⟨(t5 i (by omega)).1.trans (r5 i hi).1, (t5 i (by omega)).2.trans (r5 i hi).2⟩⟩
      show t_X6_spreadAll_2 LM (fun x1 d => lp _ F (x1, d)) (nI k) e = _
      have b2' : gA e (32 * 0 + 19) k = nI (Y k) := b2
      rw [t_X6_spreadAll_2, h.1, if_neg (nI_ge (by omega) (by omega)), LM19, gdi (by omega) (by omega), bd_q, ix_nI (by omega), b2']
      exact r1.trans t1
/-- the walk is done: s states Y, far f, lost parts m -/
def RS (u : Nat → Int32) (bar nop : Int32) (o : Option Nat) (B : Nat → Prop) (e : Dt) (s : Nat) (Y f : Nat → Nat) (m : Nat) : Prop := BI u bar nop o B e s Y f m s 0 ∧ (∀ r, o = some r → 0 < s ∧ Y 0 = r ∧ f 0 = 0) ∧ (o = none → s = 0)
theorem RS.far {u : Nat → Int32} {bar nop : Int32} {o : Option Nat} {B : Nat → Prop} {e : Dt} {s : Nat} {Y f : Nat → Nat} {m : Nat} (hv : VB u) (h : RS u bar nop o B e s Y f m) : FAR e := by
  obtain ⟨⟨a1, a2, a3, a4, a5, _⟩, _⟩ := h
  exact ⟨s, Y, a2, a1, fun i hi => ⟨(a3 i hi).2.1, VQ_lt hv (a3 i hi).1⟩, a5⟩
/-- all that can be come to is found, and not farther than that -/
theorem RS.all {u : Nat → Int32} {bar nop : Int32} {o : Option Nat} {B : Nat → Prop} {e : Dt} {s : Nat} {Y f : Nat → Nat} {m : Nat} (h : RS u bar nop o B e s Y f m) : ∀ (n q : Nat), RO u bar nop o n q → ∃ j, j < s ∧ Y j = q ∧ f j ≤ n := by
  obtain ⟨⟨a1, a2, a3, a4, a5, a6, a7, a8, _⟩, hr, hn⟩ := h
  cases o with
  | none => intro n q hq; exact hq.elim
  | some r =>
    intro n
    induction n with
    | zero =>
      intro q hq
      obtain ⟨b1, b2, b3⟩ := hr r rfl
      have : q = r := hq
      exact ⟨0, b1, by rw [b2, this], by omega⟩
    | succ n ih =>
      intro q hq
      obtain ⟨q', h1, h2⟩ := hq
      obtain ⟨j, c1, c2, c3⟩ := ih q' h1
      obtain ⟨x, d1, d2, d3⟩ := Ed_nxm h2
      rw [← c2] at d1 d2 d3
      obtain ⟨j', e1, e2, e3⟩ := a8 j x (.inl c1) c1 d1 d2 q d3
      exact ⟨j', e1, e2, by omega⟩
/-- the walk from one state, or none -/
theorem spreadRoot {u : Nat → Int32} {bar nop : Int32} {o : Option Nat} {B : Nat → Prop} {e : Dt} {m : Nat} (hr : RU u e) (hb : gF e 0 16 = bar) (hn : gF e 0 15 = nop) (ho : ∀ r, o = some r → VQ u r) (h21 : gF e 0 21 = 0) (h22 : gF e 0 22 = nI m) (hm : m < 2 ^ 24) (hB : ∀ g, m.testBit g = true ↔ B g) (hz : ∀ x, x < 61440 → gA e 20 x = 0) : ∃ e' s Y f m', (t_X6_reach LM e (enc o) 0).bind (fun d => t_X6_spreadAll LM d) = some e' ∧ RS u bar nop o B e' s Y f m' ∧ FR e e' := by
  have base : BI u bar nop o B e 0 (fun _ => 0) (fun _ => 0) m 0 0 := by
    refine ⟨h21, by omega, fun i hi => by omega, fun i j hi => by omega, fun x hx _ => hz x hx, fun i j _ hj => by omega, fun hk => by omega, fun i x _ hi => by omega, h22, hm, fun g => ?_⟩
    rw [hB g]
    constructor
    · exact .inl
    · rintro (q | ⟨i, x, _, q, _⟩)
      · exact q
      · omega
  cases o with
  | none =>
    obtain ⟨e', s', Y', f', m', r1, r2, r3, r4, r5⟩ := spr_all 61441 0 FU e 0 _ _ m (by omega) (by unfold FU; omega) (by omega) base hr hb hn
    refine ⟨e', s', Y', f', m', ?_, ⟨r2, fun r h => (by cases h), fun _ => ?_⟩, r3⟩
    · rw [t_X6_reach, if_pos enc_none, ob]
      exact r1
    · rcases Nat.eq_zero_or_pos s' with z | z
      · exact z
      · exact ((r2.2.2.1 0 z).2.2.2.2).elim
  | some r =>
    have hv := ho r rfl
    have hq := VQ_lt hr.v hv
    have b2 : BI u bar nop (some r) B (fnd e 0 r 1) 1 (fun _ => r) (fun _ => 0) m 0 0 := by
      obtain ⟨a1, a2, a3, a4, a5, a6, a7, a8, a9, a10, a11⟩ := base
      refine ⟨fnd21 _ _ _ _, by omega, fun i hi => ?_, fun i j hi hj _ => by omega, fun x hx hi => ?_, fun i j _ _ => Nat.le_refl _, fun _ j _ => Nat.zero_le _, fun i x hp => ?_, (fnd22 _ _ _ _).trans a9, a10, fun g => ?_⟩
      · rw [fnd19, if_pos (by omega), fnd20, if_pos rfl]
        exact ⟨hv, rfl, rfl, Nat.zero_le _, rfl⟩
      · rw [fnd20, if_neg (fun z => hi 0 (by omega) z.symm)]
        exact hz x hx
      · rcases hp with z | ⟨_, z⟩ <;> omega
      · rw [hB g]
        constructor
        · exact .inl
        · rintro (q | ⟨i, x, z, _⟩)
          · exact q
          · rcases z with z | ⟨_, z⟩ <;> omega
    obtain ⟨e', s', Y', f', m', r1, r2, r3, r4, r5⟩ := spr_all 61441 0 FU (fnd e 0 r 1) 1 _ _ m (by omega) (by unfold FU; omega) (by omega) b2 ((FR_fnd e 0 r 1).ru hr) hb hn
    refine ⟨e', s', Y', f', m', ?_, ⟨r2, fun r' h => ?_, fun h => (by cases h)⟩, (FR_fnd e 0 r 1).trans r3⟩
    · rw [enc_q, show (0 : Int32) = nI 0 from rfl, reach_new (s := 0) hq (hz r hq) (by omega) h21, ob]
      exact r1
    · cases h
      exact ⟨by omega, (r5 0 (by omega)).1, (r5 0 (by omega)).2⟩
