/-! ===== the book u of a row w alone; states as numbers q (as the reference has them) ===== -/
/-- same book but for numbers -/
def NBK (w w' : Nat → Int32) : Prop := ∀ i, i < 800 → (i < 2 ∨ 8 ≤ i) → ¬ (152 ≤ i ∧ i < 176) → w' i = w i
theorem VB_nb {w w' : Nat → Int32} (h : NBK w w') (hv : VB w) : VB w' ∧ bP w' = bP w ∧ ∀ p, p < 24 → bE w' p = bE w p ∧ bN w' p = bN w p ∧ bC w' p = bC w p := by
  have P24 := hv.P.2
  have hP : bP w' = bP w := by unfold bP; rw [h 0 (by decide) (by decide) (by omega)]
  have hE : ∀ p, p < 24 → bE w' p = bE w p := fun p hp => by unfold bE; rw [h _ (by omega) (by omega) (by omega)]
  have hN : ∀ p, p < 24 → bN w' p = bN w p := fun p hp => by unfold bN; rw [h _ (by omega) (by omega) (by omega)]
  have hC : ∀ p, p < 24 → bC w' p = bC w p := fun p hp => by unfold bC; rw [h _ (by omega) (by omega) (by omega)]
  refine ⟨⟨?_, ?_, ?_, ?_⟩, hP, fun p hp => ⟨hE p hp, hN p hp, hC p hp⟩⟩
  · rw [h 0 (by decide) (by decide) (by omega)]; exact hv.1
  · rw [h 1 (by decide) (by decide) (by omega)]; exact hv.2.1
  · unfold bH; rw [h 1 (by decide) (by decide) (by omega)]; exact hv.2.2.1
  · intro p hp
    rw [hP] at hp
    have hV := hv.2.2.2 p hp
    have N5 := hV.N.2
    have C7 := hV.C.2
    obtain ⟨a, b, c, e, f, g, k⟩ := hV
    refine ⟨?_, ?_, ?_, ?_, ?_, ?_, ?_⟩
    · rw [h _ (by omega) (by omega) (by omega)]; exact a
    · rw [h _ (by omega) (by omega) (by omega)]; exact b
    · rw [h _ (by omega) (by omega) (by omega)]; exact c
    · rw [hE p (by omega), hC p (by omega)]; exact e
    · rw [hE p (by omega), hP, h (80 + p) (by omega) (by omega) (by omega), h (104 + p) (by omega) (by omega) (by omega), h (128 + p) (by omega) (by omega) (by omega)]; exact f
    · intro q hq
      rw [hN p (by omega)] at hq
      have := g q hq
      unfold VE bK at this ⊢
      rw [h (176 + (4 * p + q)) (by omega) (by omega) (by omega), h (272 + (4 * p + q)) (by omega) (by omega) (by omega)]
      exact this
    · intro q hq
      rw [hC p (by omega)] at hq
      have := k q hq
      unfold VC at this ⊢
      rw [hP, h (368 + (6 * p + q)) (by omega) (by omega) (by omega), h (512 + (6 * p + q)) (by omega) (by omega) (by omega), h (656 + (6 * p + q)) (by omega) (by omega) (by omega)]
      exact this
theorem BK_nb {d : Dt} {b : Nat} {w w' : Nat → Int32} (nb : NBK w w') (hv : VB w) (hb : BK d b w) : BK d b w' := by
  have P24 := hv.P.2
  obtain ⟨v1, v2, v3⟩ := VB_nb nb hv
  refine ⟨?_, ?_, fun p hp => ?_⟩
  · rw [nb 0 (by omega) (by omega) (by omega)]; exact hb.1
  · rw [nb 1 (by omega) (by omega) (by omega)]; exact hb.2.1
  · rw [v2] at hp
    have hV := hv.2.2.2 p hp
    have N5 := hV.N.2
    have C7 := hV.C.2
    obtain ⟨vE, vN, vC⟩ := v3 p (by omega)
    obtain ⟨a, b', c, e, f, g⟩ := hb.2.2 p hp
    refine ⟨?_, ?_, ?_, ?_, ?_, ?_⟩
    · rw [nb _ (by omega) (by omega) (by omega)]; exact a
    · rw [nb _ (by omega) (by omega) (by omega)]; exact b'
    · rw [nb _ (by omega) (by omega) (by omega)]; exact c
    · rw [vE, nb (80 + p) (by omega) (by omega) (by omega), nb (104 + p) (by omega) (by omega) (by omega), nb (128 + p) (by omega) (by omega) (by omega)]; exact e
    · intro q hq
      rw [vN] at hq
      rw [nb (176 + (4 * p + q)) (by omega) (by omega) (by omega), nb (272 + (4 * p + q)) (by omega) (by omega) (by omega)]
      exact f q hq
    · intro q hq
      rw [vC] at hq
      rw [nb (368 + (6 * p + q)) (by omega) (by omega) (by omega), nb (512 + (6 * p + q)) (by omega) (by omega) (by omega), nb (656 + (6 * p + q)) (by omega) (by omega) (by omega)]
      exact g q hq
def bk (w : Nat → Int32) : Nat → Int32 := fun i => if i < 800 ∧ ((i < 2 ∨ 8 ≤ i) ∧ ¬ (152 ≤ i ∧ i < 176)) then w i else 0
theorem bk_h8 (w : Nat → Int32) : ∀ i, i < 800 → ((i < 2 ∨ 8 ≤ i) ∧ ¬ (152 ≤ i ∧ i < 176)) → bk w i = w i := fun _ a b => if_pos ⟨a, b⟩
theorem bk_cg {w w' : Nat → Int32} (h : ∀ i, i < 800 → ((i < 2 ∨ 8 ≤ i) ∧ ¬ (152 ≤ i ∧ i < 176)) → w' i = w i) : bk w' = bk w := by
  funext i
  unfold bk
  by_cases c : i < 800 ∧ ((i < 2 ∨ 8 ≤ i) ∧ ¬ (152 ≤ i ∧ i < 176))
  · rw [if_pos c, if_pos c]; exact h i c.1 c.2
  · rw [if_neg c, if_neg c]
theorem bk_V {w : Nat → Int32} (h : VB w) : VB (bk w) := (VB_nb (fun i a b c => bk_h8 w i a ⟨b, c⟩) h).1
theorem bk_K {d : Dt} {b : Nat} {w : Nat → Int32} (hv : VB w) (h : BK d b w) : BK d b (bk w) := BK_nb (fun i a b c => bk_h8 w i a ⟨b, c⟩) hv h
theorem bk_P (w : Nat → Int32) : bP (bk w) = bP w := by unfold bP; rw [bk_h8 w _ (by omega) (by omega)]
theorem bk_H (w : Nat → Int32) : bH (bk w) = bH w := by unfold bH; rw [bk_h8 w _ (by omega) (by omega)]
theorem bk_E (w : Nat → Int32) {p : Nat} (hp : p < 24) : bE (bk w) p = bE w p := by unfold bE; rw [bk_h8 w _ (by omega) (by omega)]
theorem bk_N (w : Nat → Int32) {p : Nat} (hp : p < 24) : bN (bk w) p = bN w p := by unfold bN; rw [bk_h8 w _ (by omega) (by omega)]
theorem bk_C (w : Nat → Int32) {p : Nat} (hp : p < 24) : bC (bk w) p = bC w p := by unfold bC; rw [bk_h8 w _ (by omega) (by omega)]
theorem bk_wys (w : Nat → Int32) {p : Nat} (hp : p < 24) : wys (bk w) p = wys w p := by unfold wys; rw [bk_E w hp, bk_C w hp]
theorem bk_opn (w : Nat → Int32) {p c : Nat} (t : Int32) (hp : p < 24) (hc : c < 6) : opn (bk w) p t c = opn w p t c := by
  unfold opn
  rw [bk_h8 w (512 + (6 * p + c)) (by omega) (by omega), bk_h8 w (656 + (6 * p + c)) (by omega) (by omega)]
theorem bk_gol (w : Nat → Int32) {p c : Nat} (hp : p < 24) (hc : c < 6) : gol (bk w) p c = gol w p c := by
  unfold gol
  rw [bk_E w hp, bk_h8 w (104 + p) (by omega) (by omega), bk_h8 w (128 + p) (by omega) (by omega), bk_h8 w (368 + (6 * p + c)) (by omega) (by omega)]
theorem bk_arr (w : Nat → Int32) (bar : Int32) {p : Nat} (hp : p < 24) : ∀ (n k : Nat) (t : Int32) (h : Nat), k + n ≤ 4 → arr (bk w) bar p n k t h = arr w bar p n k t h := by
  intro n
  induction n with
  | zero => intro k t h _; rfl
  | succ n ih =>
    intro k t h hk
    have e1 : bK (bk w) p k = bK w p k := by unfold bK; rw [bk_h8 w _ (by omega) (by omega)]
    have e2 : bS (bk w) p k = bS w p k := by unfold bS; rw [bk_h8 w _ (by omega) (by omega)]
    unfold arr
    rw [e1, e2, bk_h8 w (272 + (4 * p + k)) (by omega) (by omega), ih _ _ _ (by omega), ih _ _ _ (by omega), ih _ _ _ (by omega), ih _ _ _ (by omega)]
theorem bk_com {w : Nat → Int32} (hv : VB w) (bar : Int32) {p : Nat} (hp : p < bP w) (t : Int32) (h : Nat) : com (bk w) bar p t h = com w bar p t h := by
  have hP := hv.P
  have hN := (hv.2.2.2 p hp).N
  unfold com
  rw [bk_N w (by omega)]
  exact bk_arr w bar (by omega) _ _ _ _ (by omega)
def qp (q : Nat) : Nat := q / 2560
def qt (q : Nat) : Int32 := nI (q / 10 % 256)
def qh (q : Nat) : Nat := q % 10
theorem qt_NB (q : Nat) : NB (qt q) 256 := ⟨_, Nat.mod_lt _ (by decide), rfl⟩
theorem qt_ix (q : Nat) : ix (qt q) = q / 10 % 256 := ix_nI (by omega)
theorem qh_le (q : Nat) : qh q ≤ 9 := by unfold qh; omega
theorem q_sq (q : Nat) : sq (qp q) (ix (qt q)) (qh q) = q := by rw [qt_ix]; unfold sq qp qh; omega
theorem sq_qp {p t h : Nat} (ht : t < 256) (hh : h ≤ 9) : qp (sq p t h) = p := by unfold sq qp; omega
theorem sq_qt {p t h : Nat} (ht : t < 256) (hh : h ≤ 9) : qt (sq p t h) = nI t := by
  unfold sq qt
  congr 1
  omega
theorem sq_qh {p t h : Nat} (hh : h ≤ 9) : qh (sq p t h) = h := by unfold sq qh; omega
/-- a state of the book u that is not lost -/
def VQ (u : Nat → Int32) (q : Nat) : Prop := qp q < bP u ∧ 1 ≤ qh q ∧ bE u (qp q) ≠ 2
def cc (u : Nat → Int32) (q : Nat) : Nat := sc (qp q) (ix (qt q)) (qh q) (if bE u (qp q) = 1 then 1 else 0)
def sl (q : Nat) : Nat := q / 10 * 9 + q % 10 - 1
theorem VQ_lt {u : Nat → Int32} (hv : VB u) {q : Nat} (h : VQ u q) : q < 61440 := by
  have := hv.P.2
  have := h.1
  unfold qp at this
  omega
theorem VQ_sl {u : Nat → Int32} {q : Nat} (h : VQ u q) : sl q < 2304 * bP u := by
  have h1 := h.1
  have h2 := h.2.1
  unfold qp at h1
  unfold qh at h2
  unfold sl
  omega
theorem sl_inj {a b : Nat} (ha : 1 ≤ qh a) (hb : 1 ≤ qh b) (h : sl a = sl b) : a = b := by
  unfold qh at ha hb
  unfold sl at h
  omega
theorem cc_lt {u : Nat → Int32} (hv : VB u) {q : Nat} (h : VQ u q) : cc u q < 2 ^ 19 := by
  have h1 := hv.P.2
  have h2 := h.1
  have h3 := qh_le q
  have h4 : ix (qt q) < 256 := by rw [qt_ix]; omega
  unfold cc sc
  split <;> omega
theorem cc_fate (u : Nat → Int32) (q : Nat) : cc u q % 4 = if bE u (qp q) = 1 then 1 else 0 := by
  unfold cc sc
  split <;> omega
theorem cc_sl (u : Nat → Int32) {q : Nat} (h : 1 ≤ qh q) : cc u q / 64 * 9 + cc u q / 4 % 16 = sl q + 1 := by
  have h3 := qh_le q
  have h4 : ix (qt q) < 256 := by rw [qt_ix]; omega
  have h5 := q_sq q
  unfold cc sc
  unfold sq at h5
  unfold sl
  unfold qh at h h3 h5 ⊢
  split <;> omega
/-- coming to part g with things t and health h: the state, none if one is lost -/
def arv (u : Nat → Int32) (bar : Int32) (g : Nat) (t : Int32) (h : Nat) : Option Nat := if (com u bar g t h).2 = 0 ∨ bE u g = 2 then none else some (sq g (ix (com u bar g t h).1) (com u bar g t h).2)
theorem arv_ok {u : Nat → Int32} (hv : VB u) {bar : Int32} {g : Nat} {t : Int32} {h q : Nat} (hg : g < bP u) (ht : NB t 256) (hh : h ≤ 9) (e : arv u bar g t h = some q) : VQ u q ∧ qp q = g := by
  have ok := com_ok hv (bar := bar) hg ht hh
  unfold arv at e
  by_cases c : (com u bar g t h).2 = 0 ∨ bE u g = 2
  · rw [if_pos c] at e; cases e
  · rw [if_neg c] at e
    cases e
    have e1 := nb_ix ok.1 (by decide)
    have h1 : qp (sq g (ix (com u bar g t h).1) (com u bar g t h).2) = g := sq_qp e1.2 ok.2
    refine ⟨⟨?_, ?_, ?_⟩, h1⟩
    · rw [h1]; exact hg
    · rw [sq_qh ok.2]
      exact Nat.pos_of_ne_zero (fun z => c (.inl z))
    · rw [h1]; exact fun z => c (.inr z)
/-- the class's code of it -/
theorem arv_some {u : Nat → Int32} (hv : VB u) {bar : Int32} {g : Nat} {t : Int32} {h q : Nat} (hg : g < bP u) (ht : NB t 256) (hh : h ≤ 9) (e : arv u bar g t h = some q) : arrS u g (com u bar g t h) = cc u q := by
  have ok := com_ok hv (bar := bar) hg ht hh
  unfold arv at e
  by_cases c : (com u bar g t h).2 = 0 ∨ bE u g = 2
  · rw [if_pos c] at e; cases e
  · rw [if_neg c] at e
    cases e
    have e1 := nb_ix ok.1 (by decide)
    unfold arrS cc fat
    rw [sq_qp e1.2 ok.2, sq_qt e1.2 ok.2, sq_qh ok.2, ix_nI (by omega), if_neg (fun z => c (.inl z)), if_neg (fun z => c (.inr z))]
theorem arv_none {u : Nat → Int32} {bar : Int32} {g : Nat} {t : Int32} {h : Nat} (e : arv u bar g t h = none) : arrS u g (com u bar g t h) % 4 = 2 := by
  unfold arv at e
  by_cases c : (com u bar g t h).2 = 0 ∨ bE u g = 2
  · unfold arrS fat sc
    rcases c with c | c
    · rw [if_pos c]; omega
    · by_cases z : (com u bar g t h).2 = 0
      · rw [if_pos z]; omega
      · rw [if_neg z, if_neg (by omega), if_pos c]; omega
  · rw [if_neg c] at e; cases e
theorem arrS_lt {u : Nat → Int32} (hv : VB u) {bar : Int32} {g : Nat} {t : Int32} {h : Nat} (hg : g < bP u) (ht : NB t 256) (hh : h ≤ 9) : arrS u g (com u bar g t h) < 2 ^ 19 := by
  have ok := com_ok hv (bar := bar) hg ht hh
  have e1 := nb_ix ok.1 (by decide)
  have := hv.P.2
  have := fat_lt u g (com u bar g t h).2
  unfold arrS sc
  omega
def gl (u : Nat → Int32) (q c : Nat) : Nat := ix (gol u (qp q) c)
def wo (u : Nat → Int32) (q c : Nat) : Bool := decide (bE u (qp q) = 3) || opn u (qp q) (qt q) c
def nxs (u : Nat → Int32) (bar : Int32) (q g : Nat) : Option Nat := arv u bar g (qt q) (qh q)
theorem wo_iff (u : Nat → Int32) (q c : Nat) : wo u q c = true ↔ (bE u (qp q) = 3 ∨ opn u (qp q) (qt q) c = true) := by
  unfold wo
  rw [Bool.or_eq_true, decide_eq_true_eq]
theorem wys_lt {u : Nat → Int32} (hv : VB u) {p : Nat} (hp : p < bP u) : wys u p ≤ 6 := by
  have := (hv.2.2.2 p hp).C.2
  unfold wys
  split
  · omega
  · split <;> omega
theorem gl_eq {u : Nat → Int32} (hv : VB u) {q c : Nat} (hq : qp q < bP u) (hc : c < wys u (qp q)) : gol u (qp q) c = nI (gl u q c) ∧ gl u q c < bP u := nb_ix (gol_ok hv hq hc) (by have := hv.P.2; omega)
def Ed (u : Nat → Int32) (bar nop : Int32) (q q' : Nat) : Prop := ∃ c, c < wys u (qp q) ∧ wo u q c = true ∧ gol u (qp q) c ≠ nop ∧ nxs u bar q (gl u q c) = some q'
def RR (u : Nat → Int32) (bar nop : Int32) (r : Nat) : Nat → Nat → Prop
  | 0, q => q = r
  | n + 1, q => ∃ q', RR u bar nop r n q' ∧ Ed u bar nop q' q
theorem Ed.ok {u : Nat → Int32} (hv : VB u) {bar nop : Int32} {q q' : Nat} (hq : VQ u q) (h : Ed u bar nop q q') : VQ u q' := by
  obtain ⟨c, h1, h2, h3, h4⟩ := h
  exact (arv_ok hv (gl_eq hv hq.1 h1).2 (qt_NB q) (qh_le q) h4).1
theorem RR.ok {u : Nat → Int32} (hv : VB u) {bar nop : Int32} {r : Nat} (hr : VQ u r) : ∀ (n q : Nat), RR u bar nop r n q → VQ u q := by
  intro n
  induction n with
  | zero => intro q h; exact (show q = r from h) ▸ hr
  | succ n ih =>
    intro q h
    obtain ⟨q', h1, h2⟩ := h
    exact h2.ok hv (ih q' h1)
/-- pigeons -/
theorem inj_le : ∀ (N s : Nat) (f : Nat → Nat), (∀ i j, i < s → j < s → f i = f j → i = j) → (∀ i, i < s → f i < N) → s ≤ N := by
  intro N
  induction N with
  | zero =>
    intro s f _ h
    rcases Nat.eq_zero_or_pos s with z | z
    · omega
    · have := h 0 z; omega
  | succ N ih =>
    intro s f hi hN
    by_cases h : ∃ i0, i0 < s ∧ f i0 = N
    · obtain ⟨i0, h0, e0⟩ := h
      have := ih (s - 1) (fun i => if i = i0 then f (s - 1) else f i) (by
        intro i j hi' hj' e
        by_cases a : i = i0
        · by_cases b : j = i0
          · omega
          · rw [if_pos a, if_neg b] at e
            have := hi (s - 1) j (by omega) (by omega) e
            omega
        · by_cases b : j = i0
          · rw [if_neg a, if_pos b] at e
            have := hi i (s - 1) (by omega) (by omega) e
            omega
          · rw [if_neg a, if_neg b] at e
            exact hi i j (by omega) (by omega) e) (by
        intro i hi'
        show (if i = i0 then f (s - 1) else f i) < N
        by_cases a : i = i0
        · rw [if_pos a]
          have h1 := hN (s - 1) (by omega)
          have h2 : f (s - 1) ≠ N := fun e => by
            have := hi (s - 1) i0 (by omega) h0 (by rw [e, e0])
            omega
          omega
        · rw [if_neg a]
          have h1 := hN i (by omega)
          have h2 : f i ≠ N := fun e => a (hi i i0 (by omega) h0 (by rw [e, e0]))
          omega)
      omega
    · have := ih s f hi (fun i hi' => by
        have h1 := hN i hi'
        have h2 : f i ≠ N := fun e => h ⟨i, hi', e⟩
        omega)
      omega
/-- two lists of the same, each without doubles, are as long -/
theorem same_len {X Y : Nat → Nat} {s s' : Nat} (hX : ∀ i j, i < s → j < s → X i = X j → i = j) (h : ∀ i, i < s → ∃ j, j < s' ∧ Y j = X i) : s ≤ s' := by
  have hf : ∀ i, ∃ j, i < s → j < s' ∧ Y j = X i := fun i => by
    by_cases c : i < s
    · obtain ⟨j, hj⟩ := h i c
      exact ⟨j, fun _ => hj⟩
    · exact ⟨0, fun q => absurd q c⟩
  refine inj_le s' s (fun i => Classical.choose (hf i)) (fun i j hi hj e => ?_) (fun i hi => (Classical.choose_spec (hf i) hi).1)
  have h1 := (Classical.choose_spec (hf i) hi).2
  have h2 := (Classical.choose_spec (hf j) hj).2
  have e' : Classical.choose (hf i) = Classical.choose (hf j) := e
  rw [e'] at h1
  exact hX i j hi hj (h1.symm.trans h2)
