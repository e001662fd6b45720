/-! ===== odds: what they are; the reference finds them ===== -/
def oo (f : Nat → Nat) (x : Option Nat) : Nat := match x with
  | none => 0
  | some q => f q
def mxo (f : Option Nat → Nat) : List (Option Nat) → Nat → Nat
  | [], a => a
  | x :: l, a => mxo f l (if f x ≤ a then a else f x)
def sxf (u : Nat → Int32) (bar nop : Int32) (q : Nat) : Nat → Nat → List (Option Nat)
  | 0, _ => []
  | n + 1, c => if wo u q c = true ∧ gol u (qp q) c ≠ nop then nxs u bar q (gl u q c) :: sxf u bar nop q n (c + 1) else sxf u bar nop q n (c + 1)
def rn (u : Nat → Int32) (q : Nat) : Nat := ix (u (80 + qp q))
def odn (u : Nat → Int32) (bar : Int32) (f : Nat → Nat) (q : Nat) : Nat := if bE u (qp q) = 1 then 1000000 else if bE u (qp q) = 3 then ((7 - rn u q) * oo f (nxs u bar q (gl u q 0)) + (rn u q - 1) * oo f (nxs u bar q (gl u q 1))) / 6 else mxo (oo f) (sxf u bar (-1) q (wys u (qp q)) 0) 0
def od (u : Nat → Int32) (bar : Int32) : Nat → Nat → Nat
  | 0 => fun q => if bE u (qp q) = 1 then 1000000 else 0
  | t + 1 => odn u bar (od u bar t)
theorem nI_m1 {g : Nat} (h : g < 2 ^ 31) : nI g ≠ -1 := by
  intro z
  have := congrArg Int32.toInt z
  rw [nI_toInt h] at this
  have h2 : (-1 : Int32).toInt = -1 := rfl
  omega
theorem gol_m1 {u : Nat → Int32} (hv : VB u) {q c : Nat} (hq : VQ u q) (hc : c < wys u (qp q)) : gol u (qp q) c ≠ -1 := by
  have g := gl_eq hv hq.1 hc
  have := hv.P.2
  rw [g.1]
  exact nI_m1 (by omega)
theorem rn_ok {u : Nat → Int32} (hv : VB u) {q : Nat} (hq : VQ u q) (h3 : bE u (qp q) = 3) : u (80 + qp q) = nI (rn u q) ∧ 2 ≤ rn u q ∧ rn u q ≤ 6 := by
  have h := (hv.2.2.2 _ hq.1).2.2.2.2.1 h3
  have h1 := nb_ix h.1 (by decide)
  exact ⟨h1.1, h.2.1, by have := h1.2; unfold rn; omega⟩
/-- all that may come of q is below the bound -/
theorem sxf_mem {u : Nat → Int32} {bar nop : Int32} {q : Nat} : ∀ (n c : Nat) (x : Option Nat), x ∈ sxf u bar nop q n c → ∃ c', c ≤ c' ∧ c' < c + n ∧ wo u q c' = true ∧ gol u (qp q) c' ≠ nop ∧ nxs u bar q (gl u q c') = x := by
  intro n
  induction n with
  | zero => intro c x h; exact absurd h (by simp [sxf])
  | succ n ih =>
    intro c x h
    unfold sxf at h
    by_cases o : wo u q c = true ∧ gol u (qp q) c ≠ nop
    · rw [if_pos o] at h
      rcases List.mem_cons.mp h with e | e
      · exact ⟨c, by omega, by omega, o.1, o.2, e.symm⟩
      · obtain ⟨c', a, b, r⟩ := ih _ _ e
        exact ⟨c', by omega, by omega, r⟩
    · rw [if_neg o] at h
      obtain ⟨c', a, b, r⟩ := ih _ _ h
      exact ⟨c', by omega, by omega, r⟩
theorem mxo_le {f : Option Nat → Nat} {M : Nat} : ∀ (l : List (Option Nat)) (a : Nat), a ≤ M → (∀ x, x ∈ l → f x ≤ M) → mxo f l a ≤ M := by
  intro l
  induction l with
  | nil => intro a h _; exact h
  | cons x l ih =>
    intro a h hx
    unfold mxo
    refine ih _ ?_ (fun y hy => hx y (List.mem_cons_of_mem _ hy))
    split
    · exact h
    · exact hx x (by simp)
/-- values of a state's ways -/
def OK (u : Nat → Int32) (bar : Int32) (f : Nat → Nat) (q : Nat) : Prop := ∀ q', Ed u bar (-1) q q' → f q' ≤ 1000000
theorem oo_le {u : Nat → Int32} (hv : VB u) {bar : Int32} {f : Nat → Nat} {q c : Nat} (hq : VQ u q) (h : OK u bar f q) (hc : c < wys u (qp q)) (ho : wo u q c = true) : oo f (nxs u bar q (gl u q c)) ≤ 1000000 := by
  cases e : nxs u bar q (gl u q c) with
  | none => exact Nat.zero_le _
  | some q' => exact h q' ⟨c, hc, ho, gol_m1 hv hq hc, e⟩
theorem roll_wo {u : Nat → Int32} {q : Nat} (h3 : bE u (qp q) = 3) (c : Nat) : wo u q c = true := (wo_iff u q c).mpr (.inl h3)
theorem roll_wys {u : Nat → Int32} {q : Nat} (h3 : bE u (qp q) = 3) : wys u (qp q) = 2 := by unfold wys; rw [if_pos h3]
theorem odn_le {u : Nat → Int32} (hv : VB u) {bar : Int32} {f : Nat → Nat} {q : Nat} (hq : VQ u q) (h : OK u bar f q) : odn u bar f q ≤ 1000000 := by
  unfold odn
  split
  · exact Nat.le_refl _
  · split
    · rename_i _ h3
      have r := rn_ok hv hq h3
      have a := oo_le hv hq h (c := 0) (by rw [roll_wys h3]; decide) (roll_wo h3 0)
      have b := oo_le hv hq h (c := 1) (by rw [roll_wys h3]; decide) (roll_wo h3 1)
      have h1 : (7 - rn u q) * oo f (nxs u bar q (gl u q 0)) ≤ (7 - rn u q) * 1000000 := Nat.mul_le_mul_left _ a
      have h2 : (rn u q - 1) * oo f (nxs u bar q (gl u q 1)) ≤ (rn u q - 1) * 1000000 := Nat.mul_le_mul_left _ b
      omega
    · refine mxo_le _ _ (by omega) (fun x hx => ?_)
      obtain ⟨c, _, a, b, e, f'⟩ := sxf_mem _ _ _ hx
      rw [← f']
      exact oo_le hv hq h (by omega) b
theorem od_le {u : Nat → Int32} (hv : VB u) {bar : Int32} : ∀ (t q : Nat), VQ u q → od u bar t q ≤ 1000000 := by
  intro t
  induction t with
  | zero =>
    intro q _
    show (if bE u (qp q) = 1 then 1000000 else 0) ≤ 1000000
    split <;> omega
  | succ t ih =>
    intro q hq
    exact odn_le hv hq (fun q' h => ih q' (h.ok hv hq))
/-! the reference's odds of one state -/
theorem LM26 : LM (32 * 0 + 26) = 61440 := rfl
theorem LM25 : LM (32 * 0 + 25) = 61440 := rfl
/-- the odds of what was found stand in row 26 -/
def OT (e : Dt) (s : Nat) (Y : Nat → Nat) (f : Nat → Nat) : Prop := ∀ i, i < s → gA e 26 (Y i) = nI (f (Y i))
def CLo (u : Nat → Int32) (bar nop : Int32) (s : Nat) (Y : Nat → Nat) : Prop := (∀ i, i < s → VQ u (Y i)) ∧ ∀ i, i < s → ∀ q', Ed u bar nop (Y i) q' → ∃ j, j < s ∧ Y j = q'
theorem RS.clo {u : Nat → Int32} {bar nop : Int32} {o : Option Nat} {B : Nat → Prop} {e : Dt} {s : Nat} {Y f : Nat → Nat} {m : Nat} (h : RS u bar nop o B e s Y f m) : CLo u bar nop s Y := by
  obtain ⟨⟨a1, a2, a3, a4, a5, a6, a7, a8, _⟩, _⟩ := h
  refine ⟨fun i hi => (a3 i hi).1, fun i hi q' hE => ?_⟩
  obtain ⟨c, d1, d2, d3⟩ := Ed_nxm hE
  obtain ⟨j, e1, e2, _⟩ := a8 i c (.inl hi) hi d1 d2 q' d3
  exact ⟨j, e1, e2⟩
theorem oddsAt_q {u : Nat → Int32} (hv : VB u) {e : Dt} {s : Nat} {Y f : Nat → Nat} (hY : ∀ i, i < s → VQ u (Y i)) (h : OT e s Y f) (x : Option Nat) (hx : ∀ q, x = some q → ∃ j, j < s ∧ Y j = q) : t_X6_oddsAt LM e (enc x) = some (nI (oo f x)) := by
  unfold t_X6_oddsAt
  cases x with
  | none => rw [if_pos enc_none]; rfl
  | some q =>
    obtain ⟨j, hj, e1⟩ := hx q rfl
    have hl : q < 61440 := e1 ▸ VQ_lt hv (hY j hj)
    rw [if_neg (enc_some_ne hl), enc_q, LM26, gdi hl (by omega), ix_nI (by omega), ← e1]
    have := h j hj
    rw [show gA e (32 * 0 + 26) (Y j) = _ from this]
    rfl
theorem nxm_m1 {u : Nat → Int32} (hv : VB u) {bar : Int32} {q c : Nat} (hq : VQ u q) (hc : c < wys u (qp q)) : nxm u bar (-1) q c = nxs u bar q (gl u q c) := by
  unfold nxm
  rw [if_neg (gol_m1 hv hq hc)]
theorem wayTo_o {u : Nat → Int32} {bar : Int32} {e : Dt} (hr : RU u e) (hb : gF e 0 16 = bar) (hn : gF e 0 15 = -1) {q c : Nat} (hq : VQ u q) (hc : c < wys u (qp q)) : ∃ e', t_X6_wayTo LM e (nI q) (nI c) = some (enc (nxs u bar q (gl u q c)), e') ∧ NWd e e' := by
  obtain ⟨e', h1, h2⟩ := wayTo_q hr hq hc
  rw [hb, hn, nxm_m1 hr.v hq hc] at h1
  exact ⟨e', h1, h2⟩
theorem OT.nw {e e' : Dt} {s : Nat} {Y f : Nat → Nat} (h : OT e s Y f) (h2 : ∀ i, gA e' 26 i = gA e 26 i) : OT e' s Y f := fun i hi => (h2 _).trans (h i hi)
theorem oddsOf_q {u : Nat → Int32} {bar : Int32} {e : Dt} {s : Nat} {Y f : Nat → Nat} (hr : RU u e) (hb : gF e 0 16 = bar) (hn : gF e 0 15 = -1) (hc : CLo u bar (-1) s Y) (h : OT e s Y f) (hf : ∀ i, i < s → f (Y i) ≤ 1000000) {i : Nat} (hi : i < s) : ∃ e', t_X6_oddsOf LM e (nI (Y i)) = some (nI (odn u bar f (Y i)), e') ∧ NWd e e' := by
  have hv := hr.v
  have hq := hc.1 i hi
  have hP := hv.P.2
  have hp := hq.1
  have hok : OK u bar f (Y i) := fun q' hE => by
    obtain ⟨j, h1, h2⟩ := hc.2 i hi q' hE
    rw [← h2]
    exact hf j h1
  have hx : ∀ c, c < wys u (qp (Y i)) → wo u (Y i) c = true → ∀ q, nxs u bar (Y i) (gl u (Y i) c) = some q → ∃ j, j < s ∧ Y j = q := fun c h1 h2 q h3 => hc.2 i hi q ⟨c, h1, h2, gol_m1 hv hq h1, h3⟩
  have hw : ∀ i, i < 800 → ((i < 2 ∨ 8 ≤ i) ∧ ¬ (152 ≤ i ∧ i < 176)) → u i = wOf e i := by rw [hr.2]; exact bk_h8 _
  have hE := (hv.2.2.2 _ hp).E
  unfold t_X6_oddsOf odn
  rw [standsAt_q hr hq, ob]
  rcases stq_cases hv hq with ⟨e1, e2⟩ | h'
  · rw [e2, if_pos (show nI 1 = 1 from rfl), if_pos e1]
    exact ⟨e, rfl, NWd.refl e⟩
  · have e1 : bE u (qp (Y i)) ≠ 1 := by rcases h' with q | q <;> exact q.1
    have e2 : ¬ nI (stq u (Y i)) = 1 := by rcases h' with q | q <;> (rw [q.2.1]; decide)
    rw [if_neg e2, if_neg e1, partOf_q (VQ_lt hv hq), ob, LM0, show (8 : Int32) + nI (qp (Y i)) = nI (8 + qp (Y i)) from nI_add 8 _, gdi (show 8 + qp (Y i) < 4128 by omega) (by omega), wg (by omega), ← hw _ (by omega) (by omega), hE.1]
    by_cases h3 : bE u (qp (Y i)) = 3
    · have r := rn_ok hv hq h3
      have w0 := roll_wys h3
      rw [h3, if_pos (show nI 3 = 3 from rfl), if_pos rfl, show (80 : Int32) + nI (qp (Y i)) = nI (80 + qp (Y i)) from nI_add 80 _, gdi (show 80 + qp (Y i) < 4128 by omega) (by omega), wg (by omega), ← hw _ (by omega) (by omega), r.1, bd_q]
      obtain ⟨d1, s1, s2⟩ := wayTo_o hr hb hn hq (c := 0) (by rw [w0]; decide)
      have hr1 := s2.ru hr
      obtain ⟨d2, t1, t2⟩ := wayTo_o hr1 ((s2.1 16 (by decide) (by decide)).trans hb) ((s2.1 15 (by decide) (by decide)).trans hn) hq (c := 1) (by rw [w0]; decide)
      have o0 := oddsAt_q hv hc.1 (h.nw (e' := d1) (fun i => s2.2 26 i)) _ (hx 0 (by rw [w0]; decide) (roll_wo h3 0))
      have o1 := oddsAt_q hv hc.1 (h.nw (e' := d2) (fun i => (t2.2 26 i).trans (s2.2 26 i))) _ (hx 1 (by rw [w0]; decide) (roll_wo h3 1))
      have l0 := oo_le hv hq hok (c := 0) (by rw [w0]; decide) (roll_wo h3 0)
      have l1 := oo_le hv hq hok (c := 1) (by rw [w0]; decide) (roll_wo h3 1)
      rw [show t_X6_wayTo LM e (nI (Y i)) 0 = _ from s1, ob]
      dsimp only
      rw [o0, ob, show t_X6_wayTo LM d1 (nI (Y i)) 1 = _ from t1, ob]
      dsimp only
      rw [o1, ob]
      generalize oo f (nxs u bar (Y i) (gl u (Y i) 0)) = a at l0
      generalize oo f (nxs u bar (Y i) (gl u (Y i) 1)) = b at l1
      have m1 : (7 - rn u (Y i)) * a ≤ (7 - rn u (Y i)) * 1000000 := Nat.mul_le_mul_left _ l0
      have m2 : (rn u (Y i) - 1) * b ≤ (rn u (Y i) - 1) * 1000000 := Nat.mul_le_mul_left _ l1
      refine ⟨d2, ?_, s2.trans t2⟩
      rw [nI_l (by omega), nI_l (by omega), nI_l (by omega), show (7 : Int64) = lN 7 from rfl, show (1 : Int64) = lN 1 from rfl, show (6 : Int64) = lN 6 from rfl, lN_sub (by omega), lN_sub (by omega), lN_mul, lN_mul, lN_add, pk_lDiv (by omega) (by decide) (by decide), lN_i]
    · rw [if_neg (show ¬ nI (bE u (qp (Y i))) = 3 from fun q => h3 (nI_inj (b := 3) (by omega) (by decide) q)), if_neg h3]
      have hw6 := wys_lt hv hp
      have main : ∀ (n c F a : Nat) (d : Dt), c + n = wys u (qp (Y i)) → n < F → a ≤ 1000000 → NWd e d → ∃ e', lp (fun k x => t_X6_oddsOf_93 LM (nI (Y i)) (fun x4 x5 d => k (x4, x5, d)) x.1 x.2.1 x.2.2) F (nI a, nI c, d) = some (nI (mxo (oo f) (sxf u bar (-1) (Y i) n c) a), e') ∧ NWd e e' := by
        intro n
        induction n with
        | zero =>
          intro c F a d hc' hF ha hd
          obtain ⟨F, rfl⟩ : ∃ G, F = G + 1 := ⟨F - 1, by omega⟩
          refine ⟨d, ?_, hd⟩
          show t_X6_oddsOf_93 LM (nI (Y i)) (fun x4 x5 d => lp _ F (x4, x5, d)) (nI a) (nI c) d = _
          rw [t_X6_oddsOf_93, waysOf_q (hd.ru hr) hq, ob, if_pos (nI_le (by omega) (by omega))]
          rfl
        | succ n ih =>
          intro c F a d hc' hF ha hd
          obtain ⟨F, rfl⟩ : ∃ G, F = G + 1 := ⟨F - 1, by omega⟩
          show ∃ e', t_X6_oddsOf_93 LM (nI (Y i)) (fun x4 x5 d => lp _ F (x4, x5, d)) (nI a) (nI c) d = _ ∧ _
          rw [t_X6_oddsOf_93, waysOf_q (hd.ru hr) hq, ob, if_neg (nI_ge (by omega) (by omega)), isWay_q (hd.ru hr) hq (by omega), ob]
          unfold sxf
          by_cases ow : wo u (Y i) c = true
          · obtain ⟨d1, s1, s2⟩ := wayTo_o (hd.ru hr) ((hd.1 16 (by decide) (by decide)).trans hb) ((hd.1 15 (by decide) (by decide)).trans hn) hq (c := c) (by omega)
            have o0 := oddsAt_q hv hc.1 (h.nw (e' := d1) (fun i => (s2.2 26 i).trans (hd.2 26 i))) _ (hx c (by omega) ow)
            have l0 := oo_le hv hq hok (c := c) (by omega) ow
            rw [if_pos ow, if_neg (by decide), s1, ob]
            dsimp only
            rw [o0, ob, if_pos ⟨ow, gol_m1 hv hq (by omega)⟩, t_X6_oddsOf_128]
            unfold mxo
            by_cases le : oo f (nxs u bar (Y i) (gl u (Y i) c)) ≤ a
            · rw [if_pos (nI_le le (by omega)), if_pos le, t_X6_oddsOf_144, nI_1]
              exact ih _ _ _ _ (by omega) (by omega) ha (hd.trans s2)
            · rw [if_neg (nI_ge (by omega) (by omega)), if_neg le, t_X6_oddsOf_144, nI_1]
              exact ih _ _ _ _ (by omega) (by omega) l0 (hd.trans s2)
          · rw [if_neg ow, if_pos rfl, if_neg (fun z => ow z.1), t_X6_oddsOf_128, if_pos (show (0 : Int32) ≤ nI a from nI_pos' (by omega)), t_X6_oddsOf_144, nI_1]
            exact ih _ _ _ _ (by omega) (by omega) ha hd
      exact main _ 0 FU 0 e (by omega) (by unfold FU; omega) (by omega) (NWd.refl e)
