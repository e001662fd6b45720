/-! ===== the reference's odds of all that was found ===== -/
/-- what finding odds, sure wins leaves -/
def FO (d d' : Dt) : Prop := (∀ j, j ≠ 17 → j ≠ 18 → gF d' 0 j = gF d 0 j) ∧ ∀ a i, a ≠ 25 → a ≠ 26 → a ≠ 27 → a ≠ 28 → gA d' a i = gA d a i
theorem FO.refl (d : Dt) : FO d d := ⟨fun _ _ _ => rfl, fun _ _ _ _ _ _ => rfl⟩
theorem FO.trans {d d' d'' : Dt} (h : FO d d') (h2 : FO d' d'') : FO d d'' := ⟨fun j a b => (h2.1 j a b).trans (h.1 j a b), fun a i e f g k => (h2.2 a i e f g k).trans (h.2 a i e f g k)⟩
theorem FO.nw {d d' : Dt} (h : NWd d d') : FO d d' := ⟨h.1, fun a i _ _ _ _ => h.2 a i⟩
theorem FO.fr {d d' : Dt} (h : FO d d') : FR d d' := ⟨fun j a b _ _ => h.1 j a b, fun a i _ _ c e f g => h.2 a i c e f g⟩
theorem FO_26 {d : Dt} {i : Nat} {v : Int32} : FO d (sA d (32 * 0 + 26) i v) := ⟨fun _ _ _ => rfl, fun a j _ h1 _ _ => by rw [gA_sAi, if_neg (fun q => h1 q.1)]⟩
theorem FO_25 {d : Dt} {i : Nat} {v : Int32} : FO d (sA d (32 * 0 + 25) i v) := ⟨fun _ _ _ => rfl, fun a j h1 _ _ _ => by rw [gA_sAi, if_neg (fun q => h1 q.1)]⟩
theorem FO_27 {d : Dt} {i : Nat} {v : Int32} : FO d (sA d (32 * 0 + 27) i v) := ⟨fun _ _ _ => rfl, fun a j _ _ h1 _ => by rw [gA_sAi, if_neg (fun q => h1 q.1)]⟩
theorem FO_28 {d : Dt} {i : Nat} {v : Int32} : FO d (sA d (32 * 0 + 28) i v) := ⟨fun _ _ _ => rfl, fun a j _ _ _ h1 => by rw [gA_sAi, if_neg (fun q => h1 q.1)]⟩
theorem RS.fo {u : Nat → Int32} {bar nop : Int32} {o : Option Nat} {B : Nat → Prop} {e e' : Dt} {s : Nat} {Y f : Nat → Nat} {m : Nat} (h : RS u bar nop o B e s Y f m) (hf : FO e e') : RS u bar nop o B e' s Y f m := ⟨h.1.cg (hf.1 21 (by decide) (by decide)) (hf.1 22 (by decide) (by decide)) (fun i => hf.2 19 i (by decide) (by decide) (by decide) (by decide)) (fun i => hf.2 20 i (by decide) (by decide) (by decide) (by decide)), h.2⟩
/-- the list, as loops over it read it -/
def LI (u : Nat → Int32) (e : Dt) (s : Nat) (Y : Nat → Nat) : Prop := gF e 0 21 = nI s ∧ s ≤ 61440 ∧ (∀ i, i < s → VQ u (Y i) ∧ gA e 19 i = nI (Y i)) ∧ ∀ i j, i < s → j < s → Y i = Y j → i = j
theorem RS.li {u : Nat → Int32} {bar nop : Int32} {o : Option Nat} {B : Nat → Prop} {e : Dt} {s : Nat} {Y f : Nat → Nat} {m : Nat} (h : RS u bar nop o B e s Y f m) : LI u e s Y := by
  obtain ⟨⟨a1, a2, a3, a4, _⟩, _⟩ := h
  exact ⟨a1, a2, fun i hi => ⟨(a3 i hi).1, (a3 i hi).2.1⟩, a4⟩
theorem LI.fo {u : Nat → Int32} {e e' : Dt} {s : Nat} {Y : Nat → Nat} (h : LI u e s Y) (hf : FO e e') : LI u e' s Y := ⟨(hf.1 21 (by decide) (by decide)).trans h.1, h.2.1, fun i hi => ⟨(h.2.2.1 i hi).1, (hf.2 19 i (by decide) (by decide) (by decide) (by decide)).trans (h.2.2.1 i hi).2⟩, h.2.2.2⟩
theorem set_row {e : Dt} {a s i : Nat} {Y : Nat → Nat} {v : Int32} {P : Nat → Int32 → Prop} (hi : i < s) (hY : ∀ i j, i < s → j < s → Y i = Y j → i = j) (h : ∀ j, j < i → P (Y j) (gA e a (Y j))) (hv : P (Y i) v) : ∀ j, j < i + 1 → P (Y j) (gA (sA e a (Y i) v) a (Y j)) := by
  intro j hj
  rw [gA_sAi]
  by_cases z : j = i
  · rw [z, if_pos ⟨rfl, rfl⟩]; exact hv
  · rw [if_neg (fun q => z (hY j i (by omega) hi q.2))]
    exact h j (by omega)
theorem findOdds_q {u : Nat → Int32} {bar : Int32} {e : Dt} {s : Nat} {Y : Nat → Nat} (hr : RU u e) (hb : gF e 0 16 = bar) (hn : gF e 0 15 = -1) (hl : LI u e s Y) (hc : CLo u bar (-1) s Y) (t : Nat) (ht : t ≤ 60) : ∃ e', t_X6_findOdds LM e (nI t) = some e' ∧ FO e e' ∧ OT e' s Y (od u bar t) := by
  have hv := hr.v
  have hs := hl.2.1
  have hYi := hl.2.2.2
  have lt : ∀ i, i < s → Y i < 61440 := fun i hi => VQ_lt hv (hc.1 i hi)
  -- copy the row
  have cp : ∀ (K : Int32 → Dt → Option Dt) (x : Int32) (n i F : Nat) (d : Dt) (g : Nat → Nat), i + n = s → n < F → FO e d → (∀ j, j < s → gA d 25 (Y j) = nI (g (Y j))) → (∀ j, j < i → gA d 26 (Y j) = nI (g (Y j))) → ∃ d', lp (fun k x => t_X6_findOdds_94 LM (nI t) K (fun x2 x3 d => k (x2, x3, d)) x.1 x.2.1 x.2.2) F (x, nI i, d) = K (x + 1) d' ∧ FO e d' ∧ OT d' s Y g := by
    intro K x n
    induction n with
    | zero =>
      intro i F d g hi hF hd h25 h26
      obtain ⟨F, rfl⟩ : ∃ G, F = G + 1 := ⟨F - 1, by omega⟩
      have L1 := hl.fo hd
      refine ⟨d, ?_, hd, fun j hj => h26 j (by omega)⟩
      show t_X6_findOdds_94 LM (nI t) K (fun x2 x3 d => lp _ F (x2, x3, d)) x (nI i) d = _
      rw [t_X6_findOdds_94, L1.1, if_pos (nI_le (by omega) (by omega))]
    | succ n ih =>
      intro i F d g hi hF hd h25 h26
      obtain ⟨F, rfl⟩ : ∃ G, F = G + 1 := ⟨F - 1, by omega⟩
      have L1 := hl.fo hd
      have e19 : gA d (32 * 0 + 19) i = nI (Y i) := (L1.2.2.1 i (by omega)).2
      have e25 : gA d (32 * 0 + 25) (Y i) = nI (g (Y i)) := h25 i (by omega)
      have ll := lt i (by omega)
      show ∃ d', t_X6_findOdds_94 LM (nI t) K (fun x2 x3 d => lp _ F (x2, x3, d)) x (nI i) d = _ ∧ _
      rw [t_X6_findOdds_94, L1.1, if_neg (nI_ge (by omega) (by omega)), LM19, gdi (by omega) (by omega), gdi (by omega) (by omega), ix_nI (show i < 2 ^ 31 by omega), e19, LM25, gdi ll (by omega), LM26, gdi ll (by omega), ix_nI (by omega), e25, bd_q, nI_1]
      exact ih _ _ _ _ (by omega) (by omega) (hd.trans FO_26) (fun j hj => by rw [gA_sAi, if_neg (fun q => absurd q.1 (by decide))]; exact h25 j hj) (set_row (P := fun y v => v = nI (g y)) (by omega) hYi h26 rfl)
  -- one turn
  have tn : ∀ (K : Int32 → Dt → Option Dt) (x : Int32) (r n i F : Nat) (d : Dt), i + n = s → n < F → FO e d → OT d s Y (od u bar r) → (∀ j, j < i → gA d 25 (Y j) = nI (od u bar (r + 1) (Y j))) → ∃ d', lp (fun k x => t_X6_findOdds_57 LM (nI t) K (fun x2 x3 d => k (x2, x3, d)) x.1 x.2.1 x.2.2) F (x, nI i, d) = K (x + 1) d' ∧ FO e d' ∧ OT d' s Y (od u bar (r + 1)) := by
    intro K x r n
    induction n with
    | zero =>
      intro i F d hi hF hd hO h25
      obtain ⟨F, rfl⟩ : ∃ G, F = G + 1 := ⟨F - 1, by omega⟩
      have L1 := hl.fo hd
      show ∃ d', t_X6_findOdds_57 LM (nI t) K (fun x2 x3 d => lp _ F (x2, x3, d)) x (nI i) d = _ ∧ _
      rw [t_X6_findOdds_57, L1.1, if_pos (nI_le (by omega) (by omega))]
      exact cp K x s 0 FU d (od u bar (r + 1)) (by omega) (by unfold FU; omega) hd (fun j hj => h25 j (by omega)) (fun j hj => by omega)
    | succ n ih =>
      intro i F d hi hF hd hO h25
      obtain ⟨F, rfl⟩ : ∃ G, F = G + 1 := ⟨F - 1, by omega⟩
      have L1 := hl.fo hd
      have e19 : gA d (32 * 0 + 19) i = nI (Y i) := (L1.2.2.1 i (by omega)).2
      have ll := lt i (by omega)
      obtain ⟨d1, r1, r2⟩ := oddsOf_q (hd.fr.ru hr) ((hd.1 16 (by decide) (by decide)).trans hb) ((hd.1 15 (by decide) (by decide)).trans hn) hc hO (fun j hj => od_le hv r _ (hc.1 j hj)) (i := i) (by omega)
      show ∃ d', t_X6_findOdds_57 LM (nI t) K (fun x2 x3 d => lp _ F (x2, x3, d)) x (nI i) d = _ ∧ _
      rw [t_X6_findOdds_57, L1.1, if_neg (nI_ge (by omega) (by omega)), LM19, gdi (by omega) (by omega), gdi (by omega) (by omega), ix_nI (show i < 2 ^ 31 by omega), e19, r1, ob, LM25, gdi ll (by omega), bd_q, ix_nI (by omega), nI_1]
      dsimp only
      refine ih _ _ _ (by omega) (by omega) ((hd.trans (FO.nw r2)).trans FO_25) (fun j hj => ?_) (set_row (P := fun y v => v = nI (od u bar (r + 1) y)) (by omega) hYi (fun j hj => (r2.2 25 _).trans (h25 j hj)) rfl)
      rw [gA_sAi, if_neg (fun q => absurd q.1 (by decide)), r2.2]
      exact hO j hj
  -- all turns
  have al : ∀ (n r F : Nat) (d : Dt), r + n = t → n < F → FO e d → OT d s Y (od u bar r) → ∃ d', lp (fun k x => t_X6_findOdds_50 LM (nI t) (fun x2 d => k (x2, d)) x.1 x.2) F (nI r, d) = some d' ∧ FO e d' ∧ OT d' s Y (od u bar t) := by
    intro n
    induction n with
    | zero =>
      intro r F d hi hF hd hO
      obtain ⟨F, rfl⟩ : ∃ G, F = G + 1 := ⟨F - 1, by omega⟩
      have : r = t := by omega
      subst this
      refine ⟨d, ?_, hd, hO⟩
      show t_X6_findOdds_50 LM (nI r) (fun x2 d => lp _ F (x2, d)) (nI r) d = _
      rw [t_X6_findOdds_50, if_pos (nI_le (by omega) (by omega))]
    | succ n ih =>
      intro r F d hi hF hd hO
      obtain ⟨F, rfl⟩ : ∃ G, F = G + 1 := ⟨F - 1, by omega⟩
      obtain ⟨d1, r1, r2, r3⟩ := tn (fun x2 d => lp (fun k x => t_X6_findOdds_50 LM (nI t) (fun x2 d => k (x2, d)) x.1 x.2) F (x2, d)) (nI r) r s 0 FU d (by omega) (by unfold FU; omega) hd hO (fun j hj => by omega)
      obtain ⟨d2, t1, t2⟩ := ih (r + 1) F d1 (by omega) (by omega) r2 r3
      refine ⟨d2, ?_, t2⟩
      show t_X6_findOdds_50 LM (nI t) (fun x2 d => lp _ F (x2, d)) (nI r) d = _
      rw [t_X6_findOdds_50, if_neg (nI_ge (by omega) (by omega))]
      rw [nI_1] at r1
      exact r1.trans t1
  -- the first odds
  have st : ∀ (n i F : Nat) (d : Dt), i + n = s → n < F → FO e d → (∀ j, j < i → gA d 26 (Y j) = nI (od u bar 0 (Y j))) → ∃ d', lp (fun k x => t_X6_findOdds_2 LM (nI t) (fun x2 d => k (x2, d)) x.1 x.2) F (nI i, d) = some d' ∧ FO e d' ∧ OT d' s Y (od u bar t) := by
    intro n
    induction n with
    | zero =>
      intro i F d hi hF hd h26
      obtain ⟨F, rfl⟩ : ∃ G, F = G + 1 := ⟨F - 1, by omega⟩
      have L1 := hl.fo hd
      show ∃ d', t_X6_findOdds_2 LM (nI t) (fun x2 d => lp _ F (x2, d)) (nI i) d = _ ∧ _
      rw [t_X6_findOdds_2, L1.1, if_pos (nI_le (by omega) (by omega))]
      exact al t 0 FU d (by omega) (by unfold FU; omega) hd (fun j hj => h26 j (by omega))
    | succ n ih =>
      intro i F d hi hF hd h26
      obtain ⟨F, rfl⟩ : ∃ G, F = G + 1 := ⟨F - 1, by omega⟩
      have L1 := hl.fo hd
      have e19 : gA d (32 * 0 + 19) i = nI (Y i) := (L1.2.2.1 i (by omega)).2
      have ll := lt i (by omega)
      have go : ∀ v, v = nI (od u bar 0 (Y i)) → ∃ d', t_X6_findOdds_41 LM (nI t) (fun x2 d => lp (fun k x => t_X6_findOdds_2 LM (nI t) (fun x2 d => k (x2, d)) x.1 x.2) F (x2, d)) (nI i) v (nI (Y i)) d = some d' ∧ FO e d' ∧ OT d' s Y (od u bar t) := by
        intro v hv'
        rw [t_X6_findOdds_41, LM26, gdi ll (by omega), bd_q, ix_nI (by omega), nI_1]
        exact ih _ _ _ (by omega) (by omega) (hd.trans FO_26) (set_row (P := fun y v => v = nI (od u bar 0 y)) (by omega) hYi h26 hv')
      show ∃ d', t_X6_findOdds_2 LM (nI t) (fun x2 d => lp _ F (x2, d)) (nI i) d = _ ∧ _
      rw [t_X6_findOdds_2, L1.1, if_neg (nI_ge (by omega) (by omega)), LM19, gdi (by omega) (by omega), gdi (by omega) (by omega), ix_nI (show i < 2 ^ 31 by omega), e19, standsAt_q (hd.fr.ru hr) (hc.1 i (by omega)), ob]
      rcases stq_cases hv (hc.1 i (by omega)) with ⟨e1, e2⟩ | h'
      · rw [e2, if_pos (show nI 1 = 1 from rfl)]
        refine go _ ?_
        show _ = nI (if bE u (qp (Y i)) = 1 then 1000000 else 0)
        rw [if_pos e1]
        rfl
      · have e1 : bE u (qp (Y i)) ≠ 1 := by rcases h' with q | q <;> exact q.1
        have e2 : ¬ nI (stq u (Y i)) = 1 := by rcases h' with q | q <;> (rw [q.2.1]; decide)
        rw [if_neg e2]
        refine go _ ?_
        show _ = nI (if bE u (qp (Y i)) = 1 then 1000000 else 0)
        rw [if_neg e1]
        rfl
  exact st s 0 FU e (by omega) (by unfold FU; omega) (FO.refl e) (fun j hj => by omega)
