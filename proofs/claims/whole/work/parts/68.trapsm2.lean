/-! ===== the reference: traps to the end, holes, things had ===== -/
theorem m1_sub (x : Int32) : x + (-1) = x - 1 := (Int32.sub_eq_add_neg x 1).symm
theorem SW_cg {u : Nat → Int32} {bar nop : Int32} {s : Nat} {Y : Nat → Nat} {d d' : Dt} (hc : CLo u bar nop s Y) (h : ∀ j, j < s → gA d' 28 (Y j) = gA d 28 (Y j)) {k c : Nat} (hk : k < s) (hw : SW u bar nop d (Y k) c) : SW u bar nop d' (Y k) c := by
  obtain ⟨a, b, q', e, f⟩ := hw
  obtain ⟨j, j1, j2⟩ := hc.2 k hk q' (nxm_Ed a b e)
  refine ⟨a, b, q', e, ?_⟩
  rw [← j2, h j j1, j2]
  exact f
theorem traps_pass {u : Nat → Int32} {bar nop : Int32} {e : Dt} {s : Nat} {Y : Nat → Nat} (hr : RU u e) (hb : gF e 0 16 = bar) (hn : gF e 0 15 = nop) (hl : LI u e s Y) (hc : CLo u bar nop s Y) (K52 : Int32 → Dt → Option (Int32 × Dt)) (d0 : Dt) : ∀ (n F : Nat) (x1 : Int32) (d : Dt), n ≤ s → n < F → FO e d → T01 u bar nop d s Y → (∀ j, j < s → gA d0 28 (Y j) = 1 → gA d 28 (Y j) = 1) → ((x1 = 0 ∧ (∀ j, j < s → gA d 28 (Y j) = gA d0 28 (Y j)) ∧ ∀ j, n ≤ j → j < s → gA d0 28 (Y j) = 0 → ∀ c, ¬ SW u bar nop d0 (Y j) c) ∨ (x1 = 1 ∧ ∃ j, j < s ∧ gA d0 28 (Y j) = 0 ∧ gA d 28 (Y j) = 1)) → ∃ x1' d', lp (fun k x => t_X6_traps_65 LM K52 (fun x1 x2 d => k (x1, x2, d)) x.1 x.2.1 x.2.2) F (x1, nI n - 1, d) = K52 x1' d' ∧ FO e d' ∧ T01 u bar nop d' s Y ∧ (∀ j, j < s → gA d0 28 (Y j) = 1 → gA d' 28 (Y j) = 1) ∧ ((x1' = 0 ∧ (∀ j, j < s → gA d' 28 (Y j) = gA d0 28 (Y j)) ∧ ∀ j, j < s → gA d0 28 (Y j) = 0 → ∀ c, ¬ SW u bar nop d0 (Y j) c) ∨ (x1' = 1 ∧ ∃ j, j < s ∧ gA d0 28 (Y j) = 0 ∧ gA d' 28 (Y j) = 1)) := by
  have hv := hr.v
  have hs := hl.2.1
  have hYi := hl.2.2.2
  intro n
  induction n with
  | zero =>
    intro F x1 d hns hF hd hT hm hx
    obtain ⟨F, rfl⟩ : ∃ G, F = G + 1 := ⟨F - 1, by omega⟩
    refine ⟨x1, d, ?_, hd, hT, hm, ?_⟩
    · show t_X6_traps_65 LM K52 (fun x1 x2 d => lp _ F (x1, x2, d)) x1 (nI 0 - 1) d = _
      rw [t_X6_traps_65, if_pos (by decide)]
    · rcases hx with ⟨a, b, c⟩ | q
      · exact .inl ⟨a, b, fun j hj => c j (by omega) hj⟩
      · exact .inr q
  | succ n ih =>
    intro F x1 d hns hF hd hT hm hx
    obtain ⟨F, rfl⟩ : ∃ G, F = G + 1 := ⟨F - 1, by omega⟩
    have L1 := hl.fo hd
    obtain ⟨hq, e19⟩ := L1.2.2.1 n (by omega)
    have e19' : gA d (32 * 0 + 19) n = nI (Y n) := e19
    have ll := VQ_lt hv hq
    have hw6 := wys_lt hv hq.1
    have h01 : ∀ j, j < s → gA d 28 (Y j) = 0 ∨ gA d 28 (Y j) = 1 := fun j hj => (hT j hj).elim (fun q => .inl q.1) (fun q => .inr q.1)
    obtain ⟨d1, x4, r1, r2, r3⟩ := traps_ways (hd.fr.ru hr) ((hd.1 16 (by decide) (by decide)).trans hb) ((hd.1 15 (by decide) (by decide)).trans hn) hc h01 (k := n) (by omega) K52 (fun x1 x2 d => lp (fun k x => t_X6_traps_65 LM K52 (fun x1 x2 d => k (x1, x2, d)) x.1 x.2.1 x.2.2) F (x1, x2, d)) x1 (nI n) (wys u (qp (Y n))) 0 FU (gA d 28 (Y n)) d (by omega) (by unfold FU; omega) (NWd.refl d) (h01 n (by omega))
    show ∃ x1' d', t_X6_traps_65 LM K52 (fun x1 x2 d => lp _ F (x1, x2, d)) x1 (nI (n + 1) - 1) d = _ ∧ _
    rw [nI_pred, t_X6_traps_65, if_neg (nI_pos (by omega)), LM19, gdi (by omega) (by omega), bd_q, ix_nI (by omega), e19', LM28, gdi ll (by omega), bd_q, ix_nI (by omega)]
    have r1' : lp (fun k x => t_X6_traps_87 LM K52 (fun x1 x2 d => lp (fun k x => t_X6_traps_65 LM K52 (fun x1 x2 d => k (x1, x2, d)) x.1 x.2.1 x.2.2) F (x1, x2, d)) (fun x1 x2 x3 x4 x5 d => k (x1, x2, x3, x4, x5, d)) x.1 x.2.1 x.2.2.1 x.2.2.2.1 x.2.2.2.2.1 x.2.2.2.2.2) FU (x1, nI n, nI (Y n), gA d (32 * 0 + 28) (Y n), 0, d) = _ := r1
    rw [r1']
    have e28 : ∀ j, gA d1 28 j = gA d 28 j := fun j => r2.2 28 j
    -- what is written
    have wr : ∀ (v : Int32), (v = 0 ∨ v = 1) → ∀ j, gA (sA d1 (32 * 0 + 28) (Y n) (vp_nar .boolean v)) 28 j = if j = Y n then v else gA d 28 j := by
      intro v hv' j
      rw [gA_sAi]
      have nv : vp_nar .boolean v = v := by
        rcases hv' with rfl | rfl
        · exact nar0
        · exact nar1
      by_cases y : j = Y n
      · rw [if_pos ⟨rfl, y⟩, if_pos y, nv]
      · rw [if_neg (fun q => y q.2), if_neg y, e28]
    have fo : ∀ v, FO e (sA d1 (32 * 0 + 28) (Y n) v) := fun v => (hd.trans (FO.nw r2)).trans FO_28
    have fin : ∀ (b v : Int32), (v = 0 ∨ v = 1) → T01 u bar nop (sA d1 (32 * 0 + 28) (Y n) (vp_nar .boolean v)) s Y → (∀ j, j < s → gA d0 28 (Y j) = 1 → gA (sA d1 (32 * 0 + 28) (Y n) (vp_nar .boolean v)) 28 (Y j) = 1) → ((b = 0 ∧ (∀ j, j < s → gA (sA d1 (32 * 0 + 28) (Y n) (vp_nar .boolean v)) 28 (Y j) = gA d0 28 (Y j)) ∧ ∀ j, n ≤ j → j < s → gA d0 28 (Y j) = 0 → ∀ c, ¬ SW u bar nop d0 (Y j) c) ∨ (b = 1 ∧ ∃ j, j < s ∧ gA d0 28 (Y j) = 0 ∧ gA (sA d1 (32 * 0 + 28) (Y n) (vp_nar .boolean v)) 28 (Y j) = 1)) → ∃ x1' d', t_X6_traps_162 LM K52 (fun x1 x2 d => lp (fun k x => t_X6_traps_65 LM K52 (fun x1 x2 d => k (x1, x2, d)) x.1 x.2.1 x.2.2) F (x1, x2, d)) (nI n) (nI (Y n)) v b d1 = K52 x1' d' ∧ FO e d' ∧ T01 u bar nop d' s Y ∧ (∀ j, j < s → gA d0 28 (Y j) = 1 → gA d' 28 (Y j) = 1) ∧ ((x1' = 0 ∧ (∀ j, j < s → gA d' 28 (Y j) = gA d0 28 (Y j)) ∧ ∀ j, j < s → gA d0 28 (Y j) = 0 → ∀ c, ¬ SW u bar nop d0 (Y j) c) ∨ (x1' = 1 ∧ ∃ j, j < s ∧ gA d0 28 (Y j) = 0 ∧ gA d' 28 (Y j) = 1)) := by
      intro b v hv' h1 h2 h3
      rw [t_X6_traps_162, LM28, gdi ll (by omega), bd_q, ix_nI (by omega), m1_sub]
      exact ih F b _ (by omega) (by omega) (fo _) h1 h2 h3
    rcases r3 with ⟨z4, z5⟩ | ⟨z4, z5, z6⟩
    · -- one can win from here
      have cw : CnW u bar nop (Y n) := by
        rcases z5 with y | ⟨c', y⟩
        · rcases hT n (by omega) with q | q
          · rw [q.1] at y; exact absurd y (by decide)
          · exact q.2
        · obtain ⟨y1, y2, q', y3, y4⟩ := y
          have hE := nxm_Ed y1 y2 y3
          obtain ⟨j, j1, j2⟩ := hc.2 n (by omega) q' hE
          rcases hT j j1 with q | q
          · rw [j2] at q; rw [q.1] at y4; exact absurd y4 (by decide)
          · rw [j2] at q; exact CnW.step hE q.2
      have nT : T01 u bar nop (sA d1 (32 * 0 + 28) (Y n) (vp_nar .boolean 1)) s Y := by
        intro j hj
        rw [wr 1 (.inr rfl)]
        by_cases y : Y j = Y n
        · rw [if_pos y, y]; exact .inr ⟨rfl, cw⟩
        · rw [if_neg y]; exact hT j hj
      have nm : ∀ j, j < s → gA d0 28 (Y j) = 1 → gA (sA d1 (32 * 0 + 28) (Y n) (vp_nar .boolean 1)) 28 (Y j) = 1 := by
        intro j hj h1
        rw [wr 1 (.inr rfl)]
        by_cases y : Y j = Y n
        · rw [if_pos y]
        · rw [if_neg y]; exact hm j hj h1
      subst z4
      rw [t_X6_traps_139]
      rcases hx with ⟨a, b, c⟩ | ⟨a, j, b, c, f⟩
      · subst a
        rw [if_pos rfl, if_neg (by decide), LM28, gdi ll (by omega), ix_nI (by omega), show gA d1 (32 * 0 + 28) (Y n) = gA d 28 (Y n) from e28 _]
        rcases h01 n (by omega) with y | y
        · rw [y, if_pos rfl, t_X6_traps_157]
          refine fin 1 1 (.inr rfl) nT nm (.inr ⟨rfl, n, by omega, ?_, ?_⟩)
          · rw [← b n (by omega)]; exact y
          · rw [wr 1 (.inr rfl), if_pos rfl]
        · rw [y, if_neg (by decide), t_X6_traps_161]
          refine fin 0 1 (.inr rfl) nT nm (.inl ⟨rfl, fun j hj => ?_, fun j h1 h2 h3 => ?_⟩)
          · rw [wr 1 (.inr rfl)]
            by_cases q : Y j = Y n
            · rw [if_pos q, q, ← b n (by omega), y]
            · rw [if_neg q]; exact b j hj
          · by_cases q : j = n
            · rw [q, ← b n (by omega), y] at h3; exact absurd h3 (by decide)
            · exact c j (by omega) h2 h3
      · subst a
        rw [if_neg (by decide), t_X6_traps_157]
        refine fin 1 1 (.inr rfl) nT nm (.inr ⟨rfl, j, b, c, ?_⟩)
        rw [wr 1 (.inr rfl)]
        by_cases q : Y j = Y n
        · rw [if_pos q]
        · rw [if_neg q]; exact f
    · subst z4
      have wr0 : ∀ j, j < s → gA (sA d1 (32 * 0 + 28) (Y n) (vp_nar .boolean 0)) 28 (Y j) = gA d 28 (Y j) := by
        intro j hj
        rw [wr 0 (.inl rfl)]
        by_cases q : Y j = Y n
        · rw [if_pos q, q, z5]
        · rw [if_neg q]
      have nT : T01 u bar nop (sA d1 (32 * 0 + 28) (Y n) (vp_nar .boolean 0)) s Y := by
        intro j hj
        rw [wr0 j hj]; exact hT j hj
      have nm : ∀ j, j < s → gA d0 28 (Y j) = 1 → gA (sA d1 (32 * 0 + 28) (Y n) (vp_nar .boolean 0)) 28 (Y j) = 1 := fun j hj h1 => by rw [wr0 j hj]; exact hm j hj h1
      rw [t_X6_traps_139]
      rcases hx with ⟨a, b, c⟩ | ⟨a, j, b, c, f⟩
      · subst a
        rw [if_pos rfl, if_pos rfl, t_X6_traps_161]
        refine fin 0 0 (.inl rfl) nT nm (.inl ⟨rfl, fun j hj => by rw [wr0 j hj]; exact b j hj, fun j h1 h2 h3 c' => ?_⟩)
        by_cases q : j = n
        · rw [q]
          exact fun h4 => z6 c' (by omega) (SW_cg hc (fun j hj => b j hj) (by omega) h4)
        · exact c j (by omega) h2 h3 c'
      · subst a
        rw [if_neg (by decide), t_X6_traps_157]
        exact fin 1 0 (.inl rfl) nT nm (.inr ⟨rfl, j, b, c, by rw [wr0 j b]; exact f⟩)
theorem traps_while {u : Nat → Int32} {bar nop : Int32} {e : Dt} {s : Nat} {Y : Nat → Nat} (hr : RU u e) (hb : gF e 0 16 = bar) (hn : gF e 0 15 = nop) (hl : LI u e s Y) (hc : CLo u bar nop s Y) : ∀ (N F : Nat) (d : Dt), cz (fun j => decide (gA d 28 (Y j) = 0)) s < N → N + 1 ≤ F → FO e d → T01 u bar nop d s Y → ∃ M' e', lp (fun k x => t_X6_traps_52 LM (fun x1 d => k (x1, d)) x.1 x.2) F (1, d) = some (nI M', e') ∧ FO e e' ∧ M' < 2 ^ 24 ∧ ∀ g, M'.testBit g = true ↔ ∃ j, j < s ∧ qp (Y j) = g ∧ ¬ CnW u bar nop (Y j) := by
  have hs := hl.2.1
  intro N
  induction N with
  | zero => intro F d hz; omega
  | succ N ih =>
    intro F d hz hF hd hT
    obtain ⟨F, rfl⟩ : ∃ G, F = G + 1 := ⟨F - 1, by omega⟩
    obtain ⟨x1', d1, r1, r2, r3, r4, r5⟩ := traps_pass hr hb hn hl hc (fun x1 d => lp (fun k x => t_X6_traps_52 LM (fun x1 d => k (x1, d)) x.1 x.2) F (x1, d)) d s FU 0 d (Nat.le_refl _) (by unfold FU; omega) hd hT (fun j _ h => h) (.inl ⟨rfl, fun _ _ => rfl, fun j h1 h2 => by omega⟩)
    have go : lp (fun k x => t_X6_traps_52 LM (fun x1 d => k (x1, d)) x.1 x.2) (F + 1) (1, d) = lp (fun k x => t_X6_traps_52 LM (fun x1 d => k (x1, d)) x.1 x.2) F (x1', d1) := by
      show t_X6_traps_52 LM (fun x1 d => lp _ F (x1, d)) 1 d = _
      rw [t_X6_traps_52, if_neg (by decide), bd_q, (hl.fo hd).1]
      exact r1
    rw [go]
    rcases r5 with ⟨z, a, b⟩ | ⟨z, j, a, b, c⟩
    · subst z
      obtain ⟨F, rfl⟩ : ∃ G, F = G + 1 := ⟨F - 1, by omega⟩
      show ∃ M' e', t_X6_traps_52 LM (fun x1 d => lp _ F (x1, d)) 0 d1 = _ ∧ _
      rw [t_X6_traps_52, if_pos rfl]
      have cl : ∀ (n j q' : Nat), j < s → RR u bar nop (Y j) n q' → bE u (qp q') = 1 → gA d1 28 (Y j) = 1 := by
        intro n
        induction n with
        | zero =>
          intro j q' hj h1 h2
          rcases r3 j hj with q | q
          · have : q' = Y j := h1
            rw [this] at h2; exact absurd h2 q.2
          · exact q.1
        | succ n ih2 =>
          intro j q' hj h1 h2
          obtain ⟨r', h3, h4⟩ := RR_tail n q' h1
          obtain ⟨j', j1, j2⟩ := hc.2 j hj r' h3
          have h5 := ih2 j' q' j1 (by rw [j2]; exact h4) h2
          rcases r3 j hj with q | q
          · obtain ⟨c, y1, y2, y3⟩ := Ed_nxm h3
            rw [a j hj] at q
            have h6 : gA d 28 r' = 1 := by rw [← j2, ← a j' j1]; exact h5
            exact absurd ⟨y1, y2, r', y3, h6⟩ (b j hj q.1 c)
          · exact q.1
      refine traps_fin hr hl s 0 FU 0 d1 (by omega) (by unfold FU; omega) r2 (fun j hj => ?_) (by decide) (fun g => ?_)
      · rcases r3 j hj with q | q
        · refine .inl ⟨q.1, ?_⟩
          rintro ⟨n, q', h1, h2⟩
          have := cl n j q' hj h1 h2
          rw [q.1] at this; exact absurd this (by decide)
        · exact .inr q
      · rw [Nat.zero_testBit]
        constructor
        · intro h; cases h
        · rintro ⟨j, h, _⟩; omega
    · subst z
      refine ih F d1 ?_ (by omega) r2 r3
      have := cz_lt (f := fun j => decide (gA d 28 (Y j) = 0)) (g := fun j => decide (gA d1 28 (Y j) = 0)) s (fun i hi h => ?_) ⟨j, a, ?_, ?_⟩
      · omega
      · have h1 := of_decide_eq_true h
        apply decide_eq_true
        rcases hT i hi with q | q
        · exact q.1
        · rw [r4 i hi q.1] at h1; exact absurd h1 (by decide)
      · exact decide_eq_true b
      · intro h
        have h1 := of_decide_eq_true h
        rw [c] at h1; exact absurd h1 (by decide)
theorem traps_lp {u : Nat → Int32} {bar nop : Int32} {e : Dt} {s : Nat} {Y : Nat → Nat} (hr : RU u e) (hb : gF e 0 16 = bar) (hn : gF e 0 15 = nop) (hl : LI u e s Y) (hc : CLo u bar nop s Y) : ∃ M e', lp (fun k x => t_X6_traps_6 LM (fun x1 d => k (x1, d)) x.1 x.2) FU (0, e) = some (nI M, e') ∧ FO e e' ∧ M < 2 ^ 24 ∧ ∀ g, M.testBit g = true ↔ ∃ j, j < s ∧ qp (Y j) = g ∧ ¬ CnW u bar nop (Y j) := by
  have hv := hr.v
  have hs := hl.2.1
  have hYi := hl.2.2.2
  have st : ∀ (n i F : Nat) (d : Dt), i + n = s → n < F → FO e d → (∀ j, j < i → (gA d 28 (Y j) = 0 ∧ bE u (qp (Y j)) ≠ 1) ∨ (gA d 28 (Y j) = 1 ∧ CnW u bar nop (Y j))) → ∃ M e', lp (fun k x => t_X6_traps_6 LM (fun x1 d => k (x1, d)) x.1 x.2) F (nI i, d) = some (nI M, e') ∧ FO e e' ∧ M < 2 ^ 24 ∧ ∀ g, M.testBit g = true ↔ ∃ j, j < s ∧ qp (Y j) = g ∧ ¬ CnW u bar nop (Y j) := by
    intro n
    induction n with
    | zero =>
      intro i F d hi hF hd h28
      obtain ⟨F, rfl⟩ : ∃ G, F = G + 1 := ⟨F - 1, by omega⟩
      have L1 := hl.fo hd
      show ∃ M e', t_X6_traps_6 LM (fun x1 d => lp _ F (x1, d)) (nI i) d = _ ∧ _
      rw [t_X6_traps_6, L1.1, if_pos (nI_le (by omega) (by omega))]
      have := cz_le (fun j => decide (gA d 28 (Y j) = 0)) s
      exact traps_while hr hb hn hl hc (s + 1) FU d (by omega) (by unfold FU; omega) hd (fun j hj => h28 j (by omega))
    | succ n ih =>
      intro i F d hi hF hd h28
      obtain ⟨F, rfl⟩ : ∃ G, F = G + 1 := ⟨F - 1, by omega⟩
      have L1 := hl.fo hd
      have e19 : gA d (32 * 0 + 19) i = nI (Y i) := (L1.2.2.1 i (by omega)).2
      have ll := VQ_lt hv (hc.1 i (by omega))
      have go : ∀ v, (vp_nar .boolean v = 0 ∧ bE u (qp (Y i)) ≠ 1) ∨ (vp_nar .boolean v = 1 ∧ CnW u bar nop (Y i)) → ∃ M e', t_X6_traps_43 LM (fun x1 d => lp (fun k x => t_X6_traps_6 LM (fun x1 d => k (x1, d)) x.1 x.2) F (x1, d)) (nI i) v (nI (Y i)) d = some (nI M, e') ∧ FO e e' ∧ M < 2 ^ 24 ∧ ∀ g, M.testBit g = true ↔ ∃ j, j < s ∧ qp (Y j) = g ∧ ¬ CnW u bar nop (Y j) := by
        intro v hv'
        rw [t_X6_traps_43, LM28, gdi ll (by omega), bd_q, ix_nI (by omega), nI_1]
        exact ih _ _ _ (by omega) (by omega) (hd.trans FO_28) (set_row (P := fun y v => (v = 0 ∧ bE u (qp y) ≠ 1) ∨ (v = 1 ∧ CnW u bar nop y)) (by omega) hYi h28 hv')
      show ∃ M e', t_X6_traps_6 LM (fun x1 d => lp _ F (x1, d)) (nI i) d = _ ∧ _
      rw [t_X6_traps_6, L1.1, if_neg (nI_ge (by omega) (by omega)), LM19, gdi (by omega) (by omega), gdi (by omega) (by omega), ix_nI (show i < 2 ^ 31 by omega), e19, standsAt_q (hd.fr.ru hr) (hc.1 i (by omega)), ob]
      rcases stq_cases hv (hc.1 i (by omega)) with ⟨e1, e2⟩ | h'
      · rw [e2, if_pos (show nI 1 = 1 from rfl)]
        exact go _ (.inr ⟨nar1, CnW.won e1⟩)
      · have e1 : bE u (qp (Y i)) ≠ 1 := by rcases h' with q | q <;> exact q.1
        have e2 : ¬ nI (stq u (Y i)) = 1 := by rcases h' with q | q <;> (rw [q.2.1]; decide)
        rw [if_neg e2]
        exact go _ (.inl ⟨nar0, e1⟩)
  exact st s 0 FU e (by omega) (by unfold FU; omega) (FO.refl e) (fun j hj => by omega)
/-- one is stuck at q -/
def STK (u : Nat → Int32) (q : Nat) : Prop := bE u (qp q) ≠ 1 ∧ ∀ c, c < wys u (qp q) → ¬ wo u q c = true
theorem holes_lp {u : Nat → Int32} {e : Dt} {s : Nat} {Y : Nat → Nat} (hr : RU u e) (hl : LI u e s Y) : ∃ M, lp (fun k x => t_X6_holes_8 LM (fun x1 x2 d => k (x1, x2, d)) x.1 x.2.1 x.2.2) FU (0, 0, e) = some (nI M, e) ∧ M < 2 ^ 24 ∧ ∀ g, M.testBit g = true ↔ ∃ j, j < s ∧ qp (Y j) = g ∧ STK u (Y j) := by
  have hv := hr.v
  have hP := hv.P.2
  obtain ⟨a1, a2, a3, a4⟩ := hl
  have main : ∀ (n i F M : Nat), i + n = s → n < F → M < 2 ^ 24 → (∀ g, M.testBit g = true ↔ ∃ j, j < i ∧ qp (Y j) = g ∧ STK u (Y j)) → ∃ M', lp (fun k x => t_X6_holes_8 LM (fun x1 x2 d => k (x1, x2, d)) x.1 x.2.1 x.2.2) F (nI M, nI i, e) = some (nI M', e) ∧ M' < 2 ^ 24 ∧ ∀ g, M'.testBit g = true ↔ ∃ j, j < s ∧ qp (Y j) = g ∧ STK u (Y j) := by
    intro n
    induction n with
    | zero =>
      intro i F M hi hF hM hg
      obtain ⟨F, rfl⟩ : ∃ G, F = G + 1 := ⟨F - 1, by omega⟩
      have : i = s := by omega
      subst this
      refine ⟨M, ?_, hM, hg⟩
      show t_X6_holes_8 LM (fun x1 x2 d => lp _ F (x1, x2, d)) (nI M) (nI i) e = _
      rw [t_X6_holes_8, a1, if_pos (nI_le (by omega) (by omega))]
    | succ n ih =>
      intro i F M hi hF hM hg
      obtain ⟨F, rfl⟩ : ∃ G, F = G + 1 := ⟨F - 1, by omega⟩
      obtain ⟨b1, b2⟩ := a3 i (by omega)
      have b2' : gA e (32 * 0 + 19) i = nI (Y i) := b2
      have hp := b1.1
      have ll := VQ_lt hv b1
      show ∃ v, t_X6_holes_8 LM (fun x1 x2 d => lp _ F (x1, x2, d)) (nI M) (nI i) e = some (nI v, e) ∧ _
      rw [t_X6_holes_8, a1, if_neg (nI_ge (by omega) (by omega)), LM19, gdi (by omega) (by omega), ix_nI (by omega), b2', standsAt_q hr b1, ob]
      have no : ¬ STK u (Y i) → ∃ v, t_X6_holes_36 LM (fun x1 x2 d => lp (fun k x => t_X6_holes_8 LM (fun x1 x2 d => k (x1, x2, d)) x.1 x.2.1 x.2.2) F (x1, x2, d)) (nI i) 0 (nI M) e = some (nI v, e) ∧ v < 2 ^ 24 ∧ ∀ g, v.testBit g = true ↔ ∃ j, j < s ∧ qp (Y j) = g ∧ STK u (Y j) := by
        intro w
        rw [t_X6_holes_36, t_X6_one, if_pos rfl, ob, LM19, gdi (by omega) (by omega), ix_nI (by omega), b2', partOf_q ll, ob, bit_0 _ (by omega), or_z _ _ rfl, bd_q, nI_1]
        refine ih _ _ _ (by omega) (by omega) hM (fun g => ?_)
        rw [hg g]
        constructor
        · rintro ⟨j, q1, q2, q3⟩
          exact ⟨j, by omega, q2, q3⟩
        · rintro ⟨j, q1, q2, q3⟩
          by_cases y : j = i
          · rw [y] at q3; exact absurd q3 w
          · exact ⟨j, by omega, q2, q3⟩
      rcases stq_cases hv b1 with ⟨e1, e2⟩ | ⟨e1, e2, c, h1, h2⟩ | ⟨e1, e2, e3⟩
      · rw [e2, if_neg (show ¬ nI 1 = 3 by decide)]
        exact no (fun h => h.1 e1)
      · rw [e2, if_neg (show ¬ nI 0 = 3 by decide)]
        exact no (fun h => h.2 c h1 h2)
      · rw [e2, if_pos (show nI 3 = 3 from rfl), t_X6_holes_36, t_X6_one, if_neg (by decide), ob, LM19, gdi (by omega) (by omega), ix_nI (by omega), b2', partOf_q ll, ob, bit_e _ (by omega), nx_or, bd_q, nI_1]
        refine ih _ _ _ (by omega) (by omega) (Nat.or_lt_two_pow hM (Nat.pow_lt_pow_right (by decide) (by omega))) (fun g => ?_)
        rw [Nat.testBit_or, Bool.or_eq_true, hg g, Nat.testBit_two_pow, decide_eq_true_eq]
        constructor
        · rintro (⟨j, q1, q2, q3⟩ | q)
          · exact ⟨j, by omega, q2, q3⟩
          · exact ⟨i, by omega, q, e1, e3⟩
        · rintro ⟨j, q1, q2, q3⟩
          by_cases y : j = i
          · rw [y] at q2; exact .inr q2
          · exact .inl ⟨j, by omega, q2, q3⟩
  exact main s 0 FU 0 (by omega) (by unfold FU; omega) (by decide) (fun g => by
    rw [Nat.zero_testBit]
    exact ⟨fun h => (by cases h), fun ⟨j, h, _⟩ => by omega⟩)
