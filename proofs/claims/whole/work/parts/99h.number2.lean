/-! ===== a number, both sides ===== -/
def PSc (n : Nat) (T : Nat → Nat) (L : Nat → Nat) (d dm : Dt) (c : Nat) : Prop := TFc n T L d ∧ TFm n T dm ∧ gF d 1 5 = 0 ∧ gF dm 0 8 = 0 ∧ c ≤ n ∧ gF dm 0 5 = nI c ∧ gF d 1 4 = nI (skp n T c)
theorem fail_q {L : Nat → Nat} {d : Dt} (h : gF d 1 5 = 0) (t x : Int32) : t_X1_fail L d t x = some (sF (sF d 1 5 t) 1 2 x) := by
  unfold t_X1_fail
  rw [if_pos h, bd_q, bd_q]
theorem want_1 {d : Dt} (h : gF d 0 8 = 0) (t x : Int32) : t_X6_want LM d 1 t x = some (1, d) := by
  unfold t_X6_want t_X6_want_21
  rw [if_neg (by decide), if_pos h]
theorem want_0 {d : Dt} {t : Nat} (h : gF d 0 8 = 0) (h1 : 1 ≤ t) (h4 : t ≤ 4) (x : Int32) : t_X6_want LM d 0 (nI t) x = some (0, sF (sF d 0 8 (nI t)) 0 9 x) := by
  unfold t_X6_want t_X6_want_21
  rw [if_pos rfl, if_pos h, bd_q, bd_q, gF_sFn (by omega), gF_sF1, if_neg (nI_ne0 (by omega) (by omega))]
theorem number_q {n c lo hi : Nat} {T : Nat → Nat} {L : Nat → Nat} {d dm : Dt} (h : PSc n T L d dm c) (hh : hi ≤ 99) (hlo : lo ≤ hi) : (∃ v d' dm' c', lo ≤ v ∧ v ≤ hi ∧ t_X1_readNumber L d (nI lo) (nI hi) = some (nI v, d') ∧ t_X6_takeNumber LM dm (nI lo) (nI hi) = some (nI v, dm') ∧ KCu d d' ∧ KMu dm dm' ∧ gF dm' 0 6 = nI (skp n T c) ∧ c < c' ∧ PSc n T L d' dm' c') ∨ (∃ t x dm1, 1 ≤ t ∧ t ≤ 2 ∧ t_X1_readNumber L d (nI lo) (nI hi) = some (nI lo, sF (sF d 1 5 (nI t)) 1 2 (nI (skp n T c))) ∧ t_X6_takeNumber LM dm (nI lo) (nI hi) = some (x, sF (sF dm1 0 8 (nI t)) 0 9 (nI (skp n T c))) ∧ KMu dm dm1) := by
  obtain ⟨hc, hm, h5, h8, hcn, hm5, h4⟩ := h
  have n6 := hc.1
  obtain ⟨s1, s2⟩ := skp_le (T := T) hcn
  generalize ha : skp n T c = a at *
  have hdl := dln_le (T := T) s2
  have ec : t_X1_readNumber L d (nI lo) (nI hi) = t_X1_readNumber_85 L (nI lo) (nI hi) (nI (dln n T a)) (nI (vcn T a (dln n T a))) d := by
    have e := num_c (a := a) (p1 := nI lo) (p2 := nI hi) hc (n - a) 0 FU (by omega) (by unfold FU; omega) (fun j z => absurd z (Nat.not_lt_zero _))
    rw [Nat.add_zero, Nat.zero_add] at e
    unfold t_X1_readNumber
    rw [if_pos h5, bd_q, h4]
    exact e
  obtain ⟨d1, a1, a2, a3⟩ := here_q hm hm5 hcn
  rw [ha] at a1 a2
  have h81 : gF (sF d1 0 6 (nI a)) 0 8 = 0 := by rw [gF_sFn (by omega), a3.1 8 (by decide) (by decide) (by decide)]; exact h8
  have h51 : gF (sF d1 0 6 (nI a)) 0 5 = nI a := by rw [gF_sFn (by omega)]; exact a2
  have k1 : KMu dm (sF d1 0 6 (nI a)) := a3.tr (KMu.s6 _ _)
  rw [ec]
  unfold t_X6_takeNumber
  rw [a1, ob, bd_q, a2]
  dsimp only
  by_cases z : a < n ∧ (48 ≤ T a ∧ T a ≤ 57)
  · obtain ⟨t1, t2⟩ := hm.2.2 a z.1
    have d1p : 1 ≤ dln n T a := by
      unfold dln
      obtain ⟨f, hf⟩ : ∃ f, n - a = f + 1 := ⟨n - a - 1, by omega⟩
      rw [hf]
      unfold rnl
      rw [if_pos (show tDg T a = true from decide_eq_true z.2)]
      omega
    rw [if_pos z.1, in_b (lo := 48) (hi := 57) (by omega) rfl rfl, if_pos z.2, ob, want_1 h81, ob, if_neg (show ¬ (1 : Int32) = 0 by decide)]
    obtain ⟨V', d', b1, b2, b3, b4, b5⟩ := num_m (a := a) (p1 := nI lo) (p2 := nI hi) (n - a) 0 FU 0 (sF d1 0 6 (nI a)) (by omega) (by unfold FU; omega) (fun _ => rfl) (fun j z => absurd z (Nat.not_lt_zero _)) h51 (hm.k k1)
    rw [Nat.zero_add, Nat.add_zero] at b2 b3
    have b6 : gF d' 0 6 = nI a := b4.trans (gF_sF1 _ _ _ _)
    have b8 : gF d' 0 8 = 0 := (b5.1 8 (by decide) (by decide) (by decide)).trans h81
    have k2 := k1.tr b5
    have sub : nI (a + dln n T a) - nI a = nI (dln n T a) := by rw [nI_subN (by omega)]; congr 1; omega
    have b3' : gF d' 0 5 = nI (a + dln n T a) := b3
    have er : lp (fun k x => t_X6_takeNumber_41 LM (nI lo) (nI hi) (fun x4 d => k (x4, d)) x.1 x.2) FU (0, sF d1 0 6 (nI a)) = t_X6_takeNumber_120 LM (nI lo) (nI hi) V' d' := b1
    rw [er, t_X6_takeNumber_120, b3', b6, sub, t_X1_readNumber_85, if_neg (nI_ne0 (by omega) (by omega))]
    by_cases l2 : 2 < dln n T a
    · refine .inr ⟨2, V', d', by decide, by decide, ?_, ?_, k2⟩
      · rw [if_pos (show (2 : Int32) < nI (dln n T a) from nI_lt (a := 2) l2 (by omega)), t_X1_readNumber_117, h4, fail_q h5, ob]
        rfl
      · rw [if_pos (show (3 : Int32) ≤ nI (dln n T a) from nI_le (a := 3) (by omega) (by omega)), t_X6_takeNumber_151, t_X6_takeNumber_152, b6, show (2 : Int32) = nI 2 from rfl, want_0 b8 (by decide) (by decide), ob]
    · have hV := b2 (by show dln n T a ≤ 2; omega)
      have hV' : V' = nI (vcn T a (dln n T a)) := hV
      have vb : vcn T a (dln n T a) < 2 ^ 31 := by
        have : T a < 256 := t1
        unfold vcn
        split
        · omega
        · split
          · omega
          · have : T (a + 1) < 256 := (hm.2.2 (a + 1) (by omega)).1
            omega
      rw [if_neg (show ¬ (2 : Int32) < nI (dln n T a) from nI_nlt (a := 2) (by omega) (by decide)), if_neg (show ¬ (3 : Int32) ≤ nI (dln n T a) from nI_ge (b := 3) (by omega) (by decide)), hV', in_N, nI_toInt (show lo < 2 ^ 31 by omega), nI_toInt (show hi < 2 ^ 31 by omega), nI_toInt vb, ob]
      generalize vcn T a (dln n T a) = v at vb
      by_cases r1 : v < lo
      · refine .inr ⟨2, nI v, d', by decide, by decide, ?_, ?_, k2⟩
        · rw [if_pos (nI_lt r1 (by omega)), t_X1_readNumber_117, h4, fail_q h5, ob]
          rfl
        · rw [if_neg (show ¬ ((lo : Int) ≤ (v : Int) ∧ (v : Int) ≤ (hi : Int)) by omega), if_pos rfl, t_X6_takeNumber_151, t_X6_takeNumber_152, b6, show (2 : Int32) = nI 2 from rfl, want_0 b8 (by decide) (by decide), ob]
      · by_cases r2 : v ≤ hi
        · obtain ⟨e', p1, p2, p3⟩ := pass_q hc h4 hdl
          refine .inl ⟨v, e', d', a + dln n T a, by omega, r2, ?_, ?_, p3, k2, b6, by omega, ⟨hc.k p3, hm.k k2, (p3.1 1 5 (by omega)).trans h5, b8, hdl, b3', p2⟩⟩
          · rw [if_neg (nI_nlt (by omega) (by omega)), if_pos (nI_le r2 (by omega)), p1, ob]
          · rw [if_pos (show ((lo : Int) ≤ (v : Int) ∧ (v : Int) ≤ (hi : Int)) by omega), if_neg (show ¬ (1 : Int32) = 0 by decide), t_X6_takeNumber_152, want_1 b8, ob]
        · refine .inr ⟨2, nI v, d', by decide, by decide, ?_, ?_, k2⟩
          · rw [if_neg (nI_nlt (by omega) (by omega)), if_neg (nI_ge (by omega) (by omega)), t_X1_readNumber_117, h4, fail_q h5, ob]
            rfl
          · rw [if_neg (show ¬ ((lo : Int) ≤ (v : Int) ∧ (v : Int) ≤ (hi : Int)) by omega), if_pos rfl, t_X6_takeNumber_151, t_X6_takeNumber_152, b6, show (2 : Int32) = nI 2 from rfl, want_0 b8 (by decide) (by decide), ob]
  · have d0 : dln n T a = 0 := by
      unfold dln
      by_cases y : a < n
      · obtain ⟨f, hf⟩ : ∃ f, n - a = f + 1 := ⟨n - a - 1, by omega⟩
        rw [hf]
        unfold rnl
        rw [if_neg (show ¬ tDg T a = true from fun q => z ⟨y, of_decide_eq_true q⟩)]
      · rw [show n - a = 0 by omega]; rfl
    have v3 : t_X6_in LM (sF d1 0 6 (nI a)) (if a < n then nI (T a) else -1 : Int32).toInt64 48 57 = some 0 := by
      by_cases y : a < n
      · have t1 := (hm.2.2 a y).1
        rw [if_pos y, in_b (lo := 48) (hi := 57) (by omega) rfl rfl, if_neg (fun q => z ⟨y, q⟩)]
      · rw [if_neg y, in_I, if_neg (by decide)]
    refine .inr ⟨1, 0, sF d1 0 6 (nI a), by decide, by decide, ?_, ?_, k1⟩
    · rw [d0, t_X1_readNumber_85, if_pos (show nI 0 = 0 from rfl), h4, fail_q h5, ob]
      rfl
    · rw [v3, ob, h51, show (1 : Int32) = nI 1 from rfl, want_0 h81 (by decide) (by decide), ob, if_pos rfl]
