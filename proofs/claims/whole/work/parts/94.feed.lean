/-! ===== feed ===== -/
theorem sh_s : ∀ k, k < 8 → (((8 * nI k : Int32).toInt64 &&& 63 : Int64).toBitVec.smod 64).toNat = 8 * k := by decide +kernel
theorem sh_u : ∀ k, k < 8 → ((8 * nI k : Int32).toInt64.toUInt64 &&& Int64.toUInt64 63).toNat % 64 = 8 * k := by decide +kernel
theorem b255 (i : Nat) : (255#64).getLsbD i = decide (i < 8) := by
  by_cases h : i < 64
  · have : ∀ i, i < 64 → (255#64).getLsbD i = decide (i < 8) := by decide +kernel
    exact this i h
  · rw [BitVec.getLsbD_of_ge _ _ (by omega), decide_eq_false (by omega)]
/-- the byte, as the reference has it -/
theorem byte_m (p2 : Int64) {k : Nat} (hk : k < 8) {i : Nat} (hi : i < 32) : (((p2 >>> ((8 * nI k : Int32).toInt64 &&& 63)) &&& 255 : Int64).toInt32).toBitVec.getLsbD i = (decide (i < 8) && p2.toBitVec.getLsbD (8 * k + i)) := by
  show (BitVec.signExtend 32 ((p2.toBitVec.sshiftRight (((8 * nI k : Int32).toInt64 &&& 63 : Int64).toBitVec.smod 64).toNat) &&& 255#64)).getLsbD i = _
  rw [sh_s k hk, BitVec.getLsbD_signExtend, decide_eq_true hi, if_pos (by omega), BitVec.getLsbD_and, b255, BitVec.getLsbD_sshiftRight]
  by_cases h8 : i < 8
  · rw [decide_eq_true h8, if_pos (by omega), decide_eq_false (by omega)]
    simp
  · rw [decide_eq_false h8]
    simp
/-- as the class has it -/
theorem byte_c (p2 : Int64) {k : Nat} (hk : k < 8) {i : Nat} (hi : i < 8) : ((((p2.toUInt64 >>> ((8 * nI k : Int32).toInt64.toUInt64 &&& Int64.toUInt64 63)).toInt64 : Int64).toInt32 : Int32).toInt8).toBitVec.getLsbD i = p2.toBitVec.getLsbD (8 * k + i) := by
  have e : (p2.toUInt64 >>> ((8 * nI k : Int32).toInt64.toUInt64 &&& Int64.toUInt64 63)).toInt64.toBitVec = p2.toBitVec >>> (8 * k) := by
    apply BitVec.eq_of_toNat_eq
    show (p2.toUInt64 >>> ((8 * nI k : Int32).toInt64.toUInt64 &&& Int64.toUInt64 63)).toNat = _
    rw [UInt64.toNat_shiftRight, sh_u k hk, BitVec.toNat_ushiftRight]
    rfl
  show (BitVec.signExtend 8 (BitVec.signExtend 32 (p2.toUInt64 >>> ((8 * nI k : Int32).toInt64.toUInt64 &&& Int64.toUInt64 63)).toInt64.toBitVec)).getLsbD i = _
  rw [e, BitVec.getLsbD_signExtend, decide_eq_true hi, if_pos (by omega), BitVec.getLsbD_signExtend, decide_eq_true (by omega), if_pos (by omega), BitVec.getLsbD_ushiftRight]
  simp
theorem feed_byte (p2 : Int64) {k : Nat} (hk : k < 8) : ∃ b, b < 256 ∧ ((p2 >>> ((8 * nI k : Int32).toInt64 &&& 63)) &&& 255 : Int64).toInt32 = nI b ∧ ((((p2.toUInt64 >>> ((8 * nI k : Int32).toInt64.toUInt64 &&& Int64.toUInt64 63)).toInt64 : Int64).toInt32 : Int32).toInt8.toInt32) = sgn b := by
  generalize hr : ((p2 >>> ((8 * nI k : Int32).toInt64 &&& 63)) &&& 255 : Int64).toInt32 = r
  have bits : ∀ i, i < 32 → r.toBitVec.getLsbD i = (decide (i < 8) && p2.toBitVec.getLsbD (8 * k + i)) := fun i hi => by rw [← hr]; exact byte_m p2 hk hi
  have hb : r.toBitVec.toNat < 2 ^ 8 := by
    apply Nat.lt_pow_two_of_testBit
    intro i hi
    by_cases h32 : i < 32
    · have := bits i h32
      rw [decide_eq_false (by omega), Bool.false_and] at this
      exact this
    · exact BitVec.getLsbD_of_ge _ _ (by omega)
  have e : r = nI r.toBitVec.toNat := Int32.toBitVec_inj.mp (by show _ = BitVec.ofNat 32 _; simp)
  refine ⟨r.toBitVec.toNat, hb, e, ?_⟩
  unfold sgn
  rw [← e]
  congr 1
  apply Int8.toBitVec_inj.mp
  apply BitVec.eq_of_getLsbD_eq
  intro i hi
  rw [byte_c p2 hk hi]
  show _ = (BitVec.signExtend 8 r.toBitVec).getLsbD i
  rw [BitVec.getLsbD_signExtend, decide_eq_true hi, if_pos (by omega), bits i (by omega), decide_eq_true hi]
  simp
theorem LM3 : LM (32 * 0 + 3) = 600 := rfl
theorem ok_feed : ST_feed RLx := by
  intro L d dm k n p1 p2 h
  have triv : ∀ v : Int32, ∃ (r : Int32) (d' dm' : Dt), some (v, d) = some (r, d') ∧ some (v, dm) = some (r, dm') ∧ RLx L d' dm' k n := fun v => ⟨v, d, dm, rfl, rfl, h⟩
  obtain ⟨tn, t1, t2, t3, t4⟩ := h.2.2.2.2.2.1
  have hl3 : L (32 * 1 + 3) = 600 := h.1.2.2.2.2.2.2.2.2.1
  unfold t_X5_feed t_X6_feed
  rw [in_I, Int32.toInt_toInt64, show (1 : Int64).toInt = ((1 : Nat) : Int) from rfl, show (8 : Int64).toInt = ((8 : Nat) : Int) from rfl, ob]
  rcases cmp1 p1 1 8 1 8 rfl rfl with ⟨a, b⟩ | ⟨a, a2, b⟩ | ⟨a, a2, b, t, ht1, ht, rfl⟩
  · rw [if_pos a, if_neg b, if_pos rfl]; exact triv _
  · rw [if_neg a, if_neg a2, if_neg b, if_pos rfl]; exact triv _
  · rw [if_neg a, if_pos a2, if_pos b, if_neg (show ¬ (1 : Int32) = 0 by decide), t2, t3, nI_add, show (600 : Int32) - nI tn = nI (600 - tn) from by rw [show (600 : Int32) = nI 600 from rfl, nI_subN t1]]
    by_cases c : tn + t ≤ 600
    · rw [if_pos (nI_le (by omega) (by omega)), if_pos (show nI (tn + t) ≤ 600 from nI_le (b := 600) c (by decide)), bd_q, bd_q]
      have main : ∀ (m F G : Nat) (e em : Dt) (l : Nat), l + m ≤ 600 → m ≤ 8 → m < F → m < G → (∀ x, x ≠ 1 → AG d e x) → (∀ j, j ≠ 1 → gF e 1 j = gF d 1 j) → (∀ j, j ≠ 4 → gF em 0 j = gF dm 0 j) → (∀ a i, a ≠ 3 → gA em a i = gA dm a i) → gF e 1 1 = nI l → gF em 0 4 = nI l → (∀ i, i < l → ∃ b, b < 256 ∧ gA em (32 * 0 + 3) i = nI b ∧ gA e (32 * 1 + 3) i = sgn b) → ∃ (r : Int32) (d' dm' : Dt), lp (fun k x => t_X5_feed_37 L (nI t) p2 (fun x4 d => k (x4, d)) x.1 x.2) F (nI m - 1, e) = some (r, d') ∧ lp (fun k x => t_X6_feed_35 LM (nI t) p2 (fun x4 d => k (x4, d)) x.1 x.2) G (nI m - 1, em) = some (r, dm') ∧ RLx L d' dm' k n := by
        intro m
        induction m with
        | zero =>
          intro F G e em l hl hm8 hF hG ha hf hfm hAm e1 em4 hx
          obtain ⟨F, rfl⟩ : ∃ F', F = F' + 1 := ⟨F - 1, by omega⟩
          obtain ⟨G, rfl⟩ : ∃ F', G = F' + 1 := ⟨G - 1, by omega⟩
          refine ⟨nI l, e, em, ?_, ?_, ?_⟩
          · show t_X5_feed_37 L (nI t) p2 (fun x4 d => lp _ F (x4, d)) (nI 0 - 1) e = _
            rw [t_X5_feed_37, if_pos (by decide), e1]
          · show t_X6_feed_35 LM (nI t) p2 (fun x4 d => lp _ G (x4, d)) (nI 0 - 1) em = _
            rw [t_X6_feed_35, if_pos (by decide), em4]
          · have hw : wOf em = wOf dm := by
              funext i
              exact hAm 0 i (by decide)
            have a0 := ha 0 (by decide)
            refine h.md (by rw [hw]; exact SI_congr (ha 2 (by decide)) (ha 6 (by decide)) (fun _ _ => rfl) h.2.1) (by rw [hw]; exact h.2.2.1) (fun x _ x1 _ _ _ => ha x x1) ⟨l, by omega, e1, em4, hx⟩ (by rw [hf 2 (by decide), hfm 9 (by decide)]; exact h.2.2.2.2.2.2.1) (LGR_cg h.2.2.2.2.2.2.2.1 (a0.1 4) (fun i => a0.2 3 (by decide) i) (hfm 23 (by decide)) (fun i => hAm 24 i (by decide))) ⟨(hfm 15 (by decide)).trans h.2.2.2.2.2.2.2.2.1.1, (hfm 16 (by decide)).trans h.2.2.2.2.2.2.2.2.1.2⟩ (fun i _ => hAm 0 i (by decide)) (fun i => hAm 1 i (by decide)) (hfm 21 (by decide)) (fun i => hAm 19 i (by decide)) (fun i => hAm 20 i (by decide)) (.inr ⟨a0.1 7, by rw [hw]⟩)
        | succ m ih =>
          intro F G e em l hl hm8 hF hG ha hf hfm hAm e1 em4 hx
          obtain ⟨F, rfl⟩ : ∃ F', F = F' + 1 := ⟨F - 1, by omega⟩
          obtain ⟨G, rfl⟩ : ∃ F', G = F' + 1 := ⟨G - 1, by omega⟩
          obtain ⟨b, b1, b2, b3⟩ := feed_byte p2 (k := m) (by omega)
          have app : t_X1_append L e (sgn b) = some (sF (sA e (32 * 1 + 3) l (sgn b)) 1 1 (nI (l + 1))) := by
            unfold t_X1_append
            rw [e1, if_neg (show ¬ (600 : Int32) ≤ nI l from nI_ge (b := 600) (by omega) (by decide)), hl3, gdi (show l < 600 by omega) (by omega), ix_nI (by omega), show vp_nar .byte (sgn b) = sgn b from pk_vb (nI b), bd_q, gF_sA, e1, nI_1, bd_q]
          show ∃ (r : Int32) (d' dm' : Dt), t_X5_feed_37 L (nI t) p2 (fun x4 d => lp _ F (x4, d)) (nI (m + 1) - 1) e = some (r, d') ∧ t_X6_feed_35 LM (nI t) p2 (fun x4 d => lp _ G (x4, d)) (nI (m + 1) - 1) em = some (r, dm') ∧ _
          rw [nI_pred, t_X5_feed_37, if_neg (nI_pos (by omega)), b3, app, ob, t_X6_feed_35, if_neg (nI_pos (by omega)), em4, LM3, gdi (show l < 600 by omega) (by omega), ix_nI (by omega), b2, bd_q, gF_sA, em4, nI_1, bd_q, m1_sub]
          refine ih F G _ _ (l + 1) (by omega) (by omega) (by omega) (by omega) (fun x hx => (ha x hx).trans ((AG_sA (j := 3) (by decide) hx).trans (AG_sF hx))) (fun j hj => by rw [gF_sFn (fun y => hj y.2), gF_sA]; exact hf j hj) (fun j hj => by rw [gF_sFn (fun y => hj y.2), gF_sA]; exact hfm j hj) (fun a i ha' => by rw [gA_sF, gA_sAi, if_neg (fun y => ha' y.1)]; exact hAm a i ha') (gF_sF1 _ _ _ _) (gF_sF1 _ _ _ _) (fun i hi => ?_)
          by_cases z : i = l
          · refine ⟨b, b1, ?_, ?_⟩
            · rw [gA_sF, gA_sAi, if_pos ⟨rfl, z⟩]
            · rw [gA_sF, gA_sAi, if_pos ⟨rfl, z⟩]
          · obtain ⟨b', q1, q2, q3⟩ := hx i (by omega)
            refine ⟨b', q1, ?_, ?_⟩
            · rw [gA_sF, gA_sAi, if_neg (fun y => z y.2)]; exact q2
            · rw [gA_sF, gA_sAi, if_neg (fun y => z y.2)]; exact q3
      exact main t FU FU d dm tn (by omega) (by omega) (by unfold FU; omega) (by unfold FU; omega) (fun x _ => AG.refl d x) (fun _ _ => rfl) (fun _ _ => rfl) (fun _ _ _ => rfl) t2 t3 t4
    · rw [if_neg (nI_ge (by omega) (by omega)), if_neg (show ¬ nI (tn + t) ≤ 600 from nI_ge (a := 600) (by omega) (by omega))]
      exact triv _
