/-! ===== the law's loop ===== -/
theorem sc_gt {i SL : Nat} (hS : SL ≤ 2560) (h1 : SL < i + 5) (h2 : i ≤ SL + 5) : nI SL - 5 < nI i := by
  have e : (nI SL - nI 5).toInt = (SL : Int) - (5 : Nat) := pk_sub_toInt (by omega) (by omega)
  have e2 : (nI i).toInt = (i : Int) := nI_toInt (by omega)
  show nI SL - nI 5 < nI i
  rw [Int32.lt_iff_toInt_lt, e, e2]
  omega
/-- all that the loop wants of the two systems -/
def STEPS (RL : (Nat → Nat) → Dt → Dt → Nat → Nat → Prop) : Prop := (∀ L d dm k n, RL L d dm k n → k ≤ 600000 ∧ n ≤ 7302250) ∧ ST_feed RL ∧ ST_book RL ∧ ST_fault RL ∧ ST_part RL ∧ ST_effect RL ∧ ST_choice RL ∧ ST_link RL ∧ ST_unlink RL ∧ ST_count RL ∧ ST_begin RL ∧ ST_choose RL ∧ ST_roll RL ∧ ST_now RL ∧ ST_odds RL ∧ ST_advice RL ∧ ST_fewest RL ∧ ST_surely RL ∧ ST_parts RL ∧ ST_things RL ∧ ST_without RL ∧ ST_log RL ∧ ST_clear RL ∧ ST_judge RL ∧ ST_number RL ∧ ST_near RL ∧ ST_shuffle RL ∧ ST_page RL ∧ ST_flips RL ∧ ST_seed RL ∧ ST_blind RL ∧ ST_keep RL ∧ ST_goBack RL
set_option maxRecDepth 20000 in
theorem law_loop {RL : (Nat → Nat) → Dt → Dt → Nat → Nat → Prop} (hS : STEPS RL) {K : Kx} {Y M : Yx} {b SL : Nat} {xs : Nat → Int32} {zm : Sh} (hC : CW K Y M b SL xs) (hx : (0, 0, 4) ∈ yI Y) (hm : (0, 0, 5) ∈ yI M) (hzm : LM = zm.1) (hend : ∀ k n z d dm lv, k ≤ 600000 → n ≤ 7302250 → VW K Y M k n z d zm dm 1008 lv []) :
    ∀ (f i : Nat), SL < i + f → i ≤ SL + 5 → ∀ (L ad : Nat → Nat) (d dm : Dt) (k n : Nat), RL L d dm k n → VW K Y M k n (L, ad) d zm dm 18 [(3, .int (nI i)), (0, .ref b), (1, .ref (yo Y 0)), (2, .ref (yo M 0))] [] := by
  obtain ⟨hB, s0, s1, s2, s3, s4, s5, s6, s7, s8, s9, s10, s11, s12, s13, s14, s15, s16, s17, s18, s19, s20, s21, s22, s23, s24, s25, s26, s27, s28, s29, s30, s31⟩ := hS
  intro f
  induction f with
  | zero =>
    intro i h1 h2 L ad d dm k n hR
    have hb := hB _ _ _ _ _ hR
    refine VW_iload_n 0 hC dL_law_18 rfl rfl ?_
    refine VW_aload_n 1 hC dL_law_19 rfl rfl ?_
    refine VW_slen hC dL_law_20 ?_
    refine VW_iconst (v := 5) hC dL_law_21 rfl ?_
    refine VW_isub hC dL_law_22 ?_
    refine VW_icmp_gt (tgt := 1008) hC dL_law_23 (by decide) (fun _ => hend _ _ _ _ _ _ hb.1 hb.2) (fun c => ?_)
    exact absurd (sc_gt hC.2.2.2.2.2.2.2 (by omega) (by omega)) c
  | succ f ih =>
    intro i h1 h2 L ad d dm k n hR
    have hb := hB _ _ _ _ _ hR
    refine VW_iload_n 0 hC dL_law_18 rfl rfl ?_
    refine VW_aload_n 1 hC dL_law_19 rfl rfl ?_
    refine VW_slen hC dL_law_20 ?_
    refine VW_iconst (v := 5) hC dL_law_21 rfl ?_
    refine VW_isub hC dL_law_22 ?_
    refine VW_icmp_gt (tgt := 1008) hC dL_law_23 (by decide) (fun _ => hend _ _ _ _ _ _ hb.1 hb.2) (fun c => ?_)
    have hi : i + 5 ≤ SL := by
      apply Classical.byContradiction
      intro h
      exact c (sc_gt hC.2.2.2.2.2.2.2 (by omega) (by omega))
    have hk : ∀ (L ad : Nat → Nat) (d dm : Dt) (k n : Nat), RL L d dm k n → VW K Y M k n (L, ad) d zm dm 1002 [(3, .int (nI i)), (0, .ref b), (1, .ref (yo Y 0)), (2, .ref (yo M 0))] [] := by
      intro L ad d dm k n hR
      refine VW_iinc (v := nI (i + 5)) (lv' := [(3, .int (nI (i + 5))), (0, .ref b), (1, .ref (yo Y 0)), (2, .ref (yo M 0))]) 0 hC dL_law_1002 rfl (nI_add i 5) (by decide) rfl ?_
      refine VW_goto (tgt := 18) hC dL_law_1005 (by decide) ?_
      exact ih (i + 5) (by omega) (by omega) L ad d dm k n hR
    have h0 : inb (nI i) SL = true := by
      have h := sc_in (i := i) 0 (by decide) hi hC.2.2.2.2.2.2.2
      have e : nI i + nI 0 = nI i := by rw [nI_add]; rfl
      rw [e] at h
      exact h
    refine VW_aload_n 1 hC dL_law_26 rfl rfl ?_
    refine VW_iload_n 0 hC dL_law_27 rfl rfl ?_
    refine VW_sld hC h0 dL_law_28 ?_
    refine VW_bipush (v := 31) hC dL_law_29 rfl ?_
    refine VW_iand hC dL_law_31 ?_
    obtain ⟨j, hj, ej⟩ := and31 (xs (ix (nI i)))
    have hc : j = 0 ∨ j = 1 ∨ j = 2 ∨ j = 3 ∨ j = 4 ∨ j = 5 ∨ j = 6 ∨ j = 7 ∨ j = 8 ∨ j = 9 ∨ j = 10 ∨ j = 11 ∨ j = 12 ∨ j = 13 ∨ j = 14 ∨ j = 15 ∨ j = 16 ∨ j = 17 ∨ j = 18 ∨ j = 19 ∨ j = 20 ∨ j = 21 ∨ j = 22 ∨ j = 23 ∨ j = 24 ∨ j = 25 ∨ j = 26 ∨ j = 27 ∨ j = 28 ∨ j = 29 ∨ j = 30 ∨ j = 31 := by omega
    rcases hc with rfl | rfl | rfl | rfl | rfl | rfl | rfl | rfl | rfl | rfl | rfl | rfl | rfl | rfl | rfl | rfl | rfl | rfl | rfl | rfl | rfl | rfl | rfl | rfl | rfl | rfl | rfl | rfl | rfl | rfl | rfl | rfl
    · exact VW_tsw (tgt := 176) hC dL_law_32 0 ej (by decide) (by decide) rfl (by decide) (lw_0 hB s0 hC hx hm hzm hi hR hk)
    · exact VW_tsw (tgt := 239) hC dL_law_32 1 ej (by decide) (by decide) rfl (by decide) (lw_1 hB s1 hC hx hm hzm hi hR hk)
    · exact VW_tsw (tgt := 252) hC dL_law_32 2 ej (by decide) (by decide) rfl (by decide) (lw_2 hB s2 hC hx hm hzm hi hR hk)
    · exact VW_tsw (tgt := 265) hC dL_law_32 3 ej (by decide) (by decide) rfl (by decide) (lw_3 hB s3 hC hx hm hzm hi hR hk)
    · exact VW_tsw (tgt := 298) hC dL_law_32 4 ej (by decide) (by decide) rfl (by decide) (lw_4 hB s4 hC hx hm hzm hi hR hk)
    · exact VW_tsw (tgt := 341) hC dL_law_32 5 ej (by decide) (by decide) rfl (by decide) (lw_5 hB s5 hC hx hm hzm hi hR hk)
    · exact VW_tsw (tgt := 384) hC dL_law_32 6 ej (by decide) (by decide) rfl (by decide) (lw_6 hB s6 hC hx hm hzm hi hR hk)
    · exact VW_tsw (tgt := 437) hC dL_law_32 7 ej (by decide) (by decide) rfl (by decide) (lw_7 hB s7 hC hx hm hzm hi hR hk)
    · exact VW_tsw (tgt := 470) hC dL_law_32 8 ej (by decide) (by decide) rfl (by decide) (lw_8 hB s8 hC hx hm hzm hi hR hk)
    · exact VW_tsw (tgt := 493) hC dL_law_32 9 ej (by decide) (by decide) rfl (by decide) (lw_9 hB s9 hC hx hm hzm hi hR hk)
    · exact VW_tsw (tgt := 506) hC dL_law_32 10 ej (by decide) (by decide) rfl (by decide) (lw_10 hB s10 hC hx hm hzm hi hR hk)
    · exact VW_tsw (tgt := 529) hC dL_law_32 11 ej (by decide) (by decide) rfl (by decide) (lw_11 hB s11 hC hx hm hzm hi hR hk)
    · exact VW_tsw (tgt := 552) hC dL_law_32 12 ej (by decide) (by decide) rfl (by decide) (lw_12 hB s12 hC hx hm hzm hi hR hk)
    · exact VW_tsw (tgt := 575) hC dL_law_32 13 ej (by decide) (by decide) rfl (by decide) (lw_13 hB s13 hC hx hm hzm hi hR hk)
    · exact VW_tsw (tgt := 598) hC dL_law_32 14 ej (by decide) (by decide) rfl (by decide) (lw_14 hB s14 hC hx hm hzm hi hR hk)
    · exact VW_tsw (tgt := 621) hC dL_law_32 15 ej (by decide) (by decide) rfl (by decide) (lw_15 hB s15 hC hx hm hzm hi hR hk)
    · exact VW_tsw (tgt := 634) hC dL_law_32 16 ej (by decide) (by decide) rfl (by decide) (lw_16 hB s16 hC hx hm hzm hi hR hk)
    · exact VW_tsw (tgt := 647) hC dL_law_32 17 ej (by decide) (by decide) rfl (by decide) (lw_17 hB s17 hC hx hm hzm hi hR hk)
    · exact VW_tsw (tgt := 670) hC dL_law_32 18 ej (by decide) (by decide) rfl (by decide) (lw_18 hB s18 hC hx hm hzm hi hR hk)
    · exact VW_tsw (tgt := 693) hC dL_law_32 19 ej (by decide) (by decide) rfl (by decide) (lw_19 hB s19 hC hx hm hzm hi hR hk)
    · exact VW_tsw (tgt := 726) hC dL_law_32 20 ej (by decide) (by decide) rfl (by decide) (lw_20 hB s20 hC hx hm hzm hi hR hk)
    · exact VW_tsw (tgt := 749) hC dL_law_32 21 ej (by decide) (by decide) rfl (by decide) (lw_21 hB s21 hC hx hm hzm hi hR hk)
    · exact VW_tsw (tgt := 762) hC dL_law_32 22 ej (by decide) (by decide) rfl (by decide) (lw_22 hB s22 hC hx hm hzm hi hR hk)
    · exact VW_tsw (tgt := 775) hC dL_law_32 23 ej (by decide) (by decide) rfl (by decide) (lw_23 hB s23 hC hx hm hzm hi hR hk)
    · exact VW_tsw (tgt := 798) hC dL_law_32 24 ej (by decide) (by decide) rfl (by decide) (lw_24 hB s24 hC hx hm hzm hi hR hk)
    · exact VW_tsw (tgt := 821) hC dL_law_32 25 ej (by decide) (by decide) rfl (by decide) (lw_25 hB s25 hC hx hm hzm hi hR hk)
    · exact VW_tsw (tgt := 854) hC dL_law_32 26 ej (by decide) (by decide) rfl (by decide) (lw_26 hB s26 hC hx hm hzm hi hR hk)
    · exact VW_tsw (tgt := 887) hC dL_law_32 27 ej (by decide) (by decide) rfl (by decide) (lw_27 hB s27 hC hx hm hzm hi hR hk)
    · exact VW_tsw (tgt := 910) hC dL_law_32 28 ej (by decide) (by decide) rfl (by decide) (lw_28 hB s28 hC hx hm hzm hi hR hk)
    · exact VW_tsw (tgt := 933) hC dL_law_32 29 ej (by decide) (by decide) rfl (by decide) (lw_29 hB s29 hC hx hm hzm hi hR hk)
    · exact VW_tsw (tgt := 956) hC dL_law_32 30 ej (by decide) (by decide) rfl (by decide) (lw_30 hB s30 hC hx hm hzm hi hR hk)
    · exact VW_tsw (tgt := 979) hC dL_law_32 31 ej (by decide) (by decide) rfl (by decide) (lw_31 hB s31 hC hx hm hzm hi hR hk)
