/-! ===== ChoiceBook$StateGraph, what may make rows: lifted and met ===== -/
theorem fk_X4_123 : FLK RX4 123 0 0 RX0 TX0 13 := ⟨rfl, uw_X0, by decide, rfl, gt_t 39 (by decide +kernel) rfl⟩
theorem fk_X4_25 : FLK RX4 25 3 5 RX4 TX4 17 := ⟨rfl, uw_X4, by decide, rfl, gt_t 187 (by decide +kernel) rfl⟩
theorem fk_X4_28 : FLK RX4 28 3 6 RX4 TX4 17 := ⟨rfl, uw_X4, by decide, rfl, gt_t 188 (by decide +kernel) rfl⟩
theorem lk_X4_86 : Cond.methodLink RX4 86 yX4_forgetResults ∈ gt := gt_t 513 (by decide +kernel) rfl
theorem me_X4_forgetResults : MEV RX4 yX4_forgetResults cX4_forgetResults 1 none 0 := ⟨⟨gt_t 516 (by decide +kernel) rfl, gt_t 5 (by decide +kernel) rfl, by decide +kernel⟩, gt_t 515 (by decide +kernel) rfl, gt_s (q := (yX4_forgetResults, 17)) 16 (by decide +kernel)⟩
theorem lk_X4_142 : Cond.methodLink RX4 142 yX4_find ∈ gt := gt_t 536 (by decide +kernel) rfl
theorem ck_X4_126 : Cond.constant RX4 126 (55296) ∈ gt := gt_t 543 (by decide +kernel) rfl
theorem mm_X4_145 : MML RX4 145 Lib.Math.min.name Lib.Math.min.code 2 := ⟨gt_t 544 (by decide +kernel) rfl, gt_t 530 (by decide +kernel) rfl, gt_t 13 (by decide +kernel) rfl, gt_t 531 (by decide +kernel) rfl⟩
theorem lk_X4_150 : Cond.methodLink RX4 150 yJ7_copyOf_59c91 ∈ gt := gt_t 545 (by decide +kernel) rfl
theorem fk_X4_53 : FLK RX4 53 3 14 RX4 TX4 17 := ⟨rfl, uw_X4, by decide, rfl, gt_t 196 (by decide +kernel) rfl⟩
theorem lk_X4_110 : Cond.methodLink RX4 110 yX4_leadsTo ∈ gt := gt_t 722 (by decide +kernel) rfl
theorem me_X4_leadsTo : MEV RX4 yX4_leadsTo cX4_leadsTo 4 (some .boolean) 2 := ⟨⟨gt_t 725 (by decide +kernel) rfl, gt_t 5 (by decide +kernel) rfl, by decide +kernel⟩, gt_t 724 (by decide +kernel) rfl, gt_s (q := (yX4_leadsTo, 17)) 27 (by decide +kernel)⟩
theorem lk_X4_157 : Cond.methodLink RX4 157 yX4_oddsBehindTurn ∈ gt := gt_t 691 (by decide +kernel) rfl
theorem me_X4_oddsBehindTurn : MEV RX4 yX4_oddsBehindTurn cX4_oddsBehindTurn 7 (some .int) 1 := ⟨⟨gt_t 694 (by decide +kernel) rfl, gt_t 5 (by decide +kernel) rfl, by decide +kernel⟩, gt_t 693 (by decide +kernel) rfl, gt_s (q := (yX4_oddsBehindTurn, 17)) 25 (by decide +kernel)⟩
theorem lk_X4_127 : Cond.methodLink RX4 127 yX0_waysFrom ∈ gt := gt_t 564 (by decide +kernel) rfl
theorem lk_X4_130 : Cond.methodLink RX4 130 yX0_wayOut ∈ gt := gt_t 568 (by decide +kernel) rfl
theorem lk_X4_134 : Cond.methodLink RX4 134 yX0_goOn ∈ gt := gt_t 587 (by decide +kernel) rfl
theorem lk_X4_79 : Cond.methodLink RX4 79 yX4_meet ∈ gt := gt_t 532 (by decide +kernel) rfl
theorem me_X4_meet : MEV RX4 yX4_meet cX4_meet 5 (some .int) 1 := ⟨⟨gt_t 535 (by decide +kernel) rfl, gt_t 5 (by decide +kernel) rfl, by decide +kernel⟩, gt_t 534 (by decide +kernel) rfl, gt_s (q := (yX4_meet, 17)) 18 (by decide +kernel)⟩
theorem lk_X4_138 : Cond.methodLink RX4 138 yX4_addWay ∈ gt := gt_t 594 (by decide +kernel) rfl
theorem me_X4_addWay : MEV RX4 yX4_addWay cX4_addWay 2 none 1 := ⟨⟨gt_t 597 (by decide +kernel) rfl, gt_t 5 (by decide +kernel) rfl, by decide +kernel⟩, gt_t 596 (by decide +kernel) rfl, gt_s (q := (yX4_addWay, 17)) 20 (by decide +kernel)⟩
theorem lk_X4_66 : Cond.methodLink RX4 66 yX4_forget ∈ gt := gt_t 506 (by decide +kernel) rfl
theorem me_X4_forget : MEV RX4 yX4_forget cX4_forget 3 none 0 := ⟨⟨gt_t 509 (by decide +kernel) rfl, gt_t 5 (by decide +kernel) rfl, by decide +kernel⟩, gt_t 508 (by decide +kernel) rfl, gt_s (q := (yX4_forget, 17)) 15 (by decide +kernel)⟩
theorem fk_X4_18 : FLK RX4 18 3 2 RX4 TX4 17 := ⟨rfl, uw_X4, by decide, rfl, gt_t 183 (by decide +kernel) rfl⟩
theorem lk_X4_69 : Cond.methodLink RX4 69 yX0_hasPart ∈ gt := gt_t 517 (by decide +kernel) rfl
theorem lk_X4_75 : Cond.methodLink RX4 75 yX0_beginning ∈ gt := gt_t 518 (by decide +kernel) rfl
theorem lk_X4_82 : Cond.methodLink RX4 82 yX4_spread ∈ gt := gt_t 557 (by decide +kernel) rfl
theorem me_X4_spread : MEV RX4 yX4_spread cX4_spread 11 (some .boolean) 4 := ⟨⟨gt_t 560 (by decide +kernel) rfl, gt_t 5 (by decide +kernel) rfl, by decide +kernel⟩, gt_t 559 (by decide +kernel) rfl, gt_s (q := (yX4_spread, 17)) 19 (by decide +kernel)⟩
theorem fk_X4_15 : FLK RX4 15 3 1 RX4 TX4 17 := ⟨rfl, uw_X4, by decide, rfl, gt_t 181 (by decide +kernel) rfl⟩
theorem lk_X4_97 : Cond.methodLink RX4 97 yX4_startOdds ∈ gt := gt_t 674 (by decide +kernel) rfl
theorem me_X4_startOdds : MEV RX4 yX4_startOdds cX4_startOdds 2 none 0 := ⟨⟨gt_t 677 (by decide +kernel) rfl, gt_t 5 (by decide +kernel) rfl, by decide +kernel⟩, gt_t 676 (by decide +kernel) rfl, gt_s (q := (yX4_startOdds, 17)) 21 (by decide +kernel)⟩
theorem lk_X4_100 : Cond.methodLink RX4 100 yX4_runOneTurn ∈ gt := gt_t 687 (by decide +kernel) rfl
theorem me_X4_runOneTurn : MEV RX4 yX4_runOneTurn cX4_runOneTurn 4 none 0 := ⟨⟨gt_t 690 (by decide +kernel) rfl, gt_t 5 (by decide +kernel) rfl, by decide +kernel⟩, gt_t 689 (by decide +kernel) rfl, gt_s (q := (yX4_runOneTurn, 17)) 24 (by decide +kernel)⟩
theorem lk_X4_114 : Cond.methodLink RX4 114 yX4_measureWins ∈ gt := gt_t 748 (by decide +kernel) rfl
theorem me_X4_measureWins : MEV RX4 yX4_measureWins cX4_measureWins 4 none 0 := ⟨⟨gt_t 721 (by decide +kernel) rfl, gt_t 5 (by decide +kernel) rfl, by decide +kernel⟩, gt_t 719 (by decide +kernel) rfl, gt_t 720 (by decide +kernel) rfl⟩
def t_X4_forget_74 (o : Nat)   (L : Nat → Nat) (d : Dt) : Option (((Nat → Nat) × Dt) × Nat × Nat) := bd (sF d o 4 0) (fun d16 => bd (sF d16 o 5 0) (fun d17 => bd (sF d17 o 6 0) (fun d18 => (t_X4_forgetResults L d18 o).bind (fun d19 => some ((L, d19), 0, 0)))))
set_option maxRecDepth 20000 in
theorem b_X4_forget_74 {K : Kx} {Y : Yx} {z0 : Sh} {kT nT : Nat} (hC : CK K Y cX4_forget 3 RX4 1 20) (hr : (kme K).sig.returnType = none) {o : Nat} (ho : (0, o, 3) ∈ yI Y) {L' : Nat → Nat} {d' : Dt} (hA : CA K Y z0 kT nT (none) L' d')    (L : Nat → Nat) (d : Dt) (ad : Nat → Nat) (k n kc ns : Nat) (hf : t_X4_forget_74 o   L d = some ((L', d'), kc, ns)) (hkT : k + kc = kT) (hnT : n + ns = nT) : V K Y 3 k n (L, ad) d 74 [(0, .ref (yo Y o))] [] := by
  have hL := hC.2.2.2.2.2.2.1
  unfold t_X4_forget_74 at hf
  refine V_aload_n 0 hC dX4_forget_74 rfl rfl ?_
  refine V_iconst (v := 0) hC dX4_forget_75 rfl ?_
  refine V_puti (o := o) hC ho rfl fk_X4_22 pl_X4 rfl rfl dX4_forget_76 (fun d16 ed16 => ?_)
  have hf := bd_e hf d16 ed16
  refine V_aload_n 0 hC dX4_forget_79 rfl rfl ?_
  refine V_iconst (v := 0) hC dX4_forget_80 rfl ?_
  refine V_puti (o := o) hC ho rfl fk_X4_25 pl_X4 rfl rfl dX4_forget_81 (fun d17 ed17 => ?_)
  have hf := bd_e hf d17 ed17
  refine V_aload_n 0 hC dX4_forget_84 rfl rfl ?_
  refine V_iconst (v := 0) hC dX4_forget_85 rfl ?_
  refine V_puti (o := o) hC ho rfl fk_X4_28 pl_X4 rfl rfl dX4_forget_86 (fun d18 ed18 => ?_)
  have hf := bd_e hf d18 ed18
  refine V_aload_n 0 hC dX4_forget_89 rfl rfl ?_
  obtain ⟨d19, ed19, hf⟩ := bi_some hf
  refine V_invv (o := o) (As := []) (rest := []) hC (c_X4_forgetResults hL ho ed19) me_X4_forgetResults lk_X4_86 ho rfl rfl rfl (Nat.le_of_ble_eq_true rfl) ⟨by decide, by decide⟩ ⟨by rw [hA.2.2.1]; omega, by rw [hA.2.2.2]; omega⟩ dX4_forget_90 ?_
  obtain ⟨rfl, rfl, rfl, rfl⟩ := so_injAv hf
  exact V_vretA hC hr hA (by omega) (by omega) dX4_forget_93
def t_X4_forget_40 (o : Nat) (k2 : Int32 → (Nat → Nat) → (Dt) → Option (((Nat → Nat) × Dt) × Nat × Nat)) (x1 : Int32) (L : Nat → Nat) (d : Dt) : Option (((Nat → Nat) × Dt) × Nat × Nat) := k2 (x1 + 1) L d
set_option maxRecDepth 20000 in
theorem b_X4_forget_40 {K : Kx} {Y : Yx} {z0 : Sh} {kT nT : Nat} (hC : CK K Y cX4_forget 3 RX4 1 20) (hr : (kme K).sig.returnType = none) {o : Nat} (ho : (0, o, 3) ∈ yI Y) {L' : Nat → Nat} {d' : Dt} (hA : CA K Y z0 kT nT (none) L' d') {k2 : Int32 → (Nat → Nat) → (Dt) → Option (((Nat → Nat) × Dt) × Nat × Nat)} (hk2 : ∀ (x1 : Int32) (L : Nat → Nat) (d : Dt) (ad : Nat → Nat) (k n kc ns : Nat), k2 x1 L d = some ((L', d'), kc, ns) → k + kc = kT → n + ns = nT → V K Y 3 k n (L, ad) d 2 [(0, .ref (yo Y o)), (1, .int x1)] []) (x1 : Int32) (L : Nat → Nat) (d : Dt) (ad : Nat → Nat) (k n kc ns : Nat) (hf : t_X4_forget_40 o k2 x1 L d = some ((L', d'), kc, ns)) (hkT : k + kc = kT) (hnT : n + ns = nT) : V K Y 3 k n (L, ad) d 40 [(0, .ref (yo Y o)), (1, .int x1)] [] := by
  have hL := hC.2.2.2.2.2.2.1
  unfold t_X4_forget_40 at hf
  refine V_iinc (v := x1 + 1) (lv' := [(1, .int (x1 + 1)), (0, .ref (yo Y o))]) 1 hC dX4_forget_40 rfl rfl (by decide) rfl ?_
  refine V_goto (tgt := 2) hC dX4_forget_43 (by decide) ?_
  exact V_sub [1, 0] rfl (hk2 (x1 + 1) L d ad k n kc ns hf hkT hnT)
def t_X4_forget_2 (o : Nat) (k2 : Int32 → (Nat → Nat) → (Dt) → Option (((Nat → Nat) × Dt) × Nat × Nat)) (x1 : Int32) (L : Nat → Nat) (d : Dt) : Option (((Nat → Nat) × Dt) × Nat × Nat) := if (gF d o 4) ≤ x1 then bd ((gF d 6 0) * 2304) (fun y2 => if y2 ≤ (nI (L (32 * o + 10))) then t_X4_forget_74 o  L d else gd (inb y2 100000000) (bd (upL L (32 * o + 10) (ix y2)) (fun L5 => bd (sR d (32 * o + 10) (fun _ => 0)) (fun d6 => al 1 (ix y2) (t_X4_forget_74 o  L5 d6))))) else gd (inb x1 (L (32 * o + 7))) ((t_X4_slotOf L d (gA d (32 * o + 7) (ix x1))).bind (fun v11 => if v11 < 0 then t_X4_forget_40 o k2 x1 L d else if (nI (L (32 * o + 10))) ≤ v11 then t_X4_forget_40 o k2 x1 L d else gd (inb v11 (L (32 * o + 10))) (bd (sA d (32 * o + 10) (ix v11) 0) (fun d15 => t_X4_forget_40 o k2 x1 L d15))))
set_option maxRecDepth 20000 in
theorem b_X4_forget_2 {K : Kx} {Y : Yx} {z0 : Sh} {kT nT : Nat} (hC : CK K Y cX4_forget 3 RX4 1 20) (hr : (kme K).sig.returnType = none) {o : Nat} (ho : (0, o, 3) ∈ yI Y) {L' : Nat → Nat} {d' : Dt} (hA : CA K Y z0 kT nT (none) L' d') {k2 : Int32 → (Nat → Nat) → (Dt) → Option (((Nat → Nat) × Dt) × Nat × Nat)} (hk2 : ∀ (x1 : Int32) (L : Nat → Nat) (d : Dt) (ad : Nat → Nat) (k n kc ns : Nat), k2 x1 L d = some ((L', d'), kc, ns) → k + kc = kT → n + ns = nT → V K Y 3 k n (L, ad) d 2 [(0, .ref (yo Y o)), (1, .int x1)] []) (x1 : Int32) (L : Nat → Nat) (d : Dt) (ad : Nat → Nat) (k n kc ns : Nat) (hf : t_X4_forget_2 o k2 x1 L d = some ((L', d'), kc, ns)) (hkT : k + kc = kT) (hnT : n + ns = nT) : V K Y 3 k n (L, ad) d 2 [(0, .ref (yo Y o)), (1, .int x1)] [] := by
  have hL := hC.2.2.2.2.2.2.1
  unfold t_X4_forget_2 at hf
  refine V_iload_n 1 hC dX4_forget_2 rfl rfl ?_
  refine V_aload_n 0 hC dX4_forget_3 rfl rfl ?_
  refine V_geti (o := o) hC ho rfl fk_X4_22 dX4_forget_4 ?_
  refine V_icmp_ge (tgt := 46) hC dX4_forget_7 (by decide) (fun c1 => ?_) (fun c1 => ?_)
  · have hf := if_t hf c1
    refine V_aload_n 0 hC dX4_forget_46 rfl rfl ?_
    refine V_geto (o := o) (o2 := 6) hC ho rfl fk_X4_62 rfl dX4_forget_47 ?_
    refine V_geti (o := 6) hC (show (0, 6, 0) ∈ yI Y from hL.obj (j := 3) ho rfl) rfl fk_X4_123 dX4_forget_50 ?_
    refine V_sipush (v := 2304) hC dX4_forget_53 rfl ?_
    refine V_imul hC dX4_forget_56 ?_
    refine V_topi (fun y2 ey2 => ?_)
    have hf := bd_e hf y2 ey2
    refine V_istore_n (lv' := [(1, .int y2), (0, .ref (yo Y o))]) hC dX4_forget_57 rfl (by decide) rfl ?_
    refine V_aload_n 1 hC dX4_forget_58 rfl rfl ?_
    refine V_geta (o := o) hC ho rfl fk_X4_41 dX4_forget_59 ?_
    refine V_alenA (a := (32 * o + 10)) hC (hL.row ho rfl) (by decide) dX4_forget_62 ?_
    refine V_iload_n 0 hC dX4_forget_63 rfl rfl ?_
    refine V_icmp_ge (tgt := 74) hC dX4_forget_64 (by decide) (fun c3 => ?_) (fun c3 => ?_)
    · have hf := if_t hf c3
      exact V_sub [1] rfl (b_X4_forget_74 hC hr ho hA  L d ad k n kc ns hf hkT hnT)
    · have hf := if_f hf c3
      refine V_aload_n 1 hC dX4_forget_67 rfl rfl ?_
      refine V_iload_n 0 hC dX4_forget_68 rfl rfl ?_
      obtain ⟨g4, hf⟩ := gd_some hf
      obtain ⟨kc8, ns9, hf1, ekc8, ens9⟩ := al_some (bd_e (bd_e hf _ rfl) _ rfl)
      refine V_newputG (o := o) (a := 32 * o + 10) hC ho rfl rfl rfl fk_X4_41 pl_X4 rfl rfl ac_int g4 ⟨by rw [hA.2.2.1]; omega, by rw [hA.2.2.2]; omega⟩ hA.new dX4_forget_69 dX4_forget_71 (fun L5 ad7 d6 eL5 ed6 => ?_)
      obtain ⟨kc8, ns9, hf, ekc8, ens9⟩ := al_some (bd_e (bd_e hf L5 eL5) d6 ed6)
      have hkT : (k + 1) + kc8 = kT := by omega
      have hnT : (n + (ix y2)) + ns9 = nT := by omega
      exact V_sub [1] rfl (b_X4_forget_74 hC hr ho hA  L5 d6 ad7 (k + 1) (n + (ix y2)) kc8 ns9 hf hkT hnT)
  · have hf := if_f hf c1
    refine V_aload_n 0 hC dX4_forget_10 rfl rfl ?_
    refine V_geta (o := o) hC ho rfl fk_X4_31 dX4_forget_11 ?_
    refine V_iload_n 1 hC dX4_forget_14 rfl rfl ?_
    obtain ⟨g10, hf⟩ := gd_some hf
    refine V_iald (a := (32 * o + 7)) hC (hL.row ho rfl) g10 dX4_forget_15 ?_
    obtain ⟨v11, ev11, hf⟩ := bi_some hf
    refine V_insi (As := [.int (gA d (32 * o + 7) (ix x1))]) (rest := []) hC (c_X4_slotOf hL  ev11) me_X4_slotOf lk_X4_89 rfl rfl (Nat.le_of_ble_eq_true rfl) ⟨by decide, by decide⟩ ⟨by rw [hA.2.2.1]; omega, by rw [hA.2.2.2]; omega⟩ dX4_forget_16 ?_
    refine V_istore_n (lv' := [(2, .int v11), (0, .ref (yo Y o)), (1, .int x1)]) hC dX4_forget_19 rfl (by decide) rfl ?_
    refine V_iload_n 0 hC dX4_forget_20 rfl rfl ?_
    refine V_if_lt (tgt := 40) hC dX4_forget_21 (by decide) (fun c12 => ?_) (fun c12 => ?_)
    · have hf := if_t hf c12
      exact V_sub [1, 2] rfl (b_X4_forget_40 hC hr ho hA hk2 x1 L d ad k n kc ns hf hkT hnT)
    · have hf := if_f hf c12
      refine V_iload_n 0 hC dX4_forget_24 rfl rfl ?_
      refine V_aload_n 1 hC dX4_forget_25 rfl rfl ?_
      refine V_geta (o := o) hC ho rfl fk_X4_41 dX4_forget_26 ?_
      refine V_alenA (a := (32 * o + 10)) hC (hL.row ho rfl) (by decide) dX4_forget_29 ?_
      refine V_icmp_ge (tgt := 40) hC dX4_forget_30 (by decide) (fun c13 => ?_) (fun c13 => ?_)
      · have hf := if_t hf c13
        exact V_sub [1, 2] rfl (b_X4_forget_40 hC hr ho hA hk2 x1 L d ad k n kc ns hf hkT hnT)
      · have hf := if_f hf c13
        refine V_aload_n 1 hC dX4_forget_33 rfl rfl ?_
        refine V_geta (o := o) hC ho rfl fk_X4_41 dX4_forget_34 ?_
        refine V_iload_n 0 hC dX4_forget_37 rfl rfl ?_
        refine V_iconst (v := 0) hC dX4_forget_38 rfl ?_
        obtain ⟨g14, hf⟩ := gd_some hf
        refine V_iast (a := (32 * o + 10)) hC (hL.row ho rfl) g14 dX4_forget_39 (fun d15 ed15 => ?_)
        have hf := bd_e hf d15 ed15
        exact V_sub [1, 2] rfl (b_X4_forget_40 hC hr ho hA hk2 x1 L d15 ad k n kc ns hf hkT hnT)
def t_X4_forget (L : Nat → Nat) (d : Dt) (o : Nat) : Option (((Nat → Nat) × Dt) × Nat × Nat) := lp (fun k x => t_X4_forget_2 o  (fun x1 L d => k (x1, L, d)) x.1 x.2.1 x.2.2) FU (0, L, d)
set_option maxRecDepth 20000 in
theorem c_X4_forget {l : Launch} {Y : Yx} (hL : LAY Y) {L : Nat → Nat} {d : Dt} {o : Nat} (ho : (0, o, 3) ∈ yI Y) {L' : Nat → Nat} {d' : Dt} {kT nT : Nat} (hf : t_X4_forget L d o = some ((L', d'), kT, nT)) : MA l yX4_forget cX4_forget 3 none 1 20 Y L [.ref (yo Y o)] d (none) L' d' kT nT := by
  refine MA.ofV ho (by decide +kernel) hL (Nat.le_of_ble_eq_true rfl) (fun K ad hl hC hr hA => ?_)
  have hC : CK K Y cX4_forget 3 RX4 1 20 := hC
  have hkT : 0 + kT = kT := Nat.zero_add _
  have hnT : 0 + nT = nT := Nat.zero_add _
  unfold t_X4_forget at hf
  show V K Y 3 0 0 (L, ad) d 0 [(0, .ref (yo Y o))] []
  refine V_iconst (v := 0) hC dX4_forget_0 rfl ?_
  refine V_istore_n (lv' := [(1, .int 0), (0, .ref (yo Y o))]) hC dX4_forget_1 rfl (by decide) rfl ?_
  exact V_sub [1, 0] rfl (lp_indA (X := Int32 × (Nat → Nat) × Dt) (P := fun x kc ns => ∀ (ad : Nat → Nat) (k n : Nat), k + kc = kT → n + ns = nT → V K Y 3 k n (x.2.1, ad) x.2.2 2 [(0, .ref (yo Y o)), (1, .int x.1)] []) (fun kf x hk kc ns hx ad k n h1 h2 => b_X4_forget_2 hC hr ho hA  (k2 := fun x1 L d => kf (x1, L, d)) (fun x1 L d ad k n kc ns hx h1 h2 => hk (x1, L, d) kc ns hx ad k n h1 h2) x.1 x.2.1 x.2.2 ad k n kc ns hx h1 h2) FU (0, L, d) kT nT hf ad 0 0 hkT hnT)
def t_X4_meet_104 (o : Nat) (p1 : Int32)  (x3 : Int32) (L : Nat → Nat) (d : Dt) : Option ((Int32 × (Nat → Nat) × Dt) × Nat × Nat) := gd (inb (gF d o 4) (L (32 * o + 7))) (bd (sA d (32 * o + 7) (ix (gF d o 4)) p1) (fun d28 => bd (sF d28 o 4 ((gF d28 o 4) + 1)) (fun d29 => gd (inb x3 (L (32 * o + 10))) (bd (sA d29 (32 * o + 10) (ix x3) (gF d29 o 4)) (fun d31 => some (((gF d31 o 4) - 1, L, d31), 0, 0))))))
set_option maxRecDepth 20000 in
theorem b_X4_meet_104 {K : Kx} {Y : Yx} {z0 : Sh} {kT nT : Nat} (hC : CK K Y cX4_meet 5 RX4 2 82) (hr : (kme K).sig.returnType = some .int) {o : Nat} {p1 : Int32} (ho : (0, o, 3) ∈ yI Y) {r : Int32} {L' : Nat → Nat} {d' : Dt} (hA : CA K Y z0 kT nT (some (.int r)) L' d')   (x3 : Int32) (L : Nat → Nat) (d : Dt) (ad : Nat → Nat) (k n kc ns : Nat) (hf : t_X4_meet_104 o p1  x3 L d = some ((r, L', d'), kc, ns)) (hkT : k + kc = kT) (hnT : n + ns = nT) : V K Y 5 k n (L, ad) d 104 [(0, .ref (yo Y o)), (1, .int p1), (3, .int x3)] [] := by
  have hL := hC.2.2.2.2.2.2.1
  unfold t_X4_meet_104 at hf
  refine V_aload_n 0 hC dX4_meet_104 rfl rfl ?_
  refine V_geta (o := o) hC ho rfl fk_X4_31 dX4_meet_105 ?_
  refine V_aload_n 0 hC dX4_meet_108 rfl rfl ?_
  refine V_geti (o := o) hC ho rfl fk_X4_22 dX4_meet_109 ?_
  refine V_iload_n 1 hC dX4_meet_112 rfl rfl ?_
  obtain ⟨g27, hf⟩ := gd_some hf
  refine V_iast (a := (32 * o + 7)) hC (hL.row ho rfl) g27 dX4_meet_113 (fun d28 ed28 => ?_)
  have hf := bd_e hf d28 ed28
  refine V_aload_n 0 hC dX4_meet_114 rfl rfl ?_
  refine V_dup hC dX4_meet_115 rfl ?_
  refine V_geti (o := o) hC ho rfl fk_X4_22 dX4_meet_116 ?_
  refine V_iconst (v := 1) hC dX4_meet_119 rfl ?_
  refine V_iadd hC dX4_meet_120 ?_
  refine V_puti (o := o) hC ho rfl fk_X4_22 pl_X4 rfl rfl dX4_meet_121 (fun d29 ed29 => ?_)
  have hf := bd_e hf d29 ed29
  refine V_aload_n 0 hC dX4_meet_124 rfl rfl ?_
  refine V_geta (o := o) hC ho rfl fk_X4_41 dX4_meet_125 ?_
  refine V_iload_n 2 hC dX4_meet_128 rfl rfl ?_
  refine V_aload_n 0 hC dX4_meet_129 rfl rfl ?_
  refine V_geti (o := o) hC ho rfl fk_X4_22 dX4_meet_130 ?_
  obtain ⟨g30, hf⟩ := gd_some hf
  refine V_iast (a := (32 * o + 10)) hC (hL.row ho rfl) g30 dX4_meet_133 (fun d31 ed31 => ?_)
  have hf := bd_e hf d31 ed31
  refine V_aload_n 0 hC dX4_meet_134 rfl rfl ?_
  refine V_geti (o := o) hC ho rfl fk_X4_22 dX4_meet_135 ?_
  refine V_iconst (v := 1) hC dX4_meet_138 rfl ?_
  refine V_isub hC dX4_meet_139 ?_
  obtain ⟨rfl, rfl, rfl, rfl, rfl⟩ := so_injA hf
  exact V_iretA hC hr hA (by omega) (by omega) dX4_meet_140
def t_X4_meet (L : Nat → Nat) (d : Dt) (o : Nat) (p1 : Int32) : Option ((Int32 × (Nat → Nat) × Dt) × Nat × Nat) := (t_X4_find L d o p1).bind (fun v1 => (t_X4_slotOf L d p1).bind (fun v2 => if v1 = (-1) then (t_X3_fateOf L d p1).bind (fun v4 => if v4 = 2 then some ((v1, L, d), 0, 0) else if 55296 ≤ (gF d o 4) then some (((-1), L, d), 0, 0) else if v2 < 0 then some (((-1), L, d), 0, 0) else if v2 < (nI (L (32 * o + 10))) then if (gF d o 4) < (nI (L (32 * o + 7))) then t_X4_meet_104 o p1  v2 L d else bd (if (2 * (nI (L (32 * o + 7)))) < 55296 then (2 * (nI (L (32 * o + 7)))) else 55296) (fun y10 => gd (inb y10 100000000) (gd (decide (L (32 * o + 7) < 100000000)) (gd (!decide (ix y10 = L (32 * o + 7))) (bd (upL L (32 * o + 7) (ix y10)) (fun L14 => bd (sR d (32 * o + 7) (va_cpy (gA d (32 * o + 7)) (fun _ => 0) 0 0 (min (L (32 * o + 7)) (ix y10)))) (fun d15 => al 1 (ix y10) (gd (inb (y10 + 1) 100000000) (gd (decide (L14 (32 * o + 8) < 100000000)) (gd (!decide (ix (y10 + 1) = L14 (32 * o + 8))) (bd (upL L14 (32 * o + 8) (ix (y10 + 1))) (fun L22 => bd (sR d15 (32 * o + 8) (va_cpy (gA d15 (32 * o + 8)) (fun _ => 0) 0 0 (min (L14 (32 * o + 8)) (ix (y10 + 1))))) (fun d23 => al 1 (ix (y10 + 1)) (t_X4_meet_104 o p1  v2 L22 d23))))))))))))) else some (((-1), L, d), 0, 0)) else some ((v1, L, d), 0, 0)))
set_option maxRecDepth 20000 in
theorem c_X4_meet {l : Launch} {Y : Yx} (hL : LAY Y) {L : Nat → Nat} {d : Dt} {o : Nat} {p1 : Int32} (ho : (0, o, 3) ∈ yI Y) {r : Int32} {L' : Nat → Nat} {d' : Dt} {kT nT : Nat} (hf : t_X4_meet L d o p1 = some ((r, L', d'), kT, nT)) : MA l yX4_meet cX4_meet 5 (some .int) 2 82 Y L [.ref (yo Y o), .int p1] d (some (.int r)) L' d' kT nT := by
  refine MA.ofV ho (by decide +kernel) hL (Nat.le_of_ble_eq_true rfl) (fun K ad hl hC hr hA => ?_)
  have hC : CK K Y cX4_meet 5 RX4 2 82 := hC
  have hkT : 0 + kT = kT := Nat.zero_add _
  have hnT : 0 + nT = nT := Nat.zero_add _
  unfold t_X4_meet at hf
  show V K Y 5 0 0 (L, ad) d 0 [(0, .ref (yo Y o)), (1, .int p1)] []
  refine V_aload_n 0 hC dX4_meet_0 rfl rfl ?_
  refine V_iload_n 1 hC dX4_meet_1 rfl rfl ?_
  obtain ⟨v1, ev1, hf⟩ := bi_some hf
  refine V_invi (o := o) (As := [.int p1]) (rest := []) hC (c_X4_find hL ho ev1) me_X4_find lk_X4_142 ho rfl rfl rfl (Nat.le_of_ble_eq_true rfl) ⟨by decide, by decide⟩ ⟨by rw [hA.2.2.1]; omega, by rw [hA.2.2.2]; omega⟩ dX4_meet_2 ?_
  refine V_istore_n (lv' := [(2, .int v1), (0, .ref (yo Y o)), (1, .int p1)]) hC dX4_meet_5 rfl (by decide) rfl ?_
  refine V_iload_n 2 hC dX4_meet_6 rfl rfl ?_
  obtain ⟨v2, ev2, hf⟩ := bi_some hf
  refine V_insi (As := [.int p1]) (rest := []) hC (c_X4_slotOf hL  ev2) me_X4_slotOf lk_X4_89 rfl rfl (Nat.le_of_ble_eq_true rfl) ⟨by decide, by decide⟩ ⟨by rw [hA.2.2.1]; omega, by rw [hA.2.2.2]; omega⟩ dX4_meet_7 ?_
  refine V_istore_n (lv' := [(3, .int v2), (2, .int v1), (0, .ref (yo Y o)), (1, .int p1)]) hC dX4_meet_10 rfl (by decide) rfl ?_
  refine V_iload_n 1 hC dX4_meet_11 rfl rfl ?_
  refine V_iconst (v := -1) hC dX4_meet_12 rfl ?_
  refine V_icmp_ne (tgt := 24) hC dX4_meet_13 (by decide) (fun c3 => ?_) (fun c3 => ?_)
  · have hf := if_f hf c3
    refine V_iload_n 1 hC dX4_meet_24 rfl rfl ?_
    obtain ⟨rfl, rfl, rfl, rfl, rfl⟩ := so_injA hf
    exact V_iretA hC hr hA (by omega) (by omega) dX4_meet_25
  · have hf := if_t hf c3
    refine V_iload_n 3 hC dX4_meet_16 rfl rfl ?_
    obtain ⟨v4, ev4, hf⟩ := bi_some hf
    refine V_insi (As := [.int p1]) (rest := []) hC (c_X3_fateOf hL  ev4) me_X3_fateOf lk_X4_92 rfl rfl (Nat.le_of_ble_eq_true rfl) ⟨by decide, by decide⟩ ⟨by rw [hA.2.2.1]; omega, by rw [hA.2.2.2]; omega⟩ dX4_meet_17 ?_
    refine V_iconst (v := 2) hC dX4_meet_20 rfl ?_
    refine V_icmp_ne (tgt := 26) hC dX4_meet_21 (by decide) (fun c5 => ?_) (fun c5 => ?_)
    · have hf := if_f hf c5
      refine V_aload_n 2 hC dX4_meet_26 rfl rfl ?_
      refine V_geti (o := o) hC ho rfl fk_X4_22 dX4_meet_27 ?_
      refine V_ldc hC ck_X4_126 dX4_meet_30 ?_
      refine V_icmp_ge (tgt := 48) hC dX4_meet_32 (by decide) (fun c6 => ?_) (fun c6 => ?_)
      · have hf := if_t hf c6
        refine V_iconst (v := -1) hC dX4_meet_48 rfl ?_
        obtain ⟨rfl, rfl, rfl, rfl, rfl⟩ := so_injA hf
        exact V_iretA hC hr hA (by omega) (by omega) dX4_meet_49
      · have hf := if_f hf c6
        refine V_iload_n 0 hC dX4_meet_35 rfl rfl ?_
        refine V_if_lt (tgt := 48) hC dX4_meet_36 (by decide) (fun c7 => ?_) (fun c7 => ?_)
        · have hf := if_t hf c7
          refine V_iconst (v := -1) hC dX4_meet_48 rfl ?_
          obtain ⟨rfl, rfl, rfl, rfl, rfl⟩ := so_injA hf
          exact V_iretA hC hr hA (by omega) (by omega) dX4_meet_49
        · have hf := if_f hf c7
          refine V_iload_n 0 hC dX4_meet_39 rfl rfl ?_
          refine V_aload_n 2 hC dX4_meet_40 rfl rfl ?_
          refine V_geta (o := o) hC ho rfl fk_X4_41 dX4_meet_41 ?_
          refine V_alenA (a := (32 * o + 10)) hC (hL.row ho rfl) (by decide) dX4_meet_44 ?_
          refine V_icmp_lt (tgt := 50) hC dX4_meet_45 (by decide) (fun c8 => ?_) (fun c8 => ?_)
          · have hf := if_t hf c8
            refine V_aload_n 2 hC dX4_meet_50 rfl rfl ?_
            refine V_geti (o := o) hC ho rfl fk_X4_22 dX4_meet_51 ?_
            refine V_aload_n 2 hC dX4_meet_54 rfl rfl ?_
            refine V_geta (o := o) hC ho rfl fk_X4_31 dX4_meet_55 ?_
            refine V_alenA (a := (32 * o + 7)) hC (hL.row ho rfl) (by decide) dX4_meet_58 ?_
            refine V_icmp_lt (tgt := 104) hC dX4_meet_59 (by decide) (fun c9 => ?_) (fun c9 => ?_)
            · have hf := if_t hf c9
              exact V_sub [2, 3, 0] rfl (b_X4_meet_104 hC hr ho hA  v2 L d ad 0 0 kT nT hf hkT hnT)
            · have hf := if_f hf c9
              refine V_ldc hC ck_X4_126 dX4_meet_62 ?_
              refine V_iconst (v := 2) hC dX4_meet_64 rfl ?_
              refine V_aload_n 2 hC dX4_meet_65 rfl rfl ?_
              refine V_geta (o := o) hC ho rfl fk_X4_31 dX4_meet_66 ?_
              refine V_alenA (a := (32 * o + 7)) hC (hL.row ho rfl) (by decide) dX4_meet_69 ?_
              refine V_imul hC dX4_meet_70 ?_
              refine V_mmin hC mm_X4_145 (by decide) (Nat.le_of_ble_eq_true rfl) ⟨by rw [hA.2.2.1]; omega, by rw [hA.2.2.2]; omega⟩ dX4_meet_71 ?_
              refine V_topi (fun y10 ey10 => ?_)
              have hf := bd_e hf y10 ey10
              refine V_istore (lv' := [(4, .int y10), (3, .int v2), (2, .int v1), (0, .ref (yo Y o)), (1, .int p1)]) hC dX4_meet_74 (by decide) rfl ?_
              refine V_aload_n 3 hC dX4_meet_76 rfl rfl ?_
              refine V_aload_n 3 hC dX4_meet_77 rfl rfl ?_
              refine V_geta (o := o) hC ho rfl fk_X4_31 dX4_meet_78 ?_
              refine V_iload 0 hC dX4_meet_81 rfl ?_
              obtain ⟨g11, hf⟩ := gd_some hf
              obtain ⟨g12, hf⟩ := gd_some hf
              obtain ⟨g13, hf⟩ := gd_some hf
              obtain ⟨kc17, ns18, hf1, ekc17, ens18⟩ := al_some (bd_e (bd_e hf _ rfl) _ rfl)
              refine V_copyputG (o := o) (a := 32 * o + 7) hC hA.new lk_X4_150 me_J7_copyOf_59c91 ho rfl rfl rfl fk_X4_31 pl_X4 rfl rfl g11 g12 g13 ⟨by decide, by decide⟩ (Nat.le_of_ble_eq_true rfl) ⟨by rw [hA.2.2.1]; omega, by rw [hA.2.2.2]; omega⟩ dX4_meet_83 dX4_meet_86 (fun L14 ad16 d15 eL14 ed15 => ?_)
              obtain ⟨kc17, ns18, hf, ekc17, ens18⟩ := al_some (bd_e (bd_e hf L14 eL14) d15 ed15)
              have hkT : (0 + 1) + kc17 = kT := by omega
              have hnT : (0 + (ix y10)) + ns18 = nT := by omega
              refine V_aload_n 3 hC dX4_meet_89 rfl rfl ?_
              refine V_aload_n 3 hC dX4_meet_90 rfl rfl ?_
              refine V_geta (o := o) hC ho rfl fk_X4_35 dX4_meet_91 ?_
              refine V_iload 0 hC dX4_meet_94 rfl ?_
              refine V_iconst (v := 1) hC dX4_meet_96 rfl ?_
              refine V_iadd hC dX4_meet_97 ?_
              obtain ⟨g19, hf⟩ := gd_some hf
              obtain ⟨g20, hf⟩ := gd_some hf
              obtain ⟨g21, hf⟩ := gd_some hf
              obtain ⟨kc25, ns26, hf1, ekc25, ens26⟩ := al_some (bd_e (bd_e hf _ rfl) _ rfl)
              refine V_copyputG (o := o) (a := 32 * o + 8) hC hA.new lk_X4_150 me_J7_copyOf_59c91 ho rfl rfl rfl fk_X4_35 pl_X4 rfl rfl g19 g20 g21 ⟨by decide, by decide⟩ (Nat.le_of_ble_eq_true rfl) ⟨by rw [hA.2.2.1]; omega, by rw [hA.2.2.2]; omega⟩ dX4_meet_98 dX4_meet_101 (fun L22 ad24 d23 eL22 ed23 => ?_)
              obtain ⟨kc25, ns26, hf, ekc25, ens26⟩ := al_some (bd_e (bd_e hf L22 eL22) d23 ed23)
              have hkT : ((0 + 1) + 1) + kc25 = kT := by omega
              have hnT : ((0 + (ix y10)) + (ix (y10 + 1))) + ns26 = nT := by omega
              exact V_sub [3, 4, 1] rfl (b_X4_meet_104 hC hr ho hA  v2 L22 d23 ad24 ((0 + 1) + 1) ((0 + (ix y10)) + (ix (y10 + 1))) kc25 ns26 hf hkT hnT)
          · have hf := if_f hf c8
            refine V_iconst (v := -1) hC dX4_meet_48 rfl ?_
            obtain ⟨rfl, rfl, rfl, rfl, rfl⟩ := so_injA hf
            exact V_iretA hC hr hA (by omega) (by omega) dX4_meet_49
    · have hf := if_t hf c5
      refine V_iload_n 1 hC dX4_meet_24 rfl rfl ?_
      obtain ⟨rfl, rfl, rfl, rfl, rfl⟩ := so_injA hf
      exact V_iretA hC hr hA (by omega) (by omega) dX4_meet_25
def t_X4_addWay_30 (o : Nat) (p1 : Int32)   (L : Nat → Nat) (d : Dt) : Option (((Nat → Nat) × Dt) × Nat × Nat) := gd (inb (gF d o 5) (L (32 * o + 9))) (bd (sA d (32 * o + 9) (ix (gF d o 5)) p1) (fun d11 => bd (sF d11 o 5 ((gF d11 o 5) + 1)) (fun d12 => some ((L, d12), 0, 0))))
set_option maxRecDepth 20000 in
theorem b_X4_addWay_30 {K : Kx} {Y : Yx} {z0 : Sh} {kT nT : Nat} (hC : CK K Y cX4_addWay 2 RX4 2 82) (hr : (kme K).sig.returnType = none) {o : Nat} {p1 : Int32} (ho : (0, o, 3) ∈ yI Y) {L' : Nat → Nat} {d' : Dt} (hA : CA K Y z0 kT nT (none) L' d')    (L : Nat → Nat) (d : Dt) (ad : Nat → Nat) (k n kc ns : Nat) (hf : t_X4_addWay_30 o p1   L d = some ((L', d'), kc, ns)) (hkT : k + kc = kT) (hnT : n + ns = nT) : V K Y 2 k n (L, ad) d 30 [(0, .ref (yo Y o)), (1, .int p1)] [] := by
  have hL := hC.2.2.2.2.2.2.1
  unfold t_X4_addWay_30 at hf
  refine V_aload_n 0 hC dX4_addWay_30 rfl rfl ?_
  refine V_geta (o := o) hC ho rfl fk_X4_38 dX4_addWay_31 ?_
  refine V_aload_n 0 hC dX4_addWay_34 rfl rfl ?_
  refine V_geti (o := o) hC ho rfl fk_X4_25 dX4_addWay_35 ?_
  refine V_iload_n 1 hC dX4_addWay_38 rfl rfl ?_
  obtain ⟨g10, hf⟩ := gd_some hf
  refine V_iast (a := (32 * o + 9)) hC (hL.row ho rfl) g10 dX4_addWay_39 (fun d11 ed11 => ?_)
  have hf := bd_e hf d11 ed11
  refine V_aload_n 0 hC dX4_addWay_40 rfl rfl ?_
  refine V_dup hC dX4_addWay_41 rfl ?_
  refine V_geti (o := o) hC ho rfl fk_X4_25 dX4_addWay_42 ?_
  refine V_iconst (v := 1) hC dX4_addWay_45 rfl ?_
  refine V_iadd hC dX4_addWay_46 ?_
  refine V_puti (o := o) hC ho rfl fk_X4_25 pl_X4 rfl rfl dX4_addWay_47 (fun d12 ed12 => ?_)
  have hf := bd_e hf d12 ed12
  obtain ⟨rfl, rfl, rfl, rfl⟩ := so_injAv hf
  exact V_vretA hC hr hA (by omega) (by omega) dX4_addWay_50
def t_X4_addWay (L : Nat → Nat) (d : Dt) (o : Nat) (p1 : Int32) : Option (((Nat → Nat) × Dt) × Nat × Nat) := if (gF d o 5) < (nI (L (32 * o + 9))) then t_X4_addWay_30 o p1  L d else gd (inb (2 * (nI (L (32 * o + 9)))) 100000000) (gd (decide (L (32 * o + 9) < 100000000)) (gd (!decide (ix (2 * (nI (L (32 * o + 9)))) = L (32 * o + 9))) (bd (upL L (32 * o + 9) (ix (2 * (nI (L (32 * o + 9)))))) (fun L5 => bd (sR d (32 * o + 9) (va_cpy (gA d (32 * o + 9)) (fun _ => 0) 0 0 (min (L (32 * o + 9)) (ix (2 * (nI (L (32 * o + 9)))))))) (fun d6 => al 1 (ix (2 * (nI (L (32 * o + 9))))) (t_X4_addWay_30 o p1  L5 d6))))))
set_option maxRecDepth 20000 in
theorem c_X4_addWay {l : Launch} {Y : Yx} (hL : LAY Y) {L : Nat → Nat} {d : Dt} {o : Nat} {p1 : Int32} (ho : (0, o, 3) ∈ yI Y) {L' : Nat → Nat} {d' : Dt} {kT nT : Nat} (hf : t_X4_addWay L d o p1 = some ((L', d'), kT, nT)) : MA l yX4_addWay cX4_addWay 2 none 2 82 Y L [.ref (yo Y o), .int p1] d (none) L' d' kT nT := by
  refine MA.ofV ho (by decide +kernel) hL (Nat.le_of_ble_eq_true rfl) (fun K ad hl hC hr hA => ?_)
  have hC : CK K Y cX4_addWay 2 RX4 2 82 := hC
  have hkT : 0 + kT = kT := Nat.zero_add _
  have hnT : 0 + nT = nT := Nat.zero_add _
  unfold t_X4_addWay at hf
  show V K Y 2 0 0 (L, ad) d 0 [(0, .ref (yo Y o)), (1, .int p1)] []
  refine V_aload_n 0 hC dX4_addWay_0 rfl rfl ?_
  refine V_geti (o := o) hC ho rfl fk_X4_25 dX4_addWay_1 ?_
  refine V_aload_n 0 hC dX4_addWay_4 rfl rfl ?_
  refine V_geta (o := o) hC ho rfl fk_X4_38 dX4_addWay_5 ?_
  refine V_alenA (a := (32 * o + 9)) hC (hL.row ho rfl) (by decide) dX4_addWay_8 ?_
  refine V_icmp_lt (tgt := 30) hC dX4_addWay_9 (by decide) (fun c1 => ?_) (fun c1 => ?_)
  · have hf := if_t hf c1
    exact b_X4_addWay_30 hC hr ho hA  L d ad 0 0 kT nT hf hkT hnT
  · have hf := if_f hf c1
    refine V_aload_n 0 hC dX4_addWay_12 rfl rfl ?_
    refine V_aload_n 0 hC dX4_addWay_13 rfl rfl ?_
    refine V_geta (o := o) hC ho rfl fk_X4_38 dX4_addWay_14 ?_
    refine V_iconst (v := 2) hC dX4_addWay_17 rfl ?_
    refine V_aload_n 0 hC dX4_addWay_18 rfl rfl ?_
    refine V_geta (o := o) hC ho rfl fk_X4_38 dX4_addWay_19 ?_
    refine V_alenA (a := (32 * o + 9)) hC (hL.row ho rfl) (by decide) dX4_addWay_22 ?_
    refine V_imul hC dX4_addWay_23 ?_
    obtain ⟨g2, hf⟩ := gd_some hf
    obtain ⟨g3, hf⟩ := gd_some hf
    obtain ⟨g4, hf⟩ := gd_some hf
    obtain ⟨kc8, ns9, hf1, ekc8, ens9⟩ := al_some (bd_e (bd_e hf _ rfl) _ rfl)
    refine V_copyputG (o := o) (a := 32 * o + 9) hC hA.new lk_X4_150 me_J7_copyOf_59c91 ho rfl rfl rfl fk_X4_38 pl_X4 rfl rfl g2 g3 g4 ⟨by decide, by decide⟩ (Nat.le_of_ble_eq_true rfl) ⟨by rw [hA.2.2.1]; omega, by rw [hA.2.2.2]; omega⟩ dX4_addWay_24 dX4_addWay_27 (fun L5 ad7 d6 eL5 ed6 => ?_)
    obtain ⟨kc8, ns9, hf, ekc8, ens9⟩ := al_some (bd_e (bd_e hf L5 eL5) d6 ed6)
    have hkT : (0 + 1) + kc8 = kT := by omega
    have hnT : (0 + (ix (2 * (nI (L (32 * o + 9)))))) + ns9 = nT := by omega
    exact b_X4_addWay_30 hC hr ho hA  L5 d6 ad7 (0 + 1) (0 + (ix (2 * (nI (L (32 * o + 9)))))) kc8 ns9 hf hkT hnT
def t_X4_startOdds_53 (o : Nat) (k26 : Int32 → (Nat → Nat) → (Dt) → Option (((Nat → Nat) × Dt) × Nat × Nat)) (x1 : Int32) (s0 : Int32) (s1 : Int32) (L : Nat → Nat) (d : Dt) : Option (((Nat → Nat) × Dt) × Nat × Nat) := gd (inb s1 (L (32 * o + 11))) (bd (sA d (32 * o + 11) (ix s1) s0) (fun d28 => k26 (x1 + 1) L d28))
set_option maxRecDepth 20000 in
theorem b_X4_startOdds_53 {K : Kx} {Y : Yx} {z0 : Sh} {kT nT : Nat} (hC : CK K Y cX4_startOdds 2 RX4 2 41) (hr : (kme K).sig.returnType = none) {o : Nat} (ho : (0, o, 3) ∈ yI Y) {L' : Nat → Nat} {d' : Dt} (hA : CA K Y z0 kT nT (none) L' d') {k26 : Int32 → (Nat → Nat) → (Dt) → Option (((Nat → Nat) × Dt) × Nat × Nat)} (hk26 : ∀ (x1 : Int32) (L : Nat → Nat) (d : Dt) (ad : Nat → Nat) (k n kc ns : Nat), k26 x1 L d = some ((L', d'), kc, ns) → k + kc = kT → n + ns = nT → V K Y 2 k n (L, ad) d 26 [(0, .ref (yo Y o)), (1, .int x1)] []) (x1 : Int32) (s0 : Int32) (s1 : Int32) (L : Nat → Nat) (d : Dt) (ad : Nat → Nat) (k n kc ns : Nat) (hf : t_X4_startOdds_53 o k26 x1 s0 s1 L d = some ((L', d'), kc, ns)) (hkT : k + kc = kT) (hnT : n + ns = nT) : V K Y 2 k n (L, ad) d 53 [(0, .ref (yo Y o)), (1, .int x1)] [.int s0, .int s1, .ref (gad (L, ad) (32 * o + 11))] := by
  have hL := hC.2.2.2.2.2.2.1
  unfold t_X4_startOdds_53 at hf
  obtain ⟨g27, hf⟩ := gd_some hf
  refine V_iast (a := (32 * o + 11)) hC (hL.row ho rfl) g27 dX4_startOdds_53 (fun d28 ed28 => ?_)
  have hf := bd_e hf d28 ed28
  refine V_iinc (v := x1 + 1) (lv' := [(1, .int (x1 + 1)), (0, .ref (yo Y o))]) 1 hC dX4_startOdds_54 rfl rfl (by decide) rfl ?_
  refine V_goto (tgt := 26) hC dX4_startOdds_57 (by decide) ?_
  exact V_sub [1, 0] rfl (hk26 (x1 + 1) L d28 ad k n kc ns hf hkT hnT)
def t_X4_startOdds_26 (o : Nat) (k26 : Int32 → (Nat → Nat) → (Dt) → Option (((Nat → Nat) × Dt) × Nat × Nat)) (x1 : Int32) (L : Nat → Nat) (d : Dt) : Option (((Nat → Nat) × Dt) × Nat × Nat) := if (gF d o 4) ≤ x1 then bd (sF d o 13 0) (fun d23 => bd (sF d23 o 14 0) (fun d24 => some ((L, d24), 0, 0))) else (t_X4_hasWon L d o x1).bind (fun v25 => if v25 = 0 then t_X4_startOdds_53 o k26 x1 0 x1 L d else t_X4_startOdds_53 o k26 x1 1000000 x1 L d)
set_option maxRecDepth 20000 in
theorem b_X4_startOdds_26 {K : Kx} {Y : Yx} {z0 : Sh} {kT nT : Nat} (hC : CK K Y cX4_startOdds 2 RX4 2 41) (hr : (kme K).sig.returnType = none) {o : Nat} (ho : (0, o, 3) ∈ yI Y) {L' : Nat → Nat} {d' : Dt} (hA : CA K Y z0 kT nT (none) L' d') {k26 : Int32 → (Nat → Nat) → (Dt) → Option (((Nat → Nat) × Dt) × Nat × Nat)} (hk26 : ∀ (x1 : Int32) (L : Nat → Nat) (d : Dt) (ad : Nat → Nat) (k n kc ns : Nat), k26 x1 L d = some ((L', d'), kc, ns) → k + kc = kT → n + ns = nT → V K Y 2 k n (L, ad) d 26 [(0, .ref (yo Y o)), (1, .int x1)] []) (x1 : Int32) (L : Nat → Nat) (d : Dt) (ad : Nat → Nat) (k n kc ns : Nat) (hf : t_X4_startOdds_26 o k26 x1 L d = some ((L', d'), kc, ns)) (hkT : k + kc = kT) (hnT : n + ns = nT) : V K Y 2 k n (L, ad) d 26 [(0, .ref (yo Y o)), (1, .int x1)] [] := by
  have hL := hC.2.2.2.2.2.2.1
  unfold t_X4_startOdds_26 at hf
  refine V_iload_n 1 hC dX4_startOdds_26 rfl rfl ?_
  refine V_aload_n 0 hC dX4_startOdds_27 rfl rfl ?_
  refine V_geti (o := o) hC ho rfl fk_X4_22 dX4_startOdds_28 ?_
  refine V_icmp_ge (tgt := 60) hC dX4_startOdds_31 (by decide) (fun c22 => ?_) (fun c22 => ?_)
  · have hf := if_t hf c22
    refine V_aload_n 0 hC dX4_startOdds_60 rfl rfl ?_
    refine V_iconst (v := 0) hC dX4_startOdds_61 rfl ?_
    refine V_puti (o := o) hC ho rfl fk_X4_50 pl_X4 rfl rfl dX4_startOdds_62 (fun d23 ed23 => ?_)
    have hf := bd_e hf d23 ed23
    refine V_aload_n 0 hC dX4_startOdds_65 rfl rfl ?_
    refine V_iconst (v := 0) hC dX4_startOdds_66 rfl ?_
    refine V_putz (o := o) hC ho rfl fk_X4_53 pl_X4 rfl rfl rfl dX4_startOdds_67 (fun d24 ed24 => ?_)
    have hf := bd_e hf d24 ed24
    obtain ⟨rfl, rfl, rfl, rfl⟩ := so_injAv hf
    exact V_vretA hC hr hA (by omega) (by omega) dX4_startOdds_70
  · have hf := if_f hf c22
    refine V_aload_n 0 hC dX4_startOdds_34 rfl rfl ?_
    refine V_geta (o := o) hC ho rfl fk_X4_44 dX4_startOdds_35 ?_
    refine V_iload_n 1 hC dX4_startOdds_38 rfl rfl ?_
    refine V_aload_n 0 hC dX4_startOdds_39 rfl rfl ?_
    refine V_iload_n 1 hC dX4_startOdds_40 rfl rfl ?_
    obtain ⟨v25, ev25, hf⟩ := bi_some hf
    refine V_invi (o := o) (As := [.int x1]) (rest := [.int x1, .ref (gad (L, ad) (32 * o + 11))]) hC (c_X4_hasWon hL ho ev25) me_X4_hasWon lk_X4_107 ho rfl rfl rfl (Nat.le_of_ble_eq_true rfl) ⟨by decide, by decide⟩ ⟨by rw [hA.2.2.1]; omega, by rw [hA.2.2.2]; omega⟩ dX4_startOdds_41 ?_
    refine V_if_eq (tgt := 52) hC dX4_startOdds_44 (by decide) (fun c26 => ?_) (fun c26 => ?_)
    · have hf := if_t hf c26
      refine V_iconst (v := 0) hC dX4_startOdds_52 rfl ?_
      exact b_X4_startOdds_53 hC hr ho hA hk26 x1 0 x1 L d ad k n kc ns hf hkT hnT
    · have hf := if_f hf c26
      refine V_ldc hC ck_X4_156 dX4_startOdds_47 ?_
      refine V_goto (tgt := 53) hC dX4_startOdds_49 (by decide) ?_
      exact b_X4_startOdds_53 hC hr ho hA hk26 x1 1000000 x1 L d ad k n kc ns hf hkT hnT
def t_X4_startOdds (L : Nat → Nat) (d : Dt) (o : Nat) : Option (((Nat → Nat) × Dt) × Nat × Nat) := if nI (L (32 * o + 11)) < (gF d o 4) then gd (decide (L (32 * o + 7) < 100000000)) (bd (upL L (32 * o + 11) (L (32 * o + 7))) (fun L3 => bd (sR d (32 * o + 11) (fun _ => 0)) (fun d4 => al 1 (L (32 * o + 7)) (if nI (L3 (32 * o + 12)) < (gF d4 o 4) then gd (decide (L3 (32 * o + 7) < 100000000)) (bd (upL L3 (32 * o + 12) (L3 (32 * o + 7))) (fun L10 => bd (sR d4 (32 * o + 12) (fun _ => 0)) (fun d11 => al 1 (L3 (32 * o + 7)) (lp (fun k x => t_X4_startOdds_26 o  (fun x1 L d => k (x1, L, d)) x.1 x.2.1 x.2.2) FU (0, L10, d11))))) else lp (fun k x => t_X4_startOdds_26 o  (fun x1 L d => k (x1, L, d)) x.1 x.2.1 x.2.2) FU (0, L3, d4))))) else if nI (L (32 * o + 12)) < (gF d o 4) then gd (decide (L (32 * o + 7) < 100000000)) (bd (upL L (32 * o + 12) (L (32 * o + 7))) (fun L17 => bd (sR d (32 * o + 12) (fun _ => 0)) (fun d18 => al 1 (L (32 * o + 7)) (lp (fun k x => t_X4_startOdds_26 o  (fun x1 L d => k (x1, L, d)) x.1 x.2.1 x.2.2) FU (0, L17, d18))))) else lp (fun k x => t_X4_startOdds_26 o  (fun x1 L d => k (x1, L, d)) x.1 x.2.1 x.2.2) FU (0, L, d)
set_option maxRecDepth 20000 in
theorem c_X4_startOdds {l : Launch} {Y : Yx} (hL : LAY Y) {L : Nat → Nat} {d : Dt} {o : Nat} (ho : (0, o, 3) ∈ yI Y) {L' : Nat → Nat} {d' : Dt} {kT nT : Nat} (hf : t_X4_startOdds L d o = some ((L', d'), kT, nT)) : MA l yX4_startOdds cX4_startOdds 2 none 2 41 Y L [.ref (yo Y o)] d (none) L' d' kT nT := by
  refine MA.ofV ho (by decide +kernel) hL (Nat.le_of_ble_eq_true rfl) (fun K ad hl hC hr hA => ?_)
  have hC : CK K Y cX4_startOdds 2 RX4 2 41 := hC
  have hkT : 0 + kT = kT := Nat.zero_add _
  have hnT : 0 + nT = nT := Nat.zero_add _
  unfold t_X4_startOdds at hf
  show V K Y 2 0 0 (L, ad) d 0 [(0, .ref (yo Y o))] []
  refine V_aload_n 0 hC dX4_startOdds_0 rfl rfl ?_
  refine V_aload_n 0 hC dX4_startOdds_1 rfl rfl ?_
  refine V_aload_n 0 hC dX4_startOdds_2 rfl rfl ?_
  refine V_geta (o := o) hC ho rfl fk_X4_44 dX4_startOdds_3 ?_
  by_cases c1 : nI (L (32 * o + 11)) < (gF d o 4)
  · have hf := if_t hf c1
    obtain ⟨g2, hf⟩ := gd_some hf
    obtain ⟨kc6, ns7, hf1, ekc6, ens7⟩ := al_some (bd_e (bd_e hf _ rfl) _ rfl)
    refine V_roomNewG (o := o) (a := 32 * o + 11) hC hA.new ho rfl rfl rfl fk_X4_44 rfl rfl c1 g2 ⟨by decide, by decide⟩ (Nat.le_of_ble_eq_true rfl) ⟨by rw [hA.2.2.1]; omega, by rw [hA.2.2.2]; omega⟩ dX4_startOdds_6 dX4_startOdds_9 (fun L3 ad5 d4 eL3 ed4 => ?_)
    obtain ⟨kc6, ns7, hf, ekc6, ens7⟩ := al_some (bd_e (bd_e hf L3 eL3) d4 ed4)
    have hkT : (0 + 1) + kc6 = kT := by omega
    have hnT : (0 + (L (32 * o + 7))) + ns7 = nT := by omega
    refine V_aload_n 0 hC dX4_startOdds_12 rfl rfl ?_
    refine V_aload_n 0 hC dX4_startOdds_13 rfl rfl ?_
    refine V_aload_n 0 hC dX4_startOdds_14 rfl rfl ?_
    refine V_geta (o := o) hC ho rfl fk_X4_47 dX4_startOdds_15 ?_
    by_cases c8 : nI (L3 (32 * o + 12)) < (gF d4 o 4)
    · have hf := if_t hf c8
      obtain ⟨g9, hf⟩ := gd_some hf
      obtain ⟨kc13, ns14, hf1, ekc13, ens14⟩ := al_some (bd_e (bd_e hf _ rfl) _ rfl)
      refine V_roomNewG (o := o) (a := 32 * o + 12) hC hA.new ho rfl rfl rfl fk_X4_47 rfl rfl c8 g9 ⟨by decide, by decide⟩ (Nat.le_of_ble_eq_true rfl) ⟨by rw [hA.2.2.1]; omega, by rw [hA.2.2.2]; omega⟩ dX4_startOdds_18 dX4_startOdds_21 (fun L10 ad12 d11 eL10 ed11 => ?_)
      obtain ⟨kc13, ns14, hf, ekc13, ens14⟩ := al_some (bd_e (bd_e hf L10 eL10) d11 ed11)
      have hkT : ((0 + 1) + 1) + kc13 = kT := by omega
      have hnT : ((0 + (L (32 * o + 7))) + (L3 (32 * o + 7))) + ns14 = nT := by omega
      refine V_iconst (v := 0) hC dX4_startOdds_24 rfl ?_
      refine V_istore_n (lv' := [(1, .int 0), (0, .ref (yo Y o))]) hC dX4_startOdds_25 rfl (by decide) rfl ?_
      exact V_sub [1, 0] rfl (lp_indA (X := Int32 × (Nat → Nat) × Dt) (P := fun x kc ns => ∀ (ad : Nat → Nat) (k n : Nat), k + kc = kT → n + ns = nT → V K Y 2 k n (x.2.1, ad) x.2.2 26 [(0, .ref (yo Y o)), (1, .int x.1)] []) (fun kf x hk kc ns hx ad k n h1 h2 => b_X4_startOdds_26 hC hr ho hA  (k26 := fun x1 L d => kf (x1, L, d)) (fun x1 L d ad k n kc ns hx h1 h2 => hk (x1, L, d) kc ns hx ad k n h1 h2) x.1 x.2.1 x.2.2 ad k n kc ns hx h1 h2) FU (0, L10, d11) kc13 ns14 hf ad12 ((0 + 1) + 1) ((0 + (L (32 * o + 7))) + (L3 (32 * o + 7))) hkT hnT)
    · have hf := if_f hf c8
      refine V_roomSame (o := o) (a := 32 * o + 12) hC ho rfl rfl rfl fk_X4_47 rfl rfl c8 ⟨by decide, by decide⟩ (Nat.le_of_ble_eq_true rfl) ⟨by rw [hA.2.2.1]; omega, by rw [hA.2.2.2]; omega⟩ dX4_startOdds_18 dX4_startOdds_21 ?_
      refine V_iconst (v := 0) hC dX4_startOdds_24 rfl ?_
      refine V_istore_n (lv' := [(1, .int 0), (0, .ref (yo Y o))]) hC dX4_startOdds_25 rfl (by decide) rfl ?_
      exact V_sub [1, 0] rfl (lp_indA (X := Int32 × (Nat → Nat) × Dt) (P := fun x kc ns => ∀ (ad : Nat → Nat) (k n : Nat), k + kc = kT → n + ns = nT → V K Y 2 k n (x.2.1, ad) x.2.2 26 [(0, .ref (yo Y o)), (1, .int x.1)] []) (fun kf x hk kc ns hx ad k n h1 h2 => b_X4_startOdds_26 hC hr ho hA  (k26 := fun x1 L d => kf (x1, L, d)) (fun x1 L d ad k n kc ns hx h1 h2 => hk (x1, L, d) kc ns hx ad k n h1 h2) x.1 x.2.1 x.2.2 ad k n kc ns hx h1 h2) FU (0, L3, d4) kc6 ns7 hf ad5 (0 + 1) (0 + (L (32 * o + 7))) hkT hnT)
  · have hf := if_f hf c1
    refine V_roomSame (o := o) (a := 32 * o + 11) hC ho rfl rfl rfl fk_X4_44 rfl rfl c1 ⟨by decide, by decide⟩ (Nat.le_of_ble_eq_true rfl) ⟨by rw [hA.2.2.1]; omega, by rw [hA.2.2.2]; omega⟩ dX4_startOdds_6 dX4_startOdds_9 ?_
    refine V_aload_n 0 hC dX4_startOdds_12 rfl rfl ?_
    refine V_aload_n 0 hC dX4_startOdds_13 rfl rfl ?_
    refine V_aload_n 0 hC dX4_startOdds_14 rfl rfl ?_
    refine V_geta (o := o) hC ho rfl fk_X4_47 dX4_startOdds_15 ?_
    by_cases c15 : nI (L (32 * o + 12)) < (gF d o 4)
    · have hf := if_t hf c15
      obtain ⟨g16, hf⟩ := gd_some hf
      obtain ⟨kc20, ns21, hf1, ekc20, ens21⟩ := al_some (bd_e (bd_e hf _ rfl) _ rfl)
      refine V_roomNewG (o := o) (a := 32 * o + 12) hC hA.new ho rfl rfl rfl fk_X4_47 rfl rfl c15 g16 ⟨by decide, by decide⟩ (Nat.le_of_ble_eq_true rfl) ⟨by rw [hA.2.2.1]; omega, by rw [hA.2.2.2]; omega⟩ dX4_startOdds_18 dX4_startOdds_21 (fun L17 ad19 d18 eL17 ed18 => ?_)
      obtain ⟨kc20, ns21, hf, ekc20, ens21⟩ := al_some (bd_e (bd_e hf L17 eL17) d18 ed18)
      have hkT : (0 + 1) + kc20 = kT := by omega
      have hnT : (0 + (L (32 * o + 7))) + ns21 = nT := by omega
      refine V_iconst (v := 0) hC dX4_startOdds_24 rfl ?_
      refine V_istore_n (lv' := [(1, .int 0), (0, .ref (yo Y o))]) hC dX4_startOdds_25 rfl (by decide) rfl ?_
      exact V_sub [1, 0] rfl (lp_indA (X := Int32 × (Nat → Nat) × Dt) (P := fun x kc ns => ∀ (ad : Nat → Nat) (k n : Nat), k + kc = kT → n + ns = nT → V K Y 2 k n (x.2.1, ad) x.2.2 26 [(0, .ref (yo Y o)), (1, .int x.1)] []) (fun kf x hk kc ns hx ad k n h1 h2 => b_X4_startOdds_26 hC hr ho hA  (k26 := fun x1 L d => kf (x1, L, d)) (fun x1 L d ad k n kc ns hx h1 h2 => hk (x1, L, d) kc ns hx ad k n h1 h2) x.1 x.2.1 x.2.2 ad k n kc ns hx h1 h2) FU (0, L17, d18) kc20 ns21 hf ad19 (0 + 1) (0 + (L (32 * o + 7))) hkT hnT)
    · have hf := if_f hf c15
      refine V_roomSame (o := o) (a := 32 * o + 12) hC ho rfl rfl rfl fk_X4_47 rfl rfl c15 ⟨by decide, by decide⟩ (Nat.le_of_ble_eq_true rfl) ⟨by rw [hA.2.2.1]; omega, by rw [hA.2.2.2]; omega⟩ dX4_startOdds_18 dX4_startOdds_21 ?_
      refine V_iconst (v := 0) hC dX4_startOdds_24 rfl ?_
      refine V_istore_n (lv' := [(1, .int 0), (0, .ref (yo Y o))]) hC dX4_startOdds_25 rfl (by decide) rfl ?_
      exact V_sub [1, 0] rfl (lp_indA (X := Int32 × (Nat → Nat) × Dt) (P := fun x kc ns => ∀ (ad : Nat → Nat) (k n : Nat), k + kc = kT → n + ns = nT → V K Y 2 k n (x.2.1, ad) x.2.2 26 [(0, .ref (yo Y o)), (1, .int x.1)] []) (fun kf x hk kc ns hx ad k n h1 h2 => b_X4_startOdds_26 hC hr ho hA  (k26 := fun x1 L d => kf (x1, L, d)) (fun x1 L d ad k n kc ns hx h1 h2 => hk (x1, L, d) kc ns hx ad k n h1 h2) x.1 x.2.1 x.2.2 ad k n kc ns hx h1 h2) FU (0, L, d) kT nT hf ad 0 0 hkT hnT)
def t_X4_measureWins_125 (o : Nat)   (L : Nat → Nat) (d : Dt) : Option (((Nat → Nat) × Dt) × Nat × Nat) := bd (sF d o 16 1) (fun d16 => some ((L, d16), 0, 0))
set_option maxRecDepth 20000 in
theorem b_X4_measureWins_125 {K : Kx} {Y : Yx} {z0 : Sh} {kT nT : Nat} (hC : CK K Y cX4_measureWins 4 RX4 2 44) (hr : (kme K).sig.returnType = none) {o : Nat} (ho : (0, o, 3) ∈ yI Y) {L' : Nat → Nat} {d' : Dt} (hA : CA K Y z0 kT nT (none) L' d')    (L : Nat → Nat) (d : Dt) (ad : Nat → Nat) (k n kc ns : Nat) (hf : t_X4_measureWins_125 o   L d = some ((L', d'), kc, ns)) (hkT : k + kc = kT) (hnT : n + ns = nT) : V K Y 4 k n (L, ad) d 125 [(0, .ref (yo Y o))] [] := by
  have hL := hC.2.2.2.2.2.2.1
  unfold t_X4_measureWins_125 at hf
  refine V_aload_n 0 hC dX4_measureWins_125 rfl rfl ?_
  refine V_iconst (v := 1) hC dX4_measureWins_126 rfl ?_
  refine V_putz (o := o) hC ho rfl fk_X4_59 pl_X4 rfl rfl rfl dX4_measureWins_127 (fun d16 ed16 => ?_)
  have hf := bd_e hf d16 ed16
  obtain ⟨rfl, rfl, rfl, rfl⟩ := so_injAv hf
  exact V_vretA hC hr hA (by omega) (by omega) dX4_measureWins_130
def t_X4_measureWins_113 (o : Nat) (k59 : Int32 → Int32 → (Nat → Nat) → (Dt) → Option (((Nat → Nat) × Dt) × Nat × Nat)) (k75 : Int32 → Int32 → Int32 → (Nat → Nat) → (Dt) → Option (((Nat → Nat) × Dt) × Nat × Nat)) (x1 : Int32) (x2 : Int32) (x3 : Int32) (L : Nat → Nat) (d : Dt) : Option (((Nat → Nat) × Dt) × Nat × Nat) := k75 x1 x2 (x3 + 1) L d
set_option maxRecDepth 20000 in
theorem b_X4_measureWins_113 {K : Kx} {Y : Yx} {z0 : Sh} {kT nT : Nat} (hC : CK K Y cX4_measureWins 4 RX4 2 44) (hr : (kme K).sig.returnType = none) {o : Nat} (ho : (0, o, 3) ∈ yI Y) {L' : Nat → Nat} {d' : Dt} (hA : CA K Y z0 kT nT (none) L' d') {k59 : Int32 → Int32 → (Nat → Nat) → (Dt) → Option (((Nat → Nat) × Dt) × Nat × Nat)} {k75 : Int32 → Int32 → Int32 → (Nat → Nat) → (Dt) → Option (((Nat → Nat) × Dt) × Nat × Nat)} (hk59 : ∀ (x1 : Int32) (x2 : Int32) (L : Nat → Nat) (d : Dt) (ad : Nat → Nat) (k n kc ns : Nat), k59 x1 x2 L d = some ((L', d'), kc, ns) → k + kc = kT → n + ns = nT → V K Y 4 k n (L, ad) d 59 [(0, .ref (yo Y o)), (1, .int x1), (2, .int x2)] []) (hk75 : ∀ (x1 : Int32) (x2 : Int32) (x3 : Int32) (L : Nat → Nat) (d : Dt) (ad : Nat → Nat) (k n kc ns : Nat), k75 x1 x2 x3 L d = some ((L', d'), kc, ns) → k + kc = kT → n + ns = nT → V K Y 4 k n (L, ad) d 75 [(0, .ref (yo Y o)), (1, .int x1), (2, .int x2), (3, .int x3)] []) (x1 : Int32) (x2 : Int32) (x3 : Int32) (L : Nat → Nat) (d : Dt) (ad : Nat → Nat) (k n kc ns : Nat) (hf : t_X4_measureWins_113 o k59 k75 x1 x2 x3 L d = some ((L', d'), kc, ns)) (hkT : k + kc = kT) (hnT : n + ns = nT) : V K Y 4 k n (L, ad) d 113 [(0, .ref (yo Y o)), (1, .int x1), (2, .int x2), (3, .int x3)] [] := by
  have hL := hC.2.2.2.2.2.2.1
  unfold t_X4_measureWins_113 at hf
  refine V_iinc (v := x3 + 1) (lv' := [(3, .int (x3 + 1)), (0, .ref (yo Y o)), (1, .int x1), (2, .int x2)]) 3 hC dX4_measureWins_113 rfl rfl (by decide) rfl ?_
  refine V_goto (tgt := 75) hC dX4_measureWins_116 (by decide) ?_
  exact V_sub [1, 2, 3, 0] rfl (hk75 x1 x2 (x3 + 1) L d ad k n kc ns hf hkT hnT)
def t_X4_measureWins_75 (o : Nat) (k59 : Int32 → Int32 → (Nat → Nat) → (Dt) → Option (((Nat → Nat) × Dt) × Nat × Nat)) (k75 : Int32 → Int32 → Int32 → (Nat → Nat) → (Dt) → Option (((Nat → Nat) × Dt) × Nat × Nat)) (x1 : Int32) (x2 : Int32) (x3 : Int32) (L : Nat → Nat) (d : Dt) : Option (((Nat → Nat) × Dt) × Nat × Nat) := if (gF d o 4) ≤ x3 then k59 x1 (x2 + 1) L d else gd (inb x3 (L (32 * o + 15))) (if (gA d (32 * o + 15) (ix x3)) = (-1) then (t_X4_leadsTo L d o x3 (x2 - 1)).bind (fun v20 => if v20 = 0 then t_X4_measureWins_113 o k59 k75 x1 x2 x3 L d else gd (inb x3 (L (32 * o + 15))) (bd (sA d (32 * o + 15) (ix x3) x2) (fun d23 => t_X4_measureWins_113 o k59 k75 1 x2 x3 L d23))) else t_X4_measureWins_113 o k59 k75 x1 x2 x3 L d)
set_option maxRecDepth 20000 in
theorem b_X4_measureWins_75 {K : Kx} {Y : Yx} {z0 : Sh} {kT nT : Nat} (hC : CK K Y cX4_measureWins 4 RX4 2 44) (hr : (kme K).sig.returnType = none) {o : Nat} (ho : (0, o, 3) ∈ yI Y) {L' : Nat → Nat} {d' : Dt} (hA : CA K Y z0 kT nT (none) L' d') {k59 : Int32 → Int32 → (Nat → Nat) → (Dt) → Option (((Nat → Nat) × Dt) × Nat × Nat)} {k75 : Int32 → Int32 → Int32 → (Nat → Nat) → (Dt) → Option (((Nat → Nat) × Dt) × Nat × Nat)} (hk59 : ∀ (x1 : Int32) (x2 : Int32) (L : Nat → Nat) (d : Dt) (ad : Nat → Nat) (k n kc ns : Nat), k59 x1 x2 L d = some ((L', d'), kc, ns) → k + kc = kT → n + ns = nT → V K Y 4 k n (L, ad) d 59 [(0, .ref (yo Y o)), (1, .int x1), (2, .int x2)] []) (hk75 : ∀ (x1 : Int32) (x2 : Int32) (x3 : Int32) (L : Nat → Nat) (d : Dt) (ad : Nat → Nat) (k n kc ns : Nat), k75 x1 x2 x3 L d = some ((L', d'), kc, ns) → k + kc = kT → n + ns = nT → V K Y 4 k n (L, ad) d 75 [(0, .ref (yo Y o)), (1, .int x1), (2, .int x2), (3, .int x3)] []) (x1 : Int32) (x2 : Int32) (x3 : Int32) (L : Nat → Nat) (d : Dt) (ad : Nat → Nat) (k n kc ns : Nat) (hf : t_X4_measureWins_75 o k59 k75 x1 x2 x3 L d = some ((L', d'), kc, ns)) (hkT : k + kc = kT) (hnT : n + ns = nT) : V K Y 4 k n (L, ad) d 75 [(0, .ref (yo Y o)), (1, .int x1), (2, .int x2), (3, .int x3)] [] := by
  have hL := hC.2.2.2.2.2.2.1
  unfold t_X4_measureWins_75 at hf
  refine V_iload_n 3 hC dX4_measureWins_75 rfl rfl ?_
  refine V_aload_n 0 hC dX4_measureWins_76 rfl rfl ?_
  refine V_geti (o := o) hC ho rfl fk_X4_22 dX4_measureWins_77 ?_
  refine V_icmp_ge (tgt := 119) hC dX4_measureWins_80 (by decide) (fun c17 => ?_) (fun c17 => ?_)
  · have hf := if_t hf c17
    refine V_iinc (v := x2 + 1) (lv' := [(2, .int (x2 + 1)), (0, .ref (yo Y o)), (1, .int x1), (3, .int x3)]) 2 hC dX4_measureWins_119 rfl rfl (by decide) rfl ?_
    refine V_goto (tgt := 59) hC dX4_measureWins_122 (by decide) ?_
    exact V_sub [1, 2, 0] rfl (hk59 x1 (x2 + 1) L d ad k n kc ns hf hkT hnT)
  · have hf := if_f hf c17
    refine V_aload_n 0 hC dX4_measureWins_83 rfl rfl ?_
    refine V_geta (o := o) hC ho rfl fk_X4_56 dX4_measureWins_84 ?_
    refine V_iload_n 3 hC dX4_measureWins_87 rfl rfl ?_
    obtain ⟨g18, hf⟩ := gd_some hf
    refine V_iald (a := (32 * o + 15)) hC (hL.row ho rfl) g18 dX4_measureWins_88 ?_
    refine V_iconst (v := -1) hC dX4_measureWins_89 rfl ?_
    refine V_icmp_ne (tgt := 113) hC dX4_measureWins_90 (by decide) (fun c19 => ?_) (fun c19 => ?_)
    · have hf := if_f hf c19
      exact b_X4_measureWins_113 hC hr ho hA hk59 hk75 x1 x2 x3 L d ad k n kc ns hf hkT hnT
    · have hf := if_t hf c19
      refine V_aload_n 0 hC dX4_measureWins_93 rfl rfl ?_
      refine V_iload_n 3 hC dX4_measureWins_94 rfl rfl ?_
      refine V_iload_n 2 hC dX4_measureWins_95 rfl rfl ?_
      refine V_iconst (v := 1) hC dX4_measureWins_96 rfl ?_
      refine V_isub hC dX4_measureWins_97 ?_
      obtain ⟨v20, ev20, hf⟩ := bi_some hf
      refine V_invi (o := o) (As := [.int x3, .int (x2 - 1)]) (rest := []) hC (c_X4_leadsTo hL ho ev20) me_X4_leadsTo lk_X4_110 ho rfl rfl rfl (Nat.le_of_ble_eq_true rfl) ⟨by decide, by decide⟩ ⟨by rw [hA.2.2.1]; omega, by rw [hA.2.2.2]; omega⟩ dX4_measureWins_98 ?_
      refine V_if_eq (tgt := 113) hC dX4_measureWins_101 (by decide) (fun c21 => ?_) (fun c21 => ?_)
      · have hf := if_t hf c21
        exact b_X4_measureWins_113 hC hr ho hA hk59 hk75 x1 x2 x3 L d ad k n kc ns hf hkT hnT
      · have hf := if_f hf c21
        refine V_aload_n 0 hC dX4_measureWins_104 rfl rfl ?_
        refine V_geta (o := o) hC ho rfl fk_X4_56 dX4_measureWins_105 ?_
        refine V_iload_n 3 hC dX4_measureWins_108 rfl rfl ?_
        refine V_iload_n 2 hC dX4_measureWins_109 rfl rfl ?_
        obtain ⟨g22, hf⟩ := gd_some hf
        refine V_iast (a := (32 * o + 15)) hC (hL.row ho rfl) g22 dX4_measureWins_110 (fun d23 ed23 => ?_)
        have hf := bd_e hf d23 ed23
        refine V_iconst (v := 1) hC dX4_measureWins_111 rfl ?_
        refine V_istore_n (lv' := [(1, .int 1), (0, .ref (yo Y o)), (2, .int x2), (3, .int x3)]) hC dX4_measureWins_112 rfl (by decide) rfl ?_
        exact V_sub [1, 0, 2, 3] rfl (b_X4_measureWins_113 hC hr ho hA hk59 hk75 1 x2 x3 L d23 ad k n kc ns hf hkT hnT)
def t_X4_measureWins_59 (o : Nat) (k59 : Int32 → Int32 → (Nat → Nat) → (Dt) → Option (((Nat → Nat) × Dt) × Nat × Nat)) (x1 : Int32) (x2 : Int32) (L : Nat → Nat) (d : Dt) : Option (((Nat → Nat) × Dt) × Nat × Nat) := if (gF d o 4) < x2 then t_X4_measureWins_125 o  L d else if x1 = 0 then t_X4_measureWins_125 o  L d else lp (fun k x => t_X4_measureWins_75 o k59 (fun x1 x2 x3 L d => k (x1, x2, x3, L, d)) x.1 x.2.1 x.2.2.1 x.2.2.2.1 x.2.2.2.2) FU (0, x2, 0, L, d)
set_option maxRecDepth 20000 in
theorem b_X4_measureWins_59 {K : Kx} {Y : Yx} {z0 : Sh} {kT nT : Nat} (hC : CK K Y cX4_measureWins 4 RX4 2 44) (hr : (kme K).sig.returnType = none) {o : Nat} (ho : (0, o, 3) ∈ yI Y) {L' : Nat → Nat} {d' : Dt} (hA : CA K Y z0 kT nT (none) L' d') {k59 : Int32 → Int32 → (Nat → Nat) → (Dt) → Option (((Nat → Nat) × Dt) × Nat × Nat)} (hk59 : ∀ (x1 : Int32) (x2 : Int32) (L : Nat → Nat) (d : Dt) (ad : Nat → Nat) (k n kc ns : Nat), k59 x1 x2 L d = some ((L', d'), kc, ns) → k + kc = kT → n + ns = nT → V K Y 4 k n (L, ad) d 59 [(0, .ref (yo Y o)), (1, .int x1), (2, .int x2)] []) (x1 : Int32) (x2 : Int32) (L : Nat → Nat) (d : Dt) (ad : Nat → Nat) (k n kc ns : Nat) (hf : t_X4_measureWins_59 o k59 x1 x2 L d = some ((L', d'), kc, ns)) (hkT : k + kc = kT) (hnT : n + ns = nT) : V K Y 4 k n (L, ad) d 59 [(0, .ref (yo Y o)), (1, .int x1), (2, .int x2)] [] := by
  have hL := hC.2.2.2.2.2.2.1
  unfold t_X4_measureWins_59 at hf
  refine V_iload_n 2 hC dX4_measureWins_59 rfl rfl ?_
  refine V_aload_n 0 hC dX4_measureWins_60 rfl rfl ?_
  refine V_geti (o := o) hC ho rfl fk_X4_22 dX4_measureWins_61 ?_
  refine V_icmp_gt (tgt := 125) hC dX4_measureWins_64 (by decide) (fun c12 => ?_) (fun c12 => ?_)
  · have hf := if_t hf c12
    exact V_sub [0] rfl (b_X4_measureWins_125 hC hr ho hA  L d ad k n kc ns hf hkT hnT)
  · have hf := if_f hf c12
    refine V_iload_n 1 hC dX4_measureWins_67 rfl rfl ?_
    refine V_if_eq (tgt := 125) hC dX4_measureWins_68 (by decide) (fun c13 => ?_) (fun c13 => ?_)
    · have hf := if_t hf c13
      exact V_sub [0] rfl (b_X4_measureWins_125 hC hr ho hA  L d ad k n kc ns hf hkT hnT)
    · have hf := if_f hf c13
      refine V_iconst (v := 0) hC dX4_measureWins_71 rfl ?_
      refine V_istore_n (lv' := [(1, .int 0), (0, .ref (yo Y o)), (2, .int x2)]) hC dX4_measureWins_72 rfl (by decide) rfl ?_
      refine V_iconst (v := 0) hC dX4_measureWins_73 rfl ?_
      refine V_istore_n (lv' := [(3, .int 0), (1, .int 0), (0, .ref (yo Y o)), (2, .int x2)]) hC dX4_measureWins_74 rfl (by decide) rfl ?_
      exact V_sub [2, 1, 3, 0] rfl (lp_indA (X := Int32 × Int32 × Int32 × (Nat → Nat) × Dt) (P := fun x kc ns => ∀ (ad : Nat → Nat) (k n : Nat), k + kc = kT → n + ns = nT → V K Y 4 k n (x.2.2.2.1, ad) x.2.2.2.2 75 [(0, .ref (yo Y o)), (1, .int x.1), (2, .int x.2.1), (3, .int x.2.2.1)] []) (fun kf x hk kc ns hx ad k n h1 h2 => b_X4_measureWins_75 hC hr ho hA hk59 (k75 := fun x1 x2 x3 L d => kf (x1, x2, x3, L, d)) (fun x1 x2 x3 L d ad k n kc ns hx h1 h2 => hk (x1, x2, x3, L, d) kc ns hx ad k n h1 h2) x.1 x.2.1 x.2.2.1 x.2.2.2.1 x.2.2.2.2 ad k n kc ns hx h1 h2) FU (0, x2, 0, L, d) kc ns hf ad k n hkT hnT)
def t_X4_measureWins_48 (o : Nat) (k22 : Int32 → (Nat → Nat) → (Dt) → Option (((Nat → Nat) × Dt) × Nat × Nat)) (x1 : Int32) (s0 : Int32) (s1 : Int32) (L : Nat → Nat) (d : Dt) : Option (((Nat → Nat) × Dt) × Nat × Nat) := gd (inb s1 (L (32 * o + 15))) (bd (sA d (32 * o + 15) (ix s1) s0) (fun d15 => k22 (x1 + 1) L d15))
set_option maxRecDepth 20000 in
theorem b_X4_measureWins_48 {K : Kx} {Y : Yx} {z0 : Sh} {kT nT : Nat} (hC : CK K Y cX4_measureWins 4 RX4 2 44) (hr : (kme K).sig.returnType = none) {o : Nat} (ho : (0, o, 3) ∈ yI Y) {L' : Nat → Nat} {d' : Dt} (hA : CA K Y z0 kT nT (none) L' d') {k22 : Int32 → (Nat → Nat) → (Dt) → Option (((Nat → Nat) × Dt) × Nat × Nat)} (hk22 : ∀ (x1 : Int32) (L : Nat → Nat) (d : Dt) (ad : Nat → Nat) (k n kc ns : Nat), k22 x1 L d = some ((L', d'), kc, ns) → k + kc = kT → n + ns = nT → V K Y 4 k n (L, ad) d 22 [(0, .ref (yo Y o)), (1, .int x1)] []) (x1 : Int32) (s0 : Int32) (s1 : Int32) (L : Nat → Nat) (d : Dt) (ad : Nat → Nat) (k n kc ns : Nat) (hf : t_X4_measureWins_48 o k22 x1 s0 s1 L d = some ((L', d'), kc, ns)) (hkT : k + kc = kT) (hnT : n + ns = nT) : V K Y 4 k n (L, ad) d 48 [(0, .ref (yo Y o)), (1, .int x1)] [.int s0, .int s1, .ref (gad (L, ad) (32 * o + 15))] := by
  have hL := hC.2.2.2.2.2.2.1
  unfold t_X4_measureWins_48 at hf
  obtain ⟨g14, hf⟩ := gd_some hf
  refine V_iast (a := (32 * o + 15)) hC (hL.row ho rfl) g14 dX4_measureWins_48 (fun d15 ed15 => ?_)
  have hf := bd_e hf d15 ed15
  refine V_iinc (v := x1 + 1) (lv' := [(1, .int (x1 + 1)), (0, .ref (yo Y o))]) 1 hC dX4_measureWins_49 rfl rfl (by decide) rfl ?_
  refine V_goto (tgt := 22) hC dX4_measureWins_52 (by decide) ?_
  exact V_sub [1, 0] rfl (hk22 (x1 + 1) L d15 ad k n kc ns hf hkT hnT)
def t_X4_measureWins_22 (o : Nat) (k22 : Int32 → (Nat → Nat) → (Dt) → Option (((Nat → Nat) × Dt) × Nat × Nat)) (x1 : Int32) (L : Nat → Nat) (d : Dt) : Option (((Nat → Nat) × Dt) × Nat × Nat) := if (gF d o 4) ≤ x1 then lp (fun k x => t_X4_measureWins_59 o  (fun x1 x2 L d => k (x1, x2, L, d)) x.1 x.2.1 x.2.2.1 x.2.2.2) FU (1, 1, L, d) else (t_X4_hasWon L d o x1).bind (fun v10 => if v10 = 0 then t_X4_measureWins_48 o k22 x1 (-1) x1 L d else t_X4_measureWins_48 o k22 x1 0 x1 L d)
set_option maxRecDepth 20000 in
theorem b_X4_measureWins_22 {K : Kx} {Y : Yx} {z0 : Sh} {kT nT : Nat} (hC : CK K Y cX4_measureWins 4 RX4 2 44) (hr : (kme K).sig.returnType = none) {o : Nat} (ho : (0, o, 3) ∈ yI Y) {L' : Nat → Nat} {d' : Dt} (hA : CA K Y z0 kT nT (none) L' d') {k22 : Int32 → (Nat → Nat) → (Dt) → Option (((Nat → Nat) × Dt) × Nat × Nat)} (hk22 : ∀ (x1 : Int32) (L : Nat → Nat) (d : Dt) (ad : Nat → Nat) (k n kc ns : Nat), k22 x1 L d = some ((L', d'), kc, ns) → k + kc = kT → n + ns = nT → V K Y 4 k n (L, ad) d 22 [(0, .ref (yo Y o)), (1, .int x1)] []) (x1 : Int32) (L : Nat → Nat) (d : Dt) (ad : Nat → Nat) (k n kc ns : Nat) (hf : t_X4_measureWins_22 o k22 x1 L d = some ((L', d'), kc, ns)) (hkT : k + kc = kT) (hnT : n + ns = nT) : V K Y 4 k n (L, ad) d 22 [(0, .ref (yo Y o)), (1, .int x1)] [] := by
  have hL := hC.2.2.2.2.2.2.1
  unfold t_X4_measureWins_22 at hf
  refine V_iload_n 1 hC dX4_measureWins_22 rfl rfl ?_
  refine V_aload_n 0 hC dX4_measureWins_23 rfl rfl ?_
  refine V_geti (o := o) hC ho rfl fk_X4_22 dX4_measureWins_24 ?_
  refine V_icmp_ge (tgt := 55) hC dX4_measureWins_27 (by decide) (fun c9 => ?_) (fun c9 => ?_)
  · have hf := if_t hf c9
    refine V_iconst (v := 1) hC dX4_measureWins_55 rfl ?_
    refine V_istore_n (lv' := [(1, .int 1), (0, .ref (yo Y o))]) hC dX4_measureWins_56 rfl (by decide) rfl ?_
    refine V_iconst (v := 1) hC dX4_measureWins_57 rfl ?_
    refine V_istore_n (lv' := [(2, .int 1), (1, .int 1), (0, .ref (yo Y o))]) hC dX4_measureWins_58 rfl (by decide) rfl ?_
    exact V_sub [2, 1, 0] rfl (lp_indA (X := Int32 × Int32 × (Nat → Nat) × Dt) (P := fun x kc ns => ∀ (ad : Nat → Nat) (k n : Nat), k + kc = kT → n + ns = nT → V K Y 4 k n (x.2.2.1, ad) x.2.2.2 59 [(0, .ref (yo Y o)), (1, .int x.1), (2, .int x.2.1)] []) (fun kf x hk kc ns hx ad k n h1 h2 => b_X4_measureWins_59 hC hr ho hA  (k59 := fun x1 x2 L d => kf (x1, x2, L, d)) (fun x1 x2 L d ad k n kc ns hx h1 h2 => hk (x1, x2, L, d) kc ns hx ad k n h1 h2) x.1 x.2.1 x.2.2.1 x.2.2.2 ad k n kc ns hx h1 h2) FU (1, 1, L, d) kc ns hf ad k n hkT hnT)
  · have hf := if_f hf c9
    refine V_aload_n 0 hC dX4_measureWins_30 rfl rfl ?_
    refine V_geta (o := o) hC ho rfl fk_X4_56 dX4_measureWins_31 ?_
    refine V_iload_n 1 hC dX4_measureWins_34 rfl rfl ?_
    refine V_aload_n 0 hC dX4_measureWins_35 rfl rfl ?_
    refine V_iload_n 1 hC dX4_measureWins_36 rfl rfl ?_
    obtain ⟨v10, ev10, hf⟩ := bi_some hf
    refine V_invi (o := o) (As := [.int x1]) (rest := [.int x1, .ref (gad (L, ad) (32 * o + 15))]) hC (c_X4_hasWon hL ho ev10) me_X4_hasWon lk_X4_107 ho rfl rfl rfl (Nat.le_of_ble_eq_true rfl) ⟨by decide, by decide⟩ ⟨by rw [hA.2.2.1]; omega, by rw [hA.2.2.2]; omega⟩ dX4_measureWins_37 ?_
    refine V_if_eq (tgt := 47) hC dX4_measureWins_40 (by decide) (fun c11 => ?_) (fun c11 => ?_)
    · have hf := if_t hf c11
      refine V_iconst (v := -1) hC dX4_measureWins_47 rfl ?_
      exact b_X4_measureWins_48 hC hr ho hA hk22 x1 (-1) x1 L d ad k n kc ns hf hkT hnT
    · have hf := if_f hf c11
      refine V_iconst (v := 0) hC dX4_measureWins_43 rfl ?_
      refine V_goto (tgt := 48) hC dX4_measureWins_44 (by decide) ?_
      exact b_X4_measureWins_48 hC hr ho hA hk22 x1 0 x1 L d ad k n kc ns hf hkT hnT
def t_X4_measureWins (L : Nat → Nat) (d : Dt) (o : Nat) : Option (((Nat → Nat) × Dt) × Nat × Nat) := if (gF d o 16) = 0 then if nI (L (32 * o + 15)) < (gF d o 4) then gd (decide (L (32 * o + 7) < 100000000)) (bd (upL L (32 * o + 15) (L (32 * o + 7))) (fun L4 => bd (sR d (32 * o + 15) (fun _ => 0)) (fun d5 => al 1 (L (32 * o + 7)) (lp (fun k x => t_X4_measureWins_22 o  (fun x1 L d => k (x1, L, d)) x.1 x.2.1 x.2.2) FU (0, L4, d5))))) else lp (fun k x => t_X4_measureWins_22 o  (fun x1 L d => k (x1, L, d)) x.1 x.2.1 x.2.2) FU (0, L, d) else some ((L, d), 0, 0)
set_option maxRecDepth 20000 in
theorem c_X4_measureWins {l : Launch} {Y : Yx} (hL : LAY Y) {L : Nat → Nat} {d : Dt} {o : Nat} (ho : (0, o, 3) ∈ yI Y) {L' : Nat → Nat} {d' : Dt} {kT nT : Nat} (hf : t_X4_measureWins L d o = some ((L', d'), kT, nT)) : MA l yX4_measureWins cX4_measureWins 4 none 2 44 Y L [.ref (yo Y o)] d (none) L' d' kT nT := by
  refine MA.ofV ho (by decide +kernel) hL (Nat.le_of_ble_eq_true rfl) (fun K ad hl hC hr hA => ?_)
  have hC : CK K Y cX4_measureWins 4 RX4 2 44 := hC
  have hkT : 0 + kT = kT := Nat.zero_add _
  have hnT : 0 + nT = nT := Nat.zero_add _
  unfold t_X4_measureWins at hf
  show V K Y 4 0 0 (L, ad) d 0 [(0, .ref (yo Y o))] []
  refine V_aload_n 0 hC dX4_measureWins_0 rfl rfl ?_
  refine V_geti (o := o) hC ho rfl fk_X4_59 dX4_measureWins_1 ?_
  refine V_if_eq (tgt := 8) hC dX4_measureWins_4 (by decide) (fun c1 => ?_) (fun c1 => ?_)
  · have hf := if_t hf c1
    refine V_aload_n 0 hC dX4_measureWins_8 rfl rfl ?_
    refine V_aload_n 0 hC dX4_measureWins_9 rfl rfl ?_
    refine V_aload_n 0 hC dX4_measureWins_10 rfl rfl ?_
    refine V_geta (o := o) hC ho rfl fk_X4_56 dX4_measureWins_11 ?_
    by_cases c2 : nI (L (32 * o + 15)) < (gF d o 4)
    · have hf := if_t hf c2
      obtain ⟨g3, hf⟩ := gd_some hf
      obtain ⟨kc7, ns8, hf1, ekc7, ens8⟩ := al_some (bd_e (bd_e hf _ rfl) _ rfl)
      refine V_roomNewG (o := o) (a := 32 * o + 15) hC hA.new ho rfl rfl rfl fk_X4_56 rfl rfl c2 g3 ⟨by decide, by decide⟩ (Nat.le_of_ble_eq_true rfl) ⟨by rw [hA.2.2.1]; omega, by rw [hA.2.2.2]; omega⟩ dX4_measureWins_14 dX4_measureWins_17 (fun L4 ad6 d5 eL4 ed5 => ?_)
      obtain ⟨kc7, ns8, hf, ekc7, ens8⟩ := al_some (bd_e (bd_e hf L4 eL4) d5 ed5)
      have hkT : (0 + 1) + kc7 = kT := by omega
      have hnT : (0 + (L (32 * o + 7))) + ns8 = nT := by omega
      refine V_iconst (v := 0) hC dX4_measureWins_20 rfl ?_
      refine V_istore_n (lv' := [(1, .int 0), (0, .ref (yo Y o))]) hC dX4_measureWins_21 rfl (by decide) rfl ?_
      exact V_sub [1, 0] rfl (lp_indA (X := Int32 × (Nat → Nat) × Dt) (P := fun x kc ns => ∀ (ad : Nat → Nat) (k n : Nat), k + kc = kT → n + ns = nT → V K Y 4 k n (x.2.1, ad) x.2.2 22 [(0, .ref (yo Y o)), (1, .int x.1)] []) (fun kf x hk kc ns hx ad k n h1 h2 => b_X4_measureWins_22 hC hr ho hA  (k22 := fun x1 L d => kf (x1, L, d)) (fun x1 L d ad k n kc ns hx h1 h2 => hk (x1, L, d) kc ns hx ad k n h1 h2) x.1 x.2.1 x.2.2 ad k n kc ns hx h1 h2) FU (0, L4, d5) kc7 ns8 hf ad6 (0 + 1) (0 + (L (32 * o + 7))) hkT hnT)
    · have hf := if_f hf c2
      refine V_roomSame (o := o) (a := 32 * o + 15) hC ho rfl rfl rfl fk_X4_56 rfl rfl c2 ⟨by decide, by decide⟩ (Nat.le_of_ble_eq_true rfl) ⟨by rw [hA.2.2.1]; omega, by rw [hA.2.2.2]; omega⟩ dX4_measureWins_14 dX4_measureWins_17 ?_
      refine V_iconst (v := 0) hC dX4_measureWins_20 rfl ?_
      refine V_istore_n (lv' := [(1, .int 0), (0, .ref (yo Y o))]) hC dX4_measureWins_21 rfl (by decide) rfl ?_
      exact V_sub [1, 0] rfl (lp_indA (X := Int32 × (Nat → Nat) × Dt) (P := fun x kc ns => ∀ (ad : Nat → Nat) (k n : Nat), k + kc = kT → n + ns = nT → V K Y 4 k n (x.2.1, ad) x.2.2 22 [(0, .ref (yo Y o)), (1, .int x.1)] []) (fun kf x hk kc ns hx ad k n h1 h2 => b_X4_measureWins_22 hC hr ho hA  (k22 := fun x1 L d => kf (x1, L, d)) (fun x1 L d ad k n kc ns hx h1 h2 => hk (x1, L, d) kc ns hx ad k n h1 h2) x.1 x.2.1 x.2.2 ad k n kc ns hx h1 h2) FU (0, L, d) kT nT hf ad 0 0 hkT hnT)
  · have hf := if_f hf c1
    obtain ⟨rfl, rfl, rfl, rfl⟩ := so_injAv hf
    exact V_vretA hC hr hA (by omega) (by omega) dX4_measureWins_7
def t_X4_runOneTurn_89 (o : Nat)  (s0 : Int32) (L : Nat → Nat) (d : Dt) : Option (((Nat → Nat) × Dt) × Nat × Nat) := gd (isB s0) (bd (sF d o 14 s0) (fun d11 => some ((L, d11), 0, 0)))
set_option maxRecDepth 20000 in
theorem b_X4_runOneTurn_89 {K : Kx} {Y : Yx} {z0 : Sh} {kT nT : Nat} (hC : CK K Y cX4_runOneTurn 4 RX4 3 68) (hr : (kme K).sig.returnType = none) {o : Nat} (ho : (0, o, 3) ∈ yI Y) {L' : Nat → Nat} {d' : Dt} (hA : CA K Y z0 kT nT (none) L' d')   (s0 : Int32) (L : Nat → Nat) (d : Dt) (ad : Nat → Nat) (k n kc ns : Nat) (hf : t_X4_runOneTurn_89 o  s0 L d = some ((L', d'), kc, ns)) (hkT : k + kc = kT) (hnT : n + ns = nT) : V K Y 4 k n (L, ad) d 89 [] [.int s0, .ref (yo Y o)] := by
  have hL := hC.2.2.2.2.2.2.1
  unfold t_X4_runOneTurn_89 at hf
  obtain ⟨g12, hf⟩ := gd_some hf
  refine V_putz (o := o) hC ho rfl fk_X4_53 pl_X4 rfl rfl g12 dX4_runOneTurn_89 (fun d11 ed11 => ?_)
  have hf := bd_e hf d11 ed11
  obtain ⟨rfl, rfl, rfl, rfl⟩ := so_injAv hf
  exact V_vretA hC hr hA (by omega) (by omega) dX4_runOneTurn_92
def t_X4_runOneTurn_37 (o : Nat) (k4 : Int32 → Int32 → (Nat → Nat) → (Dt) → Option (((Nat → Nat) × Dt) × Nat × Nat)) (x2 : Int32) (x3 : Int32) (s0 : Int32) (L : Nat → Nat) (d : Dt) : Option (((Nat → Nat) × Dt) × Nat × Nat) := gd (inb x2 (L (32 * o + 12))) (bd (sA d (32 * o + 12) (ix x2) x3) (fun d14 => k4 s0 (x2 + 1) L d14))
set_option maxRecDepth 20000 in
theorem b_X4_runOneTurn_37 {K : Kx} {Y : Yx} {z0 : Sh} {kT nT : Nat} (hC : CK K Y cX4_runOneTurn 4 RX4 3 68) (hr : (kme K).sig.returnType = none) {o : Nat} (ho : (0, o, 3) ∈ yI Y) {L' : Nat → Nat} {d' : Dt} (hA : CA K Y z0 kT nT (none) L' d') {k4 : Int32 → Int32 → (Nat → Nat) → (Dt) → Option (((Nat → Nat) × Dt) × Nat × Nat)} (hk4 : ∀ (x1 : Int32) (x2 : Int32) (L : Nat → Nat) (d : Dt) (ad : Nat → Nat) (k n kc ns : Nat), k4 x1 x2 L d = some ((L', d'), kc, ns) → k + kc = kT → n + ns = nT → V K Y 4 k n (L, ad) d 4 [(0, .ref (yo Y o)), (1, .int x1), (2, .int x2)] []) (x2 : Int32) (x3 : Int32) (s0 : Int32) (L : Nat → Nat) (d : Dt) (ad : Nat → Nat) (k n kc ns : Nat) (hf : t_X4_runOneTurn_37 o k4 x2 x3 s0 L d = some ((L', d'), kc, ns)) (hkT : k + kc = kT) (hnT : n + ns = nT) : V K Y 4 k n (L, ad) d 37 [(0, .ref (yo Y o)), (2, .int x2), (3, .int x3)] [.int s0] := by
  have hL := hC.2.2.2.2.2.2.1
  unfold t_X4_runOneTurn_37 at hf
  refine V_istore_n (lv' := [(1, .int s0), (0, .ref (yo Y o)), (2, .int x2), (3, .int x3)]) hC dX4_runOneTurn_37 rfl (by decide) rfl ?_
  refine V_aload_n 1 hC dX4_runOneTurn_38 rfl rfl ?_
  refine V_geta (o := o) hC ho rfl fk_X4_47 dX4_runOneTurn_39 ?_
  refine V_iload_n 2 hC dX4_runOneTurn_42 rfl rfl ?_
  refine V_iload_n 3 hC dX4_runOneTurn_43 rfl rfl ?_
  obtain ⟨g13, hf⟩ := gd_some hf
  refine V_iast (a := (32 * o + 12)) hC (hL.row ho rfl) g13 dX4_runOneTurn_44 (fun d14 ed14 => ?_)
  have hf := bd_e hf d14 ed14
  refine V_iinc (v := x2 + 1) (lv' := [(2, .int (x2 + 1)), (1, .int s0), (0, .ref (yo Y o)), (3, .int x3)]) 2 hC dX4_runOneTurn_45 rfl rfl (by decide) rfl ?_
  refine V_goto (tgt := 4) hC dX4_runOneTurn_48 (by decide) ?_
  exact V_sub [2, 1, 0] rfl (hk4 s0 (x2 + 1) L d14 ad k n kc ns hf hkT hnT)
def t_X4_runOneTurn_32 (o : Nat) (k4 : Int32 → Int32 → (Nat → Nat) → (Dt) → Option (((Nat → Nat) × Dt) × Nat × Nat)) (x2 : Int32) (x3 : Int32) (L : Nat → Nat) (d : Dt) : Option (((Nat → Nat) × Dt) × Nat × Nat) := t_X4_runOneTurn_37 o k4 x2 x3 1 L d
set_option maxRecDepth 20000 in
theorem b_X4_runOneTurn_32 {K : Kx} {Y : Yx} {z0 : Sh} {kT nT : Nat} (hC : CK K Y cX4_runOneTurn 4 RX4 3 68) (hr : (kme K).sig.returnType = none) {o : Nat} (ho : (0, o, 3) ∈ yI Y) {L' : Nat → Nat} {d' : Dt} (hA : CA K Y z0 kT nT (none) L' d') {k4 : Int32 → Int32 → (Nat → Nat) → (Dt) → Option (((Nat → Nat) × Dt) × Nat × Nat)} (hk4 : ∀ (x1 : Int32) (x2 : Int32) (L : Nat → Nat) (d : Dt) (ad : Nat → Nat) (k n kc ns : Nat), k4 x1 x2 L d = some ((L', d'), kc, ns) → k + kc = kT → n + ns = nT → V K Y 4 k n (L, ad) d 4 [(0, .ref (yo Y o)), (1, .int x1), (2, .int x2)] []) (x2 : Int32) (x3 : Int32) (L : Nat → Nat) (d : Dt) (ad : Nat → Nat) (k n kc ns : Nat) (hf : t_X4_runOneTurn_32 o k4 x2 x3 L d = some ((L', d'), kc, ns)) (hkT : k + kc = kT) (hnT : n + ns = nT) : V K Y 4 k n (L, ad) d 32 [(0, .ref (yo Y o)), (2, .int x2), (3, .int x3)] [] := by
  have hL := hC.2.2.2.2.2.2.1
  unfold t_X4_runOneTurn_32 at hf
  refine V_iconst (v := 1) hC dX4_runOneTurn_32 rfl ?_
  refine V_goto (tgt := 37) hC dX4_runOneTurn_33 (by decide) ?_
  exact b_X4_runOneTurn_37 hC hr ho hA hk4 x2 x3 1 L d ad k n kc ns hf hkT hnT
def t_X4_runOneTurn_4 (o : Nat) (k4 : Int32 → Int32 → (Nat → Nat) → (Dt) → Option (((Nat → Nat) × Dt) × Nat × Nat)) (x1 : Int32) (x2 : Int32) (L : Nat → Nat) (d : Dt) : Option (((Nat → Nat) × Dt) × Nat × Nat) := if (gF d o 4) ≤ x2 then bd (swL o L) (fun L2 => bd (swD o d) (fun d3 => bd (sF d3 o 13 ((gF d3 o 13) + 1)) (fun d5 => if x1 = 0 then t_X4_runOneTurn_89 o  1 L2 d5 else t_X4_runOneTurn_89 o  0 L2 d5))) else (t_X4_oddsBehindTurn L d o x2).bind (fun v7 => if x1 = 0 then gd (inb x2 (L (32 * o + 11))) (if v7 = (gA d (32 * o + 11) (ix x2)) then t_X4_runOneTurn_37 o k4 x2 v7 0 L d else t_X4_runOneTurn_32 o k4 x2 v7 L d) else t_X4_runOneTurn_32 o k4 x2 v7 L d)
set_option maxRecDepth 20000 in
theorem b_X4_runOneTurn_4 {K : Kx} {Y : Yx} {z0 : Sh} {kT nT : Nat} (hC : CK K Y cX4_runOneTurn 4 RX4 3 68) (hr : (kme K).sig.returnType = none) {o : Nat} (ho : (0, o, 3) ∈ yI Y) {L' : Nat → Nat} {d' : Dt} (hA : CA K Y z0 kT nT (none) L' d') {k4 : Int32 → Int32 → (Nat → Nat) → (Dt) → Option (((Nat → Nat) × Dt) × Nat × Nat)} (hk4 : ∀ (x1 : Int32) (x2 : Int32) (L : Nat → Nat) (d : Dt) (ad : Nat → Nat) (k n kc ns : Nat), k4 x1 x2 L d = some ((L', d'), kc, ns) → k + kc = kT → n + ns = nT → V K Y 4 k n (L, ad) d 4 [(0, .ref (yo Y o)), (1, .int x1), (2, .int x2)] []) (x1 : Int32) (x2 : Int32) (L : Nat → Nat) (d : Dt) (ad : Nat → Nat) (k n kc ns : Nat) (hf : t_X4_runOneTurn_4 o k4 x1 x2 L d = some ((L', d'), kc, ns)) (hkT : k + kc = kT) (hnT : n + ns = nT) : V K Y 4 k n (L, ad) d 4 [(0, .ref (yo Y o)), (1, .int x1), (2, .int x2)] [] := by
  have hL := hC.2.2.2.2.2.2.1
  unfold t_X4_runOneTurn_4 at hf
  refine V_iload_n 2 hC dX4_runOneTurn_4 rfl rfl ?_
  refine V_aload_n 0 hC dX4_runOneTurn_5 rfl rfl ?_
  refine V_geti (o := o) hC ho rfl fk_X4_22 dX4_runOneTurn_6 ?_
  refine V_icmp_ge (tgt := 51) hC dX4_runOneTurn_9 (by decide) (fun c1 => ?_) (fun c1 => ?_)
  · have hf := if_t hf c1
    refine V_sub [0, 1] rfl ?_
    refine V_swapG hC ho (fun L2 ad4 d3 eL2 ed3 => ?_)
    have hf := bd_e hf L2 eL2
    have hf := bd_e hf d3 ed3
    refine V_aload_n 0 hC dX4_runOneTurn_69 rfl rfl ?_
    refine V_dup hC dX4_runOneTurn_70 rfl ?_
    refine V_geti (o := o) hC ho rfl fk_X4_50 dX4_runOneTurn_71 ?_
    refine V_iconst (v := 1) hC dX4_runOneTurn_74 rfl ?_
    refine V_iadd hC dX4_runOneTurn_75 ?_
    refine V_puti (o := o) hC ho rfl fk_X4_50 pl_X4 rfl rfl dX4_runOneTurn_76 (fun d5 ed5 => ?_)
    have hf := bd_e hf d5 ed5
    refine V_aload_n 0 hC dX4_runOneTurn_79 rfl rfl ?_
    refine V_iload_n 1 hC dX4_runOneTurn_80 rfl rfl ?_
    refine V_if_ne (tgt := 88) hC dX4_runOneTurn_81 (by decide) (fun c6 => ?_) (fun c6 => ?_)
    · have hf := if_f hf c6
      refine V_iconst (v := 0) hC dX4_runOneTurn_88 rfl ?_
      exact V_sub [] rfl (b_X4_runOneTurn_89 hC hr ho hA  0 L2 d5 ad4 k n kc ns hf hkT hnT)
    · have hf := if_t hf c6
      refine V_iconst (v := 1) hC dX4_runOneTurn_84 rfl ?_
      refine V_goto (tgt := 89) hC dX4_runOneTurn_85 (by decide) ?_
      exact V_sub [] rfl (b_X4_runOneTurn_89 hC hr ho hA  1 L2 d5 ad4 k n kc ns hf hkT hnT)
  · have hf := if_f hf c1
    refine V_aload_n 0 hC dX4_runOneTurn_12 rfl rfl ?_
    refine V_iload_n 2 hC dX4_runOneTurn_13 rfl rfl ?_
    obtain ⟨v7, ev7, hf⟩ := bi_some hf
    refine V_invi (o := o) (As := [.int x2]) (rest := []) hC (c_X4_oddsBehindTurn hL ho ev7) me_X4_oddsBehindTurn lk_X4_157 ho rfl rfl rfl (Nat.le_of_ble_eq_true rfl) ⟨by decide, by decide⟩ ⟨by rw [hA.2.2.1]; omega, by rw [hA.2.2.2]; omega⟩ dX4_runOneTurn_14 ?_
    refine V_istore_n (lv' := [(3, .int v7), (0, .ref (yo Y o)), (1, .int x1), (2, .int x2)]) hC dX4_runOneTurn_17 rfl (by decide) rfl ?_
    refine V_iload_n 2 hC dX4_runOneTurn_18 rfl rfl ?_
    refine V_if_ne (tgt := 32) hC dX4_runOneTurn_19 (by decide) (fun c8 => ?_) (fun c8 => ?_)
    · have hf := if_f hf c8
      exact V_sub [1, 3, 0] rfl (b_X4_runOneTurn_32 hC hr ho hA hk4 x2 v7 L d ad k n kc ns hf hkT hnT)
    · have hf := if_t hf c8
      refine V_iload_n 0 hC dX4_runOneTurn_22 rfl rfl ?_
      refine V_aload_n 1 hC dX4_runOneTurn_23 rfl rfl ?_
      refine V_geta (o := o) hC ho rfl fk_X4_44 dX4_runOneTurn_24 ?_
      refine V_iload_n 3 hC dX4_runOneTurn_27 rfl rfl ?_
      obtain ⟨g9, hf⟩ := gd_some hf
      refine V_iald (a := (32 * o + 11)) hC (hL.row ho rfl) g9 dX4_runOneTurn_28 ?_
      refine V_icmp_eq (tgt := 36) hC dX4_runOneTurn_29 (by decide) (fun c10 => ?_) (fun c10 => ?_)
      · have hf := if_t hf c10
        refine V_iconst (v := 0) hC dX4_runOneTurn_36 rfl ?_
        exact V_sub [1, 3, 0] rfl (b_X4_runOneTurn_37 hC hr ho hA hk4 x2 v7 0 L d ad k n kc ns hf hkT hnT)
      · have hf := if_f hf c10
        exact V_sub [1, 3, 0] rfl (b_X4_runOneTurn_32 hC hr ho hA hk4 x2 v7 L d ad k n kc ns hf hkT hnT)
def t_X4_runOneTurn (L : Nat → Nat) (d : Dt) (o : Nat) : Option (((Nat → Nat) × Dt) × Nat × Nat) := lp (fun k x => t_X4_runOneTurn_4 o  (fun x1 x2 L d => k (x1, x2, L, d)) x.1 x.2.1 x.2.2.1 x.2.2.2) FU (0, 0, L, d)
set_option maxRecDepth 20000 in
theorem c_X4_runOneTurn {l : Launch} {Y : Yx} (hL : LAY Y) {L : Nat → Nat} {d : Dt} {o : Nat} (ho : (0, o, 3) ∈ yI Y) {L' : Nat → Nat} {d' : Dt} {kT nT : Nat} (hf : t_X4_runOneTurn L d o = some ((L', d'), kT, nT)) : MA l yX4_runOneTurn cX4_runOneTurn 4 none 3 68 Y L [.ref (yo Y o)] d (none) L' d' kT nT := by
  refine MA.ofV ho (by decide +kernel) hL (Nat.le_of_ble_eq_true rfl) (fun K ad hl hC hr hA => ?_)
  have hC : CK K Y cX4_runOneTurn 4 RX4 3 68 := hC
  have hkT : 0 + kT = kT := Nat.zero_add _
  have hnT : 0 + nT = nT := Nat.zero_add _
  unfold t_X4_runOneTurn at hf
  show V K Y 4 0 0 (L, ad) d 0 [(0, .ref (yo Y o))] []
  refine V_iconst (v := 0) hC dX4_runOneTurn_0 rfl ?_
  refine V_istore_n (lv' := [(1, .int 0), (0, .ref (yo Y o))]) hC dX4_runOneTurn_1 rfl (by decide) rfl ?_
  refine V_iconst (v := 0) hC dX4_runOneTurn_2 rfl ?_
  refine V_istore_n (lv' := [(2, .int 0), (1, .int 0), (0, .ref (yo Y o))]) hC dX4_runOneTurn_3 rfl (by decide) rfl ?_
  exact V_sub [2, 1, 0] rfl (lp_indA (X := Int32 × Int32 × (Nat → Nat) × Dt) (P := fun x kc ns => ∀ (ad : Nat → Nat) (k n : Nat), k + kc = kT → n + ns = nT → V K Y 4 k n (x.2.2.1, ad) x.2.2.2 4 [(0, .ref (yo Y o)), (1, .int x.1), (2, .int x.2.1)] []) (fun kf x hk kc ns hx ad k n h1 h2 => b_X4_runOneTurn_4 hC hr ho hA  (k4 := fun x1 x2 L d => kf (x1, x2, L, d)) (fun x1 x2 L d ad k n kc ns hx h1 h2 => hk (x1, x2, L, d) kc ns hx ad k n h1 h2) x.1 x.2.1 x.2.2.1 x.2.2.2 ad k n kc ns hx h1 h2) FU (0, 0, L, d) kT nT hf ad 0 0 hkT hnT)
def t_X4_spread_157 (o : Nat) (p1 : Int32) (p2 : Int32) (p3 : Int32) (p4 : Int32) (k6 : Int32 → Int32 → (Nat → Nat) → (Dt) → Option ((Int32 × (Nat → Nat) × Dt) × Nat × Nat)) (k92 : Int32 → Int32 → Int32 → Int32 → Int32 → (Nat → Nat) → (Dt) → Option ((Int32 × (Nat → Nat) × Dt) × Nat × Nat)) (x5 : Int32) (x6 : Int32) (x7 : Int32) (x8 : Int32) (x9 : Int32) (L : Nat → Nat) (d : Dt) : Option ((Int32 × (Nat → Nat) × Dt) × Nat × Nat) := k92 x5 x6 x7 x8 (x9 + 1) L d
set_option maxRecDepth 20000 in
theorem b_X4_spread_157 {K : Kx} {Y : Yx} {z0 : Sh} {kT nT : Nat} (hC : CK K Y cX4_spread 11 RX4 4 106) (hr : (kme K).sig.returnType = some .boolean) {o : Nat} {p1 : Int32} {p2 : Int32} {p3 : Int32} {p4 : Int32} (ho : (0, o, 3) ∈ yI Y) {r : Int32} {L' : Nat → Nat} {d' : Dt} (hA : CA K Y z0 kT nT (some (.int r)) L' d') {k6 : Int32 → Int32 → (Nat → Nat) → (Dt) → Option ((Int32 × (Nat → Nat) × Dt) × Nat × Nat)} {k92 : Int32 → Int32 → Int32 → Int32 → Int32 → (Nat → Nat) → (Dt) → Option ((Int32 × (Nat → Nat) × Dt) × Nat × Nat)} (hk6 : ∀ (x5 : Int32) (x6 : Int32) (L : Nat → Nat) (d : Dt) (ad : Nat → Nat) (k n kc ns : Nat), k6 x5 x6 L d = some ((r, L', d'), kc, ns) → k + kc = kT → n + ns = nT → V K Y 11 k n (L, ad) d 6 [(0, .ref (yo Y o)), (2, .int p2), (3, .int p3), (4, .int p4), (5, .int x5), (6, .int x6)] []) (hk92 : ∀ (x5 : Int32) (x6 : Int32) (x7 : Int32) (x8 : Int32) (x9 : Int32) (L : Nat → Nat) (d : Dt) (ad : Nat → Nat) (k n kc ns : Nat), k92 x5 x6 x7 x8 x9 L d = some ((r, L', d'), kc, ns) → k + kc = kT → n + ns = nT → V K Y 11 k n (L, ad) d 92 [(0, .ref (yo Y o)), (2, .int p2), (3, .int p3), (4, .int p4), (5, .int x5), (6, .int x6), (7, .int x7), (8, .int x8), (9, .int x9)] []) (x5 : Int32) (x6 : Int32) (x7 : Int32) (x8 : Int32) (x9 : Int32) (L : Nat → Nat) (d : Dt) (ad : Nat → Nat) (k n kc ns : Nat) (hf : t_X4_spread_157 o p1 p2 p3 p4 k6 k92 x5 x6 x7 x8 x9 L d = some ((r, L', d'), kc, ns)) (hkT : k + kc = kT) (hnT : n + ns = nT) : V K Y 11 k n (L, ad) d 157 [(0, .ref (yo Y o)), (2, .int p2), (3, .int p3), (4, .int p4), (5, .int x5), (6, .int x6), (7, .int x7), (8, .int x8), (9, .int x9)] [] := by
  have hL := hC.2.2.2.2.2.2.1
  unfold t_X4_spread_157 at hf
  refine V_iinc (v := x9 + 1) (lv' := [(9, .int (x9 + 1)), (0, .ref (yo Y o)), (2, .int p2), (3, .int p3), (4, .int p4), (5, .int x5), (6, .int x6), (7, .int x7), (8, .int x8)]) 8 hC dX4_spread_157 rfl rfl (by decide) rfl ?_
  refine V_goto (tgt := 92) hC dX4_spread_160 (by decide) ?_
  exact V_sub [1, 2, 3, 4, 5, 6, 7, 8, 0] rfl (hk92 x5 x6 x7 x8 (x9 + 1) L d ad k n kc ns hf hkT hnT)
def t_X4_spread_92 (o : Nat) (p1 : Int32) (p2 : Int32) (p3 : Int32) (p4 : Int32) (k6 : Int32 → Int32 → (Nat → Nat) → (Dt) → Option ((Int32 × (Nat → Nat) × Dt) × Nat × Nat)) (k92 : Int32 → Int32 → Int32 → Int32 → Int32 → (Nat → Nat) → (Dt) → Option ((Int32 × (Nat → Nat) × Dt) × Nat × Nat)) (x5 : Int32) (x6 : Int32) (x7 : Int32) (x8 : Int32) (x9 : Int32) (L : Nat → Nat) (d : Dt) : Option ((Int32 × (Nat → Nat) × Dt) × Nat × Nat) := if x8 ≤ x9 then gd (inb (x6 + 1) (L (32 * o + 8))) (bd (sA d (32 * o + 8) (ix (x6 + 1)) (gF d o 5)) (fun d18 => k6 x5 (x6 + 1) L d18)) else (t_X0_wayOut L d 6 x7 x9).bind (fun v19 => if v19 = (-1) then t_X4_spread_157 o p1 p2 p3 p4 k6 k92 x5 x6 x7 x8 x9 L d else if v19 = p3 then t_X4_spread_157 o p1 p2 p3 p4 k6 k92 x5 x6 x7 x8 x9 L d else bd (sF d o 6 ((gF d o 6) ||| ((1 : Int32) <<< (v19 &&& 31)))) (fun d22 => (t_X0_goOn L d22 6 x7 v19 p2).bind (fun v23 => (t_X4_meet L d22 o v23).bind (fun q24 => al q24.2.1 q24.2.2 ((t_X4_addWay q24.1.2.1 q24.1.2.2 o q24.1.1).bind (fun q28 => al q28.2.1 q28.2.2 (t_X4_spread_157 o p1 p2 p3 p4 k6 k92 x5 x6 x7 x8 x9 q28.1.1 q28.1.2)))))))
set_option maxRecDepth 20000 in
theorem b_X4_spread_92 {K : Kx} {Y : Yx} {z0 : Sh} {kT nT : Nat} (hC : CK K Y cX4_spread 11 RX4 4 106) (hr : (kme K).sig.returnType = some .boolean) {o : Nat} {p1 : Int32} {p2 : Int32} {p3 : Int32} {p4 : Int32} (ho : (0, o, 3) ∈ yI Y) {r : Int32} {L' : Nat → Nat} {d' : Dt} (hA : CA K Y z0 kT nT (some (.int r)) L' d') {k6 : Int32 → Int32 → (Nat → Nat) → (Dt) → Option ((Int32 × (Nat → Nat) × Dt) × Nat × Nat)} {k92 : Int32 → Int32 → Int32 → Int32 → Int32 → (Nat → Nat) → (Dt) → Option ((Int32 × (Nat → Nat) × Dt) × Nat × Nat)} (hk6 : ∀ (x5 : Int32) (x6 : Int32) (L : Nat → Nat) (d : Dt) (ad : Nat → Nat) (k n kc ns : Nat), k6 x5 x6 L d = some ((r, L', d'), kc, ns) → k + kc = kT → n + ns = nT → V K Y 11 k n (L, ad) d 6 [(0, .ref (yo Y o)), (2, .int p2), (3, .int p3), (4, .int p4), (5, .int x5), (6, .int x6)] []) (hk92 : ∀ (x5 : Int32) (x6 : Int32) (x7 : Int32) (x8 : Int32) (x9 : Int32) (L : Nat → Nat) (d : Dt) (ad : Nat → Nat) (k n kc ns : Nat), k92 x5 x6 x7 x8 x9 L d = some ((r, L', d'), kc, ns) → k + kc = kT → n + ns = nT → V K Y 11 k n (L, ad) d 92 [(0, .ref (yo Y o)), (2, .int p2), (3, .int p3), (4, .int p4), (5, .int x5), (6, .int x6), (7, .int x7), (8, .int x8), (9, .int x9)] []) (x5 : Int32) (x6 : Int32) (x7 : Int32) (x8 : Int32) (x9 : Int32) (L : Nat → Nat) (d : Dt) (ad : Nat → Nat) (k n kc ns : Nat) (hf : t_X4_spread_92 o p1 p2 p3 p4 k6 k92 x5 x6 x7 x8 x9 L d = some ((r, L', d'), kc, ns)) (hkT : k + kc = kT) (hnT : n + ns = nT) : V K Y 11 k n (L, ad) d 92 [(0, .ref (yo Y o)), (2, .int p2), (3, .int p3), (4, .int p4), (5, .int x5), (6, .int x6), (7, .int x7), (8, .int x8), (9, .int x9)] [] := by
  have hL := hC.2.2.2.2.2.2.1
  unfold t_X4_spread_92 at hf
  refine V_iload 8 hC dX4_spread_92 rfl ?_
  refine V_iload 7 hC dX4_spread_94 rfl ?_
  refine V_icmp_ge (tgt := 163) hC dX4_spread_96 (by decide) (fun c16 => ?_) (fun c16 => ?_)
  · have hf := if_t hf c16
    refine V_aload_n 0 hC dX4_spread_163 rfl rfl ?_
    refine V_geta (o := o) hC ho rfl fk_X4_35 dX4_spread_164 ?_
    refine V_iload 5 hC dX4_spread_167 rfl ?_
    refine V_iconst (v := 1) hC dX4_spread_169 rfl ?_
    refine V_iadd hC dX4_spread_170 ?_
    refine V_aload_n 0 hC dX4_spread_171 rfl rfl ?_
    refine V_geti (o := o) hC ho rfl fk_X4_25 dX4_spread_172 ?_
    obtain ⟨g17, hf⟩ := gd_some hf
    refine V_iast (a := (32 * o + 8)) hC (hL.row ho rfl) g17 dX4_spread_175 (fun d18 ed18 => ?_)
    have hf := bd_e hf d18 ed18
    refine V_iinc (v := x6 + 1) (lv' := [(6, .int (x6 + 1)), (0, .ref (yo Y o)), (2, .int p2), (3, .int p3), (4, .int p4), (5, .int x5), (7, .int x7), (8, .int x8), (9, .int x9)]) 5 hC dX4_spread_176 rfl rfl (by decide) rfl ?_
    refine V_goto (tgt := 6) hC dX4_spread_179 (by decide) ?_
    exact V_sub [1, 2, 3, 4, 5, 0] rfl (hk6 x5 (x6 + 1) L d18 ad k n kc ns hf hkT hnT)
  · have hf := if_f hf c16
    refine V_aload_n 0 hC dX4_spread_99 rfl rfl ?_
    refine V_geto (o := o) (o2 := 6) hC ho rfl fk_X4_62 rfl dX4_spread_100 ?_
    refine V_iload 6 hC dX4_spread_103 rfl ?_
    refine V_iload 8 hC dX4_spread_105 rfl ?_
    obtain ⟨v19, ev19, hf⟩ := bi_some hf
    refine V_invi (o := 6) (As := [.int x7, .int x9]) (rest := []) hC (c_X0_wayOut hL (show (0, 6, 0) ∈ yI Y from hL.obj (j := 3) ho rfl) ev19) me_X0_wayOut lk_X4_130 (show (0, 6, 0) ∈ yI Y from hL.obj (j := 3) ho rfl) rfl rfl rfl (Nat.le_of_ble_eq_true rfl) ⟨by decide, by decide⟩ ⟨by rw [hA.2.2.1]; omega, by rw [hA.2.2.2]; omega⟩ dX4_spread_107 ?_
    refine V_istore (lv' := [(10, .int v19), (0, .ref (yo Y o)), (2, .int p2), (3, .int p3), (4, .int p4), (5, .int x5), (6, .int x6), (7, .int x7), (8, .int x8), (9, .int x9)]) hC dX4_spread_110 (by decide) rfl ?_
    refine V_iload 0 hC dX4_spread_112 rfl ?_
    refine V_iconst (v := -1) hC dX4_spread_114 rfl ?_
    refine V_icmp_eq (tgt := 157) hC dX4_spread_115 (by decide) (fun c20 => ?_) (fun c20 => ?_)
    · have hf := if_t hf c20
      exact V_sub [1, 2, 3, 4, 5, 6, 7, 8, 9] rfl (b_X4_spread_157 hC hr ho hA hk6 hk92 x5 x6 x7 x8 x9 L d ad k n kc ns hf hkT hnT)
    · have hf := if_f hf c20
      refine V_iload 0 hC dX4_spread_118 rfl ?_
      refine V_iload_n 3 hC dX4_spread_120 rfl rfl ?_
      refine V_icmp_eq (tgt := 157) hC dX4_spread_121 (by decide) (fun c21 => ?_) (fun c21 => ?_)
      · have hf := if_t hf c21
        exact V_sub [1, 2, 3, 4, 5, 6, 7, 8, 9] rfl (b_X4_spread_157 hC hr ho hA hk6 hk92 x5 x6 x7 x8 x9 L d ad k n kc ns hf hkT hnT)
      · have hf := if_f hf c21
        refine V_aload_n 1 hC dX4_spread_124 rfl rfl ?_
        refine V_dup hC dX4_spread_125 rfl ?_
        refine V_geti (o := o) hC ho rfl fk_X4_28 dX4_spread_126 ?_
        refine V_iconst (v := 1) hC dX4_spread_129 rfl ?_
        refine V_iload 0 hC dX4_spread_130 rfl ?_
        refine V_ishl hC dX4_spread_132 ?_
        refine V_ior hC dX4_spread_133 ?_
        refine V_puti (o := o) hC ho rfl fk_X4_28 pl_X4 rfl rfl dX4_spread_134 (fun d22 ed22 => ?_)
        have hf := bd_e hf d22 ed22
        refine V_aload_n 1 hC dX4_spread_137 rfl rfl ?_
        refine V_aload_n 1 hC dX4_spread_138 rfl rfl ?_
        refine V_aload_n 1 hC dX4_spread_139 rfl rfl ?_
        refine V_geto (o := o) (o2 := 6) hC ho rfl fk_X4_62 rfl dX4_spread_140 ?_
        refine V_iload 7 hC dX4_spread_143 rfl ?_
        refine V_iload 0 hC dX4_spread_145 rfl ?_
        refine V_iload_n 2 hC dX4_spread_147 rfl rfl ?_
        obtain ⟨v23, ev23, hf⟩ := bi_some hf
        refine V_invi (o := 6) (As := [.int x7, .int v19, .int p2]) (rest := [.ref (yo Y o), .ref (yo Y o)]) hC (c_X0_goOn hL (show (0, 6, 0) ∈ yI Y from hL.obj (j := 3) ho rfl) ev23) me_X0_goOn lk_X4_134 (show (0, 6, 0) ∈ yI Y from hL.obj (j := 3) ho rfl) rfl rfl rfl (Nat.le_of_ble_eq_true rfl) ⟨by decide, by decide⟩ ⟨by rw [hA.2.2.1]; omega, by rw [hA.2.2.2]; omega⟩ dX4_spread_148 ?_
        obtain ⟨q24, eq24, hf⟩ := bi_some hf
        obtain ⟨kc25, ns26, hf, ekc25, ens26⟩ := al_some hf
        refine V_invAi (r1 := q24.1.1) (L1 := q24.1.2.1) (d1 := q24.1.2.2) (k1 := q24.2.1) (n1 := q24.2.2) (o := o) (As := [.int v23]) (rest := [.ref (yo Y o)]) hC hA.new (c_X4_meet hL ho eq24) me_X4_meet lk_X4_79 ho rfl rfl rfl (Nat.le_of_ble_eq_true rfl) ⟨by decide, by decide⟩ ⟨by rw [hA.2.2.1]; omega, by rw [hA.2.2.2]; omega⟩ dX4_spread_151 (fun ad27 => ?_)
        have hkT : (k + q24.2.1) + kc25 = kT := by omega
        have hnT : (n + q24.2.2) + ns26 = nT := by omega
        obtain ⟨q28, eq28, hf⟩ := bi_some hf
        obtain ⟨kc29, ns30, hf, ekc29, ens30⟩ := al_some hf
        refine V_invAv (L1 := q28.1.1) (d1 := q28.1.2) (k1 := q28.2.1) (n1 := q28.2.2) (o := o) (As := [.int q24.1.1]) (rest := []) hC hA.new (c_X4_addWay hL ho eq28) me_X4_addWay lk_X4_138 ho rfl rfl rfl (Nat.le_of_ble_eq_true rfl) ⟨by decide, by decide⟩ ⟨by rw [hA.2.2.1]; omega, by rw [hA.2.2.2]; omega⟩ dX4_spread_154 (fun ad31 => ?_)
        have hkT : ((k + q24.2.1) + q28.2.1) + kc29 = kT := by omega
        have hnT : ((n + q24.2.2) + q28.2.2) + ns30 = nT := by omega
        exact V_sub [1, 2, 3, 4, 5, 6, 7, 8, 9] rfl (b_X4_spread_157 hC hr ho hA hk6 hk92 x5 x6 x7 x8 x9 q28.1.1 q28.1.2 ad31 ((k + q24.2.1) + q28.2.1) ((n + q24.2.2) + q28.2.2) kc29 ns30 hf hkT hnT)
def t_X4_spread_64 (o : Nat) (p1 : Int32) (p2 : Int32) (p3 : Int32) (p4 : Int32) (k6 : Int32 → Int32 → (Nat → Nat) → (Dt) → Option ((Int32 × (Nat → Nat) × Dt) × Nat × Nat)) (x5 : Int32) (x6 : Int32) (x7 : Int32) (L : Nat → Nat) (d : Dt) : Option ((Int32 × (Nat → Nat) × Dt) × Nat × Nat) := gd (inb x6 (L (32 * o + 8))) (bd (sA d (32 * o + 8) (ix x6) (gF d o 5)) (fun d13 => (t_X3_partOf L d13 x7).bind (fun v14 => (t_X0_waysFrom L d13 6 v14).bind (fun v15 => lp (fun k x => t_X4_spread_92 o p1 p2 p3 p4 k6 (fun x5 x6 x7 x8 x9 L d => k (x5, x6, x7, x8, x9, L, d)) x.1 x.2.1 x.2.2.1 x.2.2.2.1 x.2.2.2.2.1 x.2.2.2.2.2.1 x.2.2.2.2.2.2) FU (x5, x6, x7, v15, 0, L, d13)))))
set_option maxRecDepth 20000 in
theorem b_X4_spread_64 {K : Kx} {Y : Yx} {z0 : Sh} {kT nT : Nat} (hC : CK K Y cX4_spread 11 RX4 4 106) (hr : (kme K).sig.returnType = some .boolean) {o : Nat} {p1 : Int32} {p2 : Int32} {p3 : Int32} {p4 : Int32} (ho : (0, o, 3) ∈ yI Y) {r : Int32} {L' : Nat → Nat} {d' : Dt} (hA : CA K Y z0 kT nT (some (.int r)) L' d') {k6 : Int32 → Int32 → (Nat → Nat) → (Dt) → Option ((Int32 × (Nat → Nat) × Dt) × Nat × Nat)} (hk6 : ∀ (x5 : Int32) (x6 : Int32) (L : Nat → Nat) (d : Dt) (ad : Nat → Nat) (k n kc ns : Nat), k6 x5 x6 L d = some ((r, L', d'), kc, ns) → k + kc = kT → n + ns = nT → V K Y 11 k n (L, ad) d 6 [(0, .ref (yo Y o)), (2, .int p2), (3, .int p3), (4, .int p4), (5, .int x5), (6, .int x6)] []) (x5 : Int32) (x6 : Int32) (x7 : Int32) (L : Nat → Nat) (d : Dt) (ad : Nat → Nat) (k n kc ns : Nat) (hf : t_X4_spread_64 o p1 p2 p3 p4 k6 x5 x6 x7 L d = some ((r, L', d'), kc, ns)) (hkT : k + kc = kT) (hnT : n + ns = nT) : V K Y 11 k n (L, ad) d 64 [(0, .ref (yo Y o)), (2, .int p2), (3, .int p3), (4, .int p4), (5, .int x5), (6, .int x6), (7, .int x7)] [] := by
  have hL := hC.2.2.2.2.2.2.1
  unfold t_X4_spread_64 at hf
  refine V_aload_n 0 hC dX4_spread_64 rfl rfl ?_
  refine V_geta (o := o) hC ho rfl fk_X4_35 dX4_spread_65 ?_
  refine V_iload 5 hC dX4_spread_68 rfl ?_
  refine V_aload_n 0 hC dX4_spread_70 rfl rfl ?_
  refine V_geti (o := o) hC ho rfl fk_X4_25 dX4_spread_71 ?_
  obtain ⟨g12, hf⟩ := gd_some hf
  refine V_iast (a := (32 * o + 8)) hC (hL.row ho rfl) g12 dX4_spread_74 (fun d13 ed13 => ?_)
  have hf := bd_e hf d13 ed13
  refine V_aload_n 0 hC dX4_spread_75 rfl rfl ?_
  refine V_geto (o := o) (o2 := 6) hC ho rfl fk_X4_62 rfl dX4_spread_76 ?_
  refine V_iload 6 hC dX4_spread_79 rfl ?_
  obtain ⟨v14, ev14, hf⟩ := bi_some hf
  refine V_insi (As := [.int x7]) (rest := [.ref (yo Y 6)]) hC (c_X3_partOf hL  ev14) me_X3_partOf lk_X4_117 rfl rfl (Nat.le_of_ble_eq_true rfl) ⟨by decide, by decide⟩ ⟨by rw [hA.2.2.1]; omega, by rw [hA.2.2.2]; omega⟩ dX4_spread_81 ?_
  obtain ⟨v15, ev15, hf⟩ := bi_some hf
  refine V_invi (o := 6) (As := [.int v14]) (rest := []) hC (c_X0_waysFrom hL (show (0, 6, 0) ∈ yI Y from hL.obj (j := 3) ho rfl) ev15) me_X0_waysFrom lk_X4_127 (show (0, 6, 0) ∈ yI Y from hL.obj (j := 3) ho rfl) rfl rfl rfl (Nat.le_of_ble_eq_true rfl) ⟨by decide, by decide⟩ ⟨by rw [hA.2.2.1]; omega, by rw [hA.2.2.2]; omega⟩ dX4_spread_84 ?_
  refine V_istore (lv' := [(8, .int v15), (0, .ref (yo Y o)), (2, .int p2), (3, .int p3), (4, .int p4), (5, .int x5), (6, .int x6), (7, .int x7)]) hC dX4_spread_87 (by decide) rfl ?_
  refine V_iconst (v := 0) hC dX4_spread_89 rfl ?_
  refine V_istore (lv' := [(9, .int 0), (8, .int v15), (0, .ref (yo Y o)), (2, .int p2), (3, .int p3), (4, .int p4), (5, .int x5), (6, .int x6), (7, .int x7)]) hC dX4_spread_90 (by decide) rfl ?_
  exact V_sub [2, 3, 4, 5, 6, 7, 8, 1, 0] rfl (lp_indA (X := Int32 × Int32 × Int32 × Int32 × Int32 × (Nat → Nat) × Dt) (P := fun x kc ns => ∀ (ad : Nat → Nat) (k n : Nat), k + kc = kT → n + ns = nT → V K Y 11 k n (x.2.2.2.2.2.1, ad) x.2.2.2.2.2.2 92 [(0, .ref (yo Y o)), (2, .int p2), (3, .int p3), (4, .int p4), (5, .int x.1), (6, .int x.2.1), (7, .int x.2.2.1), (8, .int x.2.2.2.1), (9, .int x.2.2.2.2.1)] []) (fun kf x hk kc ns hx ad k n h1 h2 => b_X4_spread_92 hC hr ho hA hk6 (k92 := fun x5 x6 x7 x8 x9 L d => kf (x5, x6, x7, x8, x9, L, d)) (fun x5 x6 x7 x8 x9 L d ad k n kc ns hx h1 h2 => hk (x5, x6, x7, x8, x9, L, d) kc ns hx ad k n h1 h2) x.1 x.2.1 x.2.2.1 x.2.2.2.1 x.2.2.2.2.1 x.2.2.2.2.2.1 x.2.2.2.2.2.2 ad k n kc ns hx h1 h2) FU (x5, x6, x7, v15, 0, L, d13) kc ns hf ad k n hkT hnT)
def t_X4_spread_50 (o : Nat) (p1 : Int32) (p2 : Int32) (p3 : Int32) (p4 : Int32) (k6 : Int32 → Int32 → (Nat → Nat) → (Dt) → Option ((Int32 × (Nat → Nat) × Dt) × Nat × Nat)) (x6 : Int32) (x7 : Int32) (s0 : Int32) (L : Nat → Nat) (d : Dt) : Option ((Int32 × (Nat → Nat) × Dt) × Nat × Nat) := if s0 = 0 then t_X4_spread_64 o p1 p2 p3 p4 k6 s0 x6 x7 L d else if p4 = 0 then t_X4_spread_64 o p1 p2 p3 p4 k6 s0 x6 x7 L d else some ((1, L, d), 0, 0)
set_option maxRecDepth 20000 in
theorem b_X4_spread_50 {K : Kx} {Y : Yx} {z0 : Sh} {kT nT : Nat} (hC : CK K Y cX4_spread 11 RX4 4 106) (hr : (kme K).sig.returnType = some .boolean) {o : Nat} {p1 : Int32} {p2 : Int32} {p3 : Int32} {p4 : Int32} (ho : (0, o, 3) ∈ yI Y) {r : Int32} {L' : Nat → Nat} {d' : Dt} (hA : CA K Y z0 kT nT (some (.int r)) L' d') {k6 : Int32 → Int32 → (Nat → Nat) → (Dt) → Option ((Int32 × (Nat → Nat) × Dt) × Nat × Nat)} (hk6 : ∀ (x5 : Int32) (x6 : Int32) (L : Nat → Nat) (d : Dt) (ad : Nat → Nat) (k n kc ns : Nat), k6 x5 x6 L d = some ((r, L', d'), kc, ns) → k + kc = kT → n + ns = nT → V K Y 11 k n (L, ad) d 6 [(0, .ref (yo Y o)), (2, .int p2), (3, .int p3), (4, .int p4), (5, .int x5), (6, .int x6)] []) (x6 : Int32) (x7 : Int32) (s0 : Int32) (L : Nat → Nat) (d : Dt) (ad : Nat → Nat) (k n kc ns : Nat) (hf : t_X4_spread_50 o p1 p2 p3 p4 k6 x6 x7 s0 L d = some ((r, L', d'), kc, ns)) (hkT : k + kc = kT) (hnT : n + ns = nT) : V K Y 11 k n (L, ad) d 50 [(0, .ref (yo Y o)), (2, .int p2), (3, .int p3), (4, .int p4), (6, .int x6), (7, .int x7)] [.int s0] := by
  have hL := hC.2.2.2.2.2.2.1
  unfold t_X4_spread_50 at hf
  refine V_istore (lv' := [(5, .int s0), (0, .ref (yo Y o)), (2, .int p2), (3, .int p3), (4, .int p4), (6, .int x6), (7, .int x7)]) hC dX4_spread_50 (by decide) rfl ?_
  refine V_iload 0 hC dX4_spread_52 rfl ?_
  refine V_if_eq (tgt := 64) hC dX4_spread_54 (by decide) (fun c10 => ?_) (fun c10 => ?_)
  · have hf := if_t hf c10
    exact V_sub [1, 2, 3, 4, 0, 5, 6] rfl (b_X4_spread_64 hC hr ho hA hk6 s0 x6 x7 L d ad k n kc ns hf hkT hnT)
  · have hf := if_f hf c10
    refine V_iload 4 hC dX4_spread_57 rfl ?_
    refine V_if_eq (tgt := 64) hC dX4_spread_59 (by decide) (fun c11 => ?_) (fun c11 => ?_)
    · have hf := if_t hf c11
      exact V_sub [1, 2, 3, 4, 0, 5, 6] rfl (b_X4_spread_64 hC hr ho hA hk6 s0 x6 x7 L d ad k n kc ns hf hkT hnT)
    · have hf := if_f hf c11
      refine V_iconst (v := 1) hC dX4_spread_62 rfl ?_
      obtain ⟨rfl, rfl, rfl, rfl, rfl⟩ := so_injA hf
      exact V_zretA hC hr rfl hA (by omega) (by omega) dX4_spread_63
def t_X4_spread_45 (o : Nat) (p1 : Int32) (p2 : Int32) (p3 : Int32) (p4 : Int32) (k6 : Int32 → Int32 → (Nat → Nat) → (Dt) → Option ((Int32 × (Nat → Nat) × Dt) × Nat × Nat)) (x6 : Int32) (x7 : Int32) (L : Nat → Nat) (d : Dt) : Option ((Int32 × (Nat → Nat) × Dt) × Nat × Nat) := t_X4_spread_50 o p1 p2 p3 p4 k6 x6 x7 1 L d
set_option maxRecDepth 20000 in
theorem b_X4_spread_45 {K : Kx} {Y : Yx} {z0 : Sh} {kT nT : Nat} (hC : CK K Y cX4_spread 11 RX4 4 106) (hr : (kme K).sig.returnType = some .boolean) {o : Nat} {p1 : Int32} {p2 : Int32} {p3 : Int32} {p4 : Int32} (ho : (0, o, 3) ∈ yI Y) {r : Int32} {L' : Nat → Nat} {d' : Dt} (hA : CA K Y z0 kT nT (some (.int r)) L' d') {k6 : Int32 → Int32 → (Nat → Nat) → (Dt) → Option ((Int32 × (Nat → Nat) × Dt) × Nat × Nat)} (hk6 : ∀ (x5 : Int32) (x6 : Int32) (L : Nat → Nat) (d : Dt) (ad : Nat → Nat) (k n kc ns : Nat), k6 x5 x6 L d = some ((r, L', d'), kc, ns) → k + kc = kT → n + ns = nT → V K Y 11 k n (L, ad) d 6 [(0, .ref (yo Y o)), (2, .int p2), (3, .int p3), (4, .int p4), (5, .int x5), (6, .int x6)] []) (x6 : Int32) (x7 : Int32) (L : Nat → Nat) (d : Dt) (ad : Nat → Nat) (k n kc ns : Nat) (hf : t_X4_spread_45 o p1 p2 p3 p4 k6 x6 x7 L d = some ((r, L', d'), kc, ns)) (hkT : k + kc = kT) (hnT : n + ns = nT) : V K Y 11 k n (L, ad) d 45 [(0, .ref (yo Y o)), (2, .int p2), (3, .int p3), (4, .int p4), (6, .int x6), (7, .int x7)] [] := by
  have hL := hC.2.2.2.2.2.2.1
  unfold t_X4_spread_45 at hf
  refine V_iconst (v := 1) hC dX4_spread_45 rfl ?_
  refine V_goto (tgt := 50) hC dX4_spread_46 (by decide) ?_
  exact b_X4_spread_50 hC hr ho hA hk6 x6 x7 1 L d ad k n kc ns hf hkT hnT
def t_X4_spread_6 (o : Nat) (p1 : Int32) (p2 : Int32) (p3 : Int32) (p4 : Int32) (k6 : Int32 → Int32 → (Nat → Nat) → (Dt) → Option ((Int32 × (Nat → Nat) × Dt) × Nat × Nat)) (x5 : Int32) (x6 : Int32) (L : Nat → Nat) (d : Dt) : Option ((Int32 × (Nat → Nat) × Dt) × Nat × Nat) := if (gF d o 4) ≤ x6 then gd (isB x5) (some ((x5, L, d), 0, 0)) else if 55296 ≤ x6 then gd (isB x5) (some ((x5, L, d), 0, 0)) else gd (inb x6 (L (32 * o + 7))) (bd (gA d (32 * o + 7) (ix x6)) (fun y6 => if x5 = 0 then (t_X3_fateOf L d y6).bind (fun v8 => if v8 = 1 then t_X4_spread_45 o p1 p2 p3 p4 k6 x6 y6 L d else t_X4_spread_50 o p1 p2 p3 p4 k6 x6 y6 0 L d) else t_X4_spread_45 o p1 p2 p3 p4 k6 x6 y6 L d))
set_option maxRecDepth 20000 in
theorem b_X4_spread_6 {K : Kx} {Y : Yx} {z0 : Sh} {kT nT : Nat} (hC : CK K Y cX4_spread 11 RX4 4 106) (hr : (kme K).sig.returnType = some .boolean) {o : Nat} {p1 : Int32} {p2 : Int32} {p3 : Int32} {p4 : Int32} (ho : (0, o, 3) ∈ yI Y) {r : Int32} {L' : Nat → Nat} {d' : Dt} (hA : CA K Y z0 kT nT (some (.int r)) L' d') {k6 : Int32 → Int32 → (Nat → Nat) → (Dt) → Option ((Int32 × (Nat → Nat) × Dt) × Nat × Nat)} (hk6 : ∀ (x5 : Int32) (x6 : Int32) (L : Nat → Nat) (d : Dt) (ad : Nat → Nat) (k n kc ns : Nat), k6 x5 x6 L d = some ((r, L', d'), kc, ns) → k + kc = kT → n + ns = nT → V K Y 11 k n (L, ad) d 6 [(0, .ref (yo Y o)), (2, .int p2), (3, .int p3), (4, .int p4), (5, .int x5), (6, .int x6)] []) (x5 : Int32) (x6 : Int32) (L : Nat → Nat) (d : Dt) (ad : Nat → Nat) (k n kc ns : Nat) (hf : t_X4_spread_6 o p1 p2 p3 p4 k6 x5 x6 L d = some ((r, L', d'), kc, ns)) (hkT : k + kc = kT) (hnT : n + ns = nT) : V K Y 11 k n (L, ad) d 6 [(0, .ref (yo Y o)), (2, .int p2), (3, .int p3), (4, .int p4), (5, .int x5), (6, .int x6)] [] := by
  have hL := hC.2.2.2.2.2.2.1
  unfold t_X4_spread_6 at hf
  refine V_iload 5 hC dX4_spread_6 rfl ?_
  refine V_aload_n 0 hC dX4_spread_8 rfl rfl ?_
  refine V_geti (o := o) hC ho rfl fk_X4_22 dX4_spread_9 ?_
  refine V_icmp_ge (tgt := 182) hC dX4_spread_12 (by decide) (fun c1 => ?_) (fun c1 => ?_)
  · have hf := if_t hf c1
    refine V_iload 4 hC dX4_spread_182 rfl ?_
    obtain ⟨g2, hf⟩ := gd_some hf
    obtain ⟨rfl, rfl, rfl, rfl, rfl⟩ := so_injA hf
    exact V_zretA hC hr (nar_b g2) hA (by omega) (by omega) dX4_spread_184
  · have hf := if_f hf c1
    refine V_iload 5 hC dX4_spread_15 rfl ?_
    refine V_ldc hC ck_X4_126 dX4_spread_17 ?_
    refine V_icmp_ge (tgt := 182) hC dX4_spread_19 (by decide) (fun c3 => ?_) (fun c3 => ?_)
    · have hf := if_t hf c3
      refine V_iload 4 hC dX4_spread_182 rfl ?_
      obtain ⟨g4, hf⟩ := gd_some hf
      obtain ⟨rfl, rfl, rfl, rfl, rfl⟩ := so_injA hf
      exact V_zretA hC hr (nar_b g4) hA (by omega) (by omega) dX4_spread_184
    · have hf := if_f hf c3
      refine V_aload_n 0 hC dX4_spread_22 rfl rfl ?_
      refine V_geta (o := o) hC ho rfl fk_X4_31 dX4_spread_23 ?_
      refine V_iload 5 hC dX4_spread_26 rfl ?_
      obtain ⟨g5, hf⟩ := gd_some hf
      refine V_iald (a := (32 * o + 7)) hC (hL.row ho rfl) g5 dX4_spread_28 ?_
      refine V_topi (fun y6 ey6 => ?_)
      have hf := bd_e hf y6 ey6
      refine V_istore (lv' := [(7, .int y6), (0, .ref (yo Y o)), (2, .int p2), (3, .int p3), (4, .int p4), (5, .int x5), (6, .int x6)]) hC dX4_spread_29 (by decide) rfl ?_
      refine V_iload 5 hC dX4_spread_31 rfl ?_
      refine V_if_ne (tgt := 45) hC dX4_spread_33 (by decide) (fun c7 => ?_) (fun c7 => ?_)
      · have hf := if_f hf c7
        exact V_sub [1, 2, 3, 4, 6, 0] rfl (b_X4_spread_45 hC hr ho hA hk6 x6 y6 L d ad k n kc ns hf hkT hnT)
      · have hf := if_t hf c7
        refine V_iload 0 hC dX4_spread_36 rfl ?_
        obtain ⟨v8, ev8, hf⟩ := bi_some hf
        refine V_insi (As := [.int y6]) (rest := []) hC (c_X3_fateOf hL  ev8) me_X3_fateOf lk_X4_92 rfl rfl (Nat.le_of_ble_eq_true rfl) ⟨by decide, by decide⟩ ⟨by rw [hA.2.2.1]; omega, by rw [hA.2.2.2]; omega⟩ dX4_spread_38 ?_
        refine V_iconst (v := 1) hC dX4_spread_41 rfl ?_
        refine V_icmp_ne (tgt := 49) hC dX4_spread_42 (by decide) (fun c9 => ?_) (fun c9 => ?_)
        · have hf := if_f hf c9
          refine V_iconst (v := 0) hC dX4_spread_49 rfl ?_
          exact V_sub [1, 2, 3, 4, 6, 0] rfl (b_X4_spread_50 hC hr ho hA hk6 x6 y6 0 L d ad k n kc ns hf hkT hnT)
        · have hf := if_t hf c9
          exact V_sub [1, 2, 3, 4, 6, 0] rfl (b_X4_spread_45 hC hr ho hA hk6 x6 y6 L d ad k n kc ns hf hkT hnT)
def t_X4_spread (L : Nat → Nat) (d : Dt) (o : Nat) (p1 : Int32) (p2 : Int32) (p3 : Int32) (p4 : Int32) : Option ((Int32 × (Nat → Nat) × Dt) × Nat × Nat) := lp (fun k x => t_X4_spread_6 o p1 p2 p3 p4  (fun x5 x6 L d => k (x5, x6, L, d)) x.1 x.2.1 x.2.2.1 x.2.2.2) FU (0, p1, L, d)
set_option maxRecDepth 20000 in
theorem c_X4_spread {l : Launch} {Y : Yx} (hL : LAY Y) {L : Nat → Nat} {d : Dt} {o : Nat} {p1 : Int32} {p2 : Int32} {p3 : Int32} {p4 : Int32} (ho : (0, o, 3) ∈ yI Y) {r : Int32} {L' : Nat → Nat} {d' : Dt} {kT nT : Nat} (hf : t_X4_spread L d o p1 p2 p3 p4 = some ((r, L', d'), kT, nT)) : MA l yX4_spread cX4_spread 11 (some .boolean) 4 106 Y L [.ref (yo Y o), .int p1, .int p2, .int p3, .int p4] d (some (.int r)) L' d' kT nT := by
  refine MA.ofV ho (by decide +kernel) hL (Nat.le_of_ble_eq_true rfl) (fun K ad hl hC hr hA => ?_)
  have hC : CK K Y cX4_spread 11 RX4 4 106 := hC
  have hkT : 0 + kT = kT := Nat.zero_add _
  have hnT : 0 + nT = nT := Nat.zero_add _
  unfold t_X4_spread at hf
  show V K Y 11 0 0 (L, ad) d 0 [(0, .ref (yo Y o)), (1, .int p1), (2, .int p2), (3, .int p3), (4, .int p4)] []
  refine V_iconst (v := 0) hC dX4_spread_0 rfl ?_
  refine V_istore (lv' := [(5, .int 0), (0, .ref (yo Y o)), (1, .int p1), (2, .int p2), (3, .int p3), (4, .int p4)]) hC dX4_spread_1 (by decide) rfl ?_
  refine V_iload_n 2 hC dX4_spread_3 rfl rfl ?_
  refine V_istore (lv' := [(6, .int p1), (5, .int 0), (0, .ref (yo Y o)), (1, .int p1), (2, .int p2), (3, .int p3), (4, .int p4)]) hC dX4_spread_4 (by decide) rfl ?_
  exact V_sub [2, 4, 5, 6, 1, 0] rfl (lp_indA (X := Int32 × Int32 × (Nat → Nat) × Dt) (P := fun x kc ns => ∀ (ad : Nat → Nat) (k n : Nat), k + kc = kT → n + ns = nT → V K Y 11 k n (x.2.2.1, ad) x.2.2.2 6 [(0, .ref (yo Y o)), (2, .int p2), (3, .int p3), (4, .int p4), (5, .int x.1), (6, .int x.2.1)] []) (fun kf x hk kc ns hx ad k n h1 h2 => b_X4_spread_6 hC hr ho hA  (k6 := fun x5 x6 L d => kf (x5, x6, L, d)) (fun x5 x6 L d ad k n kc ns hx h1 h2 => hk (x5, x6, L, d) kc ns hx ad k n h1 h2) x.1 x.2.1 x.2.2.1 x.2.2.2 ad k n kc ns hx h1 h2) FU (0, p1, L, d) kT nT hf ad 0 0 hkT hnT)
def t_X4_build_54 (o : Nat) (p1 : Int32) (p2 : Int32) (p3 : Int32)   (L : Nat → Nat) (d : Dt) : Option (((Nat → Nat) × Dt) × Nat × Nat) := bd (sF d o 0 (gF d o 4)) (fun d21 => bd (sF d21 o 1 (gF d21 o 6)) (fun d22 => some ((L, d22), 0, 0)))
set_option maxRecDepth 20000 in
theorem b_X4_build_54 {K : Kx} {Y : Yx} {z0 : Sh} {kT nT : Nat} (hC : CK K Y cX4_build 4 RX4 5 136) (hr : (kme K).sig.returnType = none) {o : Nat} {p1 : Int32} {p2 : Int32} {p3 : Int32} (ho : (0, o, 3) ∈ yI Y) {L' : Nat → Nat} {d' : Dt} (hA : CA K Y z0 kT nT (none) L' d')    (L : Nat → Nat) (d : Dt) (ad : Nat → Nat) (k n kc ns : Nat) (hf : t_X4_build_54 o p1 p2 p3   L d = some ((L', d'), kc, ns)) (hkT : k + kc = kT) (hnT : n + ns = nT) : V K Y 4 k n (L, ad) d 54 [(0, .ref (yo Y o))] [] := by
  have hL := hC.2.2.2.2.2.2.1
  unfold t_X4_build_54 at hf
  refine V_aload_n 0 hC dX4_build_54 rfl rfl ?_
  refine V_aload_n 0 hC dX4_build_55 rfl rfl ?_
  refine V_geti (o := o) hC ho rfl fk_X4_22 dX4_build_56 ?_
  refine V_puti (o := o) hC ho rfl fk_X4_11 pl_X4 rfl rfl dX4_build_59 (fun d21 ed21 => ?_)
  have hf := bd_e hf d21 ed21
  refine V_aload_n 0 hC dX4_build_62 rfl rfl ?_
  refine V_aload_n 0 hC dX4_build_63 rfl rfl ?_
  refine V_geti (o := o) hC ho rfl fk_X4_28 dX4_build_64 ?_
  refine V_puti (o := o) hC ho rfl fk_X4_15 pl_X4 rfl rfl dX4_build_67 (fun d22 ed22 => ?_)
  have hf := bd_e hf d22 ed22
  obtain ⟨rfl, rfl, rfl, rfl⟩ := so_injAv hf
  exact V_vretA hC hr hA (by omega) (by omega) dX4_build_70
def t_X4_build (L : Nat → Nat) (d : Dt) (o : Nat) (p1 : Int32) (p2 : Int32) (p3 : Int32) : Option (((Nat → Nat) × Dt) × Nat × Nat) := (t_X4_forget L d o).bind (fun q1 => al q1.2.1 q1.2.2 (bd (sF q1.1.2 o 2 0) (fun d5 => (t_X0_hasPart q1.1.1 d5 6 0).bind (fun v6 => if v6 = 0 then t_X4_build_54 o p1 p2 p3  q1.1.1 d5 else if p2 = 0 then t_X4_build_54 o p1 p2 p3  q1.1.1 d5 else bd (sF d5 o 6 1) (fun d9 => (t_X0_beginning q1.1.1 d9 6 p1).bind (fun v10 => (t_X4_meet q1.1.1 d9 o v10).bind (fun q11 => al q11.2.1 q11.2.2 ((t_X4_spread q11.1.2.1 q11.1.2.2 o 0 p1 p2 p3).bind (fun q15 => al q15.2.1 q15.2.2 (gd (isB q15.1.1) (bd (sF q15.1.2.2 o 2 q15.1.1) (fun d19 => t_X4_build_54 o p1 p2 p3  q15.1.2.1 d19))))))))))))
set_option maxRecDepth 20000 in
theorem c_X4_build {l : Launch} {Y : Yx} (hL : LAY Y) {L : Nat → Nat} {d : Dt} {o : Nat} {p1 : Int32} {p2 : Int32} {p3 : Int32} (ho : (0, o, 3) ∈ yI Y) {L' : Nat → Nat} {d' : Dt} {kT nT : Nat} (hf : t_X4_build L d o p1 p2 p3 = some ((L', d'), kT, nT)) : MA l yX4_build cX4_build 4 none 5 136 Y L [.ref (yo Y o), .int p1, .int p2, .int p3] d (none) L' d' kT nT := by
  refine MA.ofV ho (by decide +kernel) hL (Nat.le_of_ble_eq_true rfl) (fun K ad hl hC hr hA => ?_)
  have hC : CK K Y cX4_build 4 RX4 5 136 := hC
  have hkT : 0 + kT = kT := Nat.zero_add _
  have hnT : 0 + nT = nT := Nat.zero_add _
  unfold t_X4_build at hf
  show V K Y 4 0 0 (L, ad) d 0 [(0, .ref (yo Y o)), (1, .int p1), (2, .int p2), (3, .int p3)] []
  refine V_aload_n 0 hC dX4_build_0 rfl rfl ?_
  obtain ⟨q1, eq1, hf⟩ := bi_some hf
  obtain ⟨kc2, ns3, hf, ekc2, ens3⟩ := al_some hf
  refine V_invAv (L1 := q1.1.1) (d1 := q1.1.2) (k1 := q1.2.1) (n1 := q1.2.2) (o := o) (As := []) (rest := []) hC hA.new (c_X4_forget hL ho eq1) me_X4_forget lk_X4_66 ho rfl rfl rfl (Nat.le_of_ble_eq_true rfl) ⟨by decide, by decide⟩ ⟨by rw [hA.2.2.1]; omega, by rw [hA.2.2.2]; omega⟩ dX4_build_1 (fun ad4 => ?_)
  have hkT : (0 + q1.2.1) + kc2 = kT := by omega
  have hnT : (0 + q1.2.2) + ns3 = nT := by omega
  refine V_aload_n 0 hC dX4_build_4 rfl rfl ?_
  refine V_iconst (v := 0) hC dX4_build_5 rfl ?_
  refine V_putz (o := o) hC ho rfl fk_X4_18 pl_X4 rfl rfl rfl dX4_build_6 (fun d5 ed5 => ?_)
  have hf := bd_e hf d5 ed5
  refine V_aload_n 0 hC dX4_build_9 rfl rfl ?_
  refine V_geto (o := o) (o2 := 6) hC ho rfl fk_X4_62 rfl dX4_build_10 ?_
  refine V_iconst (v := 0) hC dX4_build_13 rfl ?_
  obtain ⟨v6, ev6, hf⟩ := bi_some hf
  refine V_invi (o := 6) (As := [.int 0]) (rest := []) hC (c_X0_hasPart hL (show (0, 6, 0) ∈ yI Y from hL.obj (j := 3) ho rfl) ev6) me_X0_hasPart lk_X4_69 (show (0, 6, 0) ∈ yI Y from hL.obj (j := 3) ho rfl) rfl rfl rfl (Nat.le_of_ble_eq_true rfl) ⟨by decide, by decide⟩ ⟨by rw [hA.2.2.1]; omega, by rw [hA.2.2.2]; omega⟩ dX4_build_14 ?_
  refine V_if_eq (tgt := 54) hC dX4_build_17 (by decide) (fun c7 => ?_) (fun c7 => ?_)
  · have hf := if_t hf c7
    exact V_sub [0] rfl (b_X4_build_54 hC hr ho hA  q1.1.1 d5 ad4 (0 + q1.2.1) (0 + q1.2.2) kc2 ns3 hf hkT hnT)
  · have hf := if_f hf c7
    refine V_iload_n 2 hC dX4_build_20 rfl rfl ?_
    refine V_if_eq (tgt := 54) hC dX4_build_21 (by decide) (fun c8 => ?_) (fun c8 => ?_)
    · have hf := if_t hf c8
      exact V_sub [0] rfl (b_X4_build_54 hC hr ho hA  q1.1.1 d5 ad4 (0 + q1.2.1) (0 + q1.2.2) kc2 ns3 hf hkT hnT)
    · have hf := if_f hf c8
      refine V_aload_n 0 hC dX4_build_24 rfl rfl ?_
      refine V_iconst (v := 1) hC dX4_build_25 rfl ?_
      refine V_puti (o := o) hC ho rfl fk_X4_28 pl_X4 rfl rfl dX4_build_26 (fun d9 ed9 => ?_)
      have hf := bd_e hf d9 ed9
      refine V_aload_n 0 hC dX4_build_29 rfl rfl ?_
      refine V_aload_n 0 hC dX4_build_30 rfl rfl ?_
      refine V_geto (o := o) (o2 := 6) hC ho rfl fk_X4_62 rfl dX4_build_31 ?_
      refine V_iload_n 1 hC dX4_build_34 rfl rfl ?_
      obtain ⟨v10, ev10, hf⟩ := bi_some hf
      refine V_invi (o := 6) (As := [.int p1]) (rest := [.ref (yo Y o)]) hC (c_X0_beginning hL (show (0, 6, 0) ∈ yI Y from hL.obj (j := 3) ho rfl) ev10) me_X0_beginning lk_X4_75 (show (0, 6, 0) ∈ yI Y from hL.obj (j := 3) ho rfl) rfl rfl rfl (Nat.le_of_ble_eq_true rfl) ⟨by decide, by decide⟩ ⟨by rw [hA.2.2.1]; omega, by rw [hA.2.2.2]; omega⟩ dX4_build_35 ?_
      obtain ⟨q11, eq11, hf⟩ := bi_some hf
      obtain ⟨kc12, ns13, hf, ekc12, ens13⟩ := al_some hf
      refine V_invAi (r1 := q11.1.1) (L1 := q11.1.2.1) (d1 := q11.1.2.2) (k1 := q11.2.1) (n1 := q11.2.2) (o := o) (As := [.int v10]) (rest := []) hC hA.new (c_X4_meet hL ho eq11) me_X4_meet lk_X4_79 ho rfl rfl rfl (Nat.le_of_ble_eq_true rfl) ⟨by decide, by decide⟩ ⟨by rw [hA.2.2.1]; omega, by rw [hA.2.2.2]; omega⟩ dX4_build_38 (fun ad14 => ?_)
      have hkT : ((0 + q1.2.1) + q11.2.1) + kc12 = kT := by omega
      have hnT : ((0 + q1.2.2) + q11.2.2) + ns13 = nT := by omega
      refine V_pop hC dX4_build_41 rfl ?_
      refine V_aload_n 0 hC dX4_build_42 rfl rfl ?_
      refine V_aload_n 0 hC dX4_build_43 rfl rfl ?_
      refine V_iconst (v := 0) hC dX4_build_44 rfl ?_
      refine V_iload_n 1 hC dX4_build_45 rfl rfl ?_
      refine V_iload_n 2 hC dX4_build_46 rfl rfl ?_
      refine V_iload_n 3 hC dX4_build_47 rfl rfl ?_
      obtain ⟨q15, eq15, hf⟩ := bi_some hf
      obtain ⟨kc16, ns17, hf, ekc16, ens17⟩ := al_some hf
      refine V_invAi (r1 := q15.1.1) (L1 := q15.1.2.1) (d1 := q15.1.2.2) (k1 := q15.2.1) (n1 := q15.2.2) (o := o) (As := [.int 0, .int p1, .int p2, .int p3]) (rest := [.ref (yo Y o)]) hC hA.new (c_X4_spread hL ho eq15) me_X4_spread lk_X4_82 ho rfl rfl rfl (Nat.le_of_ble_eq_true rfl) ⟨by decide, by decide⟩ ⟨by rw [hA.2.2.1]; omega, by rw [hA.2.2.2]; omega⟩ dX4_build_48 (fun ad18 => ?_)
      have hkT : (((0 + q1.2.1) + q11.2.1) + q15.2.1) + kc16 = kT := by omega
      have hnT : (((0 + q1.2.2) + q11.2.2) + q15.2.2) + ns17 = nT := by omega
      obtain ⟨g20, hf⟩ := gd_some hf
      refine V_putz (o := o) hC ho rfl fk_X4_18 pl_X4 rfl rfl g20 dX4_build_51 (fun d19 ed19 => ?_)
      have hf := bd_e hf d19 ed19
      exact V_sub [0] rfl (b_X4_build_54 hC hr ho hA  q15.1.2.1 d19 ad18 (((0 + q1.2.1) + q11.2.1) + q15.2.1) (((0 + q1.2.2) + q11.2.2) + q15.2.2) kc16 ns17 hf hkT hnT)
def t_X4_include (L : Nat → Nat) (d : Dt) (o : Nat) (p1 : Int32) : Option ((Int32 × (Nat → Nat) × Dt) × Nat × Nat) := bd (gF d o 4) (fun y1 => (t_X4_meet L d o p1).bind (fun q2 => al q2.2.1 q2.2.2 (if (gF q2.1.2.2 o 4) ≤ y1 then some ((q2.1.1, q2.1.2.1, q2.1.2.2), 0, 0) else (t_X4_spread q2.1.2.1 q2.1.2.2 o y1 (-1) (-1) 0).bind (fun q7 => al q7.2.1 q7.2.2 ((t_X4_forgetResults q7.1.2.1 q7.1.2.2 o).bind (fun d11 => some ((q2.1.1, q7.1.2.1, d11), 0, 0)))))))
set_option maxRecDepth 20000 in
theorem c_X4_include {l : Launch} {Y : Yx} (hL : LAY Y) {L : Nat → Nat} {d : Dt} {o : Nat} {p1 : Int32} (ho : (0, o, 3) ∈ yI Y) {r : Int32} {L' : Nat → Nat} {d' : Dt} {kT nT : Nat} (hf : t_X4_include L d o p1 = some ((r, L', d'), kT, nT)) : MA l yX4_include cX4_include 4 (some .int) 5 136 Y L [.ref (yo Y o), .int p1] d (some (.int r)) L' d' kT nT := by
  refine MA.ofV ho (by decide +kernel) hL (Nat.le_of_ble_eq_true rfl) (fun K ad hl hC hr hA => ?_)
  have hC : CK K Y cX4_include 4 RX4 5 136 := hC
  have hkT : 0 + kT = kT := Nat.zero_add _
  have hnT : 0 + nT = nT := Nat.zero_add _
  unfold t_X4_include at hf
  show V K Y 4 0 0 (L, ad) d 0 [(0, .ref (yo Y o)), (1, .int p1)] []
  refine V_aload_n 0 hC dX4_include_0 rfl rfl ?_
  refine V_geti (o := o) hC ho rfl fk_X4_22 dX4_include_1 ?_
  refine V_topi (fun y1 ey1 => ?_)
  have hf := bd_e hf y1 ey1
  refine V_istore_n (lv' := [(2, .int y1), (0, .ref (yo Y o)), (1, .int p1)]) hC dX4_include_4 rfl (by decide) rfl ?_
  refine V_aload_n 1 hC dX4_include_5 rfl rfl ?_
  refine V_iload_n 2 hC dX4_include_6 rfl rfl ?_
  obtain ⟨q2, eq2, hf⟩ := bi_some hf
  obtain ⟨kc3, ns4, hf, ekc3, ens4⟩ := al_some hf
  refine V_invAi (r1 := q2.1.1) (L1 := q2.1.2.1) (d1 := q2.1.2.2) (k1 := q2.2.1) (n1 := q2.2.2) (o := o) (As := [.int p1]) (rest := []) hC hA.new (c_X4_meet hL ho eq2) me_X4_meet lk_X4_79 ho rfl rfl rfl (Nat.le_of_ble_eq_true rfl) ⟨by decide, by decide⟩ ⟨by rw [hA.2.2.1]; omega, by rw [hA.2.2.2]; omega⟩ dX4_include_7 (fun ad5 => ?_)
  have hkT : (0 + q2.2.1) + kc3 = kT := by omega
  have hnT : (0 + q2.2.2) + ns4 = nT := by omega
  refine V_istore_n (lv' := [(3, .int q2.1.1), (2, .int y1), (0, .ref (yo Y o)), (1, .int p1)]) hC dX4_include_10 rfl (by decide) rfl ?_
  refine V_aload_n 2 hC dX4_include_11 rfl rfl ?_
  refine V_geti (o := o) hC ho rfl fk_X4_22 dX4_include_12 ?_
  refine V_iload_n 1 hC dX4_include_15 rfl rfl ?_
  refine V_icmp_le (tgt := 32) hC dX4_include_16 (by decide) (fun c6 => ?_) (fun c6 => ?_)
  · have hf := if_t hf c6
    refine V_iload_n 0 hC dX4_include_32 rfl rfl ?_
    obtain ⟨rfl, rfl, rfl, rfl, rfl⟩ := so_injA hf
    exact V_iretA hC hr hA (by omega) (by omega) dX4_include_33
  · have hf := if_f hf c6
    refine V_aload_n 2 hC dX4_include_19 rfl rfl ?_
    refine V_iload_n 1 hC dX4_include_20 rfl rfl ?_
    refine V_iconst (v := -1) hC dX4_include_21 rfl ?_
    refine V_iconst (v := -1) hC dX4_include_22 rfl ?_
    refine V_iconst (v := 0) hC dX4_include_23 rfl ?_
    obtain ⟨q7, eq7, hf⟩ := bi_some hf
    obtain ⟨kc8, ns9, hf, ekc8, ens9⟩ := al_some hf
    refine V_invAi (r1 := q7.1.1) (L1 := q7.1.2.1) (d1 := q7.1.2.2) (k1 := q7.2.1) (n1 := q7.2.2) (o := o) (As := [.int y1, .int (-1), .int (-1), .int 0]) (rest := []) hC hA.new (c_X4_spread hL ho eq7) me_X4_spread lk_X4_82 ho rfl rfl rfl (Nat.le_of_ble_eq_true rfl) ⟨by decide, by decide⟩ ⟨by rw [hA.2.2.1]; omega, by rw [hA.2.2.2]; omega⟩ dX4_include_24 (fun ad10 => ?_)
    have hkT : ((0 + q2.2.1) + q7.2.1) + kc8 = kT := by omega
    have hnT : ((0 + q2.2.2) + q7.2.2) + ns9 = nT := by omega
    refine V_pop hC dX4_include_27 rfl ?_
    refine V_aload_n 2 hC dX4_include_28 rfl rfl ?_
    obtain ⟨d11, ed11, hf⟩ := bi_some hf
    refine V_invv (o := o) (As := []) (rest := []) hC (c_X4_forgetResults hL ho ed11) me_X4_forgetResults lk_X4_86 ho rfl rfl rfl (Nat.le_of_ble_eq_true rfl) ⟨by decide, by decide⟩ ⟨by rw [hA.2.2.1]; omega, by rw [hA.2.2.2]; omega⟩ dX4_include_29 ?_
    refine V_iload_n 0 hC dX4_include_32 rfl rfl ?_
    obtain ⟨rfl, rfl, rfl, rfl, rfl⟩ := so_injA hf
    exact V_iretA hC hr hA (by omega) (by omega) dX4_include_33
def t_X4_runTurns_25 (o : Nat) (p1 : Int32) (k25 : Int32 → (Nat → Nat) → (Dt) → Option (((Nat → Nat) × Dt) × Nat × Nat)) (x2 : Int32) (L : Nat → Nat) (d : Dt) : Option (((Nat → Nat) × Dt) × Nat × Nat) := if p1 ≤ x2 then some ((L, d), 0, 0) else if (gF d o 14) = 0 then (t_X4_runOneTurn L d o).bind (fun q10 => al q10.2.1 q10.2.2 (k25 (x2 + 1) q10.1.1 q10.1.2)) else some ((L, d), 0, 0)
set_option maxRecDepth 20000 in
theorem b_X4_runTurns_25 {K : Kx} {Y : Yx} {z0 : Sh} {kT nT : Nat} (hC : CK K Y cX4_runTurns 3 RX4 4 91) (hr : (kme K).sig.returnType = none) {o : Nat} {p1 : Int32} (ho : (0, o, 3) ∈ yI Y) {L' : Nat → Nat} {d' : Dt} (hA : CA K Y z0 kT nT (none) L' d') {k25 : Int32 → (Nat → Nat) → (Dt) → Option (((Nat → Nat) × Dt) × Nat × Nat)} (hk25 : ∀ (x2 : Int32) (L : Nat → Nat) (d : Dt) (ad : Nat → Nat) (k n kc ns : Nat), k25 x2 L d = some ((L', d'), kc, ns) → k + kc = kT → n + ns = nT → V K Y 3 k n (L, ad) d 25 [(0, .ref (yo Y o)), (1, .int p1), (2, .int x2)] []) (x2 : Int32) (L : Nat → Nat) (d : Dt) (ad : Nat → Nat) (k n kc ns : Nat) (hf : t_X4_runTurns_25 o p1 k25 x2 L d = some ((L', d'), kc, ns)) (hkT : k + kc = kT) (hnT : n + ns = nT) : V K Y 3 k n (L, ad) d 25 [(0, .ref (yo Y o)), (1, .int p1), (2, .int x2)] [] := by
  have hL := hC.2.2.2.2.2.2.1
  unfold t_X4_runTurns_25 at hf
  refine V_iload_n 2 hC dX4_runTurns_25 rfl rfl ?_
  refine V_iload_n 1 hC dX4_runTurns_26 rfl rfl ?_
  refine V_icmp_ge (tgt := 47) hC dX4_runTurns_27 (by decide) (fun c8 => ?_) (fun c8 => ?_)
  · have hf := if_t hf c8
    obtain ⟨rfl, rfl, rfl, rfl⟩ := so_injAv hf
    exact V_vretA hC hr hA (by omega) (by omega) dX4_runTurns_47
  · have hf := if_f hf c8
    refine V_aload_n 0 hC dX4_runTurns_30 rfl rfl ?_
    refine V_geti (o := o) hC ho rfl fk_X4_53 dX4_runTurns_31 ?_
    refine V_if_ne (tgt := 47) hC dX4_runTurns_34 (by decide) (fun c9 => ?_) (fun c9 => ?_)
    · have hf := if_f hf c9
      obtain ⟨rfl, rfl, rfl, rfl⟩ := so_injAv hf
      exact V_vretA hC hr hA (by omega) (by omega) dX4_runTurns_47
    · have hf := if_t hf c9
      refine V_aload_n 0 hC dX4_runTurns_37 rfl rfl ?_
      obtain ⟨q10, eq10, hf⟩ := bi_some hf
      obtain ⟨kc11, ns12, hf, ekc11, ens12⟩ := al_some hf
      refine V_invAv (L1 := q10.1.1) (d1 := q10.1.2) (k1 := q10.2.1) (n1 := q10.2.2) (o := o) (As := []) (rest := []) hC hA.new (c_X4_runOneTurn hL ho eq10) me_X4_runOneTurn lk_X4_100 ho rfl rfl rfl (Nat.le_of_ble_eq_true rfl) ⟨by decide, by decide⟩ ⟨by rw [hA.2.2.1]; omega, by rw [hA.2.2.2]; omega⟩ dX4_runTurns_38 (fun ad13 => ?_)
      have hkT : (k + q10.2.1) + kc11 = kT := by omega
      have hnT : (n + q10.2.2) + ns12 = nT := by omega
      refine V_iinc (v := x2 + 1) (lv' := [(2, .int (x2 + 1)), (0, .ref (yo Y o)), (1, .int p1)]) 2 hC dX4_runTurns_41 rfl rfl (by decide) rfl ?_
      refine V_goto (tgt := 25) hC dX4_runTurns_44 (by decide) ?_
      exact V_sub [1, 2, 0] rfl (hk25 (x2 + 1) q10.1.1 q10.1.2 ad13 (k + q10.2.1) (n + q10.2.2) kc11 ns12 hf hkT hnT)
def t_X4_runTurns_20 (o : Nat) (p1 : Int32)   (L : Nat → Nat) (d : Dt) : Option (((Nat → Nat) × Dt) × Nat × Nat) := bd (gF d o 13) (fun y7 => lp (fun k x => t_X4_runTurns_25 o p1  (fun x2 L d => k (x2, L, d)) x.1 x.2.1 x.2.2) FU (y7, L, d))
set_option maxRecDepth 20000 in
theorem b_X4_runTurns_20 {K : Kx} {Y : Yx} {z0 : Sh} {kT nT : Nat} (hC : CK K Y cX4_runTurns 3 RX4 4 91) (hr : (kme K).sig.returnType = none) {o : Nat} {p1 : Int32} (ho : (0, o, 3) ∈ yI Y) {L' : Nat → Nat} {d' : Dt} (hA : CA K Y z0 kT nT (none) L' d')    (L : Nat → Nat) (d : Dt) (ad : Nat → Nat) (k n kc ns : Nat) (hf : t_X4_runTurns_20 o p1   L d = some ((L', d'), kc, ns)) (hkT : k + kc = kT) (hnT : n + ns = nT) : V K Y 3 k n (L, ad) d 20 [(0, .ref (yo Y o)), (1, .int p1)] [] := by
  have hL := hC.2.2.2.2.2.2.1
  unfold t_X4_runTurns_20 at hf
  refine V_aload_n 0 hC dX4_runTurns_20 rfl rfl ?_
  refine V_geti (o := o) hC ho rfl fk_X4_50 dX4_runTurns_21 ?_
  refine V_topi (fun y7 ey7 => ?_)
  have hf := bd_e hf y7 ey7
  refine V_istore_n (lv' := [(2, .int y7), (0, .ref (yo Y o)), (1, .int p1)]) hC dX4_runTurns_24 rfl (by decide) rfl ?_
  exact V_sub [1, 2, 0] rfl (lp_indA (X := Int32 × (Nat → Nat) × Dt) (P := fun x kc ns => ∀ (ad : Nat → Nat) (k n : Nat), k + kc = kT → n + ns = nT → V K Y 3 k n (x.2.1, ad) x.2.2 25 [(0, .ref (yo Y o)), (1, .int p1), (2, .int x.1)] []) (fun kf x hk kc ns hx ad k n h1 h2 => b_X4_runTurns_25 hC hr ho hA  (k25 := fun x2 L d => kf (x2, L, d)) (fun x2 L d ad k n kc ns hx h1 h2 => hk (x2, L, d) kc ns hx ad k n h1 h2) x.1 x.2.1 x.2.2 ad k n kc ns hx h1 h2) FU (y7, L, d) kc ns hf ad k n hkT hnT)
def t_X4_runTurns_16 (o : Nat) (p1 : Int32)   (L : Nat → Nat) (d : Dt) : Option (((Nat → Nat) × Dt) × Nat × Nat) := (t_X4_startOdds L d o).bind (fun q3 => al q3.2.1 q3.2.2 (t_X4_runTurns_20 o p1  q3.1.1 q3.1.2))
set_option maxRecDepth 20000 in
theorem b_X4_runTurns_16 {K : Kx} {Y : Yx} {z0 : Sh} {kT nT : Nat} (hC : CK K Y cX4_runTurns 3 RX4 4 91) (hr : (kme K).sig.returnType = none) {o : Nat} {p1 : Int32} (ho : (0, o, 3) ∈ yI Y) {L' : Nat → Nat} {d' : Dt} (hA : CA K Y z0 kT nT (none) L' d')    (L : Nat → Nat) (d : Dt) (ad : Nat → Nat) (k n kc ns : Nat) (hf : t_X4_runTurns_16 o p1   L d = some ((L', d'), kc, ns)) (hkT : k + kc = kT) (hnT : n + ns = nT) : V K Y 3 k n (L, ad) d 16 [(0, .ref (yo Y o)), (1, .int p1)] [] := by
  have hL := hC.2.2.2.2.2.2.1
  unfold t_X4_runTurns_16 at hf
  refine V_aload_n 0 hC dX4_runTurns_16 rfl rfl ?_
  obtain ⟨q3, eq3, hf⟩ := bi_some hf
  obtain ⟨kc4, ns5, hf, ekc4, ens5⟩ := al_some hf
  refine V_invAv (L1 := q3.1.1) (d1 := q3.1.2) (k1 := q3.2.1) (n1 := q3.2.2) (o := o) (As := []) (rest := []) hC hA.new (c_X4_startOdds hL ho eq3) me_X4_startOdds lk_X4_97 ho rfl rfl rfl (Nat.le_of_ble_eq_true rfl) ⟨by decide, by decide⟩ ⟨by rw [hA.2.2.1]; omega, by rw [hA.2.2.2]; omega⟩ dX4_runTurns_17 (fun ad6 => ?_)
  have hkT : (k + q3.2.1) + kc4 = kT := by omega
  have hnT : (n + q3.2.2) + ns5 = nT := by omega
  exact b_X4_runTurns_20 hC hr ho hA  q3.1.1 q3.1.2 ad6 (k + q3.2.1) (n + q3.2.2) kc4 ns5 hf hkT hnT
def t_X4_runTurns (L : Nat → Nat) (d : Dt) (o : Nat) (p1 : Int32) : Option (((Nat → Nat) × Dt) × Nat × Nat) := if (gF d o 13) = (-1) then t_X4_runTurns_16 o p1  L d else if (gF d o 13) ≤ p1 then t_X4_runTurns_20 o p1  L d else t_X4_runTurns_16 o p1  L d
set_option maxRecDepth 20000 in
theorem c_X4_runTurns {l : Launch} {Y : Yx} (hL : LAY Y) {L : Nat → Nat} {d : Dt} {o : Nat} {p1 : Int32} (ho : (0, o, 3) ∈ yI Y) {L' : Nat → Nat} {d' : Dt} {kT nT : Nat} (hf : t_X4_runTurns L d o p1 = some ((L', d'), kT, nT)) : MA l yX4_runTurns cX4_runTurns 3 none 4 91 Y L [.ref (yo Y o), .int p1] d (none) L' d' kT nT := by
  refine MA.ofV ho (by decide +kernel) hL (Nat.le_of_ble_eq_true rfl) (fun K ad hl hC hr hA => ?_)
  have hC : CK K Y cX4_runTurns 3 RX4 4 91 := hC
  have hkT : 0 + kT = kT := Nat.zero_add _
  have hnT : 0 + nT = nT := Nat.zero_add _
  unfold t_X4_runTurns at hf
  show V K Y 3 0 0 (L, ad) d 0 [(0, .ref (yo Y o)), (1, .int p1)] []
  refine V_aload_n 0 hC dX4_runTurns_0 rfl rfl ?_
  refine V_geti (o := o) hC ho rfl fk_X4_50 dX4_runTurns_1 ?_
  refine V_iconst (v := -1) hC dX4_runTurns_4 rfl ?_
  refine V_icmp_eq (tgt := 16) hC dX4_runTurns_5 (by decide) (fun c1 => ?_) (fun c1 => ?_)
  · have hf := if_t hf c1
    exact b_X4_runTurns_16 hC hr ho hA  L d ad 0 0 kT nT hf hkT hnT
  · have hf := if_f hf c1
    refine V_aload_n 0 hC dX4_runTurns_8 rfl rfl ?_
    refine V_geti (o := o) hC ho rfl fk_X4_50 dX4_runTurns_9 ?_
    refine V_iload_n 1 hC dX4_runTurns_12 rfl rfl ?_
    refine V_icmp_le (tgt := 20) hC dX4_runTurns_13 (by decide) (fun c2 => ?_) (fun c2 => ?_)
    · have hf := if_t hf c2
      exact b_X4_runTurns_20 hC hr ho hA  L d ad 0 0 kT nT hf hkT hnT
    · have hf := if_f hf c2
      exact b_X4_runTurns_16 hC hr ho hA  L d ad 0 0 kT nT hf hkT hnT
def t_X4_trapParts_40 (o : Nat) (k8 : Int32 → Int32 → (Nat → Nat) → (Dt) → Option ((Int32 × (Nat → Nat) × Dt) × Nat × Nat)) (x1 : Int32) (x2 : Int32) (L : Nat → Nat) (d : Dt) : Option ((Int32 × (Nat → Nat) × Dt) × Nat × Nat) := k8 x1 (x2 + 1) L d
set_option maxRecDepth 20000 in
theorem b_X4_trapParts_40 {K : Kx} {Y : Yx} {z0 : Sh} {kT nT : Nat} (hC : CK K Y cX4_trapParts 3 RX4 3 67) (hr : (kme K).sig.returnType = some .int) {o : Nat} (ho : (0, o, 3) ∈ yI Y) {r : Int32} {L' : Nat → Nat} {d' : Dt} (hA : CA K Y z0 kT nT (some (.int r)) L' d') {k8 : Int32 → Int32 → (Nat → Nat) → (Dt) → Option ((Int32 × (Nat → Nat) × Dt) × Nat × Nat)} (hk8 : ∀ (x1 : Int32) (x2 : Int32) (L : Nat → Nat) (d : Dt) (ad : Nat → Nat) (k n kc ns : Nat), k8 x1 x2 L d = some ((r, L', d'), kc, ns) → k + kc = kT → n + ns = nT → V K Y 3 k n (L, ad) d 8 [(0, .ref (yo Y o)), (1, .int x1), (2, .int x2)] []) (x1 : Int32) (x2 : Int32) (L : Nat → Nat) (d : Dt) (ad : Nat → Nat) (k n kc ns : Nat) (hf : t_X4_trapParts_40 o k8 x1 x2 L d = some ((r, L', d'), kc, ns)) (hkT : k + kc = kT) (hnT : n + ns = nT) : V K Y 3 k n (L, ad) d 40 [(0, .ref (yo Y o)), (1, .int x1), (2, .int x2)] [] := by
  have hL := hC.2.2.2.2.2.2.1
  unfold t_X4_trapParts_40 at hf
  refine V_iinc (v := x2 + 1) (lv' := [(2, .int (x2 + 1)), (0, .ref (yo Y o)), (1, .int x1)]) 2 hC dX4_trapParts_40 rfl rfl (by decide) rfl ?_
  refine V_goto (tgt := 8) hC dX4_trapParts_43 (by decide) ?_
  exact V_sub [1, 2, 0] rfl (hk8 x1 (x2 + 1) L d ad k n kc ns hf hkT hnT)
def t_X4_trapParts_8 (o : Nat) (k8 : Int32 → Int32 → (Nat → Nat) → (Dt) → Option ((Int32 × (Nat → Nat) × Dt) × Nat × Nat)) (x1 : Int32) (x2 : Int32) (L : Nat → Nat) (d : Dt) : Option ((Int32 × (Nat → Nat) × Dt) × Nat × Nat) := if (gF d o 0) ≤ x2 then some ((x1, L, d), 0, 0) else gd (inb x2 (L (32 * o + 15))) (if (gA d (32 * o + 15) (ix x2)) = (-1) then gd (inb x2 (L (32 * o + 7))) ((t_X3_partOf L d (gA d (32 * o + 7) (ix x2))).bind (fun v9 => bd (x1 ||| ((1 : Int32) <<< (v9 &&& 31))) (fun y10 => t_X4_trapParts_40 o k8 y10 x2 L d))) else t_X4_trapParts_40 o k8 x1 x2 L d)
set_option maxRecDepth 20000 in
theorem b_X4_trapParts_8 {K : Kx} {Y : Yx} {z0 : Sh} {kT nT : Nat} (hC : CK K Y cX4_trapParts 3 RX4 3 67) (hr : (kme K).sig.returnType = some .int) {o : Nat} (ho : (0, o, 3) ∈ yI Y) {r : Int32} {L' : Nat → Nat} {d' : Dt} (hA : CA K Y z0 kT nT (some (.int r)) L' d') {k8 : Int32 → Int32 → (Nat → Nat) → (Dt) → Option ((Int32 × (Nat → Nat) × Dt) × Nat × Nat)} (hk8 : ∀ (x1 : Int32) (x2 : Int32) (L : Nat → Nat) (d : Dt) (ad : Nat → Nat) (k n kc ns : Nat), k8 x1 x2 L d = some ((r, L', d'), kc, ns) → k + kc = kT → n + ns = nT → V K Y 3 k n (L, ad) d 8 [(0, .ref (yo Y o)), (1, .int x1), (2, .int x2)] []) (x1 : Int32) (x2 : Int32) (L : Nat → Nat) (d : Dt) (ad : Nat → Nat) (k n kc ns : Nat) (hf : t_X4_trapParts_8 o k8 x1 x2 L d = some ((r, L', d'), kc, ns)) (hkT : k + kc = kT) (hnT : n + ns = nT) : V K Y 3 k n (L, ad) d 8 [(0, .ref (yo Y o)), (1, .int x1), (2, .int x2)] [] := by
  have hL := hC.2.2.2.2.2.2.1
  unfold t_X4_trapParts_8 at hf
  refine V_iload_n 2 hC dX4_trapParts_8 rfl rfl ?_
  refine V_aload_n 0 hC dX4_trapParts_9 rfl rfl ?_
  refine V_geti (o := o) hC ho rfl fk_X4_11 dX4_trapParts_10 ?_
  refine V_icmp_ge (tgt := 46) hC dX4_trapParts_13 (by decide) (fun c5 => ?_) (fun c5 => ?_)
  · have hf := if_t hf c5
    refine V_iload_n 1 hC dX4_trapParts_46 rfl rfl ?_
    obtain ⟨rfl, rfl, rfl, rfl, rfl⟩ := so_injA hf
    exact V_iretA hC hr hA (by omega) (by omega) dX4_trapParts_47
  · have hf := if_f hf c5
    refine V_aload_n 0 hC dX4_trapParts_16 rfl rfl ?_
    refine V_geta (o := o) hC ho rfl fk_X4_56 dX4_trapParts_17 ?_
    refine V_iload_n 2 hC dX4_trapParts_20 rfl rfl ?_
    obtain ⟨g6, hf⟩ := gd_some hf
    refine V_iald (a := (32 * o + 15)) hC (hL.row ho rfl) g6 dX4_trapParts_21 ?_
    refine V_iconst (v := -1) hC dX4_trapParts_22 rfl ?_
    refine V_icmp_ne (tgt := 40) hC dX4_trapParts_23 (by decide) (fun c7 => ?_) (fun c7 => ?_)
    · have hf := if_f hf c7
      exact b_X4_trapParts_40 hC hr ho hA hk8 x1 x2 L d ad k n kc ns hf hkT hnT
    · have hf := if_t hf c7
      refine V_iload_n 1 hC dX4_trapParts_26 rfl rfl ?_
      refine V_iconst (v := 1) hC dX4_trapParts_27 rfl ?_
      refine V_aload_n 0 hC dX4_trapParts_28 rfl rfl ?_
      refine V_geta (o := o) hC ho rfl fk_X4_31 dX4_trapParts_29 ?_
      refine V_iload_n 2 hC dX4_trapParts_32 rfl rfl ?_
      obtain ⟨g8, hf⟩ := gd_some hf
      refine V_iald (a := (32 * o + 7)) hC (hL.row ho rfl) g8 dX4_trapParts_33 ?_
      obtain ⟨v9, ev9, hf⟩ := bi_some hf
      refine V_insi (As := [.int (gA d (32 * o + 7) (ix x2))]) (rest := [.int 1, .int x1]) hC (c_X3_partOf hL  ev9) me_X3_partOf lk_X4_117 rfl rfl (Nat.le_of_ble_eq_true rfl) ⟨by decide, by decide⟩ ⟨by rw [hA.2.2.1]; omega, by rw [hA.2.2.2]; omega⟩ dX4_trapParts_34 ?_
      refine V_ishl hC dX4_trapParts_37 ?_
      refine V_ior hC dX4_trapParts_38 ?_
      refine V_topi (fun y10 ey10 => ?_)
      have hf := bd_e hf y10 ey10
      refine V_istore_n (lv' := [(1, .int y10), (0, .ref (yo Y o)), (2, .int x2)]) hC dX4_trapParts_39 rfl (by decide) rfl ?_
      exact V_sub [1, 0, 2] rfl (b_X4_trapParts_40 hC hr ho hA hk8 y10 x2 L d ad k n kc ns hf hkT hnT)
def t_X4_trapParts (L : Nat → Nat) (d : Dt) (o : Nat) : Option ((Int32 × (Nat → Nat) × Dt) × Nat × Nat) := (t_X4_measureWins L d o).bind (fun q1 => al q1.2.1 q1.2.2 (lp (fun k x => t_X4_trapParts_8 o  (fun x1 x2 L d => k (x1, x2, L, d)) x.1 x.2.1 x.2.2.1 x.2.2.2) FU (0, 0, q1.1.1, q1.1.2)))
set_option maxRecDepth 20000 in
theorem c_X4_trapParts {l : Launch} {Y : Yx} (hL : LAY Y) {L : Nat → Nat} {d : Dt} {o : Nat} (ho : (0, o, 3) ∈ yI Y) {r : Int32} {L' : Nat → Nat} {d' : Dt} {kT nT : Nat} (hf : t_X4_trapParts L d o = some ((r, L', d'), kT, nT)) : MA l yX4_trapParts cX4_trapParts 3 (some .int) 3 67 Y L [.ref (yo Y o)] d (some (.int r)) L' d' kT nT := by
  refine MA.ofV ho (by decide +kernel) hL (Nat.le_of_ble_eq_true rfl) (fun K ad hl hC hr hA => ?_)
  have hC : CK K Y cX4_trapParts 3 RX4 3 67 := hC
  have hkT : 0 + kT = kT := Nat.zero_add _
  have hnT : 0 + nT = nT := Nat.zero_add _
  unfold t_X4_trapParts at hf
  show V K Y 3 0 0 (L, ad) d 0 [(0, .ref (yo Y o))] []
  refine V_aload_n 0 hC dX4_trapParts_0 rfl rfl ?_
  obtain ⟨q1, eq1, hf⟩ := bi_some hf
  obtain ⟨kc2, ns3, hf, ekc2, ens3⟩ := al_some hf
  refine V_invAv (L1 := q1.1.1) (d1 := q1.1.2) (k1 := q1.2.1) (n1 := q1.2.2) (o := o) (As := []) (rest := []) hC hA.new (c_X4_measureWins hL ho eq1) me_X4_measureWins lk_X4_114 ho rfl rfl rfl (Nat.le_of_ble_eq_true rfl) ⟨by decide, by decide⟩ ⟨by rw [hA.2.2.1]; omega, by rw [hA.2.2.2]; omega⟩ dX4_trapParts_1 (fun ad4 => ?_)
  have hkT : (0 + q1.2.1) + kc2 = kT := by omega
  have hnT : (0 + q1.2.2) + ns3 = nT := by omega
  refine V_iconst (v := 0) hC dX4_trapParts_4 rfl ?_
  refine V_istore_n (lv' := [(1, .int 0), (0, .ref (yo Y o))]) hC dX4_trapParts_5 rfl (by decide) rfl ?_
  refine V_iconst (v := 0) hC dX4_trapParts_6 rfl ?_
  refine V_istore_n (lv' := [(2, .int 0), (1, .int 0), (0, .ref (yo Y o))]) hC dX4_trapParts_7 rfl (by decide) rfl ?_
  exact V_sub [2, 1, 0] rfl (lp_indA (X := Int32 × Int32 × (Nat → Nat) × Dt) (P := fun x kc ns => ∀ (ad : Nat → Nat) (k n : Nat), k + kc = kT → n + ns = nT → V K Y 3 k n (x.2.2.1, ad) x.2.2.2 8 [(0, .ref (yo Y o)), (1, .int x.1), (2, .int x.2.1)] []) (fun kf x hk kc ns hx ad k n h1 h2 => b_X4_trapParts_8 hC hr ho hA  (k8 := fun x1 x2 L d => kf (x1, x2, L, d)) (fun x1 x2 L d ad k n kc ns hx h1 h2 => hk (x1, x2, L, d) kc ns hx ad k n h1 h2) x.1 x.2.1 x.2.2.1 x.2.2.2 ad k n kc ns hx h1 h2) FU (0, 0, q1.1.1, q1.1.2) kc2 ns3 hf ad4 (0 + q1.2.1) (0 + q1.2.2) hkT hnT)
