/-! ===== ChoiceBook, what may make rows: lifted and met ===== -/
theorem fk_X5_52 : FLK RX5 52 4 5 RX5 TX5 11 := ⟨rfl, uw_X5, by decide, rfl, gt_t 240 (by decide +kernel) rfl⟩
theorem lk_X5_259 : Cond.methodLink RX5 259 yX4_build ∈ gt := gt_t 502 (by decide +kernel) rfl
theorem me_X4_build : MEV RX4 yX4_build cX4_build 4 none 3 := ⟨⟨gt_t 505 (by decide +kernel) rfl, gt_t 5 (by decide +kernel) rfl, by decide +kernel⟩, gt_t 503 (by decide +kernel) rfl, gt_t 504 (by decide +kernel) rfl⟩
theorem fk_X5_320 : FLK RX5 320 3 2 RX4 TX4 17 := ⟨rfl, uw_X4, by decide, rfl, gt_t 184 (by decide +kernel) rfl⟩
theorem fk_X5_238 : FLK RX5 238 3 1 RX4 TX4 17 := ⟨rfl, uw_X4, by decide, rfl, gt_t 182 (by decide +kernel) rfl⟩
theorem fk_X5_56 : FLK RX5 56 4 6 RX5 TX5 11 := ⟨rfl, uw_X5, by decide, rfl, gt_t 241 (by decide +kernel) rfl⟩
theorem lk_X5_250 : Cond.methodLink RX5 250 yX4_hadThings ∈ gt := gt_t 757 (by decide +kernel) rfl
theorem me_X4_hadThings : MEV RX4 yX4_hadThings cX4_hadThings 3 (some .int) 0 := ⟨⟨gt_t 760 (by decide +kernel) rfl, gt_t 5 (by decide +kernel) rfl, by decide +kernel⟩, gt_t 758 (by decide +kernel) rfl, gt_t 759 (by decide +kernel) rfl⟩
theorem lk_X5_153 : Cond.methodLink RX5 153 yX0_allChoices ∈ gt := gt_t 494 (by decide +kernel) rfl
theorem me_X0_allChoices : MEV RX0 yX0_allChoices cX0_allChoices 3 (some .int) 0 := ⟨⟨gt_t 497 (by decide +kernel) rfl, gt_t 3 (by decide +kernel) rfl, by decide +kernel⟩, gt_t 495 (by decide +kernel) rfl, gt_t 496 (by decide +kernel) rfl⟩
theorem fk_X5_156 : FLK RX5 156 0 1 RX0 TX0 13 := ⟨rfl, uw_X0, by decide, rfl, gt_t 42 (by decide +kernel) rfl⟩
theorem lk_X5_159 : Cond.methodLink RX5 159 yX5_freshComeTo ∈ gt := gt_t 498 (by decide +kernel) rfl
theorem me_X5_freshComeTo : MEV RX5 yX5_freshComeTo cX5_freshComeTo 1 (some (.object "ChoiceBook$StateGraph")) 0 := ⟨⟨gt_t 501 (by decide +kernel) rfl, gt_t 1 (by decide +kernel) rfl, by decide +kernel⟩, gt_t 500 (by decide +kernel) rfl, gt_s (q := (yX5_freshComeTo, 11)) 14 (by decide +kernel)⟩
theorem fk_X5_163 : FLK RX5 163 3 0 RX4 TX4 17 := ⟨rfl, uw_X4, by decide, rfl, gt_t 180 (by decide +kernel) rfl⟩
theorem lk_X5_218 : Cond.methodLink RX5 218 yX4_include ∈ gt := gt_t 666 (by decide +kernel) rfl
theorem me_X4_include : MEV RX4 yX4_include cX4_include 4 (some .int) 1 := ⟨⟨gt_t 669 (by decide +kernel) rfl, gt_t 5 (by decide +kernel) rfl, by decide +kernel⟩, gt_t 667 (by decide +kernel) rfl, gt_t 668 (by decide +kernel) rfl⟩
theorem lk_X5_221 : Cond.methodLink RX5 221 yX4_runTurns ∈ gt := gt_t 670 (by decide +kernel) rfl
theorem me_X4_runTurns : MEV RX4 yX4_runTurns cX4_runTurns 3 none 1 := ⟨⟨gt_t 673 (by decide +kernel) rfl, gt_t 5 (by decide +kernel) rfl, by decide +kernel⟩, gt_t 671 (by decide +kernel) rfl, gt_t 672 (by decide +kernel) rfl⟩
theorem lk_X5_227 : Cond.methodLink RX5 227 yX5_bestChoice ∈ gt := gt_t 708 (by decide +kernel) rfl
theorem me_X5_bestChoice : MEV RX5 yX5_bestChoice cX5_bestChoice 7 (some .int) 1 := ⟨⟨gt_t 711 (by decide +kernel) rfl, gt_t 1 (by decide +kernel) rfl, by decide +kernel⟩, gt_t 710 (by decide +kernel) rfl, gt_s (q := (yX5_bestChoice, 11)) 26 (by decide +kernel)⟩
theorem lk_X5_231 : Cond.methodLink RX5 231 yX4_measureWins ∈ gt := gt_t 718 (by decide +kernel) rfl
theorem lk_X5_234 : Cond.methodLink RX5 234 yX4_turnsToWinOf ∈ gt := gt_t 730 (by decide +kernel) rfl
theorem ck_X5_237 : Cond.constant RX5 237 (1000000) ∈ gt := gt_t 735 (by decide +kernel) rfl
theorem lk_X5_241 : Cond.methodLink RX5 241 yX5_mustParts ∈ gt := gt_t 740 (by decide +kernel) rfl
theorem me_X5_mustParts : MEV RX5 yX5_mustParts cX5_mustParts 4 (some .int) 1 := ⟨⟨gt_t 743 (by decide +kernel) rfl, gt_t 1 (by decide +kernel) rfl, by decide +kernel⟩, gt_t 742 (by decide +kernel) rfl, gt_s (q := (yX5_mustParts, 11)) 28 (by decide +kernel)⟩
theorem lk_X5_244 : Cond.methodLink RX5 244 yX4_trapParts ∈ gt := gt_t 744 (by decide +kernel) rfl
theorem me_X4_trapParts : MEV RX4 yX4_trapParts cX4_trapParts 3 (some .int) 0 := ⟨⟨gt_t 747 (by decide +kernel) rfl, gt_t 5 (by decide +kernel) rfl, by decide +kernel⟩, gt_t 745 (by decide +kernel) rfl, gt_t 746 (by decide +kernel) rfl⟩
theorem lk_X5_247 : Cond.methodLink RX5 247 yX4_holeParts ∈ gt := gt_t 749 (by decide +kernel) rfl
theorem me_X4_holeParts : MEV RX4 yX4_holeParts cX4_holeParts 3 (some .int) 0 := ⟨⟨gt_t 752 (by decide +kernel) rfl, gt_t 5 (by decide +kernel) rfl, by decide +kernel⟩, gt_t 750 (by decide +kernel) rfl, gt_t 751 (by decide +kernel) rfl⟩
theorem lk_X5_253 : Cond.methodLink RX5 253 yX5_neededThings ∈ gt := gt_t 762 (by decide +kernel) rfl
theorem me_X5_neededThings : MEV RX5 yX5_neededThings cX5_neededThings 5 (some .int) 1 := ⟨⟨gt_t 765 (by decide +kernel) rfl, gt_t 1 (by decide +kernel) rfl, by decide +kernel⟩, gt_t 764 (by decide +kernel) rfl, gt_s (q := (yX5_neededThings, 11)) 29 (by decide +kernel)⟩
def t_X5_freshComeTo (L : Nat → Nat) (d : Dt)  : Option (((Nat → Nat) × Dt) × Nat × Nat) := if (gF d 0 7) = 0 then (t_X4_build L d 9 (-1) (-1) 0).bind (fun q2 => al q2.2.1 q2.2.2 (bd (sF q2.1.2 0 7 1) (fun d6 => some ((q2.1.1, d6), 0, 0)))) else some ((L, d), 0, 0)
set_option maxRecDepth 20000 in
theorem c_X5_freshComeTo {l : Launch} {Y : Yx} (hL : LAY Y) {L : Nat → Nat} {d : Dt}  (ho : (0, 0, 4) ∈ yI Y) {L' : Nat → Nat} {d' : Dt} {kT nT : Nat} (hf : t_X5_freshComeTo L d  = some ((L', d'), kT, nT)) : MA l yX5_freshComeTo cX5_freshComeTo 1 (some (.object "ChoiceBook$StateGraph")) 6 159 Y L [.ref (yo Y 0)] d (some (.ref (yo Y 9))) L' d' kT nT := by
  refine MA.ofV ho (by decide +kernel) hL (Nat.le_of_ble_eq_true rfl) (fun K ad hl hC hr hA => ?_)
  have hC : CK K Y cX5_freshComeTo 1 RX5 6 159 := hC
  have hkT : 0 + kT = kT := Nat.zero_add _
  have hnT : 0 + nT = nT := Nat.zero_add _
  unfold t_X5_freshComeTo at hf
  show V K Y 1 0 0 (L, ad) d 0 [(0, .ref (yo Y 0))] []
  refine V_aload_n 0 hC dX5_freshComeTo_0 rfl rfl ?_
  refine V_geti (o := 0) hC ho rfl fk_X5_24 dX5_freshComeTo_1 ?_
  refine V_if_ne (tgt := 22) hC dX5_freshComeTo_4 (by decide) (fun c1 => ?_) (fun c1 => ?_)
  · have hf := if_f hf c1
    refine V_aload_n 0 hC dX5_freshComeTo_22 rfl rfl ?_
    refine V_geto (o := 0) (o2 := 9) hC ho rfl fk_X5_52 rfl dX5_freshComeTo_23 ?_
    obtain ⟨rfl, rfl, rfl, rfl⟩ := so_injAv hf
    exact V_aretA hC hr hA (by omega) (by omega) dX5_freshComeTo_26
  · have hf := if_t hf c1
    refine V_aload_n 0 hC dX5_freshComeTo_7 rfl rfl ?_
    refine V_geto (o := 0) (o2 := 9) hC ho rfl fk_X5_52 rfl dX5_freshComeTo_8 ?_
    refine V_iconst (v := -1) hC dX5_freshComeTo_11 rfl ?_
    refine V_iconst (v := -1) hC dX5_freshComeTo_12 rfl ?_
    refine V_iconst (v := 0) hC dX5_freshComeTo_13 rfl ?_
    obtain ⟨q2, eq2, hf⟩ := bi_some hf
    obtain ⟨kc3, ns4, hf, ekc3, ens4⟩ := al_some hf
    refine V_invAv (L1 := q2.1.1) (d1 := q2.1.2) (k1 := q2.2.1) (n1 := q2.2.2) (o := 9) (As := [.int (-1), .int (-1), .int 0]) (rest := []) hC hA.new (c_X4_build hL (show (0, 9, 3) ∈ yI Y from hL.obj (j := 5) ho rfl) eq2) me_X4_build lk_X5_259 (show (0, 9, 3) ∈ yI Y from hL.obj (j := 5) ho rfl) rfl rfl rfl (Nat.le_of_ble_eq_true rfl) ⟨by decide, by decide⟩ ⟨by rw [hA.2.2.1]; omega, by rw [hA.2.2.2]; omega⟩ dX5_freshComeTo_14 (fun ad5 => ?_)
    have hkT : (0 + q2.2.1) + kc3 = kT := by omega
    have hnT : (0 + q2.2.2) + ns4 = nT := by omega
    refine V_aload_n 0 hC dX5_freshComeTo_17 rfl rfl ?_
    refine V_iconst (v := 1) hC dX5_freshComeTo_18 rfl ?_
    refine V_putz (o := 0) hC ho rfl fk_X5_24 pl_X5 rfl rfl rfl dX5_freshComeTo_19 (fun d6 ed6 => ?_)
    have hf := bd_e hf d6 ed6
    refine V_aload_n 0 hC dX5_freshComeTo_22 rfl rfl ?_
    refine V_geto (o := 0) (o2 := 9) hC ho rfl fk_X5_52 rfl dX5_freshComeTo_23 ?_
    obtain ⟨rfl, rfl, rfl, rfl⟩ := so_injAv hf
    exact V_aretA hC hr hA (by omega) (by omega) dX5_freshComeTo_26
def t_X5_mustParts_57 (o1 : Nat) (k13 : Int32 → Int32 → (Nat → Nat) → (Dt) → Option ((Int32 × (Nat → Nat) × Dt) × Nat × Nat)) (x2 : Int32) (x3 : Int32) (L : Nat → Nat) (d : Dt) : Option ((Int32 × (Nat → Nat) × Dt) × Nat × Nat) := k13 x2 (x3 + 1) L d
set_option maxRecDepth 20000 in
theorem b_X5_mustParts_57 {K : Kx} {Y : Yx} {z0 : Sh} {kT nT : Nat} (hC : CK K Y cX5_mustParts 4 RX5 6 159) (hr : (kme K).sig.returnType = some .int) {o1 : Nat} (ho : (0, 0, 4) ∈ yI Y) (ho1 : (0, o1, 3) ∈ yI Y) {r : Int32} {L' : Nat → Nat} {d' : Dt} (hA : CA K Y z0 kT nT (some (.int r)) L' d') {k13 : Int32 → Int32 → (Nat → Nat) → (Dt) → Option ((Int32 × (Nat → Nat) × Dt) × Nat × Nat)} (hk13 : ∀ (x2 : Int32) (x3 : Int32) (L : Nat → Nat) (d : Dt) (ad : Nat → Nat) (k n kc ns : Nat), k13 x2 x3 L d = some ((r, L', d'), kc, ns) → k + kc = kT → n + ns = nT → V K Y 4 k n (L, ad) d 13 [(0, .ref (yo Y 0)), (1, .ref (yo Y o1)), (2, .int x2), (3, .int x3)] []) (x2 : Int32) (x3 : Int32) (L : Nat → Nat) (d : Dt) (ad : Nat → Nat) (k n kc ns : Nat) (hf : t_X5_mustParts_57 o1 k13 x2 x3 L d = some ((r, L', d'), kc, ns)) (hkT : k + kc = kT) (hnT : n + ns = nT) : V K Y 4 k n (L, ad) d 57 [(0, .ref (yo Y 0)), (1, .ref (yo Y o1)), (2, .int x2), (3, .int x3)] [] := by
  have hL := hC.2.2.2.2.2.2.1
  unfold t_X5_mustParts_57 at hf
  refine V_iinc (v := x3 + 1) (lv' := [(3, .int (x3 + 1)), (0, .ref (yo Y 0)), (1, .ref (yo Y o1)), (2, .int x2)]) 3 hC dX5_mustParts_57 rfl rfl (by decide) rfl ?_
  refine V_goto (tgt := 13) hC dX5_mustParts_60 (by decide) ?_
  exact V_sub [1, 2, 3, 0] rfl (hk13 x2 (x3 + 1) L d ad k n kc ns hf hkT hnT)
def t_X5_mustParts_13 (o1 : Nat) (k13 : Int32 → Int32 → (Nat → Nat) → (Dt) → Option ((Int32 × (Nat → Nat) × Dt) × Nat × Nat)) (x2 : Int32) (x3 : Int32) (L : Nat → Nat) (d : Dt) : Option ((Int32 × (Nat → Nat) × Dt) × Nat × Nat) := if 24 ≤ x3 then some ((x2, L, d), 0, 0) else if (((gF d o1 1) >>> (x3 &&& 31)) &&& 1) = 1 then (t_X4_build L d 10 (-1) x3 1).bind (fun q4 => al q4.2.1 q4.2.2 (if (gF q4.1.2 10 2) = 0 then bd (x2 ||| ((1 : Int32) <<< (x3 &&& 31))) (fun y9 => t_X5_mustParts_57 o1 k13 y9 x3 q4.1.1 q4.1.2) else t_X5_mustParts_57 o1 k13 x2 x3 q4.1.1 q4.1.2)) else t_X5_mustParts_57 o1 k13 x2 x3 L d
set_option maxRecDepth 20000 in
theorem b_X5_mustParts_13 {K : Kx} {Y : Yx} {z0 : Sh} {kT nT : Nat} (hC : CK K Y cX5_mustParts 4 RX5 6 159) (hr : (kme K).sig.returnType = some .int) {o1 : Nat} (ho : (0, 0, 4) ∈ yI Y) (ho1 : (0, o1, 3) ∈ yI Y) {r : Int32} {L' : Nat → Nat} {d' : Dt} (hA : CA K Y z0 kT nT (some (.int r)) L' d') {k13 : Int32 → Int32 → (Nat → Nat) → (Dt) → Option ((Int32 × (Nat → Nat) × Dt) × Nat × Nat)} (hk13 : ∀ (x2 : Int32) (x3 : Int32) (L : Nat → Nat) (d : Dt) (ad : Nat → Nat) (k n kc ns : Nat), k13 x2 x3 L d = some ((r, L', d'), kc, ns) → k + kc = kT → n + ns = nT → V K Y 4 k n (L, ad) d 13 [(0, .ref (yo Y 0)), (1, .ref (yo Y o1)), (2, .int x2), (3, .int x3)] []) (x2 : Int32) (x3 : Int32) (L : Nat → Nat) (d : Dt) (ad : Nat → Nat) (k n kc ns : Nat) (hf : t_X5_mustParts_13 o1 k13 x2 x3 L d = some ((r, L', d'), kc, ns)) (hkT : k + kc = kT) (hnT : n + ns = nT) : V K Y 4 k n (L, ad) d 13 [(0, .ref (yo Y 0)), (1, .ref (yo Y o1)), (2, .int x2), (3, .int x3)] [] := by
  have hL := hC.2.2.2.2.2.2.1
  unfold t_X5_mustParts_13 at hf
  refine V_iload_n 3 hC dX5_mustParts_13 rfl rfl ?_
  refine V_bipush (v := 24) hC dX5_mustParts_14 rfl ?_
  refine V_icmp_ge (tgt := 63) hC dX5_mustParts_16 (by decide) (fun c2 => ?_) (fun c2 => ?_)
  · have hf := if_t hf c2
    refine V_iload_n 2 hC dX5_mustParts_63 rfl rfl ?_
    obtain ⟨rfl, rfl, rfl, rfl, rfl⟩ := so_injA hf
    exact V_iretA hC hr hA (by omega) (by omega) dX5_mustParts_64
  · have hf := if_f hf c2
    refine V_aload_n 1 hC dX5_mustParts_19 rfl rfl ?_
    refine V_geti (o := o1) hC ho1 rfl fk_X5_238 dX5_mustParts_20 ?_
    refine V_iload_n 3 hC dX5_mustParts_23 rfl rfl ?_
    refine V_ishr hC dX5_mustParts_24 ?_
    refine V_iconst (v := 1) hC dX5_mustParts_25 rfl ?_
    refine V_iand hC dX5_mustParts_26 ?_
    refine V_iconst (v := 1) hC dX5_mustParts_27 rfl ?_
    refine V_icmp_ne (tgt := 57) hC dX5_mustParts_28 (by decide) (fun c3 => ?_) (fun c3 => ?_)
    · have hf := if_f hf c3
      exact b_X5_mustParts_57 hC hr ho ho1 hA hk13 x2 x3 L d ad k n kc ns hf hkT hnT
    · have hf := if_t hf c3
      refine V_aload_n 0 hC dX5_mustParts_31 rfl rfl ?_
      refine V_geto (o := 0) (o2 := 10) hC ho rfl fk_X5_56 rfl dX5_mustParts_32 ?_
      refine V_iconst (v := -1) hC dX5_mustParts_35 rfl ?_
      refine V_iload_n 3 hC dX5_mustParts_36 rfl rfl ?_
      refine V_iconst (v := 1) hC dX5_mustParts_37 rfl ?_
      obtain ⟨q4, eq4, hf⟩ := bi_some hf
      obtain ⟨kc5, ns6, hf, ekc5, ens6⟩ := al_some hf
      refine V_invAv (L1 := q4.1.1) (d1 := q4.1.2) (k1 := q4.2.1) (n1 := q4.2.2) (o := 10) (As := [.int (-1), .int x3, .int 1]) (rest := []) hC hA.new (c_X4_build hL (show (0, 10, 3) ∈ yI Y from hL.obj (j := 6) ho rfl) eq4) me_X4_build lk_X5_259 (show (0, 10, 3) ∈ yI Y from hL.obj (j := 6) ho rfl) rfl rfl rfl (Nat.le_of_ble_eq_true rfl) ⟨by decide, by decide⟩ ⟨by rw [hA.2.2.1]; omega, by rw [hA.2.2.2]; omega⟩ dX5_mustParts_38 (fun ad7 => ?_)
      have hkT : (k + q4.2.1) + kc5 = kT := by omega
      have hnT : (n + q4.2.2) + ns6 = nT := by omega
      refine V_aload_n 0 hC dX5_mustParts_41 rfl rfl ?_
      refine V_geto (o := 0) (o2 := 10) hC ho rfl fk_X5_56 rfl dX5_mustParts_42 ?_
      refine V_geti (o := 10) hC (show (0, 10, 3) ∈ yI Y from hL.obj (j := 6) ho rfl) rfl fk_X5_320 dX5_mustParts_45 ?_
      refine V_if_ne (tgt := 57) hC dX5_mustParts_48 (by decide) (fun c8 => ?_) (fun c8 => ?_)
      · have hf := if_f hf c8
        exact b_X5_mustParts_57 hC hr ho ho1 hA hk13 x2 x3 q4.1.1 q4.1.2 ad7 (k + q4.2.1) (n + q4.2.2) kc5 ns6 hf hkT hnT
      · have hf := if_t hf c8
        refine V_iload_n 2 hC dX5_mustParts_51 rfl rfl ?_
        refine V_iconst (v := 1) hC dX5_mustParts_52 rfl ?_
        refine V_iload_n 3 hC dX5_mustParts_53 rfl rfl ?_
        refine V_ishl hC dX5_mustParts_54 ?_
        refine V_ior hC dX5_mustParts_55 ?_
        refine V_topi (fun y9 ey9 => ?_)
        have hf := bd_e hf y9 ey9
        refine V_istore_n (lv' := [(2, .int y9), (0, .ref (yo Y 0)), (1, .ref (yo Y o1)), (3, .int x3)]) hC dX5_mustParts_56 rfl (by decide) rfl ?_
        exact V_sub [1, 2, 0, 3] rfl (b_X5_mustParts_57 hC hr ho ho1 hA hk13 y9 x3 q4.1.1 q4.1.2 ad7 (k + q4.2.1) (n + q4.2.2) kc5 ns6 hf hkT hnT)
def t_X5_mustParts (L : Nat → Nat) (d : Dt) (o1 : Nat) : Option ((Int32 × (Nat → Nat) × Dt) × Nat × Nat) := if (gF d o1 2) = 0 then some ((0, L, d), 0, 0) else lp (fun k x => t_X5_mustParts_13 o1  (fun x2 x3 L d => k (x2, x3, L, d)) x.1 x.2.1 x.2.2.1 x.2.2.2) FU (0, 0, L, d)
set_option maxRecDepth 20000 in
theorem c_X5_mustParts {l : Launch} {Y : Yx} (hL : LAY Y) {L : Nat → Nat} {d : Dt} {o1 : Nat} (ho : (0, 0, 4) ∈ yI Y) (ho1 : (0, o1, 3) ∈ yI Y) {r : Int32} {L' : Nat → Nat} {d' : Dt} {kT nT : Nat} (hf : t_X5_mustParts L d o1 = some ((r, L', d'), kT, nT)) : MA l yX5_mustParts cX5_mustParts 4 (some .int) 6 159 Y L [.ref (yo Y 0), .ref (yo Y o1)] d (some (.int r)) L' d' kT nT := by
  refine MA.ofV ho (by decide +kernel) hL (Nat.le_of_ble_eq_true rfl) (fun K ad hl hC hr hA => ?_)
  have hC : CK K Y cX5_mustParts 4 RX5 6 159 := hC
  have hkT : 0 + kT = kT := Nat.zero_add _
  have hnT : 0 + nT = nT := Nat.zero_add _
  unfold t_X5_mustParts at hf
  show V K Y 4 0 0 (L, ad) d 0 [(0, .ref (yo Y 0)), (1, .ref (yo Y o1))] []
  refine V_aload_n 1 hC dX5_mustParts_0 rfl rfl ?_
  refine V_geti (o := o1) hC ho1 rfl fk_X5_320 dX5_mustParts_1 ?_
  refine V_if_ne (tgt := 9) hC dX5_mustParts_4 (by decide) (fun c1 => ?_) (fun c1 => ?_)
  · have hf := if_f hf c1
    refine V_iconst (v := 0) hC dX5_mustParts_9 rfl ?_
    refine V_istore_n (lv' := [(2, .int 0), (0, .ref (yo Y 0)), (1, .ref (yo Y o1))]) hC dX5_mustParts_10 rfl (by decide) rfl ?_
    refine V_iconst (v := 0) hC dX5_mustParts_11 rfl ?_
    refine V_istore_n (lv' := [(3, .int 0), (2, .int 0), (0, .ref (yo Y 0)), (1, .ref (yo Y o1))]) hC dX5_mustParts_12 rfl (by decide) rfl ?_
    exact V_sub [2, 3, 1, 0] rfl (lp_indA (X := Int32 × Int32 × (Nat → Nat) × Dt) (P := fun x kc ns => ∀ (ad : Nat → Nat) (k n : Nat), k + kc = kT → n + ns = nT → V K Y 4 k n (x.2.2.1, ad) x.2.2.2 13 [(0, .ref (yo Y 0)), (1, .ref (yo Y o1)), (2, .int x.1), (3, .int x.2.1)] []) (fun kf x hk kc ns hx ad k n h1 h2 => b_X5_mustParts_13 hC hr ho ho1 hA  (k13 := fun x2 x3 L d => kf (x2, x3, L, d)) (fun x2 x3 L d ad k n kc ns hx h1 h2 => hk (x2, x3, L, d) kc ns hx ad k n h1 h2) x.1 x.2.1 x.2.2.1 x.2.2.2 ad k n kc ns hx h1 h2) FU (0, 0, L, d) kT nT hf ad 0 0 hkT hnT)
  · have hf := if_t hf c1
    refine V_iconst (v := 0) hC dX5_mustParts_7 rfl ?_
    obtain ⟨rfl, rfl, rfl, rfl, rfl⟩ := so_injA hf
    exact V_iretA hC hr hA (by omega) (by omega) dX5_mustParts_8
def t_X5_neededThings_64 (o1 : Nat) (k19 : Int32 → Int32 → Int32 → (Nat → Nat) → (Dt) → Option ((Int32 × (Nat → Nat) × Dt) × Nat × Nat)) (x2 : Int32) (x3 : Int32) (x4 : Int32) (L : Nat → Nat) (d : Dt) : Option ((Int32 × (Nat → Nat) × Dt) × Nat × Nat) := k19 x2 x3 (x4 + 1) L d
set_option maxRecDepth 20000 in
theorem b_X5_neededThings_64 {K : Kx} {Y : Yx} {z0 : Sh} {kT nT : Nat} (hC : CK K Y cX5_neededThings 5 RX5 6 159) (hr : (kme K).sig.returnType = some .int) {o1 : Nat} (ho : (0, 0, 4) ∈ yI Y) (ho1 : (0, o1, 3) ∈ yI Y) {r : Int32} {L' : Nat → Nat} {d' : Dt} (hA : CA K Y z0 kT nT (some (.int r)) L' d') {k19 : Int32 → Int32 → Int32 → (Nat → Nat) → (Dt) → Option ((Int32 × (Nat → Nat) × Dt) × Nat × Nat)} (hk19 : ∀ (x2 : Int32) (x3 : Int32) (x4 : Int32) (L : Nat → Nat) (d : Dt) (ad : Nat → Nat) (k n kc ns : Nat), k19 x2 x3 x4 L d = some ((r, L', d'), kc, ns) → k + kc = kT → n + ns = nT → V K Y 5 k n (L, ad) d 19 [(0, .ref (yo Y 0)), (2, .int x2), (3, .int x3), (4, .int x4)] []) (x2 : Int32) (x3 : Int32) (x4 : Int32) (L : Nat → Nat) (d : Dt) (ad : Nat → Nat) (k n kc ns : Nat) (hf : t_X5_neededThings_64 o1 k19 x2 x3 x4 L d = some ((r, L', d'), kc, ns)) (hkT : k + kc = kT) (hnT : n + ns = nT) : V K Y 5 k n (L, ad) d 64 [(0, .ref (yo Y 0)), (2, .int x2), (3, .int x3), (4, .int x4)] [] := by
  have hL := hC.2.2.2.2.2.2.1
  unfold t_X5_neededThings_64 at hf
  refine V_iinc (v := x4 + 1) (lv' := [(4, .int (x4 + 1)), (0, .ref (yo Y 0)), (2, .int x2), (3, .int x3)]) 3 hC dX5_neededThings_64 rfl rfl (by decide) rfl ?_
  refine V_goto (tgt := 19) hC dX5_neededThings_67 (by decide) ?_
  exact V_sub [1, 2, 3, 0] rfl (hk19 x2 x3 (x4 + 1) L d ad k n kc ns hf hkT hnT)
def t_X5_neededThings_19 (o1 : Nat) (k19 : Int32 → Int32 → Int32 → (Nat → Nat) → (Dt) → Option ((Int32 × (Nat → Nat) × Dt) × Nat × Nat)) (x2 : Int32) (x3 : Int32) (x4 : Int32) (L : Nat → Nat) (d : Dt) : Option ((Int32 × (Nat → Nat) × Dt) × Nat × Nat) := if 8 ≤ x4 then some ((x3, L, d), 0, 0) else if ((x2 >>> (x4 &&& 31)) &&& 1) = 1 then (t_X4_build L d 10 x4 (-1) 1).bind (fun q5 => al q5.2.1 q5.2.2 (if (gF q5.1.2 10 2) = 0 then bd (x3 ||| ((1 : Int32) <<< (x4 &&& 31))) (fun y10 => t_X5_neededThings_64 o1 k19 x2 y10 x4 q5.1.1 q5.1.2) else t_X5_neededThings_64 o1 k19 x2 x3 x4 q5.1.1 q5.1.2)) else t_X5_neededThings_64 o1 k19 x2 x3 x4 L d
set_option maxRecDepth 20000 in
theorem b_X5_neededThings_19 {K : Kx} {Y : Yx} {z0 : Sh} {kT nT : Nat} (hC : CK K Y cX5_neededThings 5 RX5 6 159) (hr : (kme K).sig.returnType = some .int) {o1 : Nat} (ho : (0, 0, 4) ∈ yI Y) (ho1 : (0, o1, 3) ∈ yI Y) {r : Int32} {L' : Nat → Nat} {d' : Dt} (hA : CA K Y z0 kT nT (some (.int r)) L' d') {k19 : Int32 → Int32 → Int32 → (Nat → Nat) → (Dt) → Option ((Int32 × (Nat → Nat) × Dt) × Nat × Nat)} (hk19 : ∀ (x2 : Int32) (x3 : Int32) (x4 : Int32) (L : Nat → Nat) (d : Dt) (ad : Nat → Nat) (k n kc ns : Nat), k19 x2 x3 x4 L d = some ((r, L', d'), kc, ns) → k + kc = kT → n + ns = nT → V K Y 5 k n (L, ad) d 19 [(0, .ref (yo Y 0)), (2, .int x2), (3, .int x3), (4, .int x4)] []) (x2 : Int32) (x3 : Int32) (x4 : Int32) (L : Nat → Nat) (d : Dt) (ad : Nat → Nat) (k n kc ns : Nat) (hf : t_X5_neededThings_19 o1 k19 x2 x3 x4 L d = some ((r, L', d'), kc, ns)) (hkT : k + kc = kT) (hnT : n + ns = nT) : V K Y 5 k n (L, ad) d 19 [(0, .ref (yo Y 0)), (2, .int x2), (3, .int x3), (4, .int x4)] [] := by
  have hL := hC.2.2.2.2.2.2.1
  unfold t_X5_neededThings_19 at hf
  refine V_iload 3 hC dX5_neededThings_19 rfl ?_
  refine V_bipush (v := 8) hC dX5_neededThings_21 rfl ?_
  refine V_icmp_ge (tgt := 70) hC dX5_neededThings_23 (by decide) (fun c3 => ?_) (fun c3 => ?_)
  · have hf := if_t hf c3
    refine V_iload_n 2 hC dX5_neededThings_70 rfl rfl ?_
    obtain ⟨rfl, rfl, rfl, rfl, rfl⟩ := so_injA hf
    exact V_iretA hC hr hA (by omega) (by omega) dX5_neededThings_71
  · have hf := if_f hf c3
    refine V_iload_n 1 hC dX5_neededThings_26 rfl rfl ?_
    refine V_iload 3 hC dX5_neededThings_27 rfl ?_
    refine V_ishr hC dX5_neededThings_29 ?_
    refine V_iconst (v := 1) hC dX5_neededThings_30 rfl ?_
    refine V_iand hC dX5_neededThings_31 ?_
    refine V_iconst (v := 1) hC dX5_neededThings_32 rfl ?_
    refine V_icmp_ne (tgt := 64) hC dX5_neededThings_33 (by decide) (fun c4 => ?_) (fun c4 => ?_)
    · have hf := if_f hf c4
      exact b_X5_neededThings_64 hC hr ho ho1 hA hk19 x2 x3 x4 L d ad k n kc ns hf hkT hnT
    · have hf := if_t hf c4
      refine V_aload_n 0 hC dX5_neededThings_36 rfl rfl ?_
      refine V_geto (o := 0) (o2 := 10) hC ho rfl fk_X5_56 rfl dX5_neededThings_37 ?_
      refine V_iload 3 hC dX5_neededThings_40 rfl ?_
      refine V_iconst (v := -1) hC dX5_neededThings_42 rfl ?_
      refine V_iconst (v := 1) hC dX5_neededThings_43 rfl ?_
      obtain ⟨q5, eq5, hf⟩ := bi_some hf
      obtain ⟨kc6, ns7, hf, ekc6, ens7⟩ := al_some hf
      refine V_invAv (L1 := q5.1.1) (d1 := q5.1.2) (k1 := q5.2.1) (n1 := q5.2.2) (o := 10) (As := [.int x4, .int (-1), .int 1]) (rest := []) hC hA.new (c_X4_build hL (show (0, 10, 3) ∈ yI Y from hL.obj (j := 6) ho rfl) eq5) me_X4_build lk_X5_259 (show (0, 10, 3) ∈ yI Y from hL.obj (j := 6) ho rfl) rfl rfl rfl (Nat.le_of_ble_eq_true rfl) ⟨by decide, by decide⟩ ⟨by rw [hA.2.2.1]; omega, by rw [hA.2.2.2]; omega⟩ dX5_neededThings_44 (fun ad8 => ?_)
      have hkT : (k + q5.2.1) + kc6 = kT := by omega
      have hnT : (n + q5.2.2) + ns7 = nT := by omega
      refine V_aload_n 0 hC dX5_neededThings_47 rfl rfl ?_
      refine V_geto (o := 0) (o2 := 10) hC ho rfl fk_X5_56 rfl dX5_neededThings_48 ?_
      refine V_geti (o := 10) hC (show (0, 10, 3) ∈ yI Y from hL.obj (j := 6) ho rfl) rfl fk_X5_320 dX5_neededThings_51 ?_
      refine V_if_ne (tgt := 64) hC dX5_neededThings_54 (by decide) (fun c9 => ?_) (fun c9 => ?_)
      · have hf := if_f hf c9
        exact b_X5_neededThings_64 hC hr ho ho1 hA hk19 x2 x3 x4 q5.1.1 q5.1.2 ad8 (k + q5.2.1) (n + q5.2.2) kc6 ns7 hf hkT hnT
      · have hf := if_t hf c9
        refine V_iload_n 2 hC dX5_neededThings_57 rfl rfl ?_
        refine V_iconst (v := 1) hC dX5_neededThings_58 rfl ?_
        refine V_iload 3 hC dX5_neededThings_59 rfl ?_
        refine V_ishl hC dX5_neededThings_61 ?_
        refine V_ior hC dX5_neededThings_62 ?_
        refine V_topi (fun y10 ey10 => ?_)
        have hf := bd_e hf y10 ey10
        refine V_istore_n (lv' := [(3, .int y10), (0, .ref (yo Y 0)), (2, .int x2), (4, .int x4)]) hC dX5_neededThings_63 rfl (by decide) rfl ?_
        exact V_sub [1, 2, 0, 3] rfl (b_X5_neededThings_64 hC hr ho ho1 hA hk19 x2 y10 x4 q5.1.1 q5.1.2 ad8 (k + q5.2.1) (n + q5.2.2) kc6 ns7 hf hkT hnT)
def t_X5_neededThings (L : Nat → Nat) (d : Dt) (o1 : Nat) : Option ((Int32 × (Nat → Nat) × Dt) × Nat × Nat) := if (gF d o1 2) = 0 then some ((0, L, d), 0, 0) else (t_X4_hadThings L d o1).bind (fun v2 => lp (fun k x => t_X5_neededThings_19 o1  (fun x2 x3 x4 L d => k (x2, x3, x4, L, d)) x.1 x.2.1 x.2.2.1 x.2.2.2.1 x.2.2.2.2) FU (v2, 0, 0, L, d))
set_option maxRecDepth 20000 in
theorem c_X5_neededThings {l : Launch} {Y : Yx} (hL : LAY Y) {L : Nat → Nat} {d : Dt} {o1 : Nat} (ho : (0, 0, 4) ∈ yI Y) (ho1 : (0, o1, 3) ∈ yI Y) {r : Int32} {L' : Nat → Nat} {d' : Dt} {kT nT : Nat} (hf : t_X5_neededThings L d o1 = some ((r, L', d'), kT, nT)) : MA l yX5_neededThings cX5_neededThings 5 (some .int) 6 159 Y L [.ref (yo Y 0), .ref (yo Y o1)] d (some (.int r)) L' d' kT nT := by
  refine MA.ofV ho (by decide +kernel) hL (Nat.le_of_ble_eq_true rfl) (fun K ad hl hC hr hA => ?_)
  have hC : CK K Y cX5_neededThings 5 RX5 6 159 := hC
  have hkT : 0 + kT = kT := Nat.zero_add _
  have hnT : 0 + nT = nT := Nat.zero_add _
  unfold t_X5_neededThings at hf
  show V K Y 5 0 0 (L, ad) d 0 [(0, .ref (yo Y 0)), (1, .ref (yo Y o1))] []
  refine V_aload_n 1 hC dX5_neededThings_0 rfl rfl ?_
  refine V_geti (o := o1) hC ho1 rfl fk_X5_320 dX5_neededThings_1 ?_
  refine V_if_ne (tgt := 9) hC dX5_neededThings_4 (by decide) (fun c1 => ?_) (fun c1 => ?_)
  · have hf := if_f hf c1
    refine V_aload_n 1 hC dX5_neededThings_9 rfl rfl ?_
    obtain ⟨v2, ev2, hf⟩ := bi_some hf
    refine V_invi (o := o1) (As := []) (rest := []) hC (c_X4_hadThings hL ho1 ev2) me_X4_hadThings lk_X5_250 ho1 rfl rfl rfl (Nat.le_of_ble_eq_true rfl) ⟨by decide, by decide⟩ ⟨by rw [hA.2.2.1]; omega, by rw [hA.2.2.2]; omega⟩ dX5_neededThings_10 ?_
    refine V_istore_n (lv' := [(2, .int v2), (0, .ref (yo Y 0)), (1, .ref (yo Y o1))]) hC dX5_neededThings_13 rfl (by decide) rfl ?_
    refine V_iconst (v := 0) hC dX5_neededThings_14 rfl ?_
    refine V_istore_n (lv' := [(3, .int 0), (2, .int v2), (0, .ref (yo Y 0)), (1, .ref (yo Y o1))]) hC dX5_neededThings_15 rfl (by decide) rfl ?_
    refine V_iconst (v := 0) hC dX5_neededThings_16 rfl ?_
    refine V_istore (lv' := [(4, .int 0), (3, .int 0), (2, .int v2), (0, .ref (yo Y 0)), (1, .ref (yo Y o1))]) hC dX5_neededThings_17 (by decide) rfl ?_
    exact V_sub [3, 2, 1, 0] rfl (lp_indA (X := Int32 × Int32 × Int32 × (Nat → Nat) × Dt) (P := fun x kc ns => ∀ (ad : Nat → Nat) (k n : Nat), k + kc = kT → n + ns = nT → V K Y 5 k n (x.2.2.2.1, ad) x.2.2.2.2 19 [(0, .ref (yo Y 0)), (2, .int x.1), (3, .int x.2.1), (4, .int x.2.2.1)] []) (fun kf x hk kc ns hx ad k n h1 h2 => b_X5_neededThings_19 hC hr ho ho1 hA  (k19 := fun x2 x3 x4 L d => kf (x2, x3, x4, L, d)) (fun x2 x3 x4 L d ad k n kc ns hx h1 h2 => hk (x2, x3, x4, L, d) kc ns hx ad k n h1 h2) x.1 x.2.1 x.2.2.1 x.2.2.2.1 x.2.2.2.2 ad k n kc ns hx h1 h2) FU (v2, 0, 0, L, d) kT nT hf ad 0 0 hkT hnT)
  · have hf := if_t hf c1
    refine V_iconst (v := 0) hC dX5_neededThings_7 rfl ?_
    obtain ⟨rfl, rfl, rfl, rfl, rfl⟩ := so_injA hf
    exact V_iretA hC hr hA (by omega) (by omega) dX5_neededThings_8
def t_X5_count (L : Nat → Nat) (d : Dt) (p1 : Int32) : Option ((Int32 × (Nat → Nat) × Dt) × Nat × Nat) := if p1 = 0 then some ((gF d 6 0, L, d), 0, 0) else if p1 = 1 then (t_X0_allChoices L d 6).bind (fun v3 => some ((v3, L, d), 0, 0)) else if p1 = 2 then some ((gF d 6 1, L, d), 0, 0) else if p1 = 3 then some ((gF d 0 4, L, d), 0, 0) else if p1 = 4 then some ((gF d 1 1, L, d), 0, 0) else if p1 = 5 then (t_X5_freshComeTo L d ).bind (fun q8 => al q8.2.1 q8.2.2 (some ((gF q8.1.2 9 0, q8.1.1, q8.1.2), 0, 0))) else some (((-1000002), L, d), 0, 0)
set_option maxRecDepth 20000 in
theorem c_X5_count {l : Launch} {Y : Yx} (hL : LAY Y) {L : Nat → Nat} {d : Dt} {p1 : Int32} (ho : (0, 0, 4) ∈ yI Y) {r : Int32} {L' : Nat → Nat} {d' : Dt} {kT nT : Nat} (hf : t_X5_count L d p1 = some ((r, L', d'), kT, nT)) : MA l yX5_count cX5_count 2 (some .int) 7 179 Y L [.ref (yo Y 0), .int p1] d (some (.int r)) L' d' kT nT := by
  refine MA.ofV ho (by decide +kernel) hL (Nat.le_of_ble_eq_true rfl) (fun K ad hl hC hr hA => ?_)
  have hC : CK K Y cX5_count 2 RX5 7 179 := hC
  have hkT : 0 + kT = kT := Nat.zero_add _
  have hnT : 0 + nT = nT := Nat.zero_add _
  unfold t_X5_count at hf
  show V K Y 2 0 0 (L, ad) d 0 [(0, .ref (yo Y 0)), (1, .int p1)] []
  refine V_iload_n 1 hC dX5_count_0 rfl rfl ?_
  by_cases c1 : p1 = 0
  · have hf := if_t hf c1
    refine V_tswIn (tgt := 40) hC dX5_count_1 0 c1 (by decide) (by decide) rfl (by decide) ?_
    refine V_aload_n 0 hC dX5_count_40 rfl rfl ?_
    refine V_geto (o := 0) (o2 := 2) hC ho rfl fk_X5_45 rfl dX5_count_41 ?_
    refine V_geto (o := 2) (o2 := 6) hC (show (0, 2, 2) ∈ yI Y from hL.obj (j := 1) ho rfl) rfl fk_X5_83 rfl dX5_count_44 ?_
    refine V_geti (o := 6) hC (show (0, 6, 0) ∈ yI Y from hL.obj (j := 0) (show (0, 2, 2) ∈ yI Y from hL.obj (j := 1) ho rfl) rfl) rfl fk_X5_86 dX5_count_47 ?_
    obtain ⟨rfl, rfl, rfl, rfl, rfl⟩ := so_injA hf
    exact V_iretA hC hr hA (by omega) (by omega) dX5_count_50
  · have hf := if_f hf c1
    by_cases c2 : p1 = 1
    · have hf := if_t hf c2
      refine V_tswIn (tgt := 51) hC dX5_count_1 1 c2 (by decide) (by decide) rfl (by decide) ?_
      refine V_aload_n 0 hC dX5_count_51 rfl rfl ?_
      refine V_geto (o := 0) (o2 := 2) hC ho rfl fk_X5_45 rfl dX5_count_52 ?_
      refine V_geto (o := 2) (o2 := 6) hC (show (0, 2, 2) ∈ yI Y from hL.obj (j := 1) ho rfl) rfl fk_X5_83 rfl dX5_count_55 ?_
      obtain ⟨v3, ev3, hf⟩ := bi_some hf
      refine V_invi (o := 6) (As := []) (rest := []) hC (c_X0_allChoices hL (show (0, 6, 0) ∈ yI Y from hL.obj (j := 0) (show (0, 2, 2) ∈ yI Y from hL.obj (j := 1) ho rfl) rfl) ev3) me_X0_allChoices lk_X5_153 (show (0, 6, 0) ∈ yI Y from hL.obj (j := 0) (show (0, 2, 2) ∈ yI Y from hL.obj (j := 1) ho rfl) rfl) rfl rfl rfl (Nat.le_of_ble_eq_true rfl) ⟨by decide, by decide⟩ ⟨by rw [hA.2.2.1]; omega, by rw [hA.2.2.2]; omega⟩ dX5_count_58 ?_
      obtain ⟨rfl, rfl, rfl, rfl, rfl⟩ := so_injA hf
      exact V_iretA hC hr hA (by omega) (by omega) dX5_count_61
    · have hf := if_f hf c2
      by_cases c4 : p1 = 2
      · have hf := if_t hf c4
        refine V_tswIn (tgt := 62) hC dX5_count_1 2 c4 (by decide) (by decide) rfl (by decide) ?_
        refine V_aload_n 0 hC dX5_count_62 rfl rfl ?_
        refine V_geto (o := 0) (o2 := 2) hC ho rfl fk_X5_45 rfl dX5_count_63 ?_
        refine V_geto (o := 2) (o2 := 6) hC (show (0, 2, 2) ∈ yI Y from hL.obj (j := 1) ho rfl) rfl fk_X5_83 rfl dX5_count_66 ?_
        refine V_geti (o := 6) hC (show (0, 6, 0) ∈ yI Y from hL.obj (j := 0) (show (0, 2, 2) ∈ yI Y from hL.obj (j := 1) ho rfl) rfl) rfl fk_X5_156 dX5_count_69 ?_
        obtain ⟨rfl, rfl, rfl, rfl, rfl⟩ := so_injA hf
        exact V_iretA hC hr hA (by omega) (by omega) dX5_count_72
      · have hf := if_f hf c4
        by_cases c5 : p1 = 3
        · have hf := if_t hf c5
          refine V_tswIn (tgt := 73) hC dX5_count_1 3 c5 (by decide) (by decide) rfl (by decide) ?_
          refine V_aload_n 0 hC dX5_count_73 rfl rfl ?_
          refine V_geti (o := 0) hC ho rfl fk_X5_20 dX5_count_74 ?_
          obtain ⟨rfl, rfl, rfl, rfl, rfl⟩ := so_injA hf
          exact V_iretA hC hr hA (by omega) (by omega) dX5_count_77
        · have hf := if_f hf c5
          by_cases c6 : p1 = 4
          · have hf := if_t hf c6
            refine V_tswIn (tgt := 78) hC dX5_count_1 4 c6 (by decide) (by decide) rfl (by decide) ?_
            refine V_aload_n 0 hC dX5_count_78 rfl rfl ?_
            refine V_geto (o := 0) (o2 := 1) hC ho rfl fk_X5_10 rfl dX5_count_79 ?_
            refine V_geti (o := 1) hC (show (0, 1, 1) ∈ yI Y from hL.obj (j := 0) ho rfl) rfl fk_X5_64 dX5_count_82 ?_
            obtain ⟨rfl, rfl, rfl, rfl, rfl⟩ := so_injA hf
            exact V_iretA hC hr hA (by omega) (by omega) dX5_count_85
          · have hf := if_f hf c6
            by_cases c7 : p1 = 5
            · have hf := if_t hf c7
              refine V_tswIn (tgt := 86) hC dX5_count_1 5 c7 (by decide) (by decide) rfl (by decide) ?_
              refine V_aload_n 0 hC dX5_count_86 rfl rfl ?_
              obtain ⟨q8, eq8, hf⟩ := bi_some hf
              obtain ⟨kc9, ns10, hf, ekc9, ens10⟩ := al_some hf
              refine V_invAo (L1 := q8.1.1) (d1 := q8.1.2) (k1 := q8.2.1) (n1 := q8.2.2) (o := 0) (As := []) (rest := []) hC hA.new (c_X5_freshComeTo hL ho eq8) me_X5_freshComeTo lk_X5_159 ho rfl rfl rfl (Nat.le_of_ble_eq_true rfl) ⟨by decide, by decide⟩ ⟨by rw [hA.2.2.1]; omega, by rw [hA.2.2.2]; omega⟩ dX5_count_87 (fun ad11 => ?_)
              have hkT : (0 + q8.2.1) + kc9 = kT := by omega
              have hnT : (0 + q8.2.2) + ns10 = nT := by omega
              refine V_geti (o := 9) hC (show (0, 9, 3) ∈ yI Y from hL.obj (j := 5) ho rfl) rfl fk_X5_163 dX5_count_90 ?_
              obtain ⟨rfl, rfl, rfl, rfl, rfl⟩ := so_injA hf
              exact V_iretA hC hr hA (by omega) (by omega) dX5_count_93
            · have hf := if_f hf c7
              refine V_tswOut (tgt := 94) hC dX5_count_1 (by have hc1 := lv_neT c1 (show (0 : Int32).toInt = 0 from rfl); have hc2 := lv_neT c2 (show (1 : Int32).toInt = 1 from rfl); have hc4 := lv_neT c4 (show (2 : Int32).toInt = 2 from rfl); have hc5 := lv_neT c5 (show (3 : Int32).toInt = 3 from rfl); have hc6 := lv_neT c6 (show (4 : Int32).toInt = 4 from rfl); have hc7 := lv_neT c7 (show (5 : Int32).toInt = 5 from rfl); omega) (by decide) ?_
              refine V_ldc hC ck_X5_63 dX5_count_94 ?_
              obtain ⟨rfl, rfl, rfl, rfl, rfl⟩ := so_injA hf
              exact V_iretA hC hr hA (by omega) (by omega) dX5_count_96
def t_X5_odds (L : Nat → Nat) (d : Dt) (p1 : Int32) : Option ((Int32 × (Nat → Nat) × Dt) × Nat × Nat) := if p1 < 0 then some (((-1000002), L, d), 0, 0) else if p1 ≤ 60 then if (gF d 2 3) = 0 then some (((-1000003), L, d), 0, 0) else (t_X5_freshComeTo L d ).bind (fun q4 => al q4.2.1 q4.2.2 ((t_X4_include q4.1.1 q4.1.2 9 (gF q4.1.2 2 4)).bind (fun q8 => al q8.2.1 q8.2.2 ((t_X4_runTurns q8.1.2.1 q8.1.2.2 9 p1).bind (fun q12 => al q12.2.1 q12.2.2 ((t_X4_oddsOf q12.1.1 q12.1.2 9 q8.1.1).bind (fun v16 => some ((v16, q12.1.1, q12.1.2), 0, 0)))))))) else some (((-1000002), L, d), 0, 0)
set_option maxRecDepth 20000 in
theorem c_X5_odds {l : Launch} {Y : Yx} (hL : LAY Y) {L : Nat → Nat} {d : Dt} {p1 : Int32} (ho : (0, 0, 4) ∈ yI Y) {r : Int32} {L' : Nat → Nat} {d' : Dt} {kT nT : Nat} (hf : t_X5_odds L d p1 = some ((r, L', d'), kT, nT)) : MA l yX5_odds cX5_odds 4 (some .int) 7 179 Y L [.ref (yo Y 0), .int p1] d (some (.int r)) L' d' kT nT := by
  refine MA.ofV ho (by decide +kernel) hL (Nat.le_of_ble_eq_true rfl) (fun K ad hl hC hr hA => ?_)
  have hC : CK K Y cX5_odds 4 RX5 7 179 := hC
  have hkT : 0 + kT = kT := Nat.zero_add _
  have hnT : 0 + nT = nT := Nat.zero_add _
  unfold t_X5_odds at hf
  show V K Y 4 0 0 (L, ad) d 0 [(0, .ref (yo Y 0)), (1, .int p1)] []
  refine V_iload_n 1 hC dX5_odds_0 rfl rfl ?_
  refine V_if_lt (tgt := 10) hC dX5_odds_1 (by decide) (fun c1 => ?_) (fun c1 => ?_)
  · have hf := if_t hf c1
    refine V_ldc hC ck_X5_63 dX5_odds_10 ?_
    obtain ⟨rfl, rfl, rfl, rfl, rfl⟩ := so_injA hf
    exact V_iretA hC hr hA (by omega) (by omega) dX5_odds_12
  · have hf := if_f hf c1
    refine V_iload_n 1 hC dX5_odds_4 rfl rfl ?_
    refine V_bipush (v := 60) hC dX5_odds_5 rfl ?_
    refine V_icmp_le (tgt := 13) hC dX5_odds_7 (by decide) (fun c2 => ?_) (fun c2 => ?_)
    · have hf := if_t hf c2
      refine V_aload_n 0 hC dX5_odds_13 rfl rfl ?_
      refine V_geto (o := 0) (o2 := 2) hC ho rfl fk_X5_45 rfl dX5_odds_14 ?_
      refine V_geti (o := 2) hC (show (0, 2, 2) ∈ yI Y from hL.obj (j := 1) ho rfl) rfl fk_X5_172 dX5_odds_17 ?_
      refine V_if_ne (tgt := 26) hC dX5_odds_20 (by decide) (fun c3 => ?_) (fun c3 => ?_)
      · have hf := if_f hf c3
        refine V_aload_n 0 hC dX5_odds_26 rfl rfl ?_
        obtain ⟨q4, eq4, hf⟩ := bi_some hf
        obtain ⟨kc5, ns6, hf, ekc5, ens6⟩ := al_some hf
        refine V_invAo (L1 := q4.1.1) (d1 := q4.1.2) (k1 := q4.2.1) (n1 := q4.2.2) (o := 0) (As := []) (rest := []) hC hA.new (c_X5_freshComeTo hL ho eq4) me_X5_freshComeTo lk_X5_159 ho rfl rfl rfl (Nat.le_of_ble_eq_true rfl) ⟨by decide, by decide⟩ ⟨by rw [hA.2.2.1]; omega, by rw [hA.2.2.2]; omega⟩ dX5_odds_27 (fun ad7 => ?_)
        have hkT : (0 + q4.2.1) + kc5 = kT := by omega
        have hnT : (0 + q4.2.2) + ns6 = nT := by omega
        refine V_astore_n (lv' := [(2, .ref (yo Y 9)), (0, .ref (yo Y 0)), (1, .int p1)]) hC dX5_odds_30 rfl (by decide) rfl ?_
        refine V_aload_n 0 hC dX5_odds_31 rfl rfl ?_
        refine V_aload_n 1 hC dX5_odds_32 rfl rfl ?_
        refine V_geto (o := 0) (o2 := 2) hC ho rfl fk_X5_45 rfl dX5_odds_33 ?_
        refine V_geti (o := 2) hC (show (0, 2, 2) ∈ yI Y from hL.obj (j := 1) ho rfl) rfl fk_X5_175 dX5_odds_36 ?_
        obtain ⟨q8, eq8, hf⟩ := bi_some hf
        obtain ⟨kc9, ns10, hf, ekc9, ens10⟩ := al_some hf
        refine V_invAi (r1 := q8.1.1) (L1 := q8.1.2.1) (d1 := q8.1.2.2) (k1 := q8.2.1) (n1 := q8.2.2) (o := 9) (As := [.int (gF q4.1.2 2 4)]) (rest := []) hC hA.new (c_X4_include hL (show (0, 9, 3) ∈ yI Y from hL.obj (j := 5) ho rfl) eq8) me_X4_include lk_X5_218 (show (0, 9, 3) ∈ yI Y from hL.obj (j := 5) ho rfl) rfl rfl rfl (Nat.le_of_ble_eq_true rfl) ⟨by decide, by decide⟩ ⟨by rw [hA.2.2.1]; omega, by rw [hA.2.2.2]; omega⟩ dX5_odds_39 (fun ad11 => ?_)
        have hkT : ((0 + q4.2.1) + q8.2.1) + kc9 = kT := by omega
        have hnT : ((0 + q4.2.2) + q8.2.2) + ns10 = nT := by omega
        refine V_istore_n (lv' := [(3, .int q8.1.1), (2, .ref (yo Y 9)), (0, .ref (yo Y 0)), (1, .int p1)]) hC dX5_odds_42 rfl (by decide) rfl ?_
        refine V_aload_n 1 hC dX5_odds_43 rfl rfl ?_
        refine V_iload_n 3 hC dX5_odds_44 rfl rfl ?_
        obtain ⟨q12, eq12, hf⟩ := bi_some hf
        obtain ⟨kc13, ns14, hf, ekc13, ens14⟩ := al_some hf
        refine V_invAv (L1 := q12.1.1) (d1 := q12.1.2) (k1 := q12.2.1) (n1 := q12.2.2) (o := 9) (As := [.int p1]) (rest := []) hC hA.new (c_X4_runTurns hL (show (0, 9, 3) ∈ yI Y from hL.obj (j := 5) ho rfl) eq12) me_X4_runTurns lk_X5_221 (show (0, 9, 3) ∈ yI Y from hL.obj (j := 5) ho rfl) rfl rfl rfl (Nat.le_of_ble_eq_true rfl) ⟨by decide, by decide⟩ ⟨by rw [hA.2.2.1]; omega, by rw [hA.2.2.2]; omega⟩ dX5_odds_45 (fun ad15 => ?_)
        have hkT : (((0 + q4.2.1) + q8.2.1) + q12.2.1) + kc13 = kT := by omega
        have hnT : (((0 + q4.2.2) + q8.2.2) + q12.2.2) + ns14 = nT := by omega
        refine V_aload_n 1 hC dX5_odds_48 rfl rfl ?_
        refine V_iload_n 0 hC dX5_odds_49 rfl rfl ?_
        obtain ⟨v16, ev16, hf⟩ := bi_some hf
        refine V_invi (o := 9) (As := [.int q8.1.1]) (rest := []) hC (c_X4_oddsOf hL (show (0, 9, 3) ∈ yI Y from hL.obj (j := 5) ho rfl) ev16) me_X4_oddsOf lk_X5_224 (show (0, 9, 3) ∈ yI Y from hL.obj (j := 5) ho rfl) rfl rfl rfl (Nat.le_of_ble_eq_true rfl) ⟨by decide, by decide⟩ ⟨by rw [hA.2.2.1]; omega, by rw [hA.2.2.2]; omega⟩ dX5_odds_50 ?_
        obtain ⟨rfl, rfl, rfl, rfl, rfl⟩ := so_injA hf
        exact V_iretA hC hr hA (by omega) (by omega) dX5_odds_53
      · have hf := if_t hf c3
        refine V_ldc hC ck_X5_144 dX5_odds_23 ?_
        obtain ⟨rfl, rfl, rfl, rfl, rfl⟩ := so_injA hf
        exact V_iretA hC hr hA (by omega) (by omega) dX5_odds_25
    · have hf := if_f hf c2
      refine V_ldc hC ck_X5_63 dX5_odds_10 ?_
      obtain ⟨rfl, rfl, rfl, rfl, rfl⟩ := so_injA hf
      exact V_iretA hC hr hA (by omega) (by omega) dX5_odds_12
def t_X5_advice (L : Nat → Nat) (d : Dt) (p1 : Int32) : Option ((Int32 × (Nat → Nat) × Dt) × Nat × Nat) := if p1 < 1 then some (((-1000002), L, d), 0, 0) else if p1 ≤ 60 then if (gF d 2 3) = 0 then some (((-1000003), L, d), 0, 0) else (t_X5_freshComeTo L d ).bind (fun q4 => al q4.2.1 q4.2.2 ((t_X4_include q4.1.1 q4.1.2 9 (gF q4.1.2 2 4)).bind (fun q8 => al q8.2.1 q8.2.2 ((t_X4_runTurns q8.1.2.1 q8.1.2.2 9 (p1 - 1)).bind (fun q12 => al q12.2.1 q12.2.2 ((t_X5_bestChoice q12.1.1 q12.1.2 9).bind (fun v16 => some ((v16, q12.1.1, q12.1.2), 0, 0)))))))) else some (((-1000002), L, d), 0, 0)
set_option maxRecDepth 20000 in
theorem c_X5_advice {l : Launch} {Y : Yx} (hL : LAY Y) {L : Nat → Nat} {d : Dt} {p1 : Int32} (ho : (0, 0, 4) ∈ yI Y) {r : Int32} {L' : Nat → Nat} {d' : Dt} {kT nT : Nat} (hf : t_X5_advice L d p1 = some ((r, L', d'), kT, nT)) : MA l yX5_advice cX5_advice 3 (some .int) 7 179 Y L [.ref (yo Y 0), .int p1] d (some (.int r)) L' d' kT nT := by
  refine MA.ofV ho (by decide +kernel) hL (Nat.le_of_ble_eq_true rfl) (fun K ad hl hC hr hA => ?_)
  have hC : CK K Y cX5_advice 3 RX5 7 179 := hC
  have hkT : 0 + kT = kT := Nat.zero_add _
  have hnT : 0 + nT = nT := Nat.zero_add _
  unfold t_X5_advice at hf
  show V K Y 3 0 0 (L, ad) d 0 [(0, .ref (yo Y 0)), (1, .int p1)] []
  refine V_iload_n 1 hC dX5_advice_0 rfl rfl ?_
  refine V_iconst (v := 1) hC dX5_advice_1 rfl ?_
  refine V_icmp_lt (tgt := 11) hC dX5_advice_2 (by decide) (fun c1 => ?_) (fun c1 => ?_)
  · have hf := if_t hf c1
    refine V_ldc hC ck_X5_63 dX5_advice_11 ?_
    obtain ⟨rfl, rfl, rfl, rfl, rfl⟩ := so_injA hf
    exact V_iretA hC hr hA (by omega) (by omega) dX5_advice_13
  · have hf := if_f hf c1
    refine V_iload_n 1 hC dX5_advice_5 rfl rfl ?_
    refine V_bipush (v := 60) hC dX5_advice_6 rfl ?_
    refine V_icmp_le (tgt := 14) hC dX5_advice_8 (by decide) (fun c2 => ?_) (fun c2 => ?_)
    · have hf := if_t hf c2
      refine V_aload_n 0 hC dX5_advice_14 rfl rfl ?_
      refine V_geto (o := 0) (o2 := 2) hC ho rfl fk_X5_45 rfl dX5_advice_15 ?_
      refine V_geti (o := 2) hC (show (0, 2, 2) ∈ yI Y from hL.obj (j := 1) ho rfl) rfl fk_X5_172 dX5_advice_18 ?_
      refine V_if_ne (tgt := 27) hC dX5_advice_21 (by decide) (fun c3 => ?_) (fun c3 => ?_)
      · have hf := if_f hf c3
        refine V_aload_n 0 hC dX5_advice_27 rfl rfl ?_
        obtain ⟨q4, eq4, hf⟩ := bi_some hf
        obtain ⟨kc5, ns6, hf, ekc5, ens6⟩ := al_some hf
        refine V_invAo (L1 := q4.1.1) (d1 := q4.1.2) (k1 := q4.2.1) (n1 := q4.2.2) (o := 0) (As := []) (rest := []) hC hA.new (c_X5_freshComeTo hL ho eq4) me_X5_freshComeTo lk_X5_159 ho rfl rfl rfl (Nat.le_of_ble_eq_true rfl) ⟨by decide, by decide⟩ ⟨by rw [hA.2.2.1]; omega, by rw [hA.2.2.2]; omega⟩ dX5_advice_28 (fun ad7 => ?_)
        have hkT : (0 + q4.2.1) + kc5 = kT := by omega
        have hnT : (0 + q4.2.2) + ns6 = nT := by omega
        refine V_astore_n (lv' := [(2, .ref (yo Y 9)), (0, .ref (yo Y 0)), (1, .int p1)]) hC dX5_advice_31 rfl (by decide) rfl ?_
        refine V_aload_n 0 hC dX5_advice_32 rfl rfl ?_
        refine V_aload_n 1 hC dX5_advice_33 rfl rfl ?_
        refine V_geto (o := 0) (o2 := 2) hC ho rfl fk_X5_45 rfl dX5_advice_34 ?_
        refine V_geti (o := 2) hC (show (0, 2, 2) ∈ yI Y from hL.obj (j := 1) ho rfl) rfl fk_X5_175 dX5_advice_37 ?_
        obtain ⟨q8, eq8, hf⟩ := bi_some hf
        obtain ⟨kc9, ns10, hf, ekc9, ens10⟩ := al_some hf
        refine V_invAi (r1 := q8.1.1) (L1 := q8.1.2.1) (d1 := q8.1.2.2) (k1 := q8.2.1) (n1 := q8.2.2) (o := 9) (As := [.int (gF q4.1.2 2 4)]) (rest := []) hC hA.new (c_X4_include hL (show (0, 9, 3) ∈ yI Y from hL.obj (j := 5) ho rfl) eq8) me_X4_include lk_X5_218 (show (0, 9, 3) ∈ yI Y from hL.obj (j := 5) ho rfl) rfl rfl rfl (Nat.le_of_ble_eq_true rfl) ⟨by decide, by decide⟩ ⟨by rw [hA.2.2.1]; omega, by rw [hA.2.2.2]; omega⟩ dX5_advice_40 (fun ad11 => ?_)
        have hkT : ((0 + q4.2.1) + q8.2.1) + kc9 = kT := by omega
        have hnT : ((0 + q4.2.2) + q8.2.2) + ns10 = nT := by omega
        refine V_pop hC dX5_advice_43 rfl ?_
        refine V_aload_n 0 hC dX5_advice_44 rfl rfl ?_
        refine V_iload_n 2 hC dX5_advice_45 rfl rfl ?_
        refine V_iconst (v := 1) hC dX5_advice_46 rfl ?_
        refine V_isub hC dX5_advice_47 ?_
        obtain ⟨q12, eq12, hf⟩ := bi_some hf
        obtain ⟨kc13, ns14, hf, ekc13, ens14⟩ := al_some hf
        refine V_invAv (L1 := q12.1.1) (d1 := q12.1.2) (k1 := q12.2.1) (n1 := q12.2.2) (o := 9) (As := [.int (p1 - 1)]) (rest := []) hC hA.new (c_X4_runTurns hL (show (0, 9, 3) ∈ yI Y from hL.obj (j := 5) ho rfl) eq12) me_X4_runTurns lk_X5_221 (show (0, 9, 3) ∈ yI Y from hL.obj (j := 5) ho rfl) rfl rfl rfl (Nat.le_of_ble_eq_true rfl) ⟨by decide, by decide⟩ ⟨by rw [hA.2.2.1]; omega, by rw [hA.2.2.2]; omega⟩ dX5_advice_48 (fun ad15 => ?_)
        have hkT : (((0 + q4.2.1) + q8.2.1) + q12.2.1) + kc13 = kT := by omega
        have hnT : (((0 + q4.2.2) + q8.2.2) + q12.2.2) + ns14 = nT := by omega
        refine V_aload_n 1 hC dX5_advice_51 rfl rfl ?_
        refine V_aload_n 0 hC dX5_advice_52 rfl rfl ?_
        obtain ⟨v16, ev16, hf⟩ := bi_some hf
        refine V_invi (o := 0) (As := [.ref (yo Y 9)]) (rest := []) hC (c_X5_bestChoice hL ho (show (0, 9, 3) ∈ yI Y from hL.obj (j := 5) ho rfl) ev16) me_X5_bestChoice lk_X5_227 ho rfl rfl rfl (Nat.le_of_ble_eq_true rfl) ⟨by decide, by decide⟩ ⟨by rw [hA.2.2.1]; omega, by rw [hA.2.2.2]; omega⟩ dX5_advice_53 ?_
        obtain ⟨rfl, rfl, rfl, rfl, rfl⟩ := so_injA hf
        exact V_iretA hC hr hA (by omega) (by omega) dX5_advice_56
      · have hf := if_t hf c3
        refine V_ldc hC ck_X5_144 dX5_advice_24 ?_
        obtain ⟨rfl, rfl, rfl, rfl, rfl⟩ := so_injA hf
        exact V_iretA hC hr hA (by omega) (by omega) dX5_advice_26
    · have hf := if_f hf c2
      refine V_ldc hC ck_X5_63 dX5_advice_11 ?_
      obtain ⟨rfl, rfl, rfl, rfl, rfl⟩ := so_injA hf
      exact V_iretA hC hr hA (by omega) (by omega) dX5_advice_13
def t_X5_fewest (L : Nat → Nat) (d : Dt)  : Option ((Int32 × (Nat → Nat) × Dt) × Nat × Nat) := if (gF d 2 3) = 0 then some (((-1000003), L, d), 0, 0) else (t_X5_freshComeTo L d ).bind (fun q2 => al q2.2.1 q2.2.2 ((t_X4_include q2.1.1 q2.1.2 9 (gF q2.1.2 2 4)).bind (fun q6 => al q6.2.1 q6.2.2 ((t_X4_measureWins q6.1.2.1 q6.1.2.2 9).bind (fun q10 => al q10.2.1 q10.2.2 ((t_X4_turnsToWinOf q10.1.1 q10.1.2 9 q6.1.1).bind (fun v14 => some ((v14, q10.1.1, q10.1.2), 0, 0))))))))
set_option maxRecDepth 20000 in
theorem c_X5_fewest {l : Launch} {Y : Yx} (hL : LAY Y) {L : Nat → Nat} {d : Dt}  (ho : (0, 0, 4) ∈ yI Y) {r : Int32} {L' : Nat → Nat} {d' : Dt} {kT nT : Nat} (hf : t_X5_fewest L d  = some ((r, L', d'), kT, nT)) : MA l yX5_fewest cX5_fewest 3 (some .int) 7 179 Y L [.ref (yo Y 0)] d (some (.int r)) L' d' kT nT := by
  refine MA.ofV ho (by decide +kernel) hL (Nat.le_of_ble_eq_true rfl) (fun K ad hl hC hr hA => ?_)
  have hC : CK K Y cX5_fewest 3 RX5 7 179 := hC
  have hkT : 0 + kT = kT := Nat.zero_add _
  have hnT : 0 + nT = nT := Nat.zero_add _
  unfold t_X5_fewest at hf
  show V K Y 3 0 0 (L, ad) d 0 [(0, .ref (yo Y 0))] []
  refine V_aload_n 0 hC dX5_fewest_0 rfl rfl ?_
  refine V_geto (o := 0) (o2 := 2) hC ho rfl fk_X5_45 rfl dX5_fewest_1 ?_
  refine V_geti (o := 2) hC (show (0, 2, 2) ∈ yI Y from hL.obj (j := 1) ho rfl) rfl fk_X5_172 dX5_fewest_4 ?_
  refine V_if_ne (tgt := 13) hC dX5_fewest_7 (by decide) (fun c1 => ?_) (fun c1 => ?_)
  · have hf := if_f hf c1
    refine V_aload_n 0 hC dX5_fewest_13 rfl rfl ?_
    obtain ⟨q2, eq2, hf⟩ := bi_some hf
    obtain ⟨kc3, ns4, hf, ekc3, ens4⟩ := al_some hf
    refine V_invAo (L1 := q2.1.1) (d1 := q2.1.2) (k1 := q2.2.1) (n1 := q2.2.2) (o := 0) (As := []) (rest := []) hC hA.new (c_X5_freshComeTo hL ho eq2) me_X5_freshComeTo lk_X5_159 ho rfl rfl rfl (Nat.le_of_ble_eq_true rfl) ⟨by decide, by decide⟩ ⟨by rw [hA.2.2.1]; omega, by rw [hA.2.2.2]; omega⟩ dX5_fewest_14 (fun ad5 => ?_)
    have hkT : (0 + q2.2.1) + kc3 = kT := by omega
    have hnT : (0 + q2.2.2) + ns4 = nT := by omega
    refine V_astore_n (lv' := [(1, .ref (yo Y 9)), (0, .ref (yo Y 0))]) hC dX5_fewest_17 rfl (by decide) rfl ?_
    refine V_aload_n 0 hC dX5_fewest_18 rfl rfl ?_
    refine V_aload_n 1 hC dX5_fewest_19 rfl rfl ?_
    refine V_geto (o := 0) (o2 := 2) hC ho rfl fk_X5_45 rfl dX5_fewest_20 ?_
    refine V_geti (o := 2) hC (show (0, 2, 2) ∈ yI Y from hL.obj (j := 1) ho rfl) rfl fk_X5_175 dX5_fewest_23 ?_
    obtain ⟨q6, eq6, hf⟩ := bi_some hf
    obtain ⟨kc7, ns8, hf, ekc7, ens8⟩ := al_some hf
    refine V_invAi (r1 := q6.1.1) (L1 := q6.1.2.1) (d1 := q6.1.2.2) (k1 := q6.2.1) (n1 := q6.2.2) (o := 9) (As := [.int (gF q2.1.2 2 4)]) (rest := []) hC hA.new (c_X4_include hL (show (0, 9, 3) ∈ yI Y from hL.obj (j := 5) ho rfl) eq6) me_X4_include lk_X5_218 (show (0, 9, 3) ∈ yI Y from hL.obj (j := 5) ho rfl) rfl rfl rfl (Nat.le_of_ble_eq_true rfl) ⟨by decide, by decide⟩ ⟨by rw [hA.2.2.1]; omega, by rw [hA.2.2.2]; omega⟩ dX5_fewest_26 (fun ad9 => ?_)
    have hkT : ((0 + q2.2.1) + q6.2.1) + kc7 = kT := by omega
    have hnT : ((0 + q2.2.2) + q6.2.2) + ns8 = nT := by omega
    refine V_istore_n (lv' := [(2, .int q6.1.1), (1, .ref (yo Y 9)), (0, .ref (yo Y 0))]) hC dX5_fewest_29 rfl (by decide) rfl ?_
    refine V_aload_n 1 hC dX5_fewest_30 rfl rfl ?_
    obtain ⟨q10, eq10, hf⟩ := bi_some hf
    obtain ⟨kc11, ns12, hf, ekc11, ens12⟩ := al_some hf
    refine V_invAv (L1 := q10.1.1) (d1 := q10.1.2) (k1 := q10.2.1) (n1 := q10.2.2) (o := 9) (As := []) (rest := []) hC hA.new (c_X4_measureWins hL (show (0, 9, 3) ∈ yI Y from hL.obj (j := 5) ho rfl) eq10) me_X4_measureWins lk_X5_231 (show (0, 9, 3) ∈ yI Y from hL.obj (j := 5) ho rfl) rfl rfl rfl (Nat.le_of_ble_eq_true rfl) ⟨by decide, by decide⟩ ⟨by rw [hA.2.2.1]; omega, by rw [hA.2.2.2]; omega⟩ dX5_fewest_31 (fun ad13 => ?_)
    have hkT : (((0 + q2.2.1) + q6.2.1) + q10.2.1) + kc11 = kT := by omega
    have hnT : (((0 + q2.2.2) + q6.2.2) + q10.2.2) + ns12 = nT := by omega
    refine V_aload_n 1 hC dX5_fewest_34 rfl rfl ?_
    refine V_iload_n 0 hC dX5_fewest_35 rfl rfl ?_
    obtain ⟨v14, ev14, hf⟩ := bi_some hf
    refine V_invi (o := 9) (As := [.int q6.1.1]) (rest := []) hC (c_X4_turnsToWinOf hL (show (0, 9, 3) ∈ yI Y from hL.obj (j := 5) ho rfl) ev14) me_X4_turnsToWinOf lk_X5_234 (show (0, 9, 3) ∈ yI Y from hL.obj (j := 5) ho rfl) rfl rfl rfl (Nat.le_of_ble_eq_true rfl) ⟨by decide, by decide⟩ ⟨by rw [hA.2.2.1]; omega, by rw [hA.2.2.2]; omega⟩ dX5_fewest_36 ?_
    obtain ⟨rfl, rfl, rfl, rfl, rfl⟩ := so_injA hf
    exact V_iretA hC hr hA (by omega) (by omega) dX5_fewest_39
  · have hf := if_t hf c1
    refine V_ldc hC ck_X5_144 dX5_fewest_10 ?_
    obtain ⟨rfl, rfl, rfl, rfl, rfl⟩ := so_injA hf
    exact V_iretA hC hr hA (by omega) (by omega) dX5_fewest_12
def t_X5_surely_32  (k32 : Int32 → Int32 → (Nat → Nat) → (Dt) → Option ((Int32 × (Nat → Nat) × Dt) × Nat × Nat)) (x2 : Int32) (x3 : Int32) (L : Nat → Nat) (d : Dt) : Option ((Int32 × (Nat → Nat) × Dt) × Nat × Nat) := if 60 < x3 then some (((-1), L, d), 0, 0) else (t_X4_runTurns L d 9 x3).bind (fun q11 => al q11.2.1 q11.2.2 ((t_X4_oddsOf q11.1.1 q11.1.2 9 x2).bind (fun v15 => if v15 = 1000000 then some ((x3, q11.1.1, q11.1.2), 0, 0) else k32 x2 (x3 + 1) q11.1.1 q11.1.2)))
set_option maxRecDepth 20000 in
theorem b_X5_surely_32 {K : Kx} {Y : Yx} {z0 : Sh} {kT nT : Nat} (hC : CK K Y cX5_surely 4 RX5 7 179) (hr : (kme K).sig.returnType = some .int)  (ho : (0, 0, 4) ∈ yI Y) {r : Int32} {L' : Nat → Nat} {d' : Dt} (hA : CA K Y z0 kT nT (some (.int r)) L' d') {k32 : Int32 → Int32 → (Nat → Nat) → (Dt) → Option ((Int32 × (Nat → Nat) × Dt) × Nat × Nat)} (hk32 : ∀ (x2 : Int32) (x3 : Int32) (L : Nat → Nat) (d : Dt) (ad : Nat → Nat) (k n kc ns : Nat), k32 x2 x3 L d = some ((r, L', d'), kc, ns) → k + kc = kT → n + ns = nT → V K Y 4 k n (L, ad) d 32 [(1, .ref (yo Y 9)), (2, .int x2), (3, .int x3)] []) (x2 : Int32) (x3 : Int32) (L : Nat → Nat) (d : Dt) (ad : Nat → Nat) (k n kc ns : Nat) (hf : t_X5_surely_32  k32 x2 x3 L d = some ((r, L', d'), kc, ns)) (hkT : k + kc = kT) (hnT : n + ns = nT) : V K Y 4 k n (L, ad) d 32 [(1, .ref (yo Y 9)), (2, .int x2), (3, .int x3)] [] := by
  have hL := hC.2.2.2.2.2.2.1
  unfold t_X5_surely_32 at hf
  refine V_iload_n 2 hC dX5_surely_32 rfl rfl ?_
  refine V_bipush (v := 60) hC dX5_surely_33 rfl ?_
  refine V_icmp_gt (tgt := 61) hC dX5_surely_35 (by decide) (fun c10 => ?_) (fun c10 => ?_)
  · have hf := if_t hf c10
    refine V_iconst (v := -1) hC dX5_surely_61 rfl ?_
    obtain ⟨rfl, rfl, rfl, rfl, rfl⟩ := so_injA hf
    exact V_iretA hC hr hA (by omega) (by omega) dX5_surely_62
  · have hf := if_f hf c10
    refine V_aload_n 0 hC dX5_surely_38 rfl rfl ?_
    refine V_iload_n 2 hC dX5_surely_39 rfl rfl ?_
    obtain ⟨q11, eq11, hf⟩ := bi_some hf
    obtain ⟨kc12, ns13, hf, ekc12, ens13⟩ := al_some hf
    refine V_invAv (L1 := q11.1.1) (d1 := q11.1.2) (k1 := q11.2.1) (n1 := q11.2.2) (o := 9) (As := [.int x3]) (rest := []) hC hA.new (c_X4_runTurns hL (show (0, 9, 3) ∈ yI Y from hL.obj (j := 5) ho rfl) eq11) me_X4_runTurns lk_X5_221 (show (0, 9, 3) ∈ yI Y from hL.obj (j := 5) ho rfl) rfl rfl rfl (Nat.le_of_ble_eq_true rfl) ⟨by decide, by decide⟩ ⟨by rw [hA.2.2.1]; omega, by rw [hA.2.2.2]; omega⟩ dX5_surely_40 (fun ad14 => ?_)
    have hkT : (k + q11.2.1) + kc12 = kT := by omega
    have hnT : (n + q11.2.2) + ns13 = nT := by omega
    refine V_aload_n 0 hC dX5_surely_43 rfl rfl ?_
    refine V_iload_n 1 hC dX5_surely_44 rfl rfl ?_
    obtain ⟨v15, ev15, hf⟩ := bi_some hf
    refine V_invi (o := 9) (As := [.int x2]) (rest := []) hC (c_X4_oddsOf hL (show (0, 9, 3) ∈ yI Y from hL.obj (j := 5) ho rfl) ev15) me_X4_oddsOf lk_X5_224 (show (0, 9, 3) ∈ yI Y from hL.obj (j := 5) ho rfl) rfl rfl rfl (Nat.le_of_ble_eq_true rfl) ⟨by decide, by decide⟩ ⟨by rw [hA.2.2.1]; omega, by rw [hA.2.2.2]; omega⟩ dX5_surely_45 ?_
    refine V_ldc hC ck_X5_237 dX5_surely_48 ?_
    refine V_icmp_ne (tgt := 55) hC dX5_surely_50 (by decide) (fun c16 => ?_) (fun c16 => ?_)
    · have hf := if_f hf c16
      refine V_iinc (v := x3 + 1) (lv' := [(3, .int (x3 + 1)), (1, .ref (yo Y 9)), (2, .int x2)]) 2 hC dX5_surely_55 rfl rfl (by decide) rfl ?_
      refine V_goto (tgt := 32) hC dX5_surely_58 (by decide) ?_
      exact V_sub [1, 2, 0] rfl (hk32 x2 (x3 + 1) q11.1.1 q11.1.2 ad14 (k + q11.2.1) (n + q11.2.2) kc12 ns13 hf hkT hnT)
    · have hf := if_t hf c16
      refine V_iload_n 2 hC dX5_surely_53 rfl rfl ?_
      obtain ⟨rfl, rfl, rfl, rfl, rfl⟩ := so_injA hf
      exact V_iretA hC hr hA (by omega) (by omega) dX5_surely_54
def t_X5_surely (L : Nat → Nat) (d : Dt)  : Option ((Int32 × (Nat → Nat) × Dt) × Nat × Nat) := if (gF d 2 3) = 0 then some (((-1000003), L, d), 0, 0) else (t_X5_freshComeTo L d ).bind (fun q2 => al q2.2.1 q2.2.2 ((t_X4_include q2.1.1 q2.1.2 9 (gF q2.1.2 2 4)).bind (fun q6 => al q6.2.1 q6.2.2 (lp (fun k x => t_X5_surely_32   (fun x2 x3 L d => k (x2, x3, L, d)) x.1 x.2.1 x.2.2.1 x.2.2.2) FU (q6.1.1, 0, q6.1.2.1, q6.1.2.2)))))
set_option maxRecDepth 20000 in
theorem c_X5_surely {l : Launch} {Y : Yx} (hL : LAY Y) {L : Nat → Nat} {d : Dt}  (ho : (0, 0, 4) ∈ yI Y) {r : Int32} {L' : Nat → Nat} {d' : Dt} {kT nT : Nat} (hf : t_X5_surely L d  = some ((r, L', d'), kT, nT)) : MA l yX5_surely cX5_surely 4 (some .int) 7 179 Y L [.ref (yo Y 0)] d (some (.int r)) L' d' kT nT := by
  refine MA.ofV ho (by decide +kernel) hL (Nat.le_of_ble_eq_true rfl) (fun K ad hl hC hr hA => ?_)
  have hC : CK K Y cX5_surely 4 RX5 7 179 := hC
  have hkT : 0 + kT = kT := Nat.zero_add _
  have hnT : 0 + nT = nT := Nat.zero_add _
  unfold t_X5_surely at hf
  show V K Y 4 0 0 (L, ad) d 0 [(0, .ref (yo Y 0))] []
  refine V_aload_n 0 hC dX5_surely_0 rfl rfl ?_
  refine V_geto (o := 0) (o2 := 2) hC ho rfl fk_X5_45 rfl dX5_surely_1 ?_
  refine V_geti (o := 2) hC (show (0, 2, 2) ∈ yI Y from hL.obj (j := 1) ho rfl) rfl fk_X5_172 dX5_surely_4 ?_
  refine V_if_ne (tgt := 13) hC dX5_surely_7 (by decide) (fun c1 => ?_) (fun c1 => ?_)
  · have hf := if_f hf c1
    refine V_aload_n 0 hC dX5_surely_13 rfl rfl ?_
    obtain ⟨q2, eq2, hf⟩ := bi_some hf
    obtain ⟨kc3, ns4, hf, ekc3, ens4⟩ := al_some hf
    refine V_invAo (L1 := q2.1.1) (d1 := q2.1.2) (k1 := q2.2.1) (n1 := q2.2.2) (o := 0) (As := []) (rest := []) hC hA.new (c_X5_freshComeTo hL ho eq2) me_X5_freshComeTo lk_X5_159 ho rfl rfl rfl (Nat.le_of_ble_eq_true rfl) ⟨by decide, by decide⟩ ⟨by rw [hA.2.2.1]; omega, by rw [hA.2.2.2]; omega⟩ dX5_surely_14 (fun ad5 => ?_)
    have hkT : (0 + q2.2.1) + kc3 = kT := by omega
    have hnT : (0 + q2.2.2) + ns4 = nT := by omega
    refine V_astore_n (lv' := [(1, .ref (yo Y 9)), (0, .ref (yo Y 0))]) hC dX5_surely_17 rfl (by decide) rfl ?_
    refine V_aload_n 0 hC dX5_surely_18 rfl rfl ?_
    refine V_aload_n 1 hC dX5_surely_19 rfl rfl ?_
    refine V_geto (o := 0) (o2 := 2) hC ho rfl fk_X5_45 rfl dX5_surely_20 ?_
    refine V_geti (o := 2) hC (show (0, 2, 2) ∈ yI Y from hL.obj (j := 1) ho rfl) rfl fk_X5_175 dX5_surely_23 ?_
    obtain ⟨q6, eq6, hf⟩ := bi_some hf
    obtain ⟨kc7, ns8, hf, ekc7, ens8⟩ := al_some hf
    refine V_invAi (r1 := q6.1.1) (L1 := q6.1.2.1) (d1 := q6.1.2.2) (k1 := q6.2.1) (n1 := q6.2.2) (o := 9) (As := [.int (gF q2.1.2 2 4)]) (rest := []) hC hA.new (c_X4_include hL (show (0, 9, 3) ∈ yI Y from hL.obj (j := 5) ho rfl) eq6) me_X4_include lk_X5_218 (show (0, 9, 3) ∈ yI Y from hL.obj (j := 5) ho rfl) rfl rfl rfl (Nat.le_of_ble_eq_true rfl) ⟨by decide, by decide⟩ ⟨by rw [hA.2.2.1]; omega, by rw [hA.2.2.2]; omega⟩ dX5_surely_26 (fun ad9 => ?_)
    have hkT : ((0 + q2.2.1) + q6.2.1) + kc7 = kT := by omega
    have hnT : ((0 + q2.2.2) + q6.2.2) + ns8 = nT := by omega
    refine V_istore_n (lv' := [(2, .int q6.1.1), (1, .ref (yo Y 9)), (0, .ref (yo Y 0))]) hC dX5_surely_29 rfl (by decide) rfl ?_
    refine V_iconst (v := 0) hC dX5_surely_30 rfl ?_
    refine V_istore_n (lv' := [(3, .int 0), (2, .int q6.1.1), (1, .ref (yo Y 9)), (0, .ref (yo Y 0))]) hC dX5_surely_31 rfl (by decide) rfl ?_
    exact V_sub [2, 1, 0] rfl (lp_indA (X := Int32 × Int32 × (Nat → Nat) × Dt) (P := fun x kc ns => ∀ (ad : Nat → Nat) (k n : Nat), k + kc = kT → n + ns = nT → V K Y 4 k n (x.2.2.1, ad) x.2.2.2 32 [(1, .ref (yo Y 9)), (2, .int x.1), (3, .int x.2.1)] []) (fun kf x hk kc ns hx ad k n h1 h2 => b_X5_surely_32 hC hr ho hA  (k32 := fun x2 x3 L d => kf (x2, x3, L, d)) (fun x2 x3 L d ad k n kc ns hx h1 h2 => hk (x2, x3, L, d) kc ns hx ad k n h1 h2) x.1 x.2.1 x.2.2.1 x.2.2.2 ad k n kc ns hx h1 h2) FU (q6.1.1, 0, q6.1.2.1, q6.1.2.2) kc7 ns8 hf ad9 ((0 + q2.2.1) + q6.2.1) ((0 + q2.2.2) + q6.2.2) hkT hnT)
  · have hf := if_t hf c1
    refine V_ldc hC ck_X5_144 dX5_surely_10 ?_
    obtain ⟨rfl, rfl, rfl, rfl, rfl⟩ := so_injA hf
    exact V_iretA hC hr hA (by omega) (by omega) dX5_surely_12
def t_X5_parts (L : Nat → Nat) (d : Dt) (p1 : Int32) : Option ((Int32 × (Nat → Nat) × Dt) × Nat × Nat) := if p1 = 0 then (t_X5_freshComeTo L d ).bind (fun q2 => al q2.2.1 q2.2.2 (some ((gF q2.1.2 9 1, q2.1.1, q2.1.2), 0, 0))) else if p1 = 1 then (t_X5_freshComeTo L d ).bind (fun q7 => al q7.2.1 q7.2.2 ((t_X5_mustParts q7.1.1 q7.1.2 9).bind (fun q11 => al q11.2.1 q11.2.2 (some ((q11.1.1, q11.1.2.1, q11.1.2.2), 0, 0))))) else if p1 = 2 then (t_X5_freshComeTo L d ).bind (fun q16 => al q16.2.1 q16.2.2 ((t_X4_trapParts q16.1.1 q16.1.2 9).bind (fun q20 => al q20.2.1 q20.2.2 (some ((q20.1.1, q20.1.2.1, q20.1.2.2), 0, 0))))) else if p1 = 3 then (t_X5_freshComeTo L d ).bind (fun q25 => al q25.2.1 q25.2.2 ((t_X4_holeParts q25.1.1 q25.1.2 9).bind (fun v29 => some ((v29, q25.1.1, q25.1.2), 0, 0)))) else some (((-1000002), L, d), 0, 0)
set_option maxRecDepth 20000 in
theorem c_X5_parts {l : Launch} {Y : Yx} (hL : LAY Y) {L : Nat → Nat} {d : Dt} {p1 : Int32} (ho : (0, 0, 4) ∈ yI Y) {r : Int32} {L' : Nat → Nat} {d' : Dt} {kT nT : Nat} (hf : t_X5_parts L d p1 = some ((r, L', d'), kT, nT)) : MA l yX5_parts cX5_parts 2 (some .int) 7 182 Y L [.ref (yo Y 0), .int p1] d (some (.int r)) L' d' kT nT := by
  refine MA.ofV ho (by decide +kernel) hL (Nat.le_of_ble_eq_true rfl) (fun K ad hl hC hr hA => ?_)
  have hC : CK K Y cX5_parts 2 RX5 7 182 := hC
  have hkT : 0 + kT = kT := Nat.zero_add _
  have hnT : 0 + nT = nT := Nat.zero_add _
  unfold t_X5_parts at hf
  show V K Y 2 0 0 (L, ad) d 0 [(0, .ref (yo Y 0)), (1, .int p1)] []
  refine V_iload_n 1 hC dX5_parts_0 rfl rfl ?_
  by_cases c1 : p1 = 0
  · have hf := if_t hf c1
    refine V_tswIn (tgt := 32) hC dX5_parts_1 0 c1 (by decide) (by decide) rfl (by decide) ?_
    refine V_aload_n 0 hC dX5_parts_32 rfl rfl ?_
    obtain ⟨q2, eq2, hf⟩ := bi_some hf
    obtain ⟨kc3, ns4, hf, ekc3, ens4⟩ := al_some hf
    refine V_invAo (L1 := q2.1.1) (d1 := q2.1.2) (k1 := q2.2.1) (n1 := q2.2.2) (o := 0) (As := []) (rest := []) hC hA.new (c_X5_freshComeTo hL ho eq2) me_X5_freshComeTo lk_X5_159 ho rfl rfl rfl (Nat.le_of_ble_eq_true rfl) ⟨by decide, by decide⟩ ⟨by rw [hA.2.2.1]; omega, by rw [hA.2.2.2]; omega⟩ dX5_parts_33 (fun ad5 => ?_)
    have hkT : (0 + q2.2.1) + kc3 = kT := by omega
    have hnT : (0 + q2.2.2) + ns4 = nT := by omega
    refine V_geti (o := 9) hC (show (0, 9, 3) ∈ yI Y from hL.obj (j := 5) ho rfl) rfl fk_X5_238 dX5_parts_36 ?_
    obtain ⟨rfl, rfl, rfl, rfl, rfl⟩ := so_injA hf
    exact V_iretA hC hr hA (by omega) (by omega) dX5_parts_39
  · have hf := if_f hf c1
    by_cases c6 : p1 = 1
    · have hf := if_t hf c6
      refine V_tswIn (tgt := 40) hC dX5_parts_1 1 c6 (by decide) (by decide) rfl (by decide) ?_
      refine V_aload_n 0 hC dX5_parts_40 rfl rfl ?_
      refine V_aload_n 0 hC dX5_parts_41 rfl rfl ?_
      obtain ⟨q7, eq7, hf⟩ := bi_some hf
      obtain ⟨kc8, ns9, hf, ekc8, ens9⟩ := al_some hf
      refine V_invAo (L1 := q7.1.1) (d1 := q7.1.2) (k1 := q7.2.1) (n1 := q7.2.2) (o := 0) (As := []) (rest := [.ref (yo Y 0)]) hC hA.new (c_X5_freshComeTo hL ho eq7) me_X5_freshComeTo lk_X5_159 ho rfl rfl rfl (Nat.le_of_ble_eq_true rfl) ⟨by decide, by decide⟩ ⟨by rw [hA.2.2.1]; omega, by rw [hA.2.2.2]; omega⟩ dX5_parts_42 (fun ad10 => ?_)
      have hkT : (0 + q7.2.1) + kc8 = kT := by omega
      have hnT : (0 + q7.2.2) + ns9 = nT := by omega
      obtain ⟨q11, eq11, hf⟩ := bi_some hf
      obtain ⟨kc12, ns13, hf, ekc12, ens13⟩ := al_some hf
      refine V_invAi (r1 := q11.1.1) (L1 := q11.1.2.1) (d1 := q11.1.2.2) (k1 := q11.2.1) (n1 := q11.2.2) (o := 0) (As := [.ref (yo Y 9)]) (rest := []) hC hA.new (c_X5_mustParts hL ho (show (0, 9, 3) ∈ yI Y from hL.obj (j := 5) ho rfl) eq11) me_X5_mustParts lk_X5_241 ho rfl rfl rfl (Nat.le_of_ble_eq_true rfl) ⟨by decide, by decide⟩ ⟨by rw [hA.2.2.1]; omega, by rw [hA.2.2.2]; omega⟩ dX5_parts_45 (fun ad14 => ?_)
      have hkT : ((0 + q7.2.1) + q11.2.1) + kc12 = kT := by omega
      have hnT : ((0 + q7.2.2) + q11.2.2) + ns13 = nT := by omega
      obtain ⟨rfl, rfl, rfl, rfl, rfl⟩ := so_injA hf
      exact V_iretA hC hr hA (by omega) (by omega) dX5_parts_48
    · have hf := if_f hf c6
      by_cases c15 : p1 = 2
      · have hf := if_t hf c15
        refine V_tswIn (tgt := 49) hC dX5_parts_1 2 c15 (by decide) (by decide) rfl (by decide) ?_
        refine V_aload_n 0 hC dX5_parts_49 rfl rfl ?_
        obtain ⟨q16, eq16, hf⟩ := bi_some hf
        obtain ⟨kc17, ns18, hf, ekc17, ens18⟩ := al_some hf
        refine V_invAo (L1 := q16.1.1) (d1 := q16.1.2) (k1 := q16.2.1) (n1 := q16.2.2) (o := 0) (As := []) (rest := []) hC hA.new (c_X5_freshComeTo hL ho eq16) me_X5_freshComeTo lk_X5_159 ho rfl rfl rfl (Nat.le_of_ble_eq_true rfl) ⟨by decide, by decide⟩ ⟨by rw [hA.2.2.1]; omega, by rw [hA.2.2.2]; omega⟩ dX5_parts_50 (fun ad19 => ?_)
        have hkT : (0 + q16.2.1) + kc17 = kT := by omega
        have hnT : (0 + q16.2.2) + ns18 = nT := by omega
        obtain ⟨q20, eq20, hf⟩ := bi_some hf
        obtain ⟨kc21, ns22, hf, ekc21, ens22⟩ := al_some hf
        refine V_invAi (r1 := q20.1.1) (L1 := q20.1.2.1) (d1 := q20.1.2.2) (k1 := q20.2.1) (n1 := q20.2.2) (o := 9) (As := []) (rest := []) hC hA.new (c_X4_trapParts hL (show (0, 9, 3) ∈ yI Y from hL.obj (j := 5) ho rfl) eq20) me_X4_trapParts lk_X5_244 (show (0, 9, 3) ∈ yI Y from hL.obj (j := 5) ho rfl) rfl rfl rfl (Nat.le_of_ble_eq_true rfl) ⟨by decide, by decide⟩ ⟨by rw [hA.2.2.1]; omega, by rw [hA.2.2.2]; omega⟩ dX5_parts_53 (fun ad23 => ?_)
        have hkT : ((0 + q16.2.1) + q20.2.1) + kc21 = kT := by omega
        have hnT : ((0 + q16.2.2) + q20.2.2) + ns22 = nT := by omega
        obtain ⟨rfl, rfl, rfl, rfl, rfl⟩ := so_injA hf
        exact V_iretA hC hr hA (by omega) (by omega) dX5_parts_56
      · have hf := if_f hf c15
        by_cases c24 : p1 = 3
        · have hf := if_t hf c24
          refine V_tswIn (tgt := 57) hC dX5_parts_1 3 c24 (by decide) (by decide) rfl (by decide) ?_
          refine V_aload_n 0 hC dX5_parts_57 rfl rfl ?_
          obtain ⟨q25, eq25, hf⟩ := bi_some hf
          obtain ⟨kc26, ns27, hf, ekc26, ens27⟩ := al_some hf
          refine V_invAo (L1 := q25.1.1) (d1 := q25.1.2) (k1 := q25.2.1) (n1 := q25.2.2) (o := 0) (As := []) (rest := []) hC hA.new (c_X5_freshComeTo hL ho eq25) me_X5_freshComeTo lk_X5_159 ho rfl rfl rfl (Nat.le_of_ble_eq_true rfl) ⟨by decide, by decide⟩ ⟨by rw [hA.2.2.1]; omega, by rw [hA.2.2.2]; omega⟩ dX5_parts_58 (fun ad28 => ?_)
          have hkT : (0 + q25.2.1) + kc26 = kT := by omega
          have hnT : (0 + q25.2.2) + ns27 = nT := by omega
          obtain ⟨v29, ev29, hf⟩ := bi_some hf
          refine V_invi (o := 9) (As := []) (rest := []) hC (c_X4_holeParts hL (show (0, 9, 3) ∈ yI Y from hL.obj (j := 5) ho rfl) ev29) me_X4_holeParts lk_X5_247 (show (0, 9, 3) ∈ yI Y from hL.obj (j := 5) ho rfl) rfl rfl rfl (Nat.le_of_ble_eq_true rfl) ⟨by decide, by decide⟩ ⟨by rw [hA.2.2.1]; omega, by rw [hA.2.2.2]; omega⟩ dX5_parts_61 ?_
          obtain ⟨rfl, rfl, rfl, rfl, rfl⟩ := so_injA hf
          exact V_iretA hC hr hA (by omega) (by omega) dX5_parts_64
        · have hf := if_f hf c24
          refine V_tswOut (tgt := 65) hC dX5_parts_1 (by have hc1 := lv_neT c1 (show (0 : Int32).toInt = 0 from rfl); have hc6 := lv_neT c6 (show (1 : Int32).toInt = 1 from rfl); have hc15 := lv_neT c15 (show (2 : Int32).toInt = 2 from rfl); have hc24 := lv_neT c24 (show (3 : Int32).toInt = 3 from rfl); omega) (by decide) ?_
          refine V_ldc hC ck_X5_63 dX5_parts_65 ?_
          obtain ⟨rfl, rfl, rfl, rfl, rfl⟩ := so_injA hf
          exact V_iretA hC hr hA (by omega) (by omega) dX5_parts_67
def t_X5_things (L : Nat → Nat) (d : Dt) (p1 : Int32) : Option ((Int32 × (Nat → Nat) × Dt) × Nat × Nat) := if p1 = 0 then (t_X5_freshComeTo L d ).bind (fun q2 => al q2.2.1 q2.2.2 ((t_X4_hadThings q2.1.1 q2.1.2 9).bind (fun v6 => some ((v6, q2.1.1, q2.1.2), 0, 0)))) else if p1 = 1 then (t_X5_freshComeTo L d ).bind (fun q8 => al q8.2.1 q8.2.2 ((t_X5_neededThings q8.1.1 q8.1.2 9).bind (fun q12 => al q12.2.1 q12.2.2 (some ((q12.1.1, q12.1.2.1, q12.1.2.2), 0, 0))))) else some (((-1000002), L, d), 0, 0)
set_option maxRecDepth 20000 in
theorem c_X5_things {l : Launch} {Y : Yx} (hL : LAY Y) {L : Nat → Nat} {d : Dt} {p1 : Int32} (ho : (0, 0, 4) ∈ yI Y) {r : Int32} {L' : Nat → Nat} {d' : Dt} {kT nT : Nat} (hf : t_X5_things L d p1 = some ((r, L', d'), kT, nT)) : MA l yX5_things cX5_things 2 (some .int) 7 183 Y L [.ref (yo Y 0), .int p1] d (some (.int r)) L' d' kT nT := by
  refine MA.ofV ho (by decide +kernel) hL (Nat.le_of_ble_eq_true rfl) (fun K ad hl hC hr hA => ?_)
  have hC : CK K Y cX5_things 2 RX5 7 183 := hC
  have hkT : 0 + kT = kT := Nat.zero_add _
  have hnT : 0 + nT = nT := Nat.zero_add _
  unfold t_X5_things at hf
  show V K Y 2 0 0 (L, ad) d 0 [(0, .ref (yo Y 0)), (1, .int p1)] []
  refine V_iload_n 1 hC dX5_things_0 rfl rfl ?_
  by_cases c1 : p1 = 0
  · have hf := if_t hf c1
    refine V_lsw (tgt := 28) (off := 27) hC dX5_things_1 (by decide) (by rw [c1] <;> rfl) (by decide) ?_
    refine V_aload_n 0 hC dX5_things_28 rfl rfl ?_
    obtain ⟨q2, eq2, hf⟩ := bi_some hf
    obtain ⟨kc3, ns4, hf, ekc3, ens4⟩ := al_some hf
    refine V_invAo (L1 := q2.1.1) (d1 := q2.1.2) (k1 := q2.2.1) (n1 := q2.2.2) (o := 0) (As := []) (rest := []) hC hA.new (c_X5_freshComeTo hL ho eq2) me_X5_freshComeTo lk_X5_159 ho rfl rfl rfl (Nat.le_of_ble_eq_true rfl) ⟨by decide, by decide⟩ ⟨by rw [hA.2.2.1]; omega, by rw [hA.2.2.2]; omega⟩ dX5_things_29 (fun ad5 => ?_)
    have hkT : (0 + q2.2.1) + kc3 = kT := by omega
    have hnT : (0 + q2.2.2) + ns4 = nT := by omega
    obtain ⟨v6, ev6, hf⟩ := bi_some hf
    refine V_invi (o := 9) (As := []) (rest := []) hC (c_X4_hadThings hL (show (0, 9, 3) ∈ yI Y from hL.obj (j := 5) ho rfl) ev6) me_X4_hadThings lk_X5_250 (show (0, 9, 3) ∈ yI Y from hL.obj (j := 5) ho rfl) rfl rfl rfl (Nat.le_of_ble_eq_true rfl) ⟨by decide, by decide⟩ ⟨by rw [hA.2.2.1]; omega, by rw [hA.2.2.2]; omega⟩ dX5_things_32 ?_
    obtain ⟨rfl, rfl, rfl, rfl, rfl⟩ := so_injA hf
    exact V_iretA hC hr hA (by omega) (by omega) dX5_things_35
  · have hf := if_f hf c1
    by_cases c7 : p1 = 1
    · have hf := if_t hf c7
      refine V_lsw (tgt := 36) (off := 35) hC dX5_things_1 (by decide) (by rw [c7] <;> rfl) (by decide) ?_
      refine V_aload_n 0 hC dX5_things_36 rfl rfl ?_
      refine V_aload_n 0 hC dX5_things_37 rfl rfl ?_
      obtain ⟨q8, eq8, hf⟩ := bi_some hf
      obtain ⟨kc9, ns10, hf, ekc9, ens10⟩ := al_some hf
      refine V_invAo (L1 := q8.1.1) (d1 := q8.1.2) (k1 := q8.2.1) (n1 := q8.2.2) (o := 0) (As := []) (rest := [.ref (yo Y 0)]) hC hA.new (c_X5_freshComeTo hL ho eq8) me_X5_freshComeTo lk_X5_159 ho rfl rfl rfl (Nat.le_of_ble_eq_true rfl) ⟨by decide, by decide⟩ ⟨by rw [hA.2.2.1]; omega, by rw [hA.2.2.2]; omega⟩ dX5_things_38 (fun ad11 => ?_)
      have hkT : (0 + q8.2.1) + kc9 = kT := by omega
      have hnT : (0 + q8.2.2) + ns10 = nT := by omega
      obtain ⟨q12, eq12, hf⟩ := bi_some hf
      obtain ⟨kc13, ns14, hf, ekc13, ens14⟩ := al_some hf
      refine V_invAi (r1 := q12.1.1) (L1 := q12.1.2.1) (d1 := q12.1.2.2) (k1 := q12.2.1) (n1 := q12.2.2) (o := 0) (As := [.ref (yo Y 9)]) (rest := []) hC hA.new (c_X5_neededThings hL ho (show (0, 9, 3) ∈ yI Y from hL.obj (j := 5) ho rfl) eq12) me_X5_neededThings lk_X5_253 ho rfl rfl rfl (Nat.le_of_ble_eq_true rfl) ⟨by decide, by decide⟩ ⟨by rw [hA.2.2.1]; omega, by rw [hA.2.2.2]; omega⟩ dX5_things_41 (fun ad15 => ?_)
      have hkT : ((0 + q8.2.1) + q12.2.1) + kc13 = kT := by omega
      have hnT : ((0 + q8.2.2) + q12.2.2) + ns14 = nT := by omega
      obtain ⟨rfl, rfl, rfl, rfl, rfl⟩ := so_injA hf
      exact V_iretA hC hr hA (by omega) (by omega) dX5_things_44
    · have hf := if_f hf c7
      refine V_lsw (tgt := 45) (off := 44) hC dX5_things_1 (by decide) (by rw [lv_osw c1 (show (0 : Int32).toInt = 0 from rfl), lv_osw c7 (show (1 : Int32).toInt = 1 from rfl)] <;> rfl) (by decide) ?_
      refine V_ldc hC ck_X5_63 dX5_things_45 ?_
      obtain ⟨rfl, rfl, rfl, rfl, rfl⟩ := so_injA hf
      exact V_iretA hC hr hA (by omega) (by omega) dX5_things_47
def t_X5_without (L : Nat → Nat) (d : Dt) (p1 : Int32) (p2 : Int32) : Option ((Int32 × (Nat → Nat) × Dt) × Nat × Nat) := (t_X5_isThing L d p1).bind (fun v1 => if v1 = 0 then some (((-1000001), L, d), 0, 0) else if p2 < 0 then some (((-1000002), L, d), 0, 0) else if p2 ≤ 60 then if (gF d 6 0) = 0 then some (((-1000003), L, d), 0, 0) else (t_X4_build L d 10 p1 (-1) 0).bind (fun q6 => al q6.2.1 q6.2.2 ((t_X0_beginning q6.1.1 q6.1.2 6 p1).bind (fun v10 => (t_X4_find q6.1.1 q6.1.2 10 v10).bind (fun v11 => (t_X4_runTurns q6.1.1 q6.1.2 10 p2).bind (fun q12 => al q12.2.1 q12.2.2 ((t_X4_oddsOf q12.1.1 q12.1.2 10 v11).bind (fun v16 => some ((v16, q12.1.1, q12.1.2), 0, 0)))))))) else some (((-1000002), L, d), 0, 0))
set_option maxRecDepth 20000 in
theorem c_X5_without {l : Launch} {Y : Yx} (hL : LAY Y) {L : Nat → Nat} {d : Dt} {p1 : Int32} {p2 : Int32} (ho : (0, 0, 4) ∈ yI Y) {r : Int32} {L' : Nat → Nat} {d' : Dt} {kT nT : Nat} (hf : t_X5_without L d p1 p2 = some ((r, L', d'), kT, nT)) : MA l yX5_without cX5_without 4 (some .int) 6 159 Y L [.ref (yo Y 0), .int p1, .int p2] d (some (.int r)) L' d' kT nT := by
  refine MA.ofV ho (by decide +kernel) hL (Nat.le_of_ble_eq_true rfl) (fun K ad hl hC hr hA => ?_)
  have hC : CK K Y cX5_without 4 RX5 6 159 := hC
  have hkT : 0 + kT = kT := Nat.zero_add _
  have hnT : 0 + nT = nT := Nat.zero_add _
  unfold t_X5_without at hf
  show V K Y 4 0 0 (L, ad) d 0 [(0, .ref (yo Y 0)), (1, .int p1), (2, .int p2)] []
  refine V_iload_n 1 hC dX5_without_0 rfl rfl ?_
  obtain ⟨v1, ev1, hf⟩ := bi_some hf
  refine V_insi (As := [.int p1]) (rest := []) hC (c_X5_isThing hL  ev1) me_X5_isThing lk_X5_256 rfl rfl (Nat.le_of_ble_eq_true rfl) ⟨by decide, by decide⟩ ⟨by rw [hA.2.2.1]; omega, by rw [hA.2.2.2]; omega⟩ dX5_without_1 ?_
  refine V_if_ne (tgt := 10) hC dX5_without_4 (by decide) (fun c2 => ?_) (fun c2 => ?_)
  · have hf := if_f hf c2
    refine V_iload_n 2 hC dX5_without_10 rfl rfl ?_
    refine V_if_lt (tgt := 20) hC dX5_without_11 (by decide) (fun c3 => ?_) (fun c3 => ?_)
    · have hf := if_t hf c3
      refine V_ldc hC ck_X5_63 dX5_without_20 ?_
      obtain ⟨rfl, rfl, rfl, rfl, rfl⟩ := so_injA hf
      exact V_iretA hC hr hA (by omega) (by omega) dX5_without_22
    · have hf := if_f hf c3
      refine V_iload_n 2 hC dX5_without_14 rfl rfl ?_
      refine V_bipush (v := 60) hC dX5_without_15 rfl ?_
      refine V_icmp_le (tgt := 23) hC dX5_without_17 (by decide) (fun c4 => ?_) (fun c4 => ?_)
      · have hf := if_t hf c4
        refine V_aload_n 0 hC dX5_without_23 rfl rfl ?_
        refine V_geto (o := 0) (o2 := 2) hC ho rfl fk_X5_45 rfl dX5_without_24 ?_
        refine V_geto (o := 2) (o2 := 6) hC (show (0, 2, 2) ∈ yI Y from hL.obj (j := 1) ho rfl) rfl fk_X5_83 rfl dX5_without_27 ?_
        refine V_geti (o := 6) hC (show (0, 6, 0) ∈ yI Y from hL.obj (j := 0) (show (0, 2, 2) ∈ yI Y from hL.obj (j := 1) ho rfl) rfl) rfl fk_X5_86 dX5_without_30 ?_
        refine V_if_ne (tgt := 39) hC dX5_without_33 (by decide) (fun c5 => ?_) (fun c5 => ?_)
        · have hf := if_f hf c5
          refine V_aload_n 0 hC dX5_without_39 rfl rfl ?_
          refine V_geto (o := 0) (o2 := 10) hC ho rfl fk_X5_56 rfl dX5_without_40 ?_
          refine V_iload_n 1 hC dX5_without_43 rfl rfl ?_
          refine V_iconst (v := -1) hC dX5_without_44 rfl ?_
          refine V_iconst (v := 0) hC dX5_without_45 rfl ?_
          obtain ⟨q6, eq6, hf⟩ := bi_some hf
          obtain ⟨kc7, ns8, hf, ekc7, ens8⟩ := al_some hf
          refine V_invAv (L1 := q6.1.1) (d1 := q6.1.2) (k1 := q6.2.1) (n1 := q6.2.2) (o := 10) (As := [.int p1, .int (-1), .int 0]) (rest := []) hC hA.new (c_X4_build hL (show (0, 10, 3) ∈ yI Y from hL.obj (j := 6) ho rfl) eq6) me_X4_build lk_X5_259 (show (0, 10, 3) ∈ yI Y from hL.obj (j := 6) ho rfl) rfl rfl rfl (Nat.le_of_ble_eq_true rfl) ⟨by decide, by decide⟩ ⟨by rw [hA.2.2.1]; omega, by rw [hA.2.2.2]; omega⟩ dX5_without_46 (fun ad9 => ?_)
          have hkT : (0 + q6.2.1) + kc7 = kT := by omega
          have hnT : (0 + q6.2.2) + ns8 = nT := by omega
          refine V_aload_n 0 hC dX5_without_49 rfl rfl ?_
          refine V_geto (o := 0) (o2 := 10) hC ho rfl fk_X5_56 rfl dX5_without_50 ?_
          refine V_aload_n 0 hC dX5_without_53 rfl rfl ?_
          refine V_geto (o := 0) (o2 := 2) hC ho rfl fk_X5_45 rfl dX5_without_54 ?_
          refine V_geto (o := 2) (o2 := 6) hC (show (0, 2, 2) ∈ yI Y from hL.obj (j := 1) ho rfl) rfl fk_X5_83 rfl dX5_without_57 ?_
          refine V_iload_n 1 hC dX5_without_60 rfl rfl ?_
          obtain ⟨v10, ev10, hf⟩ := bi_some hf
          refine V_invi (o := 6) (As := [.int p1]) (rest := [.ref (yo Y 10)]) hC (c_X0_beginning hL (show (0, 6, 0) ∈ yI Y from hL.obj (j := 0) (show (0, 2, 2) ∈ yI Y from hL.obj (j := 1) ho rfl) rfl) ev10) me_X0_beginning lk_X5_263 (show (0, 6, 0) ∈ yI Y from hL.obj (j := 0) (show (0, 2, 2) ∈ yI Y from hL.obj (j := 1) ho rfl) rfl) rfl rfl rfl (Nat.le_of_ble_eq_true rfl) ⟨by decide, by decide⟩ ⟨by rw [hA.2.2.1]; omega, by rw [hA.2.2.2]; omega⟩ dX5_without_61 ?_
          obtain ⟨v11, ev11, hf⟩ := bi_some hf
          refine V_invi (o := 10) (As := [.int v10]) (rest := []) hC (c_X4_find hL (show (0, 10, 3) ∈ yI Y from hL.obj (j := 6) ho rfl) ev11) me_X4_find lk_X5_266 (show (0, 10, 3) ∈ yI Y from hL.obj (j := 6) ho rfl) rfl rfl rfl (Nat.le_of_ble_eq_true rfl) ⟨by decide, by decide⟩ ⟨by rw [hA.2.2.1]; omega, by rw [hA.2.2.2]; omega⟩ dX5_without_64 ?_
          refine V_istore_n (lv' := [(3, .int v11), (0, .ref (yo Y 0)), (1, .int p1), (2, .int p2)]) hC dX5_without_67 rfl (by decide) rfl ?_
          refine V_aload_n 1 hC dX5_without_68 rfl rfl ?_
          refine V_geto (o := 0) (o2 := 10) hC ho rfl fk_X5_56 rfl dX5_without_69 ?_
          refine V_iload_n 3 hC dX5_without_72 rfl rfl ?_
          obtain ⟨q12, eq12, hf⟩ := bi_some hf
          obtain ⟨kc13, ns14, hf, ekc13, ens14⟩ := al_some hf
          refine V_invAv (L1 := q12.1.1) (d1 := q12.1.2) (k1 := q12.2.1) (n1 := q12.2.2) (o := 10) (As := [.int p2]) (rest := []) hC hA.new (c_X4_runTurns hL (show (0, 10, 3) ∈ yI Y from hL.obj (j := 6) ho rfl) eq12) me_X4_runTurns lk_X5_221 (show (0, 10, 3) ∈ yI Y from hL.obj (j := 6) ho rfl) rfl rfl rfl (Nat.le_of_ble_eq_true rfl) ⟨by decide, by decide⟩ ⟨by rw [hA.2.2.1]; omega, by rw [hA.2.2.2]; omega⟩ dX5_without_73 (fun ad15 => ?_)
          have hkT : ((0 + q6.2.1) + q12.2.1) + kc13 = kT := by omega
          have hnT : ((0 + q6.2.2) + q12.2.2) + ns14 = nT := by omega
          refine V_aload_n 1 hC dX5_without_76 rfl rfl ?_
          refine V_geto (o := 0) (o2 := 10) hC ho rfl fk_X5_56 rfl dX5_without_77 ?_
          refine V_iload_n 0 hC dX5_without_80 rfl rfl ?_
          obtain ⟨v16, ev16, hf⟩ := bi_some hf
          refine V_invi (o := 10) (As := [.int v11]) (rest := []) hC (c_X4_oddsOf hL (show (0, 10, 3) ∈ yI Y from hL.obj (j := 6) ho rfl) ev16) me_X4_oddsOf lk_X5_224 (show (0, 10, 3) ∈ yI Y from hL.obj (j := 6) ho rfl) rfl rfl rfl (Nat.le_of_ble_eq_true rfl) ⟨by decide, by decide⟩ ⟨by rw [hA.2.2.1]; omega, by rw [hA.2.2.2]; omega⟩ dX5_without_81 ?_
          obtain ⟨rfl, rfl, rfl, rfl, rfl⟩ := so_injA hf
          exact V_iretA hC hr hA (by omega) (by omega) dX5_without_84
        · have hf := if_t hf c5
          refine V_ldc hC ck_X5_144 dX5_without_36 ?_
          obtain ⟨rfl, rfl, rfl, rfl, rfl⟩ := so_injA hf
          exact V_iretA hC hr hA (by omega) (by omega) dX5_without_38
      · have hf := if_f hf c4
        refine V_ldc hC ck_X5_63 dX5_without_20 ?_
        obtain ⟨rfl, rfl, rfl, rfl, rfl⟩ := so_injA hf
        exact V_iretA hC hr hA (by omega) (by omega) dX5_without_22
  · have hf := if_t hf c2
    refine V_ldc hC ck_X5_96 dX5_without_7 ?_
    obtain ⟨rfl, rfl, rfl, rfl, rfl⟩ := so_injA hf
    exact V_iretA hC hr hA (by omega) (by omega) dX5_without_9
