/-! ===== ChoiceBook$Parser: lifted and met ===== -/
theorem fk_X1_18 : FLK RX1 18 1 1 RX1 TX1 10 := ⟨rfl, uw_X1, by decide, rfl, gt_t 97 (by decide +kernel) rfl⟩
theorem fk_X1_25 : FLK RX1 25 1 3 RX1 TX1 10 := ⟨rfl, uw_X1, by decide, rfl, gt_t 101 (by decide +kernel) rfl⟩
theorem fk_X1_29 : FLK RX1 29 1 4 RX1 TX1 10 := ⟨rfl, uw_X1, by decide, rfl, gt_t 102 (by decide +kernel) rfl⟩
theorem lk_X1_77 : Cond.methodLink RX1 77 yJ0_length_8abf5 ∈ gt := gt_t 300 (by decide +kernel) rfl
theorem lk_X1_152 : Cond.methodLink RX1 152 yJ0_charAt_5068e ∈ gt := gt_t 310 (by decide +kernel) rfl
theorem fk_X1_32 : FLK RX1 32 1 5 RX1 TX1 10 := ⟨rfl, uw_X1, by decide, rfl, gt_t 103 (by decide +kernel) rfl⟩
theorem fk_X1_22 : FLK RX1 22 1 2 RX1 TX1 10 := ⟨rfl, uw_X1, by decide, rfl, gt_t 99 (by decide +kernel) rfl⟩
theorem lk_X1_52 : Cond.methodLink RX1 52 yX1_pass ∈ gt := gt_t 291 (by decide +kernel) rfl
theorem me_X1_pass : MEV RX1 yX1_pass cX1_pass 3 none 1 := ⟨⟨gt_t 294 (by decide +kernel) rfl, gt_t 2 (by decide +kernel) rfl, by decide +kernel⟩, gt_t 293 (by decide +kernel) rfl, gt_s (q := (yX1_pass, 10)) 0 (by decide +kernel)⟩
theorem lk_X1_70 : Cond.methodLink RX1 70 yX1_fail ∈ gt := gt_t 352 (by decide +kernel) rfl
theorem me_X1_fail : MEV RX1 yX1_fail cX1_fail 3 none 2 := ⟨⟨gt_t 355 (by decide +kernel) rfl, gt_t 2 (by decide +kernel) rfl, by decide +kernel⟩, gt_t 354 (by decide +kernel) rfl, gt_s (q := (yX1_fail, 10)) 3 (by decide +kernel)⟩
theorem fk_X1_35 : FLK RX1 35 1 6 RX1 TX1 10 := ⟨rfl, uw_X1, by decide, rfl, gt_t 104 (by decide +kernel) rfl⟩
theorem fk_X1_12 : FLK RX1 12 1 0 RX1 TX1 10 := ⟨rfl, uw_X1, by decide, rfl, gt_t 95 (by decide +kernel) rfl⟩
theorem lk_X1_83 : Cond.methodLink RX1 83 yX1_readNumber ∈ gt := gt_t 356 (by decide +kernel) rfl
theorem me_X1_readNumber : MEV RX1 yX1_readNumber cX1_readNumber 6 (some .int) 2 := ⟨⟨gt_t 359 (by decide +kernel) rfl, gt_t 2 (by decide +kernel) rfl, by decide +kernel⟩, gt_t 358 (by decide +kernel) rfl, gt_s (q := (yX1_readNumber, 10)) 4 (by decide +kernel)⟩
theorem fk_X1_87 : FLK RX1 87 0 1 RX0 TX0 13 := ⟨rfl, uw_X0, by decide, rfl, gt_t 41 (by decide +kernel) rfl⟩
theorem lk_X1_89 : Cond.methodLink RX1 89 yX1_closeClause ∈ gt := gt_t 360 (by decide +kernel) rfl
theorem me_X1_closeClause : MEV RX1 yX1_closeClause cX1_closeClause 1 none 0 := ⟨⟨gt_t 363 (by decide +kernel) rfl, gt_t 2 (by decide +kernel) rfl, by decide +kernel⟩, gt_t 362 (by decide +kernel) rfl, gt_s (q := (yX1_closeClause, 10)) 5 (by decide +kernel)⟩
theorem lk_X1_58 : Cond.methodLink RX1 58 yX1_isWord ∈ gt := gt_t 296 (by decide +kernel) rfl
theorem me_X1_isWord : MEV RX1 yX1_isWord cX1_isWord 4 (some .boolean) 1 := ⟨⟨gt_t 299 (by decide +kernel) rfl, gt_t 2 (by decide +kernel) rfl, by decide +kernel⟩, gt_t 298 (by decide +kernel) rfl, gt_s (q := (yX1_isWord, 10)) 1 (by decide +kernel)⟩
theorem lk_X1_104 : Cond.methodLink RX1 104 yX1_effectHere ∈ gt := gt_t 377 (by decide +kernel) rfl
theorem me_X1_effectHere : MEV RX1 yX1_effectHere cX1_effectHere 1 (some .int) 0 := ⟨⟨gt_t 380 (by decide +kernel) rfl, gt_t 2 (by decide +kernel) rfl, by decide +kernel⟩, gt_t 379 (by decide +kernel) rfl, gt_s (q := (yX1_effectHere, 10)) 8 (by decide +kernel)⟩
theorem lk_X1_109 : Cond.methodLink RX1 109 yX0_addEffect ∈ gt := gt_t 385 (by decide +kernel) rfl
theorem me_X0_addEffect : MEV RX0 yX0_addEffect cX0_addEffect 5 none 3 := ⟨⟨gt_t 388 (by decide +kernel) rfl, gt_t 3 (by decide +kernel) rfl, by decide +kernel⟩, gt_t 386 (by decide +kernel) rfl, gt_t 387 (by decide +kernel) rfl⟩
theorem fk_X1_46 : FLK RX1 46 1 9 RX1 TX1 10 := ⟨rfl, uw_X1, by decide, rfl, gt_t 107 (by decide +kernel) rfl⟩
theorem fk_X1_39 : FLK RX1 39 1 7 RX1 TX1 10 := ⟨rfl, uw_X1, by decide, rfl, gt_t 105 (by decide +kernel) rfl⟩
theorem fk_X1_43 : FLK RX1 43 1 8 RX1 TX1 10 := ⟨rfl, uw_X1, by decide, rfl, gt_t 106 (by decide +kernel) rfl⟩
theorem lk_X1_128 : Cond.methodLink RX1 128 yX1_readTarget ∈ gt := gt_t 400 (by decide +kernel) rfl
theorem me_X1_readTarget : MEV RX1 yX1_readTarget cX1_readTarget 3 (some .int) 0 := ⟨⟨gt_t 403 (by decide +kernel) rfl, gt_t 2 (by decide +kernel) rfl, by decide +kernel⟩, gt_t 402 (by decide +kernel) rfl, gt_s (q := (yX1_readTarget, 10)) 10 (by decide +kernel)⟩
theorem lk_X1_131 : Cond.methodLink RX1 131 yX0_endByRoll ∈ gt := gt_t 404 (by decide +kernel) rfl
theorem me_X0_endByRoll : MEV RX0 yX0_endByRoll cX0_endByRoll 5 none 4 := ⟨⟨gt_t 407 (by decide +kernel) rfl, gt_t 3 (by decide +kernel) rfl, by decide +kernel⟩, gt_t 405 (by decide +kernel) rfl, gt_t 406 (by decide +kernel) rfl⟩
theorem fk_X1_121 : FLK RX1 121 0 2 RX0 TX0 13 := ⟨rfl, uw_X0, by decide, rfl, gt_t 45 (by decide +kernel) rfl⟩
theorem lk_X1_139 : Cond.methodLink RX1 139 yX1_readThingBehind ∈ gt := gt_t 414 (by decide +kernel) rfl
theorem me_X1_readThingBehind : MEV RX1 yX1_readThingBehind cX1_readThingBehind 2 (some .int) 1 := ⟨⟨gt_t 417 (by decide +kernel) rfl, gt_t 2 (by decide +kernel) rfl, by decide +kernel⟩, gt_t 416 (by decide +kernel) rfl, gt_s (q := (yX1_readThingBehind, 10)) 12 (by decide +kernel)⟩
theorem lk_X1_145 : Cond.methodLink RX1 145 yX0_addChoice ∈ gt := gt_t 419 (by decide +kernel) rfl
theorem me_X0_addChoice : MEV RX0 yX0_addChoice cX0_addChoice 6 none 4 := ⟨⟨gt_t 422 (by decide +kernel) rfl, gt_t 3 (by decide +kernel) rfl, by decide +kernel⟩, gt_t 420 (by decide +kernel) rfl, gt_t 421 (by decide +kernel) rfl⟩
theorem lk_X1_92 : Cond.methodLink RX1 92 yX0_addPart ∈ gt := gt_t 369 (by decide +kernel) rfl
theorem me_X0_addPart : MEV RX0 yX0_addPart cX0_addPart 2 (some .int) 0 := ⟨⟨gt_t 372 (by decide +kernel) rfl, gt_t 3 (by decide +kernel) rfl, by decide +kernel⟩, gt_t 370 (by decide +kernel) rfl, gt_t 371 (by decide +kernel) rfl⟩
theorem lk_X1_95 : Cond.methodLink RX1 95 yX1_readEffects ∈ gt := gt_t 373 (by decide +kernel) rfl
theorem me_X1_readEffects : MEV RX1 yX1_readEffects cX1_readEffects 6 none 1 := ⟨⟨gt_t 376 (by decide +kernel) rfl, gt_t 2 (by decide +kernel) rfl, by decide +kernel⟩, gt_t 375 (by decide +kernel) rfl, gt_s (q := (yX1_readEffects, 10)) 7 (by decide +kernel)⟩
theorem lk_X1_98 : Cond.methodLink RX1 98 yX1_readEnd ∈ gt := gt_t 393 (by decide +kernel) rfl
theorem me_X1_readEnd : MEV RX1 yX1_readEnd cX1_readEnd 5 none 1 := ⟨⟨gt_t 396 (by decide +kernel) rfl, gt_t 2 (by decide +kernel) rfl, by decide +kernel⟩, gt_t 395 (by decide +kernel) rfl, gt_s (q := (yX1_readEnd, 10)) 9 (by decide +kernel)⟩
theorem lk_X1_101 : Cond.methodLink RX1 101 yX1_readChoices ∈ gt := gt_t 408 (by decide +kernel) rfl
theorem me_X1_readChoices : MEV RX1 yX1_readChoices cX1_readChoices 6 none 1 := ⟨⟨gt_t 411 (by decide +kernel) rfl, gt_t 2 (by decide +kernel) rfl, by decide +kernel⟩, gt_t 410 (by decide +kernel) rfl, gt_s (q := (yX1_readChoices, 10)) 11 (by decide +kernel)⟩
theorem lk_X1_148 : Cond.methodLink RX1 148 yX0_hasPart ∈ gt := gt_t 427 (by decide +kernel) rfl
theorem lk_X1_49 : Cond.methodLink RX1 49 yX0_empty ∈ gt := gt_t 287 (by decide +kernel) rfl
theorem me_X0_empty : MEV RX0 yX0_empty cX0_empty 1 none 0 := ⟨⟨gt_t 290 (by decide +kernel) rfl, gt_t 3 (by decide +kernel) rfl, by decide +kernel⟩, gt_t 288 (by decide +kernel) rfl, gt_t 289 (by decide +kernel) rfl⟩
theorem lk_X1_67 : Cond.methodLink RX1 67 yX1_readPart ∈ gt := gt_t 365 (by decide +kernel) rfl
theorem me_X1_readPart : MEV RX1 yX1_readPart cX1_readPart 2 none 0 := ⟨⟨gt_t 368 (by decide +kernel) rfl, gt_t 2 (by decide +kernel) rfl, by decide +kernel⟩, gt_t 367 (by decide +kernel) rfl, gt_s (q := (yX1_readPart, 10)) 6 (by decide +kernel)⟩
theorem lk_X1_62 : Cond.methodLink RX1 62 yX1_readHealth ∈ gt := gt_t 348 (by decide +kernel) rfl
theorem me_X1_readHealth : MEV RX1 yX1_readHealth cX1_readHealth 1 none 0 := ⟨⟨gt_t 351 (by decide +kernel) rfl, gt_t 2 (by decide +kernel) rfl, by decide +kernel⟩, gt_t 350 (by decide +kernel) rfl, gt_s (q := (yX1_readHealth, 10)) 2 (by decide +kernel)⟩
theorem lk_X1_74 : Cond.methodLink RX1 74 yX1_checkTargets ∈ gt := gt_t 423 (by decide +kernel) rfl
theorem me_X1_checkTargets : MEV RX1 yX1_checkTargets cX1_checkTargets 2 none 0 := ⟨⟨gt_t 426 (by decide +kernel) rfl, gt_t 2 (by decide +kernel) rfl, by decide +kernel⟩, gt_t 425 (by decide +kernel) rfl, gt_s (q := (yX1_checkTargets, 10)) 13 (by decide +kernel)⟩
def t_X1_append (L : Nat → Nat) (d : Dt) (p1 : Int32) : Option (Dt) := if 600 ≤ (gF d 1 1) then some d else gd (inb (gF d 1 1) (L (32 * 1 + 3))) (bd (sA d (32 * 1 + 3) (ix (gF d 1 1)) (vp_nar .byte p1)) (fun d3 => bd (sF d3 1 1 ((gF d3 1 1) + 1)) (fun d4 => some d4)))
set_option maxRecDepth 20000 in
theorem c_X1_append {l : Launch} {Y : Yx} (hL : LAY Y) {z : Sh} {d : Dt} {p1 : Int32} (ho : (0, 1, 1) ∈ yI Y) {d' : Dt} (hf : t_X1_append z.1 d p1 = some d') : MM l yX1_append cX1_append 2 none 0 0 Y z [.ref (yo Y 1), .int p1] d (none) d' := by
  refine MM.ofV (by decide +kernel) hL (Nat.le_of_ble_eq_true rfl) (fun K hl hC hr hQ hA => ?_)
  have hC : CK K Y cX1_append 2 RX1 0 0 := hC
  unfold t_X1_append at hf
  show V K Y 2 0 0 z d 0 [(0, .ref (yo Y 1)), (1, .int p1)] []
  refine V_aload_n 0 hC dX1_append_0 rfl rfl ?_
  refine V_geti (o := 1) hC ho rfl fk_X1_18 dX1_append_1 ?_
  refine V_sipush (v := 600) hC dX1_append_4 rfl ?_
  refine V_icmp_ge (tgt := 30) hC dX1_append_7 (by decide) (fun c1 => ?_) (fun c1 => ?_)
  · have hf := if_t hf c1
    obtain rfl := so_inj hf
    exact V_vret hC hr hQ hA dX1_append_30
  · have hf := if_f hf c1
    refine V_aload_n 0 hC dX1_append_10 rfl rfl ?_
    refine V_geta (o := 1) hC ho rfl fk_X1_25 dX1_append_11 ?_
    refine V_aload_n 0 hC dX1_append_14 rfl rfl ?_
    refine V_geti (o := 1) hC ho rfl fk_X1_18 dX1_append_15 ?_
    refine V_iload_n 1 hC dX1_append_18 rfl rfl ?_
    obtain ⟨g2, hf⟩ := gd_some hf
    refine V_bast (a := (32 * 1 + 3)) hC (hL.row ho rfl) g2 dX1_append_19 (fun d3 ed3 => ?_)
    have hf := bd_e hf d3 ed3
    refine V_aload_n 0 hC dX1_append_20 rfl rfl ?_
    refine V_dup hC dX1_append_21 rfl ?_
    refine V_geti (o := 1) hC ho rfl fk_X1_18 dX1_append_22 ?_
    refine V_iconst (v := 1) hC dX1_append_25 rfl ?_
    refine V_iadd hC dX1_append_26 ?_
    refine V_puti (o := 1) hC ho rfl fk_X1_18 pl_X1 rfl rfl dX1_append_27 (fun d4 ed4 => ?_)
    have hf := bd_e hf d4 ed4
    obtain rfl := so_inj hf
    exact V_vret hC hr hQ hA dX1_append_30
def t_X1_pass_15 (L : Nat → Nat) (p1 : Int32) (k15 : Int32 → (Dt) → Option (Dt)) (x2 : Int32) (d : Dt) : Option (Dt) := if (gF d 1 1) ≤ x2 then some d else gd (inb x2 (L (32 * 1 + 3))) (if (gA d (32 * 1 + 3) (ix x2)) = 32 then bd (sF d 1 4 ((gF d 1 4) + 1)) (fun d6 => k15 (x2 + 1) d6) else some d)
set_option maxRecDepth 20000 in
theorem b_X1_pass_15 {K : Kx} {Y : Yx} {z : Sh}  (hC : CK K Y cX1_pass 3 RX1 0 0) (hr : (kme K).sig.returnType = none) (hA : kA K = aY Y z) {p1 : Int32} (ho : (0, 1, 1) ∈ yI Y) {d' : Dt} (hQ : kQ K = MQ (kb K) (QM Y z (none) d') (ka K) (ks K) 0 0 (aY Y z)) {k15 : Int32 → (Dt) → Option (Dt)} (hk15 : ∀ (x2 : Int32) (d : Dt), k15 x2 d = some d' → V K Y 3 0 0 z d 15 [(0, .ref (yo Y 1)), (2, .int x2)] []) (x2 : Int32) (d : Dt) (hf : t_X1_pass_15 z.1 p1 k15 x2 d = some d') : V K Y 3 0 0 z d 15 [(0, .ref (yo Y 1)), (2, .int x2)] [] := by
  have hL := hC.2.2.2.2.2.2.1
  unfold t_X1_pass_15 at hf
  refine V_iload_n 1 hC dX1_pass_15 rfl rfl ?_
  refine V_aload_n 0 hC dX1_pass_16 rfl rfl ?_
  refine V_geti (o := 1) hC ho rfl fk_X1_18 dX1_pass_17 ?_
  refine V_icmp_ge (tgt := 50) hC dX1_pass_20 (by decide) (fun c3 => ?_) (fun c3 => ?_)
  · have hf := if_t hf c3
    obtain rfl := so_inj hf
    exact V_vret hC hr hQ hA dX1_pass_50
  · have hf := if_f hf c3
    refine V_aload_n 0 hC dX1_pass_23 rfl rfl ?_
    refine V_geta (o := 1) hC ho rfl fk_X1_25 dX1_pass_24 ?_
    refine V_iload_n 1 hC dX1_pass_27 rfl rfl ?_
    obtain ⟨g4, hf⟩ := gd_some hf
    refine V_bald (a := (32 * 1 + 3)) hC (hL.row ho rfl) g4 dX1_pass_28 ?_
    refine V_bipush (v := 32) hC dX1_pass_29 rfl ?_
    refine V_icmp_ne (tgt := 50) hC dX1_pass_31 (by decide) (fun c5 => ?_) (fun c5 => ?_)
    · have hf := if_f hf c5
      obtain rfl := so_inj hf
      exact V_vret hC hr hQ hA dX1_pass_50
    · have hf := if_t hf c5
      refine V_aload_n 0 hC dX1_pass_34 rfl rfl ?_
      refine V_dup hC dX1_pass_35 rfl ?_
      refine V_geti (o := 1) hC ho rfl fk_X1_29 dX1_pass_36 ?_
      refine V_iconst (v := 1) hC dX1_pass_39 rfl ?_
      refine V_iadd hC dX1_pass_40 ?_
      refine V_puti (o := 1) hC ho rfl fk_X1_29 pl_X1 rfl rfl dX1_pass_41 (fun d6 ed6 => ?_)
      have hf := bd_e hf d6 ed6
      refine V_iinc (v := x2 + 1) (lv' := [(2, .int (x2 + 1)), (0, .ref (yo Y 1))]) 1 hC dX1_pass_44 rfl rfl (by decide) rfl ?_
      refine V_goto (tgt := 15) hC dX1_pass_47 (by decide) ?_
      exact V_sub [1, 0] rfl (hk15 (x2 + 1) d6 hf)
def t_X1_pass (L : Nat → Nat) (d : Dt) (p1 : Int32) : Option (Dt) := bd (sF d 1 4 ((gF d 1 4) + p1)) (fun d1 => bd (gF d1 1 4) (fun y2 => lp (fun k x => t_X1_pass_15 L p1  (fun x2 d => k (x2, d)) x.1 x.2) FU (y2, d1)))
set_option maxRecDepth 20000 in
theorem c_X1_pass {l : Launch} {Y : Yx} (hL : LAY Y) {z : Sh} {d : Dt} {p1 : Int32} (ho : (0, 1, 1) ∈ yI Y) {d' : Dt} (hf : t_X1_pass z.1 d p1 = some d') : MM l yX1_pass cX1_pass 3 none 0 0 Y z [.ref (yo Y 1), .int p1] d (none) d' := by
  refine MM.ofV (by decide +kernel) hL (Nat.le_of_ble_eq_true rfl) (fun K hl hC hr hQ hA => ?_)
  have hC : CK K Y cX1_pass 3 RX1 0 0 := hC
  unfold t_X1_pass at hf
  show V K Y 3 0 0 z d 0 [(0, .ref (yo Y 1)), (1, .int p1)] []
  refine V_aload_n 0 hC dX1_pass_0 rfl rfl ?_
  refine V_dup hC dX1_pass_1 rfl ?_
  refine V_geti (o := 1) hC ho rfl fk_X1_29 dX1_pass_2 ?_
  refine V_iload_n 1 hC dX1_pass_5 rfl rfl ?_
  refine V_iadd hC dX1_pass_6 ?_
  refine V_puti (o := 1) hC ho rfl fk_X1_29 pl_X1 rfl rfl dX1_pass_7 (fun d1 ed1 => ?_)
  have hf := bd_e hf d1 ed1
  refine V_aload_n 0 hC dX1_pass_10 rfl rfl ?_
  refine V_geti (o := 1) hC ho rfl fk_X1_29 dX1_pass_11 ?_
  refine V_topi (fun y2 ey2 => ?_)
  have hf := bd_e hf y2 ey2
  refine V_istore_n (lv' := [(2, .int y2), (0, .ref (yo Y 1)), (1, .int p1)]) hC dX1_pass_14 rfl (by decide) rfl ?_
  exact V_sub [1, 0] rfl (lp_ind (X := Int32 × Dt) (P := fun x => V K Y 3 0 0 z x.2 15 [(0, .ref (yo Y 1)), (2, .int x.1)] []) (fun k x hk hx => b_X1_pass_15 hC hr hA ho hQ  (k15 := fun x2 d => k (x2, d)) (fun x2 d hx => hk (x2, d) hx) x.1 x.2 hx) FU (y2, d1) hf)
def t_X1_isWord_58 (L : Nat → Nat) (d : Dt) (s1 : Nat) (k58 : Int32 → Int32 → Option (Int32)) (x2 : Int32) (x3 : Int32)  : Option (Int32) := if x2 ≤ x3 then some 1 else gd (inb ((gF d 1 4) + x3) (L (32 * 1 + 3))) ((t_J0_charAt_5068e L d s1 x3).bind (fun v11 => if (gA d (32 * 1 + 3) (ix ((gF d 1 4) + x3))) = v11 then k58 x2 (x3 + 1) else some 0))
set_option maxRecDepth 20000 in
theorem b_X1_isWord_58 {K : Kx} {Y : Yx} {z : Sh} {d : Dt} (hC : CK K Y cX1_isWord 4 RX1 4 85) (hr : (kme K).sig.returnType = some .boolean) (hA : kA K = aY Y z) {s1 : Nat} (ho : (0, 1, 1) ∈ yI Y) (hs1 : s1 < 12) {r : Int32} (hQ : kQ K = MQ (kb K) (QM Y z (some (.int r)) d) (ka K) (ks K) 0 0 (aY Y z)) {k58 : Int32 → Int32 → Option (Int32)} (hk58 : ∀ (x2 : Int32) (x3 : Int32) , k58 x2 x3  = some r → V K Y 4 0 0 z d 58 [(0, .ref (yo Y 1)), (1, .ref (yK Y s1)), (2, .int x2), (3, .int x3)] []) (x2 : Int32) (x3 : Int32)  (hf : t_X1_isWord_58 z.1 d s1 k58 x2 x3  = some r) : V K Y 4 0 0 z d 58 [(0, .ref (yo Y 1)), (1, .ref (yK Y s1)), (2, .int x2), (3, .int x3)] [] := by
  have hL := hC.2.2.2.2.2.2.1
  have hkn : 0 ≤ (kR K).cells ∧ 0 ≤ (kR K).slots := ⟨Nat.zero_le _, Nat.zero_le _⟩
  unfold t_X1_isWord_58 at hf
  refine V_iload_n 3 hC dX1_isWord_58 rfl rfl ?_
  refine V_iload_n 2 hC dX1_isWord_59 rfl rfl ?_
  refine V_icmp_ge (tgt := 90) hC dX1_isWord_60 (by decide) (fun c9 => ?_) (fun c9 => ?_)
  · have hf := if_t hf c9
    refine V_iconst (v := 1) hC dX1_isWord_90 rfl ?_
    obtain rfl := so_inj hf
    exact V_zret hC hr rfl hQ hA dX1_isWord_91
  · have hf := if_f hf c9
    refine V_aload_n 0 hC dX1_isWord_63 rfl rfl ?_
    refine V_geta (o := 1) hC ho rfl fk_X1_25 dX1_isWord_64 ?_
    refine V_aload_n 0 hC dX1_isWord_67 rfl rfl ?_
    refine V_geti (o := 1) hC ho rfl fk_X1_29 dX1_isWord_68 ?_
    refine V_iload_n 3 hC dX1_isWord_71 rfl rfl ?_
    refine V_iadd hC dX1_isWord_72 ?_
    obtain ⟨g10, hf⟩ := gd_some hf
    refine V_bald (a := (32 * 1 + 3)) hC (hL.row ho rfl) g10 dX1_isWord_73 ?_
    refine V_aload_n 1 hC dX1_isWord_74 rfl rfl ?_
    refine V_iload_n 3 hC dX1_isWord_75 rfl rfl ?_
    obtain ⟨v11, ev11, hf⟩ := bi_some hf
    refine V_invSi (i := s1) (As := [.int x3]) (rest := [.int (gA d (32 * 1 + 3) (ix ((gF d 1 4) + x3)))]) hC (c_J0_charAt_5068e hL hs1 ev11) me_J0_charAt_5068e lk_X1_152 hs1 rfl rfl (Nat.le_of_ble_eq_true rfl) ⟨by decide, by decide⟩ hkn dX1_isWord_76 ?_
    refine V_icmp_eq (tgt := 84) hC dX1_isWord_79 (by decide) (fun c12 => ?_) (fun c12 => ?_)
    · have hf := if_t hf c12
      refine V_iinc (v := x3 + 1) (lv' := [(3, .int (x3 + 1)), (0, .ref (yo Y 1)), (1, .ref (yK Y s1)), (2, .int x2)]) 3 hC dX1_isWord_84 rfl rfl (by decide) rfl ?_
      refine V_goto (tgt := 58) hC dX1_isWord_87 (by decide) ?_
      exact V_sub [1, 2, 3, 0] rfl (hk58 x2 (x3 + 1) hf)
    · have hf := if_f hf c12
      refine V_iconst (v := 0) hC dX1_isWord_82 rfl ?_
      obtain rfl := so_inj hf
      exact V_zret hC hr rfl hQ hA dX1_isWord_83
def t_X1_isWord_46 (L : Nat → Nat) (d : Dt) (s1 : Nat)  (x2 : Int32)  : Option (Int32) := (t_J0_length_8abf5 L d s1).bind (fun v7 => if x2 = v7 then lp (fun k x => t_X1_isWord_58 L d s1  (fun x2 x3 => k (x2, x3)) x.1 x.2) FU (x2, 0) else some 0)
set_option maxRecDepth 20000 in
theorem b_X1_isWord_46 {K : Kx} {Y : Yx} {z : Sh} {d : Dt} (hC : CK K Y cX1_isWord 4 RX1 4 85) (hr : (kme K).sig.returnType = some .boolean) (hA : kA K = aY Y z) {s1 : Nat} (ho : (0, 1, 1) ∈ yI Y) (hs1 : s1 < 12) {r : Int32} (hQ : kQ K = MQ (kb K) (QM Y z (some (.int r)) d) (ka K) (ks K) 0 0 (aY Y z))   (x2 : Int32)  (hf : t_X1_isWord_46 z.1 d s1  x2  = some r) : V K Y 4 0 0 z d 46 [(0, .ref (yo Y 1)), (1, .ref (yK Y s1)), (2, .int x2)] [] := by
  have hL := hC.2.2.2.2.2.2.1
  have hkn : 0 ≤ (kR K).cells ∧ 0 ≤ (kR K).slots := ⟨Nat.zero_le _, Nat.zero_le _⟩
  unfold t_X1_isWord_46 at hf
  refine V_iload_n 2 hC dX1_isWord_46 rfl rfl ?_
  refine V_aload_n 1 hC dX1_isWord_47 rfl rfl ?_
  obtain ⟨v7, ev7, hf⟩ := bi_some hf
  refine V_invSi (i := s1) (As := []) (rest := [.int x2]) hC (c_J0_length_8abf5 hL hs1 ev7) me_J0_length_8abf5 lk_X1_77 hs1 rfl rfl (Nat.le_of_ble_eq_true rfl) ⟨by decide, by decide⟩ hkn dX1_isWord_48 ?_
  refine V_icmp_eq (tgt := 56) hC dX1_isWord_51 (by decide) (fun c8 => ?_) (fun c8 => ?_)
  · have hf := if_t hf c8
    refine V_iconst (v := 0) hC dX1_isWord_56 rfl ?_
    refine V_istore_n (lv' := [(3, .int 0), (0, .ref (yo Y 1)), (1, .ref (yK Y s1)), (2, .int x2)]) hC dX1_isWord_57 rfl (by decide) rfl ?_
    exact V_sub [1, 2, 3, 0] rfl (lp_ind (X := Int32 × Int32) (P := fun x => V K Y 4 0 0 z d 58 [(0, .ref (yo Y 1)), (1, .ref (yK Y s1)), (2, .int x.1), (3, .int x.2)] []) (fun k x hk hx => b_X1_isWord_58 hC hr hA ho hs1 hQ  (k58 := fun x2 x3 => k (x2, x3)) (fun x2 x3 hx => hk (x2, x3) hx) x.1 x.2 hx) FU (x2, 0) hf)
  · have hf := if_f hf c8
    refine V_iconst (v := 0) hC dX1_isWord_54 rfl ?_
    obtain rfl := so_inj hf
    exact V_zret hC hr rfl hQ hA dX1_isWord_55
def t_X1_isWord_7 (L : Nat → Nat) (d : Dt) (s1 : Nat) (k7 : Int32 → Int32 → Option (Int32)) (x2 : Int32) (x3 : Int32)  : Option (Int32) := if (gF d 1 1) ≤ x3 then t_X1_isWord_46 L d s1  x2 else gd (inb x3 (L (32 * 1 + 3))) (if (gA d (32 * 1 + 3) (ix x3)) < 97 then t_X1_isWord_46 L d s1  x2 else gd (inb x3 (L (32 * 1 + 3))) (if 122 < (gA d (32 * 1 + 3) (ix x3)) then t_X1_isWord_46 L d s1  x2 else k7 (x2 + 1) (x3 + 1)))
set_option maxRecDepth 20000 in
theorem b_X1_isWord_7 {K : Kx} {Y : Yx} {z : Sh} {d : Dt} (hC : CK K Y cX1_isWord 4 RX1 4 85) (hr : (kme K).sig.returnType = some .boolean) (hA : kA K = aY Y z) {s1 : Nat} (ho : (0, 1, 1) ∈ yI Y) (hs1 : s1 < 12) {r : Int32} (hQ : kQ K = MQ (kb K) (QM Y z (some (.int r)) d) (ka K) (ks K) 0 0 (aY Y z)) {k7 : Int32 → Int32 → Option (Int32)} (hk7 : ∀ (x2 : Int32) (x3 : Int32) , k7 x2 x3  = some r → V K Y 4 0 0 z d 7 [(0, .ref (yo Y 1)), (1, .ref (yK Y s1)), (2, .int x2), (3, .int x3)] []) (x2 : Int32) (x3 : Int32)  (hf : t_X1_isWord_7 z.1 d s1 k7 x2 x3  = some r) : V K Y 4 0 0 z d 7 [(0, .ref (yo Y 1)), (1, .ref (yK Y s1)), (2, .int x2), (3, .int x3)] [] := by
  have hL := hC.2.2.2.2.2.2.1
  unfold t_X1_isWord_7 at hf
  refine V_iload_n 3 hC dX1_isWord_7 rfl rfl ?_
  refine V_aload_n 0 hC dX1_isWord_8 rfl rfl ?_
  refine V_geti (o := 1) hC ho rfl fk_X1_18 dX1_isWord_9 ?_
  refine V_icmp_ge (tgt := 46) hC dX1_isWord_12 (by decide) (fun c2 => ?_) (fun c2 => ?_)
  · have hf := if_t hf c2
    exact V_sub [0, 1, 2] rfl (b_X1_isWord_46 hC hr hA ho hs1 hQ  x2 hf)
  · have hf := if_f hf c2
    refine V_aload_n 0 hC dX1_isWord_15 rfl rfl ?_
    refine V_geta (o := 1) hC ho rfl fk_X1_25 dX1_isWord_16 ?_
    refine V_iload_n 3 hC dX1_isWord_19 rfl rfl ?_
    obtain ⟨g3, hf⟩ := gd_some hf
    refine V_bald (a := (32 * 1 + 3)) hC (hL.row ho rfl) g3 dX1_isWord_20 ?_
    refine V_bipush (v := 97) hC dX1_isWord_21 rfl ?_
    refine V_icmp_lt (tgt := 46) hC dX1_isWord_23 (by decide) (fun c4 => ?_) (fun c4 => ?_)
    · have hf := if_t hf c4
      exact V_sub [0, 1, 2] rfl (b_X1_isWord_46 hC hr hA ho hs1 hQ  x2 hf)
    · have hf := if_f hf c4
      refine V_aload_n 0 hC dX1_isWord_26 rfl rfl ?_
      refine V_geta (o := 1) hC ho rfl fk_X1_25 dX1_isWord_27 ?_
      refine V_iload_n 3 hC dX1_isWord_30 rfl rfl ?_
      obtain ⟨g5, hf⟩ := gd_some hf
      refine V_bald (a := (32 * 1 + 3)) hC (hL.row ho rfl) g5 dX1_isWord_31 ?_
      refine V_bipush (v := 122) hC dX1_isWord_32 rfl ?_
      refine V_icmp_gt (tgt := 46) hC dX1_isWord_34 (by decide) (fun c6 => ?_) (fun c6 => ?_)
      · have hf := if_t hf c6
        exact V_sub [0, 1, 2] rfl (b_X1_isWord_46 hC hr hA ho hs1 hQ  x2 hf)
      · have hf := if_f hf c6
        refine V_iinc (v := x2 + 1) (lv' := [(2, .int (x2 + 1)), (0, .ref (yo Y 1)), (1, .ref (yK Y s1)), (3, .int x3)]) 2 hC dX1_isWord_37 rfl rfl (by decide) rfl ?_
        refine V_iinc (v := x3 + 1) (lv' := [(3, .int (x3 + 1)), (2, .int (x2 + 1)), (0, .ref (yo Y 1)), (1, .ref (yK Y s1))]) 3 hC dX1_isWord_40 rfl rfl (by decide) rfl ?_
        refine V_goto (tgt := 7) hC dX1_isWord_43 (by decide) ?_
        exact V_sub [2, 3, 1, 0] rfl (hk7 (x2 + 1) (x3 + 1) hf)
def t_X1_isWord (L : Nat → Nat) (d : Dt) (s1 : Nat) : Option (Int32) := bd (gF d 1 4) (fun y1 => lp (fun k x => t_X1_isWord_7 L d s1  (fun x2 x3 => k (x2, x3)) x.1 x.2) FU (0, y1))
set_option maxRecDepth 20000 in
theorem c_X1_isWord {l : Launch} {Y : Yx} (hL : LAY Y) {z : Sh} {d : Dt} {s1 : Nat} (ho : (0, 1, 1) ∈ yI Y) (hs1 : s1 < 12) {r : Int32} (hf : t_X1_isWord z.1 d s1 = some r) : MM l yX1_isWord cX1_isWord 4 (some .boolean) 4 85 Y z [.ref (yo Y 1), .ref (yK Y s1)] d (some (.int r)) d := by
  refine MM.ofV (by decide +kernel) hL (Nat.le_of_ble_eq_true rfl) (fun K hl hC hr hQ hA => ?_)
  have hC : CK K Y cX1_isWord 4 RX1 4 85 := hC
  unfold t_X1_isWord at hf
  show V K Y 4 0 0 z d 0 [(0, .ref (yo Y 1)), (1, .ref (yK Y s1))] []
  refine V_iconst (v := 0) hC dX1_isWord_0 rfl ?_
  refine V_istore_n (lv' := [(2, .int 0), (0, .ref (yo Y 1)), (1, .ref (yK Y s1))]) hC dX1_isWord_1 rfl (by decide) rfl ?_
  refine V_aload_n 1 hC dX1_isWord_2 rfl rfl ?_
  refine V_geti (o := 1) hC ho rfl fk_X1_29 dX1_isWord_3 ?_
  refine V_topi (fun y1 ey1 => ?_)
  have hf := bd_e hf y1 ey1
  refine V_istore_n (lv' := [(3, .int y1), (2, .int 0), (0, .ref (yo Y 1)), (1, .ref (yK Y s1))]) hC dX1_isWord_6 rfl (by decide) rfl ?_
  exact V_sub [2, 3, 1, 0] rfl (lp_ind (X := Int32 × Int32) (P := fun x => V K Y 4 0 0 z d 7 [(0, .ref (yo Y 1)), (1, .ref (yK Y s1)), (2, .int x.1), (3, .int x.2)] []) (fun k x hk hx => b_X1_isWord_7 hC hr hA ho hs1 hQ  (k7 := fun x2 x3 => k (x2, x3)) (fun x2 x3 hx => hk (x2, x3) hx) x.1 x.2 hx) FU (0, y1) hf)
def t_X1_fail (L : Nat → Nat) (d : Dt) (p1 : Int32) (p2 : Int32) : Option (Dt) := if (gF d 1 5) = 0 then bd (sF d 1 5 p1) (fun d2 => bd (sF d2 1 2 p2) (fun d3 => some d3)) else some d
set_option maxRecDepth 20000 in
theorem c_X1_fail {l : Launch} {Y : Yx} (hL : LAY Y) {z : Sh} {d : Dt} {p1 : Int32} {p2 : Int32} (ho : (0, 1, 1) ∈ yI Y) {d' : Dt} (hf : t_X1_fail z.1 d p1 p2 = some d') : MM l yX1_fail cX1_fail 3 none 0 0 Y z [.ref (yo Y 1), .int p1, .int p2] d (none) d' := by
  refine MM.ofV (by decide +kernel) hL (Nat.le_of_ble_eq_true rfl) (fun K hl hC hr hQ hA => ?_)
  have hC : CK K Y cX1_fail 3 RX1 0 0 := hC
  unfold t_X1_fail at hf
  show V K Y 3 0 0 z d 0 [(0, .ref (yo Y 1)), (1, .int p1), (2, .int p2)] []
  refine V_aload_n 0 hC dX1_fail_0 rfl rfl ?_
  refine V_geti (o := 1) hC ho rfl fk_X1_32 dX1_fail_1 ?_
  refine V_if_ne (tgt := 17) hC dX1_fail_4 (by decide) (fun c1 => ?_) (fun c1 => ?_)
  · have hf := if_f hf c1
    obtain rfl := so_inj hf
    exact V_vret hC hr hQ hA dX1_fail_17
  · have hf := if_t hf c1
    refine V_aload_n 0 hC dX1_fail_7 rfl rfl ?_
    refine V_iload_n 1 hC dX1_fail_8 rfl rfl ?_
    refine V_puti (o := 1) hC ho rfl fk_X1_32 pl_X1 rfl rfl dX1_fail_9 (fun d2 ed2 => ?_)
    have hf := bd_e hf d2 ed2
    refine V_aload_n 0 hC dX1_fail_12 rfl rfl ?_
    refine V_iload_n 2 hC dX1_fail_13 rfl rfl ?_
    refine V_puti (o := 1) hC ho rfl fk_X1_22 pl_X1 rfl rfl dX1_fail_14 (fun d3 ed3 => ?_)
    have hf := bd_e hf d3 ed3
    obtain rfl := so_inj hf
    exact V_vret hC hr hQ hA dX1_fail_17
def t_X1_readNumber_117 (L : Nat → Nat) (p1 : Int32) (p2 : Int32)   (d : Dt) : Option (Int32 × Dt) := (t_X1_fail L d 2 (gF d 1 4)).bind (fun d17 => some (p1, d17))
set_option maxRecDepth 20000 in
theorem b_X1_readNumber_117 {K : Kx} {Y : Yx} {z : Sh}  (hC : CK K Y cX1_readNumber 6 RX1 1 22) (hr : (kme K).sig.returnType = some .int) (hA : kA K = aY Y z) {p1 : Int32} {p2 : Int32} (ho : (0, 1, 1) ∈ yI Y) {r : Int32} {d' : Dt} (hQ : kQ K = MQ (kb K) (QM Y z (some (.int r)) d') (ka K) (ks K) 0 0 (aY Y z))    (d : Dt) (hf : t_X1_readNumber_117 z.1 p1 p2   d = some (r, d')) : V K Y 6 0 0 z d 117 [(0, .ref (yo Y 1)), (1, .int p1)] [] := by
  have hL := hC.2.2.2.2.2.2.1
  have hkn : 0 ≤ (kR K).cells ∧ 0 ≤ (kR K).slots := ⟨Nat.zero_le _, Nat.zero_le _⟩
  unfold t_X1_readNumber_117 at hf
  refine V_aload_n 0 hC dX1_readNumber_117 rfl rfl ?_
  refine V_iconst (v := 2) hC dX1_readNumber_118 rfl ?_
  refine V_aload_n 0 hC dX1_readNumber_119 rfl rfl ?_
  refine V_geti (o := 1) hC ho rfl fk_X1_29 dX1_readNumber_120 ?_
  obtain ⟨d17, ed17, hf⟩ := bi_some hf
  refine V_invv (o := 1) (As := [.int 2, .int (gF d 1 4)]) (rest := []) hC (c_X1_fail hL ho ed17) me_X1_fail lk_X1_70 ho rfl rfl rfl (Nat.le_of_ble_eq_true rfl) ⟨by decide, by decide⟩ hkn dX1_readNumber_123 ?_
  refine V_iload_n 1 hC dX1_readNumber_126 rfl rfl ?_
  obtain ⟨rfl, rfl⟩ := so_inj2 hf
  exact V_iret hC hr hQ hA dX1_readNumber_127
def t_X1_readNumber_85 (L : Nat → Nat) (p1 : Int32) (p2 : Int32)  (x3 : Int32) (x4 : Int32) (d : Dt) : Option (Int32 × Dt) := if x3 = 0 then (t_X1_fail L d 1 (gF d 1 4)).bind (fun d16 => some (p1, d16)) else if 2 < x3 then t_X1_readNumber_117 L p1 p2  d else if x4 < p1 then t_X1_readNumber_117 L p1 p2  d else if x4 ≤ p2 then (t_X1_pass L d x3).bind (fun d15 => some (x4, d15)) else t_X1_readNumber_117 L p1 p2  d
set_option maxRecDepth 20000 in
theorem b_X1_readNumber_85 {K : Kx} {Y : Yx} {z : Sh}  (hC : CK K Y cX1_readNumber 6 RX1 1 22) (hr : (kme K).sig.returnType = some .int) (hA : kA K = aY Y z) {p1 : Int32} {p2 : Int32} (ho : (0, 1, 1) ∈ yI Y) {r : Int32} {d' : Dt} (hQ : kQ K = MQ (kb K) (QM Y z (some (.int r)) d') (ka K) (ks K) 0 0 (aY Y z))   (x3 : Int32) (x4 : Int32) (d : Dt) (hf : t_X1_readNumber_85 z.1 p1 p2  x3 x4 d = some (r, d')) : V K Y 6 0 0 z d 85 [(0, .ref (yo Y 1)), (1, .int p1), (2, .int p2), (3, .int x3), (4, .int x4)] [] := by
  have hL := hC.2.2.2.2.2.2.1
  have hkn : 0 ≤ (kR K).cells ∧ 0 ≤ (kR K).slots := ⟨Nat.zero_le _, Nat.zero_le _⟩
  unfold t_X1_readNumber_85 at hf
  refine V_iload_n 3 hC dX1_readNumber_85 rfl rfl ?_
  refine V_if_ne (tgt := 100) hC dX1_readNumber_86 (by decide) (fun c11 => ?_) (fun c11 => ?_)
  · have hf := if_f hf c11
    refine V_iload_n 3 hC dX1_readNumber_100 rfl rfl ?_
    refine V_iconst (v := 2) hC dX1_readNumber_101 rfl ?_
    refine V_icmp_gt (tgt := 117) hC dX1_readNumber_102 (by decide) (fun c12 => ?_) (fun c12 => ?_)
    · have hf := if_t hf c12
      exact V_sub [0, 1] rfl (b_X1_readNumber_117 hC hr hA ho hQ  d hf)
    · have hf := if_f hf c12
      refine V_iload 4 hC dX1_readNumber_105 rfl ?_
      refine V_iload_n 1 hC dX1_readNumber_107 rfl rfl ?_
      refine V_icmp_lt (tgt := 117) hC dX1_readNumber_108 (by decide) (fun c13 => ?_) (fun c13 => ?_)
      · have hf := if_t hf c13
        exact V_sub [0, 1] rfl (b_X1_readNumber_117 hC hr hA ho hQ  d hf)
      · have hf := if_f hf c13
        refine V_iload 4 hC dX1_readNumber_111 rfl ?_
        refine V_iload_n 2 hC dX1_readNumber_113 rfl rfl ?_
        refine V_icmp_le (tgt := 128) hC dX1_readNumber_114 (by decide) (fun c14 => ?_) (fun c14 => ?_)
        · have hf := if_t hf c14
          refine V_aload_n 0 hC dX1_readNumber_128 rfl rfl ?_
          refine V_iload_n 3 hC dX1_readNumber_129 rfl rfl ?_
          obtain ⟨d15, ed15, hf⟩ := bi_some hf
          refine V_invv (o := 1) (As := [.int x3]) (rest := []) hC (c_X1_pass hL ho ed15) me_X1_pass lk_X1_52 ho rfl rfl rfl (Nat.le_of_ble_eq_true rfl) ⟨by decide, by decide⟩ hkn dX1_readNumber_130 ?_
          refine V_iload 4 hC dX1_readNumber_133 rfl ?_
          obtain ⟨rfl, rfl⟩ := so_inj2 hf
          exact V_iret hC hr hQ hA dX1_readNumber_135
        · have hf := if_f hf c14
          exact V_sub [0, 1] rfl (b_X1_readNumber_117 hC hr hA ho hQ  d hf)
  · have hf := if_t hf c11
    refine V_aload_n 0 hC dX1_readNumber_89 rfl rfl ?_
    refine V_iconst (v := 1) hC dX1_readNumber_90 rfl ?_
    refine V_aload_n 0 hC dX1_readNumber_91 rfl rfl ?_
    refine V_geti (o := 1) hC ho rfl fk_X1_29 dX1_readNumber_92 ?_
    obtain ⟨d16, ed16, hf⟩ := bi_some hf
    refine V_invv (o := 1) (As := [.int 1, .int (gF d 1 4)]) (rest := []) hC (c_X1_fail hL ho ed16) me_X1_fail lk_X1_70 ho rfl rfl rfl (Nat.le_of_ble_eq_true rfl) ⟨by decide, by decide⟩ hkn dX1_readNumber_95 ?_
    refine V_iload_n 1 hC dX1_readNumber_98 rfl rfl ?_
    obtain ⟨rfl, rfl⟩ := so_inj2 hf
    exact V_iret hC hr hQ hA dX1_readNumber_99
def t_X1_readNumber_79 (L : Nat → Nat) (p1 : Int32) (p2 : Int32) (k20 : Int32 → Int32 → Int32 → (Dt) → Option (Int32 × Dt)) (x3 : Int32) (x4 : Int32) (x5 : Int32) (d : Dt) : Option (Int32 × Dt) := k20 x3 x4 (x5 + 1) d
set_option maxRecDepth 20000 in
theorem b_X1_readNumber_79 {K : Kx} {Y : Yx} {z : Sh}  (hC : CK K Y cX1_readNumber 6 RX1 1 22) (hr : (kme K).sig.returnType = some .int) (hA : kA K = aY Y z) {p1 : Int32} {p2 : Int32} (ho : (0, 1, 1) ∈ yI Y) {r : Int32} {d' : Dt} (hQ : kQ K = MQ (kb K) (QM Y z (some (.int r)) d') (ka K) (ks K) 0 0 (aY Y z)) {k20 : Int32 → Int32 → Int32 → (Dt) → Option (Int32 × Dt)} (hk20 : ∀ (x3 : Int32) (x4 : Int32) (x5 : Int32) (d : Dt), k20 x3 x4 x5 d = some (r, d') → V K Y 6 0 0 z d 20 [(0, .ref (yo Y 1)), (1, .int p1), (2, .int p2), (3, .int x3), (4, .int x4), (5, .int x5)] []) (x3 : Int32) (x4 : Int32) (x5 : Int32) (d : Dt) (hf : t_X1_readNumber_79 z.1 p1 p2 k20 x3 x4 x5 d = some (r, d')) : V K Y 6 0 0 z d 79 [(0, .ref (yo Y 1)), (1, .int p1), (2, .int p2), (3, .int x3), (4, .int x4), (5, .int x5)] [] := by
  have hL := hC.2.2.2.2.2.2.1
  unfold t_X1_readNumber_79 at hf
  refine V_iinc (v := x5 + 1) (lv' := [(5, .int (x5 + 1)), (0, .ref (yo Y 1)), (1, .int p1), (2, .int p2), (3, .int x3), (4, .int x4)]) 5 hC dX1_readNumber_79 rfl rfl (by decide) rfl ?_
  refine V_goto (tgt := 20) hC dX1_readNumber_82 (by decide) ?_
  exact V_sub [1, 2, 3, 4, 5, 0] rfl (hk20 x3 x4 (x5 + 1) d hf)
def t_X1_readNumber_20 (L : Nat → Nat) (p1 : Int32) (p2 : Int32) (k20 : Int32 → Int32 → Int32 → (Dt) → Option (Int32 × Dt)) (x3 : Int32) (x4 : Int32) (x5 : Int32) (d : Dt) : Option (Int32 × Dt) := if (gF d 1 1) ≤ x5 then t_X1_readNumber_85 L p1 p2  x3 x4 d else gd (inb x5 (L (32 * 1 + 3))) (if (gA d (32 * 1 + 3) (ix x5)) < 48 then t_X1_readNumber_85 L p1 p2  x3 x4 d else gd (inb x5 (L (32 * 1 + 3))) (if 57 < (gA d (32 * 1 + 3) (ix x5)) then t_X1_readNumber_85 L p1 p2  x3 x4 d else if 2 < (x3 + 1) then t_X1_readNumber_79 L p1 p2 k20 (x3 + 1) x4 x5 d else gd (inb x5 (L (32 * 1 + 3))) (bd ((x4 * 10) + ((gA d (32 * 1 + 3) (ix x5)) - 48)) (fun y10 => t_X1_readNumber_79 L p1 p2 k20 (x3 + 1) y10 x5 d))))
set_option maxRecDepth 20000 in
theorem b_X1_readNumber_20 {K : Kx} {Y : Yx} {z : Sh}  (hC : CK K Y cX1_readNumber 6 RX1 1 22) (hr : (kme K).sig.returnType = some .int) (hA : kA K = aY Y z) {p1 : Int32} {p2 : Int32} (ho : (0, 1, 1) ∈ yI Y) {r : Int32} {d' : Dt} (hQ : kQ K = MQ (kb K) (QM Y z (some (.int r)) d') (ka K) (ks K) 0 0 (aY Y z)) {k20 : Int32 → Int32 → Int32 → (Dt) → Option (Int32 × Dt)} (hk20 : ∀ (x3 : Int32) (x4 : Int32) (x5 : Int32) (d : Dt), k20 x3 x4 x5 d = some (r, d') → V K Y 6 0 0 z d 20 [(0, .ref (yo Y 1)), (1, .int p1), (2, .int p2), (3, .int x3), (4, .int x4), (5, .int x5)] []) (x3 : Int32) (x4 : Int32) (x5 : Int32) (d : Dt) (hf : t_X1_readNumber_20 z.1 p1 p2 k20 x3 x4 x5 d = some (r, d')) : V K Y 6 0 0 z d 20 [(0, .ref (yo Y 1)), (1, .int p1), (2, .int p2), (3, .int x3), (4, .int x4), (5, .int x5)] [] := by
  have hL := hC.2.2.2.2.2.2.1
  unfold t_X1_readNumber_20 at hf
  refine V_iload 5 hC dX1_readNumber_20 rfl ?_
  refine V_aload_n 0 hC dX1_readNumber_22 rfl rfl ?_
  refine V_geti (o := 1) hC ho rfl fk_X1_18 dX1_readNumber_23 ?_
  refine V_icmp_ge (tgt := 85) hC dX1_readNumber_26 (by decide) (fun c3 => ?_) (fun c3 => ?_)
  · have hf := if_t hf c3
    exact V_sub [0, 1, 2, 3, 4] rfl (b_X1_readNumber_85 hC hr hA ho hQ  x3 x4 d hf)
  · have hf := if_f hf c3
    refine V_aload_n 0 hC dX1_readNumber_29 rfl rfl ?_
    refine V_geta (o := 1) hC ho rfl fk_X1_25 dX1_readNumber_30 ?_
    refine V_iload 5 hC dX1_readNumber_33 rfl ?_
    obtain ⟨g4, hf⟩ := gd_some hf
    refine V_bald (a := (32 * 1 + 3)) hC (hL.row ho rfl) g4 dX1_readNumber_35 ?_
    refine V_bipush (v := 48) hC dX1_readNumber_36 rfl ?_
    refine V_icmp_lt (tgt := 85) hC dX1_readNumber_38 (by decide) (fun c5 => ?_) (fun c5 => ?_)
    · have hf := if_t hf c5
      exact V_sub [0, 1, 2, 3, 4] rfl (b_X1_readNumber_85 hC hr hA ho hQ  x3 x4 d hf)
    · have hf := if_f hf c5
      refine V_aload_n 0 hC dX1_readNumber_41 rfl rfl ?_
      refine V_geta (o := 1) hC ho rfl fk_X1_25 dX1_readNumber_42 ?_
      refine V_iload 5 hC dX1_readNumber_45 rfl ?_
      obtain ⟨g6, hf⟩ := gd_some hf
      refine V_bald (a := (32 * 1 + 3)) hC (hL.row ho rfl) g6 dX1_readNumber_47 ?_
      refine V_bipush (v := 57) hC dX1_readNumber_48 rfl ?_
      refine V_icmp_gt (tgt := 85) hC dX1_readNumber_50 (by decide) (fun c7 => ?_) (fun c7 => ?_)
      · have hf := if_t hf c7
        exact V_sub [0, 1, 2, 3, 4] rfl (b_X1_readNumber_85 hC hr hA ho hQ  x3 x4 d hf)
      · have hf := if_f hf c7
        refine V_iinc (v := x3 + 1) (lv' := [(3, .int (x3 + 1)), (0, .ref (yo Y 1)), (1, .int p1), (2, .int p2), (4, .int x4), (5, .int x5)]) 3 hC dX1_readNumber_53 rfl rfl (by decide) rfl ?_
        refine V_iload_n 0 hC dX1_readNumber_56 rfl rfl ?_
        refine V_iconst (v := 2) hC dX1_readNumber_57 rfl ?_
        refine V_icmp_gt (tgt := 79) hC dX1_readNumber_58 (by decide) (fun c8 => ?_) (fun c8 => ?_)
        · have hf := if_t hf c8
          exact V_sub [1, 2, 3, 0, 4, 5] rfl (b_X1_readNumber_79 hC hr hA ho hQ hk20 (x3 + 1) x4 x5 d hf)
        · have hf := if_f hf c8
          refine V_iload 4 hC dX1_readNumber_61 rfl ?_
          refine V_bipush (v := 10) hC dX1_readNumber_63 rfl ?_
          refine V_imul hC dX1_readNumber_65 ?_
          refine V_aload_n 1 hC dX1_readNumber_66 rfl rfl ?_
          refine V_geta (o := 1) hC ho rfl fk_X1_25 dX1_readNumber_67 ?_
          refine V_iload 5 hC dX1_readNumber_70 rfl ?_
          obtain ⟨g9, hf⟩ := gd_some hf
          refine V_bald (a := (32 * 1 + 3)) hC (hL.row ho rfl) g9 dX1_readNumber_72 ?_
          refine V_bipush (v := 48) hC dX1_readNumber_73 rfl ?_
          refine V_isub hC dX1_readNumber_75 ?_
          refine V_iadd hC dX1_readNumber_76 ?_
          refine V_topi (fun y10 ey10 => ?_)
          have hf := bd_e hf y10 ey10
          refine V_istore (lv' := [(4, .int y10), (3, .int (x3 + 1)), (0, .ref (yo Y 1)), (1, .int p1), (2, .int p2), (5, .int x5)]) hC dX1_readNumber_77 (by decide) rfl ?_
          exact V_sub [2, 3, 4, 1, 0, 5] rfl (b_X1_readNumber_79 hC hr hA ho hQ hk20 (x3 + 1) y10 x5 d hf)
def t_X1_readNumber (L : Nat → Nat) (d : Dt) (p1 : Int32) (p2 : Int32) : Option (Int32 × Dt) := if (gF d 1 5) = 0 then bd (gF d 1 4) (fun y2 => lp (fun k x => t_X1_readNumber_20 L p1 p2  (fun x3 x4 x5 d => k (x3, x4, x5, d)) x.1 x.2.1 x.2.2.1 x.2.2.2) FU (0, 0, y2, d)) else some (p1, d)
set_option maxRecDepth 20000 in
theorem c_X1_readNumber {l : Launch} {Y : Yx} (hL : LAY Y) {z : Sh} {d : Dt} {p1 : Int32} {p2 : Int32} (ho : (0, 1, 1) ∈ yI Y) {r : Int32} {d' : Dt} (hf : t_X1_readNumber z.1 d p1 p2 = some (r, d')) : MM l yX1_readNumber cX1_readNumber 6 (some .int) 1 22 Y z [.ref (yo Y 1), .int p1, .int p2] d (some (.int r)) d' := by
  refine MM.ofV (by decide +kernel) hL (Nat.le_of_ble_eq_true rfl) (fun K hl hC hr hQ hA => ?_)
  have hC : CK K Y cX1_readNumber 6 RX1 1 22 := hC
  unfold t_X1_readNumber at hf
  show V K Y 6 0 0 z d 0 [(0, .ref (yo Y 1)), (1, .int p1), (2, .int p2)] []
  refine V_aload_n 0 hC dX1_readNumber_0 rfl rfl ?_
  refine V_geti (o := 1) hC ho rfl fk_X1_32 dX1_readNumber_1 ?_
  refine V_if_eq (tgt := 9) hC dX1_readNumber_4 (by decide) (fun c1 => ?_) (fun c1 => ?_)
  · have hf := if_t hf c1
    refine V_iconst (v := 0) hC dX1_readNumber_9 rfl ?_
    refine V_istore_n (lv' := [(3, .int 0), (0, .ref (yo Y 1)), (1, .int p1), (2, .int p2)]) hC dX1_readNumber_10 rfl (by decide) rfl ?_
    refine V_iconst (v := 0) hC dX1_readNumber_11 rfl ?_
    refine V_istore (lv' := [(4, .int 0), (3, .int 0), (0, .ref (yo Y 1)), (1, .int p1), (2, .int p2)]) hC dX1_readNumber_12 (by decide) rfl ?_
    refine V_aload_n 2 hC dX1_readNumber_14 rfl rfl ?_
    refine V_geti (o := 1) hC ho rfl fk_X1_29 dX1_readNumber_15 ?_
    refine V_topi (fun y2 ey2 => ?_)
    have hf := bd_e hf y2 ey2
    refine V_istore (lv' := [(5, .int y2), (4, .int 0), (3, .int 0), (0, .ref (yo Y 1)), (1, .int p1), (2, .int p2)]) hC dX1_readNumber_18 (by decide) rfl ?_
    exact V_sub [3, 4, 5, 2, 1, 0] rfl (lp_ind (X := Int32 × Int32 × Int32 × Dt) (P := fun x => V K Y 6 0 0 z x.2.2.2 20 [(0, .ref (yo Y 1)), (1, .int p1), (2, .int p2), (3, .int x.1), (4, .int x.2.1), (5, .int x.2.2.1)] []) (fun k x hk hx => b_X1_readNumber_20 hC hr hA ho hQ  (k20 := fun x3 x4 x5 d => k (x3, x4, x5, d)) (fun x3 x4 x5 d hx => hk (x3, x4, x5, d) hx) x.1 x.2.1 x.2.2.1 x.2.2.2 hx) FU (0, 0, y2, d) hf)
  · have hf := if_f hf c1
    refine V_iload_n 1 hC dX1_readNumber_7 rfl rfl ?_
    obtain ⟨rfl, rfl⟩ := so_inj2 hf
    exact V_iret hC hr hQ hA dX1_readNumber_8
def t_X1_closeClause_41 (L : Nat → Nat)   (d : Dt) : Option (Dt) := (t_X1_fail L d 1 (gF d 1 4)).bind (fun d6 => some d6)
set_option maxRecDepth 20000 in
theorem b_X1_closeClause_41 {K : Kx} {Y : Yx} {z : Sh}  (hC : CK K Y cX1_closeClause 1 RX1 1 22) (hr : (kme K).sig.returnType = none) (hA : kA K = aY Y z)  (ho : (0, 1, 1) ∈ yI Y) {d' : Dt} (hQ : kQ K = MQ (kb K) (QM Y z (none) d') (ka K) (ks K) 0 0 (aY Y z))    (d : Dt) (hf : t_X1_closeClause_41 z.1   d = some d') : V K Y 1 0 0 z d 41 [(0, .ref (yo Y 1))] [] := by
  have hL := hC.2.2.2.2.2.2.1
  have hkn : 0 ≤ (kR K).cells ∧ 0 ≤ (kR K).slots := ⟨Nat.zero_le _, Nat.zero_le _⟩
  unfold t_X1_closeClause_41 at hf
  refine V_aload_n 0 hC dX1_closeClause_41 rfl rfl ?_
  refine V_iconst (v := 1) hC dX1_closeClause_42 rfl ?_
  refine V_aload_n 0 hC dX1_closeClause_43 rfl rfl ?_
  refine V_geti (o := 1) hC ho rfl fk_X1_29 dX1_closeClause_44 ?_
  obtain ⟨d6, ed6, hf⟩ := bi_some hf
  refine V_invv (o := 1) (As := [.int 1, .int (gF d 1 4)]) (rest := []) hC (c_X1_fail hL ho ed6) me_X1_fail lk_X1_70 ho rfl rfl rfl (Nat.le_of_ble_eq_true rfl) ⟨by decide, by decide⟩ hkn dX1_closeClause_47 ?_
  obtain rfl := so_inj hf
  exact V_vret hC hr hQ hA dX1_closeClause_50
def t_X1_closeClause (L : Nat → Nat) (d : Dt)  : Option (Dt) := if (gF d 1 5) = 0 then if (gF d 1 1) ≤ (gF d 1 4) then t_X1_closeClause_41 L  d else gd (inb (gF d 1 4) (L (32 * 1 + 3))) (if (gA d (32 * 1 + 3) (ix (gF d 1 4))) = 59 then (t_X1_pass L d 1).bind (fun d5 => some d5) else t_X1_closeClause_41 L  d) else some d
set_option maxRecDepth 20000 in
theorem c_X1_closeClause {l : Launch} {Y : Yx} (hL : LAY Y) {z : Sh} {d : Dt}  (ho : (0, 1, 1) ∈ yI Y) {d' : Dt} (hf : t_X1_closeClause z.1 d  = some d') : MM l yX1_closeClause cX1_closeClause 1 none 1 22 Y z [.ref (yo Y 1)] d (none) d' := by
  refine MM.ofV (by decide +kernel) hL (Nat.le_of_ble_eq_true rfl) (fun K hl hC hr hQ hA => ?_)
  have hC : CK K Y cX1_closeClause 1 RX1 1 22 := hC
  have hkn : 0 ≤ (kR K).cells ∧ 0 ≤ (kR K).slots := ⟨Nat.zero_le _, Nat.zero_le _⟩
  unfold t_X1_closeClause at hf
  show V K Y 1 0 0 z d 0 [(0, .ref (yo Y 1))] []
  refine V_aload_n 0 hC dX1_closeClause_0 rfl rfl ?_
  refine V_geti (o := 1) hC ho rfl fk_X1_32 dX1_closeClause_1 ?_
  refine V_if_eq (tgt := 8) hC dX1_closeClause_4 (by decide) (fun c1 => ?_) (fun c1 => ?_)
  · have hf := if_t hf c1
    refine V_aload_n 0 hC dX1_closeClause_8 rfl rfl ?_
    refine V_geti (o := 1) hC ho rfl fk_X1_29 dX1_closeClause_9 ?_
    refine V_aload_n 0 hC dX1_closeClause_12 rfl rfl ?_
    refine V_geti (o := 1) hC ho rfl fk_X1_18 dX1_closeClause_13 ?_
    refine V_icmp_ge (tgt := 41) hC dX1_closeClause_16 (by decide) (fun c2 => ?_) (fun c2 => ?_)
    · have hf := if_t hf c2
      exact b_X1_closeClause_41 hC hr hA ho hQ  d hf
    · have hf := if_f hf c2
      refine V_aload_n 0 hC dX1_closeClause_19 rfl rfl ?_
      refine V_geta (o := 1) hC ho rfl fk_X1_25 dX1_closeClause_20 ?_
      refine V_aload_n 0 hC dX1_closeClause_23 rfl rfl ?_
      refine V_geti (o := 1) hC ho rfl fk_X1_29 dX1_closeClause_24 ?_
      obtain ⟨g3, hf⟩ := gd_some hf
      refine V_bald (a := (32 * 1 + 3)) hC (hL.row ho rfl) g3 dX1_closeClause_27 ?_
      refine V_bipush (v := 59) hC dX1_closeClause_28 rfl ?_
      refine V_icmp_ne (tgt := 41) hC dX1_closeClause_30 (by decide) (fun c4 => ?_) (fun c4 => ?_)
      · have hf := if_f hf c4
        exact b_X1_closeClause_41 hC hr hA ho hQ  d hf
      · have hf := if_t hf c4
        refine V_aload_n 0 hC dX1_closeClause_33 rfl rfl ?_
        refine V_iconst (v := 1) hC dX1_closeClause_34 rfl ?_
        obtain ⟨d5, ed5, hf⟩ := bi_some hf
        refine V_invv (o := 1) (As := [.int 1]) (rest := []) hC (c_X1_pass hL ho ed5) me_X1_pass lk_X1_52 ho rfl rfl rfl (Nat.le_of_ble_eq_true rfl) ⟨by decide, by decide⟩ hkn dX1_closeClause_35 ?_
        refine V_goto (tgt := 50) hC dX1_closeClause_38 (by decide) ?_
        obtain rfl := so_inj hf
        exact V_vret hC hr hQ hA dX1_closeClause_50
  · have hf := if_f hf c1
    obtain rfl := so_inj hf
    exact V_vret hC hr hQ hA dX1_closeClause_7
def t_X1_readHealth (L : Nat → Nat) (d : Dt)  : Option (Dt) := if (gF d 1 6) = 0 then bd (sF d 1 6 1) (fun d2 => (t_J0_length_8abf5 L d2 0).bind (fun v3 => (t_X1_pass L d2 v3).bind (fun d4 => (t_X1_readNumber L d4 1 9).bind (fun q5 => bd (sF q5.2 5 1 q5.1) (fun d6 => (t_X1_closeClause L d6 ).bind (fun d7 => some d7)))))) else (t_X1_fail L d 3 (gF d 1 4)).bind (fun d8 => some d8)
set_option maxRecDepth 20000 in
theorem c_X1_readHealth {l : Launch} {Y : Yx} (hL : LAY Y) {z : Sh} {d : Dt}  (ho : (0, 1, 1) ∈ yI Y) {d' : Dt} (hf : t_X1_readHealth z.1 d  = some d') : MM l yX1_readHealth cX1_readHealth 1 none 2 47 Y z [.ref (yo Y 1)] d (none) d' := by
  refine MM.ofV (by decide +kernel) hL (Nat.le_of_ble_eq_true rfl) (fun K hl hC hr hQ hA => ?_)
  have hC : CK K Y cX1_readHealth 1 RX1 2 47 := hC
  have hkn : 0 ≤ (kR K).cells ∧ 0 ≤ (kR K).slots := ⟨Nat.zero_le _, Nat.zero_le _⟩
  unfold t_X1_readHealth at hf
  show V K Y 1 0 0 z d 0 [(0, .ref (yo Y 1))] []
  refine V_aload_n 0 hC dX1_readHealth_0 rfl rfl ?_
  refine V_geti (o := 1) hC ho rfl fk_X1_35 dX1_readHealth_1 ?_
  refine V_if_eq (tgt := 17) hC dX1_readHealth_4 (by decide) (fun c1 => ?_) (fun c1 => ?_)
  · have hf := if_t hf c1
    refine V_aload_n 0 hC dX1_readHealth_17 rfl rfl ?_
    refine V_iconst (v := 1) hC dX1_readHealth_18 rfl ?_
    refine V_putz (o := 1) hC ho rfl fk_X1_35 pl_X1 rfl rfl rfl dX1_readHealth_19 (fun d2 ed2 => ?_)
    have hf := bd_e hf d2 ed2
    refine V_aload_n 0 hC dX1_readHealth_22 rfl rfl ?_
    refine V_ldcS (i := 0) hC rfl dX1_readHealth_23 ?_
    obtain ⟨v3, ev3, hf⟩ := bi_some hf
    refine V_invSi (i := 0) (As := []) (rest := [.ref (yo Y 1)]) hC (c_J0_length_8abf5 hL (show 0 < 12 by decide) ev3) me_J0_length_8abf5 lk_X1_77 (show 0 < 12 by decide) rfl rfl (Nat.le_of_ble_eq_true rfl) ⟨by decide, by decide⟩ hkn dX1_readHealth_25 ?_
    obtain ⟨d4, ed4, hf⟩ := bi_some hf
    refine V_invv (o := 1) (As := [.int v3]) (rest := []) hC (c_X1_pass hL ho ed4) me_X1_pass lk_X1_52 ho rfl rfl rfl (Nat.le_of_ble_eq_true rfl) ⟨by decide, by decide⟩ hkn dX1_readHealth_28 ?_
    refine V_aload_n 0 hC dX1_readHealth_31 rfl rfl ?_
    refine V_geto (o := 1) (o2 := 5) hC ho rfl fk_X1_12 rfl dX1_readHealth_32 ?_
    refine V_aload_n 0 hC dX1_readHealth_35 rfl rfl ?_
    refine V_iconst (v := 1) hC dX1_readHealth_36 rfl ?_
    refine V_bipush (v := 9) hC dX1_readHealth_37 rfl ?_
    obtain ⟨q5, eq5, hf⟩ := bi_some hf
    refine V_invi (o := 1) (As := [.int 1, .int 9]) (rest := [.ref (yo Y 5)]) hC (c_X1_readNumber hL ho eq5) me_X1_readNumber lk_X1_83 ho rfl rfl rfl (Nat.le_of_ble_eq_true rfl) ⟨by decide, by decide⟩ hkn dX1_readHealth_39 ?_
    refine V_puti (o := 5) hC (show (0, 5, 0) ∈ yI Y from hL.obj (j := 0) ho rfl) rfl fk_X1_87 pl_X0 rfl rfl dX1_readHealth_42 (fun d6 ed6 => ?_)
    have hf := bd_e hf d6 ed6
    refine V_aload_n 0 hC dX1_readHealth_45 rfl rfl ?_
    obtain ⟨d7, ed7, hf⟩ := bi_some hf
    refine V_invv (o := 1) (As := []) (rest := []) hC (c_X1_closeClause hL ho ed7) me_X1_closeClause lk_X1_89 ho rfl rfl rfl (Nat.le_of_ble_eq_true rfl) ⟨by decide, by decide⟩ hkn dX1_readHealth_46 ?_
    obtain rfl := so_inj hf
    exact V_vret hC hr hQ hA dX1_readHealth_49
  · have hf := if_f hf c1
    refine V_aload_n 0 hC dX1_readHealth_7 rfl rfl ?_
    refine V_iconst (v := 3) hC dX1_readHealth_8 rfl ?_
    refine V_aload_n 0 hC dX1_readHealth_9 rfl rfl ?_
    refine V_geti (o := 1) hC ho rfl fk_X1_29 dX1_readHealth_10 ?_
    obtain ⟨d8, ed8, hf⟩ := bi_some hf
    refine V_invv (o := 1) (As := [.int 3, .int (gF d 1 4)]) (rest := []) hC (c_X1_fail hL ho ed8) me_X1_fail lk_X1_70 ho rfl rfl rfl (Nat.le_of_ble_eq_true rfl) ⟨by decide, by decide⟩ hkn dX1_readHealth_13 ?_
    obtain rfl := so_inj hf
    exact V_vret hC hr hQ hA dX1_readHealth_16
def t_X1_effectHere (L : Nat → Nat) (d : Dt)  : Option (Int32) := (t_X1_isWord L d 2).bind (fun v1 => if v1 = 0 then (t_X1_isWord L d 3).bind (fun v3 => if v3 = 0 then (t_X1_isWord L d 4).bind (fun v5 => if v5 = 0 then (t_X1_isWord L d 5).bind (fun v7 => if v7 = 0 then some (-1) else some 3) else some 2) else some 1) else some 0)
set_option maxRecDepth 20000 in
theorem c_X1_effectHere {l : Launch} {Y : Yx} (hL : LAY Y) {z : Sh} {d : Dt}  (ho : (0, 1, 1) ∈ yI Y) {r : Int32} (hf : t_X1_effectHere z.1 d  = some r) : MM l yX1_effectHere cX1_effectHere 1 (some .int) 5 108 Y z [.ref (yo Y 1)] d (some (.int r)) d := by
  refine MM.ofV (by decide +kernel) hL (Nat.le_of_ble_eq_true rfl) (fun K hl hC hr hQ hA => ?_)
  have hC : CK K Y cX1_effectHere 1 RX1 5 108 := hC
  have hkn : 0 ≤ (kR K).cells ∧ 0 ≤ (kR K).slots := ⟨Nat.zero_le _, Nat.zero_le _⟩
  unfold t_X1_effectHere at hf
  show V K Y 1 0 0 z d 0 [(0, .ref (yo Y 1))] []
  refine V_aload_n 0 hC dX1_effectHere_0 rfl rfl ?_
  refine V_ldcS (i := 2) hC rfl dX1_effectHere_1 ?_
  obtain ⟨v1, ev1, hf⟩ := bi_some hf
  refine V_invi (o := 1) (As := [.ref (yK Y 2)]) (rest := []) hC (c_X1_isWord hL ho (show 2 < 12 by decide) ev1) me_X1_isWord lk_X1_58 ho rfl rfl rfl (Nat.le_of_ble_eq_true rfl) ⟨by decide, by decide⟩ hkn dX1_effectHere_3 ?_
  refine V_if_eq (tgt := 11) hC dX1_effectHere_6 (by decide) (fun c2 => ?_) (fun c2 => ?_)
  · have hf := if_t hf c2
    refine V_aload_n 0 hC dX1_effectHere_11 rfl rfl ?_
    refine V_ldcS (i := 3) hC rfl dX1_effectHere_12 ?_
    obtain ⟨v3, ev3, hf⟩ := bi_some hf
    refine V_invi (o := 1) (As := [.ref (yK Y 3)]) (rest := []) hC (c_X1_isWord hL ho (show 3 < 12 by decide) ev3) me_X1_isWord lk_X1_58 ho rfl rfl rfl (Nat.le_of_ble_eq_true rfl) ⟨by decide, by decide⟩ hkn dX1_effectHere_14 ?_
    refine V_if_eq (tgt := 22) hC dX1_effectHere_17 (by decide) (fun c4 => ?_) (fun c4 => ?_)
    · have hf := if_t hf c4
      refine V_aload_n 0 hC dX1_effectHere_22 rfl rfl ?_
      refine V_ldcS (i := 4) hC rfl dX1_effectHere_23 ?_
      obtain ⟨v5, ev5, hf⟩ := bi_some hf
      refine V_invi (o := 1) (As := [.ref (yK Y 4)]) (rest := []) hC (c_X1_isWord hL ho (show 4 < 12 by decide) ev5) me_X1_isWord lk_X1_58 ho rfl rfl rfl (Nat.le_of_ble_eq_true rfl) ⟨by decide, by decide⟩ hkn dX1_effectHere_25 ?_
      refine V_if_eq (tgt := 33) hC dX1_effectHere_28 (by decide) (fun c6 => ?_) (fun c6 => ?_)
      · have hf := if_t hf c6
        refine V_aload_n 0 hC dX1_effectHere_33 rfl rfl ?_
        refine V_ldcS (i := 5) hC rfl dX1_effectHere_34 ?_
        obtain ⟨v7, ev7, hf⟩ := bi_some hf
        refine V_invi (o := 1) (As := [.ref (yK Y 5)]) (rest := []) hC (c_X1_isWord hL ho (show 5 < 12 by decide) ev7) me_X1_isWord lk_X1_58 ho rfl rfl rfl (Nat.le_of_ble_eq_true rfl) ⟨by decide, by decide⟩ hkn dX1_effectHere_36 ?_
        refine V_if_eq (tgt := 46) hC dX1_effectHere_39 (by decide) (fun c8 => ?_) (fun c8 => ?_)
        · have hf := if_t hf c8
          refine V_iconst (v := -1) hC dX1_effectHere_46 rfl ?_
          obtain rfl := so_inj hf
          exact V_iret hC hr hQ hA dX1_effectHere_47
        · have hf := if_f hf c8
          refine V_iconst (v := 3) hC dX1_effectHere_42 rfl ?_
          refine V_goto (tgt := 47) hC dX1_effectHere_43 (by decide) ?_
          obtain rfl := so_inj hf
          exact V_iret hC hr hQ hA dX1_effectHere_47
      · have hf := if_f hf c6
        refine V_iconst (v := 2) hC dX1_effectHere_31 rfl ?_
        obtain rfl := so_inj hf
        exact V_iret hC hr hQ hA dX1_effectHere_32
    · have hf := if_f hf c4
      refine V_iconst (v := 1) hC dX1_effectHere_20 rfl ?_
      obtain rfl := so_inj hf
      exact V_iret hC hr hQ hA dX1_effectHere_21
  · have hf := if_f hf c2
    refine V_iconst (v := 0) hC dX1_effectHere_9 rfl ?_
    obtain rfl := so_inj hf
    exact V_iret hC hr hQ hA dX1_effectHere_10
def t_X1_readEffects_87 (L : Nat → Nat) (p1 : Int32) (k2 : Int32 → (Dt) → Option (Dt)) (x2 : Int32) (x3 : Int32) (s0 : Int32) (d : Dt) : Option (Dt) := (t_X0_addEffect L d 5 p1 x3 s0).bind (fun d14 => k2 (x2 + 1) d14)
set_option maxRecDepth 20000 in
theorem b_X1_readEffects_87 {K : Kx} {Y : Yx} {z : Sh}  (hC : CK K Y cX1_readEffects 6 RX1 6 128) (hr : (kme K).sig.returnType = none) (hA : kA K = aY Y z) {p1 : Int32} (ho : (0, 1, 1) ∈ yI Y) {d' : Dt} (hQ : kQ K = MQ (kb K) (QM Y z (none) d') (ka K) (ks K) 0 0 (aY Y z)) {k2 : Int32 → (Dt) → Option (Dt)} (hk2 : ∀ (x2 : Int32) (d : Dt), k2 x2 d = some d' → V K Y 6 0 0 z d 2 [(0, .ref (yo Y 1)), (1, .int p1), (2, .int x2)] []) (x2 : Int32) (x3 : Int32) (s0 : Int32) (d : Dt) (hf : t_X1_readEffects_87 z.1 p1 k2 x2 x3 s0 d = some d') : V K Y 6 0 0 z d 87 [(0, .ref (yo Y 1)), (1, .int p1), (2, .int x2), (3, .int x3)] [.int s0] := by
  have hL := hC.2.2.2.2.2.2.1
  have hkn : 0 ≤ (kR K).cells ∧ 0 ≤ (kR K).slots := ⟨Nat.zero_le _, Nat.zero_le _⟩
  unfold t_X1_readEffects_87 at hf
  refine V_istore (lv' := [(5, .int s0), (0, .ref (yo Y 1)), (1, .int p1), (2, .int x2), (3, .int x3)]) hC dX1_readEffects_87 (by decide) rfl ?_
  refine V_aload_n 1 hC dX1_readEffects_89 rfl rfl ?_
  refine V_geto (o := 1) (o2 := 5) hC ho rfl fk_X1_12 rfl dX1_readEffects_90 ?_
  refine V_iload_n 2 hC dX1_readEffects_93 rfl rfl ?_
  refine V_iload_n 4 hC dX1_readEffects_94 rfl rfl ?_
  refine V_iload 0 hC dX1_readEffects_95 rfl ?_
  obtain ⟨d14, ed14, hf⟩ := bi_some hf
  refine V_invv (o := 5) (As := [.int p1, .int x3, .int s0]) (rest := []) hC (c_X0_addEffect hL (show (0, 5, 0) ∈ yI Y from hL.obj (j := 0) ho rfl) ed14) me_X0_addEffect lk_X1_109 (show (0, 5, 0) ∈ yI Y from hL.obj (j := 0) ho rfl) rfl rfl rfl (Nat.le_of_ble_eq_true rfl) ⟨by decide, by decide⟩ hkn dX1_readEffects_97 ?_
  refine V_iinc (v := x2 + 1) (lv' := [(2, .int (x2 + 1)), (5, .int s0), (0, .ref (yo Y 1)), (1, .int p1), (3, .int x3)]) 3 hC dX1_readEffects_100 rfl rfl (by decide) rfl ?_
  refine V_goto (tgt := 2) hC dX1_readEffects_103 (by decide) ?_
  exact V_sub [2, 3, 0] rfl (hk2 (x2 + 1) d14 hf)
def t_X1_readEffects_63 (L : Nat → Nat) (p1 : Int32) (k2 : Int32 → (Dt) → Option (Dt)) (x2 : Int32) (x3 : Int32) (s0 : Int32) (d : Dt) : Option (Dt) := if s0 = 0 then (t_X1_readNumber L d 1 9).bind (fun q12 => t_X1_readEffects_87 L p1 k2 x2 x3 q12.1 q12.2) else (t_X1_readNumber L d 0 7).bind (fun q13 => t_X1_readEffects_87 L p1 k2 x2 x3 q13.1 q13.2)
set_option maxRecDepth 20000 in
theorem b_X1_readEffects_63 {K : Kx} {Y : Yx} {z : Sh}  (hC : CK K Y cX1_readEffects 6 RX1 6 128) (hr : (kme K).sig.returnType = none) (hA : kA K = aY Y z) {p1 : Int32} (ho : (0, 1, 1) ∈ yI Y) {d' : Dt} (hQ : kQ K = MQ (kb K) (QM Y z (none) d') (ka K) (ks K) 0 0 (aY Y z)) {k2 : Int32 → (Dt) → Option (Dt)} (hk2 : ∀ (x2 : Int32) (d : Dt), k2 x2 d = some d' → V K Y 6 0 0 z d 2 [(0, .ref (yo Y 1)), (1, .int p1), (2, .int x2)] []) (x2 : Int32) (x3 : Int32) (s0 : Int32) (d : Dt) (hf : t_X1_readEffects_63 z.1 p1 k2 x2 x3 s0 d = some d') : V K Y 6 0 0 z d 63 [(0, .ref (yo Y 1)), (1, .int p1), (2, .int x2), (3, .int x3)] [.int s0] := by
  have hL := hC.2.2.2.2.2.2.1
  have hkn : 0 ≤ (kR K).cells ∧ 0 ≤ (kR K).slots := ⟨Nat.zero_le _, Nat.zero_le _⟩
  unfold t_X1_readEffects_63 at hf
  refine V_istore (lv' := [(4, .int s0), (0, .ref (yo Y 1)), (1, .int p1), (2, .int x2), (3, .int x3)]) hC dX1_readEffects_63 (by decide) rfl ?_
  refine V_iload 0 hC dX1_readEffects_65 rfl ?_
  refine V_if_eq (tgt := 80) hC dX1_readEffects_67 (by decide) (fun c11 => ?_) (fun c11 => ?_)
  · have hf := if_t hf c11
    refine V_aload_n 1 hC dX1_readEffects_80 rfl rfl ?_
    refine V_iconst (v := 1) hC dX1_readEffects_81 rfl ?_
    refine V_bipush (v := 9) hC dX1_readEffects_82 rfl ?_
    obtain ⟨q12, eq12, hf⟩ := bi_some hf
    refine V_invi (o := 1) (As := [.int 1, .int 9]) (rest := []) hC (c_X1_readNumber hL ho eq12) me_X1_readNumber lk_X1_83 ho rfl rfl rfl (Nat.le_of_ble_eq_true rfl) ⟨by decide, by decide⟩ hkn dX1_readEffects_84 ?_
    exact V_sub [1, 2, 3, 4] rfl (b_X1_readEffects_87 hC hr hA ho hQ hk2 x2 x3 q12.1 q12.2 hf)
  · have hf := if_f hf c11
    refine V_aload_n 1 hC dX1_readEffects_70 rfl rfl ?_
    refine V_iconst (v := 0) hC dX1_readEffects_71 rfl ?_
    refine V_bipush (v := 7) hC dX1_readEffects_72 rfl ?_
    obtain ⟨q13, eq13, hf⟩ := bi_some hf
    refine V_invi (o := 1) (As := [.int 0, .int 7]) (rest := []) hC (c_X1_readNumber hL ho eq13) me_X1_readNumber lk_X1_83 ho rfl rfl rfl (Nat.le_of_ble_eq_true rfl) ⟨by decide, by decide⟩ hkn dX1_readEffects_74 ?_
    refine V_goto (tgt := 87) hC dX1_readEffects_77 (by decide) ?_
    exact V_sub [1, 2, 3, 4] rfl (b_X1_readEffects_87 hC hr hA ho hQ hk2 x2 x3 q13.1 q13.2 hf)
def t_X1_readEffects_58 (L : Nat → Nat) (p1 : Int32) (k2 : Int32 → (Dt) → Option (Dt)) (x2 : Int32) (x3 : Int32) (d : Dt) : Option (Dt) := t_X1_readEffects_63 L p1 k2 x2 x3 1 d
set_option maxRecDepth 20000 in
theorem b_X1_readEffects_58 {K : Kx} {Y : Yx} {z : Sh}  (hC : CK K Y cX1_readEffects 6 RX1 6 128) (hr : (kme K).sig.returnType = none) (hA : kA K = aY Y z) {p1 : Int32} (ho : (0, 1, 1) ∈ yI Y) {d' : Dt} (hQ : kQ K = MQ (kb K) (QM Y z (none) d') (ka K) (ks K) 0 0 (aY Y z)) {k2 : Int32 → (Dt) → Option (Dt)} (hk2 : ∀ (x2 : Int32) (d : Dt), k2 x2 d = some d' → V K Y 6 0 0 z d 2 [(0, .ref (yo Y 1)), (1, .int p1), (2, .int x2)] []) (x2 : Int32) (x3 : Int32) (d : Dt) (hf : t_X1_readEffects_58 z.1 p1 k2 x2 x3 d = some d') : V K Y 6 0 0 z d 58 [(0, .ref (yo Y 1)), (1, .int p1), (2, .int x2), (3, .int x3)] [] := by
  have hL := hC.2.2.2.2.2.2.1
  unfold t_X1_readEffects_58 at hf
  refine V_iconst (v := 1) hC dX1_readEffects_58 rfl ?_
  refine V_goto (tgt := 63) hC dX1_readEffects_59 (by decide) ?_
  exact b_X1_readEffects_63 hC hr hA ho hQ hk2 x2 x3 1 d hf
def t_X1_readEffects_2 (L : Nat → Nat) (p1 : Int32) (k2 : Int32 → (Dt) → Option (Dt)) (x2 : Int32) (d : Dt) : Option (Dt) := if 4 < x2 then some d else if (gF d 1 5) = 0 then (t_X1_effectHere L d ).bind (fun v3 => if v3 = (-1) then some d else if x2 = 4 then (t_X1_fail L d 3 (gF d 1 4)).bind (fun d10 => some d10) else (t_J0_length_8abf5 L d 2).bind (fun v6 => (t_X1_pass L d v6).bind (fun d7 => if v3 = 0 then t_X1_readEffects_58 L p1 k2 x2 v3 d7 else if v3 = 1 then t_X1_readEffects_58 L p1 k2 x2 v3 d7 else t_X1_readEffects_63 L p1 k2 x2 v3 0 d7))) else some d
set_option maxRecDepth 20000 in
theorem b_X1_readEffects_2 {K : Kx} {Y : Yx} {z : Sh}  (hC : CK K Y cX1_readEffects 6 RX1 6 128) (hr : (kme K).sig.returnType = none) (hA : kA K = aY Y z) {p1 : Int32} (ho : (0, 1, 1) ∈ yI Y) {d' : Dt} (hQ : kQ K = MQ (kb K) (QM Y z (none) d') (ka K) (ks K) 0 0 (aY Y z)) {k2 : Int32 → (Dt) → Option (Dt)} (hk2 : ∀ (x2 : Int32) (d : Dt), k2 x2 d = some d' → V K Y 6 0 0 z d 2 [(0, .ref (yo Y 1)), (1, .int p1), (2, .int x2)] []) (x2 : Int32) (d : Dt) (hf : t_X1_readEffects_2 z.1 p1 k2 x2 d = some d') : V K Y 6 0 0 z d 2 [(0, .ref (yo Y 1)), (1, .int p1), (2, .int x2)] [] := by
  have hL := hC.2.2.2.2.2.2.1
  have hkn : 0 ≤ (kR K).cells ∧ 0 ≤ (kR K).slots := ⟨Nat.zero_le _, Nat.zero_le _⟩
  unfold t_X1_readEffects_2 at hf
  refine V_iload_n 2 hC dX1_readEffects_2 rfl rfl ?_
  refine V_iconst (v := 4) hC dX1_readEffects_3 rfl ?_
  refine V_icmp_gt (tgt := 106) hC dX1_readEffects_4 (by decide) (fun c1 => ?_) (fun c1 => ?_)
  · have hf := if_t hf c1
    obtain rfl := so_inj hf
    exact V_vret hC hr hQ hA dX1_readEffects_106
  · have hf := if_f hf c1
    refine V_aload_n 0 hC dX1_readEffects_7 rfl rfl ?_
    refine V_geti (o := 1) hC ho rfl fk_X1_32 dX1_readEffects_8 ?_
    refine V_if_ne (tgt := 106) hC dX1_readEffects_11 (by decide) (fun c2 => ?_) (fun c2 => ?_)
    · have hf := if_f hf c2
      obtain rfl := so_inj hf
      exact V_vret hC hr hQ hA dX1_readEffects_106
    · have hf := if_t hf c2
      refine V_aload_n 0 hC dX1_readEffects_14 rfl rfl ?_
      obtain ⟨v3, ev3, hf⟩ := bi_some hf
      refine V_invi (o := 1) (As := []) (rest := []) hC (c_X1_effectHere hL ho ev3) me_X1_effectHere lk_X1_104 ho rfl rfl rfl (Nat.le_of_ble_eq_true rfl) ⟨by decide, by decide⟩ hkn dX1_readEffects_15 ?_
      refine V_istore_n (lv' := [(3, .int v3), (0, .ref (yo Y 1)), (1, .int p1), (2, .int x2)]) hC dX1_readEffects_18 rfl (by decide) rfl ?_
      refine V_iload_n 0 hC dX1_readEffects_19 rfl rfl ?_
      refine V_iconst (v := -1) hC dX1_readEffects_20 rfl ?_
      refine V_icmp_ne (tgt := 25) hC dX1_readEffects_21 (by decide) (fun c4 => ?_) (fun c4 => ?_)
      · have hf := if_f hf c4
        refine V_iload_n 3 hC dX1_readEffects_25 rfl rfl ?_
        refine V_iconst (v := 4) hC dX1_readEffects_26 rfl ?_
        refine V_icmp_ne (tgt := 40) hC dX1_readEffects_27 (by decide) (fun c5 => ?_) (fun c5 => ?_)
        · have hf := if_f hf c5
          refine V_aload_n 1 hC dX1_readEffects_40 rfl rfl ?_
          refine V_ldcS (i := 2) hC rfl dX1_readEffects_41 ?_
          obtain ⟨v6, ev6, hf⟩ := bi_some hf
          refine V_invSi (i := 2) (As := []) (rest := [.ref (yo Y 1)]) hC (c_J0_length_8abf5 hL (show 2 < 12 by decide) ev6) me_J0_length_8abf5 lk_X1_77 (show 2 < 12 by decide) rfl rfl (Nat.le_of_ble_eq_true rfl) ⟨by decide, by decide⟩ hkn dX1_readEffects_43 ?_
          obtain ⟨d7, ed7, hf⟩ := bi_some hf
          refine V_invv (o := 1) (As := [.int v6]) (rest := []) hC (c_X1_pass hL ho ed7) me_X1_pass lk_X1_52 ho rfl rfl rfl (Nat.le_of_ble_eq_true rfl) ⟨by decide, by decide⟩ hkn dX1_readEffects_46 ?_
          refine V_iload_n 0 hC dX1_readEffects_49 rfl rfl ?_
          refine V_if_eq (tgt := 58) hC dX1_readEffects_50 (by decide) (fun c8 => ?_) (fun c8 => ?_)
          · have hf := if_t hf c8
            exact V_sub [1, 2, 3, 0] rfl (b_X1_readEffects_58 hC hr hA ho hQ hk2 x2 v3 d7 hf)
          · have hf := if_f hf c8
            refine V_iload_n 0 hC dX1_readEffects_53 rfl rfl ?_
            refine V_iconst (v := 1) hC dX1_readEffects_54 rfl ?_
            refine V_icmp_ne (tgt := 62) hC dX1_readEffects_55 (by decide) (fun c9 => ?_) (fun c9 => ?_)
            · have hf := if_f hf c9
              refine V_iconst (v := 0) hC dX1_readEffects_62 rfl ?_
              exact V_sub [1, 2, 3, 0] rfl (b_X1_readEffects_63 hC hr hA ho hQ hk2 x2 v3 0 d7 hf)
            · have hf := if_t hf c9
              exact V_sub [1, 2, 3, 0] rfl (b_X1_readEffects_58 hC hr hA ho hQ hk2 x2 v3 d7 hf)
        · have hf := if_t hf c5
          refine V_aload_n 1 hC dX1_readEffects_30 rfl rfl ?_
          refine V_iconst (v := 3) hC dX1_readEffects_31 rfl ?_
          refine V_aload_n 1 hC dX1_readEffects_32 rfl rfl ?_
          refine V_geti (o := 1) hC ho rfl fk_X1_29 dX1_readEffects_33 ?_
          obtain ⟨d10, ed10, hf⟩ := bi_some hf
          refine V_invv (o := 1) (As := [.int 3, .int (gF d 1 4)]) (rest := []) hC (c_X1_fail hL ho ed10) me_X1_fail lk_X1_70 ho rfl rfl rfl (Nat.le_of_ble_eq_true rfl) ⟨by decide, by decide⟩ hkn dX1_readEffects_36 ?_
          obtain rfl := so_inj hf
          exact V_vret hC hr hQ hA dX1_readEffects_39
      · have hf := if_t hf c4
        obtain rfl := so_inj hf
        exact V_vret hC hr hQ hA dX1_readEffects_24
def t_X1_readEffects (L : Nat → Nat) (d : Dt) (p1 : Int32) : Option (Dt) := lp (fun k x => t_X1_readEffects_2 L p1  (fun x2 d => k (x2, d)) x.1 x.2) FU (0, d)
set_option maxRecDepth 20000 in
theorem c_X1_readEffects {l : Launch} {Y : Yx} (hL : LAY Y) {z : Sh} {d : Dt} {p1 : Int32} (ho : (0, 1, 1) ∈ yI Y) {d' : Dt} (hf : t_X1_readEffects z.1 d p1 = some d') : MM l yX1_readEffects cX1_readEffects 6 none 6 128 Y z [.ref (yo Y 1), .int p1] d (none) d' := by
  refine MM.ofV (by decide +kernel) hL (Nat.le_of_ble_eq_true rfl) (fun K hl hC hr hQ hA => ?_)
  have hC : CK K Y cX1_readEffects 6 RX1 6 128 := hC
  unfold t_X1_readEffects at hf
  show V K Y 6 0 0 z d 0 [(0, .ref (yo Y 1)), (1, .int p1)] []
  refine V_iconst (v := 0) hC dX1_readEffects_0 rfl ?_
  refine V_istore_n (lv' := [(2, .int 0), (0, .ref (yo Y 1)), (1, .int p1)]) hC dX1_readEffects_1 rfl (by decide) rfl ?_
  exact V_sub [1, 2, 0] rfl (lp_ind (X := Int32 × Dt) (P := fun x => V K Y 6 0 0 z x.2 2 [(0, .ref (yo Y 1)), (1, .int p1), (2, .int x.1)] []) (fun k x hk hx => b_X1_readEffects_2 hC hr hA ho hQ  (k2 := fun x2 d => k (x2, d)) (fun x2 d hx => hk (x2, d) hx) x.1 x.2 hx) FU (0, d) hf)
def t_X1_readTarget (L : Nat → Nat) (d : Dt)  : Option (Int32 × Dt) := bd (gF d 1 4) (fun y1 => (t_X1_readNumber L d 0 23).bind (fun q2 => if (gF q2.2 1 5) = 0 then if (nI (L (32 * 1 + 7))) ≤ (gF q2.2 1 9) then some (q2.1, q2.2) else gd (inb (gF q2.2 1 9) (L (32 * 1 + 7))) (bd (sA q2.2 (32 * 1 + 7) (ix (gF q2.2 1 9)) q2.1) (fun d6 => gd (inb (gF d6 1 9) (L (32 * 1 + 8))) (bd (sA d6 (32 * 1 + 8) (ix (gF d6 1 9)) y1) (fun d8 => bd (sF d8 1 9 ((gF d8 1 9) + 1)) (fun d9 => some (q2.1, d9)))))) else some (q2.1, q2.2)))
set_option maxRecDepth 20000 in
theorem c_X1_readTarget {l : Launch} {Y : Yx} (hL : LAY Y) {z : Sh} {d : Dt}  (ho : (0, 1, 1) ∈ yI Y) {r : Int32} {d' : Dt} (hf : t_X1_readTarget z.1 d  = some (r, d')) : MM l yX1_readTarget cX1_readTarget 3 (some .int) 2 47 Y z [.ref (yo Y 1)] d (some (.int r)) d' := by
  refine MM.ofV (by decide +kernel) hL (Nat.le_of_ble_eq_true rfl) (fun K hl hC hr hQ hA => ?_)
  have hC : CK K Y cX1_readTarget 3 RX1 2 47 := hC
  have hkn : 0 ≤ (kR K).cells ∧ 0 ≤ (kR K).slots := ⟨Nat.zero_le _, Nat.zero_le _⟩
  unfold t_X1_readTarget at hf
  show V K Y 3 0 0 z d 0 [(0, .ref (yo Y 1))] []
  refine V_aload_n 0 hC dX1_readTarget_0 rfl rfl ?_
  refine V_geti (o := 1) hC ho rfl fk_X1_29 dX1_readTarget_1 ?_
  refine V_topi (fun y1 ey1 => ?_)
  have hf := bd_e hf y1 ey1
  refine V_istore_n (lv' := [(1, .int y1), (0, .ref (yo Y 1))]) hC dX1_readTarget_4 rfl (by decide) rfl ?_
  refine V_aload_n 1 hC dX1_readTarget_5 rfl rfl ?_
  refine V_iconst (v := 0) hC dX1_readTarget_6 rfl ?_
  refine V_bipush (v := 23) hC dX1_readTarget_7 rfl ?_
  obtain ⟨q2, eq2, hf⟩ := bi_some hf
  refine V_invi (o := 1) (As := [.int 0, .int 23]) (rest := []) hC (c_X1_readNumber hL ho eq2) me_X1_readNumber lk_X1_83 ho rfl rfl rfl (Nat.le_of_ble_eq_true rfl) ⟨by decide, by decide⟩ hkn dX1_readTarget_9 ?_
  refine V_istore_n (lv' := [(2, .int q2.1), (1, .int y1), (0, .ref (yo Y 1))]) hC dX1_readTarget_12 rfl (by decide) rfl ?_
  refine V_aload_n 2 hC dX1_readTarget_13 rfl rfl ?_
  refine V_geti (o := 1) hC ho rfl fk_X1_32 dX1_readTarget_14 ?_
  refine V_if_ne (tgt := 62) hC dX1_readTarget_17 (by decide) (fun c3 => ?_) (fun c3 => ?_)
  · have hf := if_f hf c3
    refine V_iload_n 0 hC dX1_readTarget_62 rfl rfl ?_
    obtain ⟨rfl, rfl⟩ := so_inj2 hf
    exact V_iret hC hr hQ hA dX1_readTarget_63
  · have hf := if_t hf c3
    refine V_aload_n 2 hC dX1_readTarget_20 rfl rfl ?_
    refine V_geti (o := 1) hC ho rfl fk_X1_46 dX1_readTarget_21 ?_
    refine V_aload_n 2 hC dX1_readTarget_24 rfl rfl ?_
    refine V_geta (o := 1) hC ho rfl fk_X1_39 dX1_readTarget_25 ?_
    refine V_alen (a := (32 * 1 + 7)) hC (hL.row ho rfl) (by decide) dX1_readTarget_28 ?_
    refine V_icmp_ge (tgt := 62) hC dX1_readTarget_29 (by decide) (fun c4 => ?_) (fun c4 => ?_)
    · have hf := if_t hf c4
      refine V_iload_n 0 hC dX1_readTarget_62 rfl rfl ?_
      obtain ⟨rfl, rfl⟩ := so_inj2 hf
      exact V_iret hC hr hQ hA dX1_readTarget_63
    · have hf := if_f hf c4
      refine V_aload_n 2 hC dX1_readTarget_32 rfl rfl ?_
      refine V_geta (o := 1) hC ho rfl fk_X1_39 dX1_readTarget_33 ?_
      refine V_aload_n 2 hC dX1_readTarget_36 rfl rfl ?_
      refine V_geti (o := 1) hC ho rfl fk_X1_46 dX1_readTarget_37 ?_
      refine V_iload_n 0 hC dX1_readTarget_40 rfl rfl ?_
      obtain ⟨g5, hf⟩ := gd_some hf
      refine V_iast (a := (32 * 1 + 7)) hC (hL.row ho rfl) g5 dX1_readTarget_41 (fun d6 ed6 => ?_)
      have hf := bd_e hf d6 ed6
      refine V_aload_n 2 hC dX1_readTarget_42 rfl rfl ?_
      refine V_geta (o := 1) hC ho rfl fk_X1_43 dX1_readTarget_43 ?_
      refine V_aload_n 2 hC dX1_readTarget_46 rfl rfl ?_
      refine V_geti (o := 1) hC ho rfl fk_X1_46 dX1_readTarget_47 ?_
      refine V_iload_n 1 hC dX1_readTarget_50 rfl rfl ?_
      obtain ⟨g7, hf⟩ := gd_some hf
      refine V_iast (a := (32 * 1 + 8)) hC (hL.row ho rfl) g7 dX1_readTarget_51 (fun d8 ed8 => ?_)
      have hf := bd_e hf d8 ed8
      refine V_aload_n 2 hC dX1_readTarget_52 rfl rfl ?_
      refine V_dup hC dX1_readTarget_53 rfl ?_
      refine V_geti (o := 1) hC ho rfl fk_X1_46 dX1_readTarget_54 ?_
      refine V_iconst (v := 1) hC dX1_readTarget_57 rfl ?_
      refine V_iadd hC dX1_readTarget_58 ?_
      refine V_puti (o := 1) hC ho rfl fk_X1_46 pl_X1 rfl rfl dX1_readTarget_59 (fun d9 ed9 => ?_)
      have hf := bd_e hf d9 ed9
      refine V_iload_n 0 hC dX1_readTarget_62 rfl rfl ?_
      obtain ⟨rfl, rfl⟩ := so_inj2 hf
      exact V_iret hC hr hQ hA dX1_readTarget_63
def t_X1_readEnd (L : Nat → Nat) (d : Dt) (p1 : Int32) : Option (Dt) := if (gF d 1 5) = 0 then (t_X1_isWord L d 6).bind (fun v2 => if v2 = 0 then (t_X1_isWord L d 7).bind (fun v4 => if v4 = 0 then (t_X1_isWord L d 8).bind (fun v6 => if v6 = 0 then some d else (t_J0_length_8abf5 L d 8).bind (fun v8 => (t_X1_pass L d v8).bind (fun d9 => (t_X1_readNumber L d9 2 6).bind (fun q10 => (t_X1_readTarget L q10.2 ).bind (fun q11 => (t_X1_readTarget L q11.2 ).bind (fun q12 => (t_X0_endByRoll L q12.2 5 p1 q10.1 q11.1 q12.1).bind (fun d13 => some d13))))))) else (t_J0_length_8abf5 L d 7).bind (fun v14 => (t_X1_pass L d v14).bind (fun d15 => gd (inb p1 (L (32 * 5 + 2))) (bd (sA d15 (32 * 5 + 2) (ix p1) 2) (fun d17 => some d17))))) else (t_J0_length_8abf5 L d 6).bind (fun v18 => (t_X1_pass L d v18).bind (fun d19 => gd (inb p1 (L (32 * 5 + 2))) (bd (sA d19 (32 * 5 + 2) (ix p1) 1) (fun d21 => some d21))))) else some d
set_option maxRecDepth 20000 in
theorem c_X1_readEnd {l : Launch} {Y : Yx} (hL : LAY Y) {z : Sh} {d : Dt} {p1 : Int32} (ho : (0, 1, 1) ∈ yI Y) {d' : Dt} (hf : t_X1_readEnd z.1 d p1 = some d') : MM l yX1_readEnd cX1_readEnd 5 none 5 108 Y z [.ref (yo Y 1), .int p1] d (none) d' := by
  refine MM.ofV (by decide +kernel) hL (Nat.le_of_ble_eq_true rfl) (fun K hl hC hr hQ hA => ?_)
  have hC : CK K Y cX1_readEnd 5 RX1 5 108 := hC
  have hkn : 0 ≤ (kR K).cells ∧ 0 ≤ (kR K).slots := ⟨Nat.zero_le _, Nat.zero_le _⟩
  unfold t_X1_readEnd at hf
  show V K Y 5 0 0 z d 0 [(0, .ref (yo Y 1)), (1, .int p1)] []
  refine V_aload_n 0 hC dX1_readEnd_0 rfl rfl ?_
  refine V_geti (o := 1) hC ho rfl fk_X1_32 dX1_readEnd_1 ?_
  refine V_if_eq (tgt := 8) hC dX1_readEnd_4 (by decide) (fun c1 => ?_) (fun c1 => ?_)
  · have hf := if_t hf c1
    refine V_aload_n 0 hC dX1_readEnd_8 rfl rfl ?_
    refine V_ldcS (i := 6) hC rfl dX1_readEnd_9 ?_
    obtain ⟨v2, ev2, hf⟩ := bi_some hf
    refine V_invi (o := 1) (As := [.ref (yK Y 6)]) (rest := []) hC (c_X1_isWord hL ho (show 6 < 12 by decide) ev2) me_X1_isWord lk_X1_58 ho rfl rfl rfl (Nat.le_of_ble_eq_true rfl) ⟨by decide, by decide⟩ hkn dX1_readEnd_11 ?_
    refine V_if_eq (tgt := 39) hC dX1_readEnd_14 (by decide) (fun c3 => ?_) (fun c3 => ?_)
    · have hf := if_t hf c3
      refine V_aload_n 0 hC dX1_readEnd_39 rfl rfl ?_
      refine V_ldcS (i := 7) hC rfl dX1_readEnd_40 ?_
      obtain ⟨v4, ev4, hf⟩ := bi_some hf
      refine V_invi (o := 1) (As := [.ref (yK Y 7)]) (rest := []) hC (c_X1_isWord hL ho (show 7 < 12 by decide) ev4) me_X1_isWord lk_X1_58 ho rfl rfl rfl (Nat.le_of_ble_eq_true rfl) ⟨by decide, by decide⟩ hkn dX1_readEnd_42 ?_
      refine V_if_eq (tgt := 70) hC dX1_readEnd_45 (by decide) (fun c5 => ?_) (fun c5 => ?_)
      · have hf := if_t hf c5
        refine V_aload_n 0 hC dX1_readEnd_70 rfl rfl ?_
        refine V_ldcS (i := 8) hC rfl dX1_readEnd_71 ?_
        obtain ⟨v6, ev6, hf⟩ := bi_some hf
        refine V_invi (o := 1) (As := [.ref (yK Y 8)]) (rest := []) hC (c_X1_isWord hL ho (show 8 < 12 by decide) ev6) me_X1_isWord lk_X1_58 ho rfl rfl rfl (Nat.le_of_ble_eq_true rfl) ⟨by decide, by decide⟩ hkn dX1_readEnd_73 ?_
        refine V_if_eq (tgt := 119) hC dX1_readEnd_76 (by decide) (fun c7 => ?_) (fun c7 => ?_)
        · have hf := if_t hf c7
          obtain rfl := so_inj hf
          exact V_vret hC hr hQ hA dX1_readEnd_119
        · have hf := if_f hf c7
          refine V_aload_n 0 hC dX1_readEnd_79 rfl rfl ?_
          refine V_ldcS (i := 8) hC rfl dX1_readEnd_80 ?_
          obtain ⟨v8, ev8, hf⟩ := bi_some hf
          refine V_invSi (i := 8) (As := []) (rest := [.ref (yo Y 1)]) hC (c_J0_length_8abf5 hL (show 8 < 12 by decide) ev8) me_J0_length_8abf5 lk_X1_77 (show 8 < 12 by decide) rfl rfl (Nat.le_of_ble_eq_true rfl) ⟨by decide, by decide⟩ hkn dX1_readEnd_82 ?_
          obtain ⟨d9, ed9, hf⟩ := bi_some hf
          refine V_invv (o := 1) (As := [.int v8]) (rest := []) hC (c_X1_pass hL ho ed9) me_X1_pass lk_X1_52 ho rfl rfl rfl (Nat.le_of_ble_eq_true rfl) ⟨by decide, by decide⟩ hkn dX1_readEnd_85 ?_
          refine V_aload_n 0 hC dX1_readEnd_88 rfl rfl ?_
          refine V_iconst (v := 2) hC dX1_readEnd_89 rfl ?_
          refine V_bipush (v := 6) hC dX1_readEnd_90 rfl ?_
          obtain ⟨q10, eq10, hf⟩ := bi_some hf
          refine V_invi (o := 1) (As := [.int 2, .int 6]) (rest := []) hC (c_X1_readNumber hL ho eq10) me_X1_readNumber lk_X1_83 ho rfl rfl rfl (Nat.le_of_ble_eq_true rfl) ⟨by decide, by decide⟩ hkn dX1_readEnd_92 ?_
          refine V_istore_n (lv' := [(2, .int q10.1), (0, .ref (yo Y 1)), (1, .int p1)]) hC dX1_readEnd_95 rfl (by decide) rfl ?_
          refine V_aload_n 1 hC dX1_readEnd_96 rfl rfl ?_
          obtain ⟨q11, eq11, hf⟩ := bi_some hf
          refine V_invi (o := 1) (As := []) (rest := []) hC (c_X1_readTarget hL ho eq11) me_X1_readTarget lk_X1_128 ho rfl rfl rfl (Nat.le_of_ble_eq_true rfl) ⟨by decide, by decide⟩ hkn dX1_readEnd_97 ?_
          refine V_istore_n (lv' := [(3, .int q11.1), (2, .int q10.1), (0, .ref (yo Y 1)), (1, .int p1)]) hC dX1_readEnd_100 rfl (by decide) rfl ?_
          refine V_aload_n 2 hC dX1_readEnd_101 rfl rfl ?_
          obtain ⟨q12, eq12, hf⟩ := bi_some hf
          refine V_invi (o := 1) (As := []) (rest := []) hC (c_X1_readTarget hL ho eq12) me_X1_readTarget lk_X1_128 ho rfl rfl rfl (Nat.le_of_ble_eq_true rfl) ⟨by decide, by decide⟩ hkn dX1_readEnd_102 ?_
          refine V_istore (lv' := [(4, .int q12.1), (3, .int q11.1), (2, .int q10.1), (0, .ref (yo Y 1)), (1, .int p1)]) hC dX1_readEnd_105 (by decide) rfl ?_
          refine V_aload_n 3 hC dX1_readEnd_107 rfl rfl ?_
          refine V_geto (o := 1) (o2 := 5) hC ho rfl fk_X1_12 rfl dX1_readEnd_108 ?_
          refine V_iload_n 4 hC dX1_readEnd_111 rfl rfl ?_
          refine V_iload_n 2 hC dX1_readEnd_112 rfl rfl ?_
          refine V_iload_n 1 hC dX1_readEnd_113 rfl rfl ?_
          refine V_iload 0 hC dX1_readEnd_114 rfl ?_
          obtain ⟨d13, ed13, hf⟩ := bi_some hf
          refine V_invv (o := 5) (As := [.int p1, .int q10.1, .int q11.1, .int q12.1]) (rest := []) hC (c_X0_endByRoll hL (show (0, 5, 0) ∈ yI Y from hL.obj (j := 0) ho rfl) ed13) me_X0_endByRoll lk_X1_131 (show (0, 5, 0) ∈ yI Y from hL.obj (j := 0) ho rfl) rfl rfl rfl (Nat.le_of_ble_eq_true rfl) ⟨by decide, by decide⟩ hkn dX1_readEnd_116 ?_
          obtain rfl := so_inj hf
          exact V_vret hC hr hQ hA dX1_readEnd_119
      · have hf := if_f hf c5
        refine V_aload_n 0 hC dX1_readEnd_48 rfl rfl ?_
        refine V_ldcS (i := 7) hC rfl dX1_readEnd_49 ?_
        obtain ⟨v14, ev14, hf⟩ := bi_some hf
        refine V_invSi (i := 7) (As := []) (rest := [.ref (yo Y 1)]) hC (c_J0_length_8abf5 hL (show 7 < 12 by decide) ev14) me_J0_length_8abf5 lk_X1_77 (show 7 < 12 by decide) rfl rfl (Nat.le_of_ble_eq_true rfl) ⟨by decide, by decide⟩ hkn dX1_readEnd_51 ?_
        obtain ⟨d15, ed15, hf⟩ := bi_some hf
        refine V_invv (o := 1) (As := [.int v14]) (rest := []) hC (c_X1_pass hL ho ed15) me_X1_pass lk_X1_52 ho rfl rfl rfl (Nat.le_of_ble_eq_true rfl) ⟨by decide, by decide⟩ hkn dX1_readEnd_54 ?_
        refine V_aload_n 0 hC dX1_readEnd_57 rfl rfl ?_
        refine V_geto (o := 1) (o2 := 5) hC ho rfl fk_X1_12 rfl dX1_readEnd_58 ?_
        refine V_geta (o := 5) hC (show (0, 5, 0) ∈ yI Y from hL.obj (j := 0) ho rfl) rfl fk_X1_121 dX1_readEnd_61 ?_
        refine V_iload_n 1 hC dX1_readEnd_64 rfl rfl ?_
        refine V_iconst (v := 2) hC dX1_readEnd_65 rfl ?_
        obtain ⟨g16, hf⟩ := gd_some hf
        refine V_iast (a := (32 * 5 + 2)) hC (hL.row (show (0, 5, 0) ∈ yI Y from hL.obj (j := 0) ho rfl) rfl) g16 dX1_readEnd_66 (fun d17 ed17 => ?_)
        have hf := bd_e hf d17 ed17
        refine V_goto (tgt := 119) hC dX1_readEnd_67 (by decide) ?_
        obtain rfl := so_inj hf
        exact V_vret hC hr hQ hA dX1_readEnd_119
    · have hf := if_f hf c3
      refine V_aload_n 0 hC dX1_readEnd_17 rfl rfl ?_
      refine V_ldcS (i := 6) hC rfl dX1_readEnd_18 ?_
      obtain ⟨v18, ev18, hf⟩ := bi_some hf
      refine V_invSi (i := 6) (As := []) (rest := [.ref (yo Y 1)]) hC (c_J0_length_8abf5 hL (show 6 < 12 by decide) ev18) me_J0_length_8abf5 lk_X1_77 (show 6 < 12 by decide) rfl rfl (Nat.le_of_ble_eq_true rfl) ⟨by decide, by decide⟩ hkn dX1_readEnd_20 ?_
      obtain ⟨d19, ed19, hf⟩ := bi_some hf
      refine V_invv (o := 1) (As := [.int v18]) (rest := []) hC (c_X1_pass hL ho ed19) me_X1_pass lk_X1_52 ho rfl rfl rfl (Nat.le_of_ble_eq_true rfl) ⟨by decide, by decide⟩ hkn dX1_readEnd_23 ?_
      refine V_aload_n 0 hC dX1_readEnd_26 rfl rfl ?_
      refine V_geto (o := 1) (o2 := 5) hC ho rfl fk_X1_12 rfl dX1_readEnd_27 ?_
      refine V_geta (o := 5) hC (show (0, 5, 0) ∈ yI Y from hL.obj (j := 0) ho rfl) rfl fk_X1_121 dX1_readEnd_30 ?_
      refine V_iload_n 1 hC dX1_readEnd_33 rfl rfl ?_
      refine V_iconst (v := 1) hC dX1_readEnd_34 rfl ?_
      obtain ⟨g20, hf⟩ := gd_some hf
      refine V_iast (a := (32 * 5 + 2)) hC (hL.row (show (0, 5, 0) ∈ yI Y from hL.obj (j := 0) ho rfl) rfl) g20 dX1_readEnd_35 (fun d21 ed21 => ?_)
      have hf := bd_e hf d21 ed21
      refine V_goto (tgt := 119) hC dX1_readEnd_36 (by decide) ?_
      obtain rfl := so_inj hf
      exact V_vret hC hr hQ hA dX1_readEnd_119
  · have hf := if_f hf c1
    obtain rfl := so_inj hf
    exact V_vret hC hr hQ hA dX1_readEnd_7
def t_X1_readThingBehind (L : Nat → Nat) (d : Dt) (s1 : Nat) : Option (Int32 × Dt) := if (gF d 1 5) = 0 then (t_X1_isWord L d s1).bind (fun v2 => if v2 = 0 then some ((-1), d) else (t_J0_length_8abf5 L d s1).bind (fun v4 => (t_X1_pass L d v4).bind (fun d5 => (t_X1_readNumber L d5 0 7).bind (fun q6 => some (q6.1, q6.2))))) else some ((-1), d)
set_option maxRecDepth 20000 in
theorem c_X1_readThingBehind {l : Launch} {Y : Yx} (hL : LAY Y) {z : Sh} {d : Dt} {s1 : Nat} (ho : (0, 1, 1) ∈ yI Y) (hs1 : s1 < 12) {r : Int32} {d' : Dt} (hf : t_X1_readThingBehind z.1 d s1 = some (r, d')) : MM l yX1_readThingBehind cX1_readThingBehind 2 (some .int) 5 108 Y z [.ref (yo Y 1), .ref (yK Y s1)] d (some (.int r)) d' := by
  refine MM.ofV (by decide +kernel) hL (Nat.le_of_ble_eq_true rfl) (fun K hl hC hr hQ hA => ?_)
  have hC : CK K Y cX1_readThingBehind 2 RX1 5 108 := hC
  have hkn : 0 ≤ (kR K).cells ∧ 0 ≤ (kR K).slots := ⟨Nat.zero_le _, Nat.zero_le _⟩
  unfold t_X1_readThingBehind at hf
  show V K Y 2 0 0 z d 0 [(0, .ref (yo Y 1)), (1, .ref (yK Y s1))] []
  refine V_aload_n 0 hC dX1_readThingBehind_0 rfl rfl ?_
  refine V_geti (o := 1) hC ho rfl fk_X1_32 dX1_readThingBehind_1 ?_
  refine V_if_ne (tgt := 15) hC dX1_readThingBehind_4 (by decide) (fun c1 => ?_) (fun c1 => ?_)
  · have hf := if_f hf c1
    refine V_iconst (v := -1) hC dX1_readThingBehind_15 rfl ?_
    obtain ⟨rfl, rfl⟩ := so_inj2 hf
    exact V_iret hC hr hQ hA dX1_readThingBehind_16
  · have hf := if_t hf c1
    refine V_aload_n 0 hC dX1_readThingBehind_7 rfl rfl ?_
    refine V_aload_n 1 hC dX1_readThingBehind_8 rfl rfl ?_
    obtain ⟨v2, ev2, hf⟩ := bi_some hf
    refine V_invi (o := 1) (As := [.ref (yK Y s1)]) (rest := []) hC (c_X1_isWord hL ho hs1 ev2) me_X1_isWord lk_X1_58 ho rfl rfl rfl (Nat.le_of_ble_eq_true rfl) ⟨by decide, by decide⟩ hkn dX1_readThingBehind_9 ?_
    refine V_if_ne (tgt := 17) hC dX1_readThingBehind_12 (by decide) (fun c3 => ?_) (fun c3 => ?_)
    · have hf := if_f hf c3
      refine V_aload_n 0 hC dX1_readThingBehind_17 rfl rfl ?_
      refine V_aload_n 1 hC dX1_readThingBehind_18 rfl rfl ?_
      obtain ⟨v4, ev4, hf⟩ := bi_some hf
      refine V_invSi (i := s1) (As := []) (rest := [.ref (yo Y 1)]) hC (c_J0_length_8abf5 hL hs1 ev4) me_J0_length_8abf5 lk_X1_77 hs1 rfl rfl (Nat.le_of_ble_eq_true rfl) ⟨by decide, by decide⟩ hkn dX1_readThingBehind_19 ?_
      obtain ⟨d5, ed5, hf⟩ := bi_some hf
      refine V_invv (o := 1) (As := [.int v4]) (rest := []) hC (c_X1_pass hL ho ed5) me_X1_pass lk_X1_52 ho rfl rfl rfl (Nat.le_of_ble_eq_true rfl) ⟨by decide, by decide⟩ hkn dX1_readThingBehind_22 ?_
      refine V_aload_n 0 hC dX1_readThingBehind_25 rfl rfl ?_
      refine V_iconst (v := 0) hC dX1_readThingBehind_26 rfl ?_
      refine V_bipush (v := 7) hC dX1_readThingBehind_27 rfl ?_
      obtain ⟨q6, eq6, hf⟩ := bi_some hf
      refine V_invi (o := 1) (As := [.int 0, .int 7]) (rest := []) hC (c_X1_readNumber hL ho eq6) me_X1_readNumber lk_X1_83 ho rfl rfl rfl (Nat.le_of_ble_eq_true rfl) ⟨by decide, by decide⟩ hkn dX1_readThingBehind_29 ?_
      obtain ⟨rfl, rfl⟩ := so_inj2 hf
      exact V_iret hC hr hQ hA dX1_readThingBehind_32
    · have hf := if_t hf c3
      refine V_iconst (v := -1) hC dX1_readThingBehind_15 rfl ?_
      obtain ⟨rfl, rfl⟩ := so_inj2 hf
      exact V_iret hC hr hQ hA dX1_readThingBehind_16
def t_X1_readChoices_2 (L : Nat → Nat) (p1 : Int32) (k2 : Int32 → (Dt) → Option (Dt)) (x2 : Int32) (d : Dt) : Option (Dt) := if 6 < x2 then some d else if (gF d 1 5) = 0 then gd (inb p1 (L (32 * 5 + 2))) (if (gA d (32 * 5 + 2) (ix p1)) = 0 then (t_X1_isWord L d 9).bind (fun v5 => if v5 = 0 then some d else if x2 = 6 then (t_X1_fail L d 3 (gF d 1 4)).bind (fun d14 => some d14) else (t_J0_length_8abf5 L d 9).bind (fun v8 => (t_X1_pass L d v8).bind (fun d9 => (t_X1_readTarget L d9 ).bind (fun q10 => (t_X1_readThingBehind L q10.2 10).bind (fun q11 => (t_X1_readThingBehind L q11.2 11).bind (fun q12 => (t_X0_addChoice L q12.2 5 p1 q10.1 q11.1 q12.1).bind (fun d13 => k2 (x2 + 1) d13))))))) else some d) else some d
set_option maxRecDepth 20000 in
theorem b_X1_readChoices_2 {K : Kx} {Y : Yx} {z : Sh}  (hC : CK K Y cX1_readChoices 6 RX1 6 129) (hr : (kme K).sig.returnType = none) (hA : kA K = aY Y z) {p1 : Int32} (ho : (0, 1, 1) ∈ yI Y) {d' : Dt} (hQ : kQ K = MQ (kb K) (QM Y z (none) d') (ka K) (ks K) 0 0 (aY Y z)) {k2 : Int32 → (Dt) → Option (Dt)} (hk2 : ∀ (x2 : Int32) (d : Dt), k2 x2 d = some d' → V K Y 6 0 0 z d 2 [(0, .ref (yo Y 1)), (1, .int p1), (2, .int x2)] []) (x2 : Int32) (d : Dt) (hf : t_X1_readChoices_2 z.1 p1 k2 x2 d = some d') : V K Y 6 0 0 z d 2 [(0, .ref (yo Y 1)), (1, .int p1), (2, .int x2)] [] := by
  have hL := hC.2.2.2.2.2.2.1
  have hkn : 0 ≤ (kR K).cells ∧ 0 ≤ (kR K).slots := ⟨Nat.zero_le _, Nat.zero_le _⟩
  unfold t_X1_readChoices_2 at hf
  refine V_iload_n 2 hC dX1_readChoices_2 rfl rfl ?_
  refine V_bipush (v := 6) hC dX1_readChoices_3 rfl ?_
  refine V_icmp_gt (tgt := 102) hC dX1_readChoices_5 (by decide) (fun c1 => ?_) (fun c1 => ?_)
  · have hf := if_t hf c1
    obtain rfl := so_inj hf
    exact V_vret hC hr hQ hA dX1_readChoices_102
  · have hf := if_f hf c1
    refine V_aload_n 0 hC dX1_readChoices_8 rfl rfl ?_
    refine V_geti (o := 1) hC ho rfl fk_X1_32 dX1_readChoices_9 ?_
    refine V_if_ne (tgt := 102) hC dX1_readChoices_12 (by decide) (fun c2 => ?_) (fun c2 => ?_)
    · have hf := if_f hf c2
      obtain rfl := so_inj hf
      exact V_vret hC hr hQ hA dX1_readChoices_102
    · have hf := if_t hf c2
      refine V_aload_n 0 hC dX1_readChoices_15 rfl rfl ?_
      refine V_geto (o := 1) (o2 := 5) hC ho rfl fk_X1_12 rfl dX1_readChoices_16 ?_
      refine V_geta (o := 5) hC (show (0, 5, 0) ∈ yI Y from hL.obj (j := 0) ho rfl) rfl fk_X1_121 dX1_readChoices_19 ?_
      refine V_iload_n 1 hC dX1_readChoices_22 rfl rfl ?_
      obtain ⟨g3, hf⟩ := gd_some hf
      refine V_iald (a := (32 * 5 + 2)) hC (hL.row (show (0, 5, 0) ∈ yI Y from hL.obj (j := 0) ho rfl) rfl) g3 dX1_readChoices_23 ?_
      refine V_if_ne (tgt := 36) hC dX1_readChoices_24 (by decide) (fun c4 => ?_) (fun c4 => ?_)
      · have hf := if_f hf c4
        obtain rfl := so_inj hf
        exact V_vret hC hr hQ hA dX1_readChoices_36
      · have hf := if_t hf c4
        refine V_aload_n 0 hC dX1_readChoices_27 rfl rfl ?_
        refine V_ldcS (i := 9) hC rfl dX1_readChoices_28 ?_
        obtain ⟨v5, ev5, hf⟩ := bi_some hf
        refine V_invi (o := 1) (As := [.ref (yK Y 9)]) (rest := []) hC (c_X1_isWord hL ho (show 9 < 12 by decide) ev5) me_X1_isWord lk_X1_58 ho rfl rfl rfl (Nat.le_of_ble_eq_true rfl) ⟨by decide, by decide⟩ hkn dX1_readChoices_30 ?_
        refine V_if_ne (tgt := 37) hC dX1_readChoices_33 (by decide) (fun c6 => ?_) (fun c6 => ?_)
        · have hf := if_f hf c6
          refine V_iload_n 2 hC dX1_readChoices_37 rfl rfl ?_
          refine V_bipush (v := 6) hC dX1_readChoices_38 rfl ?_
          refine V_icmp_ne (tgt := 53) hC dX1_readChoices_40 (by decide) (fun c7 => ?_) (fun c7 => ?_)
          · have hf := if_f hf c7
            refine V_aload_n 0 hC dX1_readChoices_53 rfl rfl ?_
            refine V_ldcS (i := 9) hC rfl dX1_readChoices_54 ?_
            obtain ⟨v8, ev8, hf⟩ := bi_some hf
            refine V_invSi (i := 9) (As := []) (rest := [.ref (yo Y 1)]) hC (c_J0_length_8abf5 hL (show 9 < 12 by decide) ev8) me_J0_length_8abf5 lk_X1_77 (show 9 < 12 by decide) rfl rfl (Nat.le_of_ble_eq_true rfl) ⟨by decide, by decide⟩ hkn dX1_readChoices_56 ?_
            obtain ⟨d9, ed9, hf⟩ := bi_some hf
            refine V_invv (o := 1) (As := [.int v8]) (rest := []) hC (c_X1_pass hL ho ed9) me_X1_pass lk_X1_52 ho rfl rfl rfl (Nat.le_of_ble_eq_true rfl) ⟨by decide, by decide⟩ hkn dX1_readChoices_59 ?_
            refine V_aload_n 0 hC dX1_readChoices_62 rfl rfl ?_
            obtain ⟨q10, eq10, hf⟩ := bi_some hf
            refine V_invi (o := 1) (As := []) (rest := []) hC (c_X1_readTarget hL ho eq10) me_X1_readTarget lk_X1_128 ho rfl rfl rfl (Nat.le_of_ble_eq_true rfl) ⟨by decide, by decide⟩ hkn dX1_readChoices_63 ?_
            refine V_istore_n (lv' := [(3, .int q10.1), (0, .ref (yo Y 1)), (1, .int p1), (2, .int x2)]) hC dX1_readChoices_66 rfl (by decide) rfl ?_
            refine V_aload_n 1 hC dX1_readChoices_67 rfl rfl ?_
            refine V_ldcS (i := 10) hC rfl dX1_readChoices_68 ?_
            obtain ⟨q11, eq11, hf⟩ := bi_some hf
            refine V_invi (o := 1) (As := [.ref (yK Y 10)]) (rest := []) hC (c_X1_readThingBehind hL ho (show 10 < 12 by decide) eq11) me_X1_readThingBehind lk_X1_139 ho rfl rfl rfl (Nat.le_of_ble_eq_true rfl) ⟨by decide, by decide⟩ hkn dX1_readChoices_70 ?_
            refine V_istore (lv' := [(4, .int q11.1), (3, .int q10.1), (0, .ref (yo Y 1)), (1, .int p1), (2, .int x2)]) hC dX1_readChoices_73 (by decide) rfl ?_
            refine V_aload_n 2 hC dX1_readChoices_75 rfl rfl ?_
            refine V_ldcS (i := 11) hC rfl dX1_readChoices_76 ?_
            obtain ⟨q12, eq12, hf⟩ := bi_some hf
            refine V_invi (o := 1) (As := [.ref (yK Y 11)]) (rest := []) hC (c_X1_readThingBehind hL ho (show 11 < 12 by decide) eq12) me_X1_readThingBehind lk_X1_139 ho rfl rfl rfl (Nat.le_of_ble_eq_true rfl) ⟨by decide, by decide⟩ hkn dX1_readChoices_78 ?_
            refine V_istore (lv' := [(5, .int q12.1), (4, .int q11.1), (3, .int q10.1), (0, .ref (yo Y 1)), (1, .int p1), (2, .int x2)]) hC dX1_readChoices_81 (by decide) rfl ?_
            refine V_aload_n 3 hC dX1_readChoices_83 rfl rfl ?_
            refine V_geto (o := 1) (o2 := 5) hC ho rfl fk_X1_12 rfl dX1_readChoices_84 ?_
            refine V_iload_n 4 hC dX1_readChoices_87 rfl rfl ?_
            refine V_iload_n 2 hC dX1_readChoices_88 rfl rfl ?_
            refine V_iload 1 hC dX1_readChoices_89 rfl ?_
            refine V_iload 0 hC dX1_readChoices_91 rfl ?_
            obtain ⟨d13, ed13, hf⟩ := bi_some hf
            refine V_invv (o := 5) (As := [.int p1, .int q10.1, .int q11.1, .int q12.1]) (rest := []) hC (c_X0_addChoice hL (show (0, 5, 0) ∈ yI Y from hL.obj (j := 0) ho rfl) ed13) me_X0_addChoice lk_X1_145 (show (0, 5, 0) ∈ yI Y from hL.obj (j := 0) ho rfl) rfl rfl rfl (Nat.le_of_ble_eq_true rfl) ⟨by decide, by decide⟩ hkn dX1_readChoices_93 ?_
            refine V_iinc (v := x2 + 1) (lv' := [(2, .int (x2 + 1)), (5, .int q12.1), (4, .int q11.1), (3, .int q10.1), (0, .ref (yo Y 1)), (1, .int p1)]) 5 hC dX1_readChoices_96 rfl rfl (by decide) rfl ?_
            refine V_goto (tgt := 2) hC dX1_readChoices_99 (by decide) ?_
            exact V_sub [4, 5, 0] rfl (hk2 (x2 + 1) d13 hf)
          · have hf := if_t hf c7
            refine V_aload_n 0 hC dX1_readChoices_43 rfl rfl ?_
            refine V_iconst (v := 3) hC dX1_readChoices_44 rfl ?_
            refine V_aload_n 0 hC dX1_readChoices_45 rfl rfl ?_
            refine V_geti (o := 1) hC ho rfl fk_X1_29 dX1_readChoices_46 ?_
            obtain ⟨d14, ed14, hf⟩ := bi_some hf
            refine V_invv (o := 1) (As := [.int 3, .int (gF d 1 4)]) (rest := []) hC (c_X1_fail hL ho ed14) me_X1_fail lk_X1_70 ho rfl rfl rfl (Nat.le_of_ble_eq_true rfl) ⟨by decide, by decide⟩ hkn dX1_readChoices_49 ?_
            obtain rfl := so_inj hf
            exact V_vret hC hr hQ hA dX1_readChoices_52
        · have hf := if_t hf c6
          obtain rfl := so_inj hf
          exact V_vret hC hr hQ hA dX1_readChoices_36
def t_X1_readChoices (L : Nat → Nat) (d : Dt) (p1 : Int32) : Option (Dt) := lp (fun k x => t_X1_readChoices_2 L p1  (fun x2 d => k (x2, d)) x.1 x.2) FU (0, d)
set_option maxRecDepth 20000 in
theorem c_X1_readChoices {l : Launch} {Y : Yx} (hL : LAY Y) {z : Sh} {d : Dt} {p1 : Int32} (ho : (0, 1, 1) ∈ yI Y) {d' : Dt} (hf : t_X1_readChoices z.1 d p1 = some d') : MM l yX1_readChoices cX1_readChoices 6 none 6 129 Y z [.ref (yo Y 1), .int p1] d (none) d' := by
  refine MM.ofV (by decide +kernel) hL (Nat.le_of_ble_eq_true rfl) (fun K hl hC hr hQ hA => ?_)
  have hC : CK K Y cX1_readChoices 6 RX1 6 129 := hC
  unfold t_X1_readChoices at hf
  show V K Y 6 0 0 z d 0 [(0, .ref (yo Y 1)), (1, .int p1)] []
  refine V_iconst (v := 0) hC dX1_readChoices_0 rfl ?_
  refine V_istore_n (lv' := [(2, .int 0), (0, .ref (yo Y 1)), (1, .int p1)]) hC dX1_readChoices_1 rfl (by decide) rfl ?_
  exact V_sub [1, 2, 0] rfl (lp_ind (X := Int32 × Dt) (P := fun x => V K Y 6 0 0 z x.2 2 [(0, .ref (yo Y 1)), (1, .int p1), (2, .int x.1)] []) (fun k x hk hx => b_X1_readChoices_2 hC hr hA ho hQ  (k2 := fun x2 d => k (x2, d)) (fun x2 d hx => hk (x2, d) hx) x.1 x.2 hx) FU (0, d) hf)
def t_X1_readPart (L : Nat → Nat) (d : Dt)  : Option (Dt) := (t_X0_addPart L d 5).bind (fun q1 => if q1.1 = (-1) then (t_X1_fail L q1.2 3 (gF q1.2 1 4)).bind (fun d9 => some d9) else (t_J0_length_8abf5 L q1.2 1).bind (fun v3 => (t_X1_pass L q1.2 v3).bind (fun d4 => (t_X1_readEffects L d4 q1.1).bind (fun d5 => (t_X1_readEnd L d5 q1.1).bind (fun d6 => (t_X1_readChoices L d6 q1.1).bind (fun d7 => (t_X1_closeClause L d7 ).bind (fun d8 => some d8)))))))
set_option maxRecDepth 20000 in
theorem c_X1_readPart {l : Launch} {Y : Yx} (hL : LAY Y) {z : Sh} {d : Dt}  (ho : (0, 1, 1) ∈ yI Y) {d' : Dt} (hf : t_X1_readPart z.1 d  = some d') : MM l yX1_readPart cX1_readPart 2 none 7 154 Y z [.ref (yo Y 1)] d (none) d' := by
  refine MM.ofV (by decide +kernel) hL (Nat.le_of_ble_eq_true rfl) (fun K hl hC hr hQ hA => ?_)
  have hC : CK K Y cX1_readPart 2 RX1 7 154 := hC
  have hkn : 0 ≤ (kR K).cells ∧ 0 ≤ (kR K).slots := ⟨Nat.zero_le _, Nat.zero_le _⟩
  unfold t_X1_readPart at hf
  show V K Y 2 0 0 z d 0 [(0, .ref (yo Y 1))] []
  refine V_aload_n 0 hC dX1_readPart_0 rfl rfl ?_
  refine V_geto (o := 1) (o2 := 5) hC ho rfl fk_X1_12 rfl dX1_readPart_1 ?_
  obtain ⟨q1, eq1, hf⟩ := bi_some hf
  refine V_invi (o := 5) (As := []) (rest := []) hC (c_X0_addPart hL (show (0, 5, 0) ∈ yI Y from hL.obj (j := 0) ho rfl) eq1) me_X0_addPart lk_X1_92 (show (0, 5, 0) ∈ yI Y from hL.obj (j := 0) ho rfl) rfl rfl rfl (Nat.le_of_ble_eq_true rfl) ⟨by decide, by decide⟩ hkn dX1_readPart_4 ?_
  refine V_istore_n (lv' := [(1, .int q1.1), (0, .ref (yo Y 1))]) hC dX1_readPart_7 rfl (by decide) rfl ?_
  refine V_iload_n 0 hC dX1_readPart_8 rfl rfl ?_
  refine V_iconst (v := -1) hC dX1_readPart_9 rfl ?_
  refine V_icmp_ne (tgt := 23) hC dX1_readPart_10 (by decide) (fun c2 => ?_) (fun c2 => ?_)
  · have hf := if_f hf c2
    refine V_aload_n 1 hC dX1_readPart_23 rfl rfl ?_
    refine V_ldcS (i := 1) hC rfl dX1_readPart_24 ?_
    obtain ⟨v3, ev3, hf⟩ := bi_some hf
    refine V_invSi (i := 1) (As := []) (rest := [.ref (yo Y 1)]) hC (c_J0_length_8abf5 hL (show 1 < 12 by decide) ev3) me_J0_length_8abf5 lk_X1_77 (show 1 < 12 by decide) rfl rfl (Nat.le_of_ble_eq_true rfl) ⟨by decide, by decide⟩ hkn dX1_readPart_26 ?_
    obtain ⟨d4, ed4, hf⟩ := bi_some hf
    refine V_invv (o := 1) (As := [.int v3]) (rest := []) hC (c_X1_pass hL ho ed4) me_X1_pass lk_X1_52 ho rfl rfl rfl (Nat.le_of_ble_eq_true rfl) ⟨by decide, by decide⟩ hkn dX1_readPart_29 ?_
    refine V_aload_n 1 hC dX1_readPart_32 rfl rfl ?_
    refine V_iload_n 0 hC dX1_readPart_33 rfl rfl ?_
    obtain ⟨d5, ed5, hf⟩ := bi_some hf
    refine V_invv (o := 1) (As := [.int q1.1]) (rest := []) hC (c_X1_readEffects hL ho ed5) me_X1_readEffects lk_X1_95 ho rfl rfl rfl (Nat.le_of_ble_eq_true rfl) ⟨by decide, by decide⟩ hkn dX1_readPart_34 ?_
    refine V_aload_n 1 hC dX1_readPart_37 rfl rfl ?_
    refine V_iload_n 0 hC dX1_readPart_38 rfl rfl ?_
    obtain ⟨d6, ed6, hf⟩ := bi_some hf
    refine V_invv (o := 1) (As := [.int q1.1]) (rest := []) hC (c_X1_readEnd hL ho ed6) me_X1_readEnd lk_X1_98 ho rfl rfl rfl (Nat.le_of_ble_eq_true rfl) ⟨by decide, by decide⟩ hkn dX1_readPart_39 ?_
    refine V_aload_n 1 hC dX1_readPart_42 rfl rfl ?_
    refine V_iload_n 0 hC dX1_readPart_43 rfl rfl ?_
    obtain ⟨d7, ed7, hf⟩ := bi_some hf
    refine V_invv (o := 1) (As := [.int q1.1]) (rest := []) hC (c_X1_readChoices hL ho ed7) me_X1_readChoices lk_X1_101 ho rfl rfl rfl (Nat.le_of_ble_eq_true rfl) ⟨by decide, by decide⟩ hkn dX1_readPart_44 ?_
    refine V_aload_n 1 hC dX1_readPart_47 rfl rfl ?_
    obtain ⟨d8, ed8, hf⟩ := bi_some hf
    refine V_invv (o := 1) (As := []) (rest := []) hC (c_X1_closeClause hL ho ed8) me_X1_closeClause lk_X1_89 ho rfl rfl rfl (Nat.le_of_ble_eq_true rfl) ⟨by decide, by decide⟩ hkn dX1_readPart_48 ?_
    obtain rfl := so_inj hf
    exact V_vret hC hr hQ hA dX1_readPart_51
  · have hf := if_t hf c2
    refine V_aload_n 1 hC dX1_readPart_13 rfl rfl ?_
    refine V_iconst (v := 3) hC dX1_readPart_14 rfl ?_
    refine V_aload_n 1 hC dX1_readPart_15 rfl rfl ?_
    refine V_geti (o := 1) hC ho rfl fk_X1_29 dX1_readPart_16 ?_
    obtain ⟨d9, ed9, hf⟩ := bi_some hf
    refine V_invv (o := 1) (As := [.int 3, .int (gF q1.2 1 4)]) (rest := []) hC (c_X1_fail hL ho ed9) me_X1_fail lk_X1_70 ho rfl rfl rfl (Nat.le_of_ble_eq_true rfl) ⟨by decide, by decide⟩ hkn dX1_readPart_19 ?_
    obtain rfl := so_inj hf
    exact V_vret hC hr hQ hA dX1_readPart_22
def t_X1_checkTargets_44 (L : Nat → Nat) (k2 : Int32 → (Dt) → Option (Dt)) (x1 : Int32) (d : Dt) : Option (Dt) := k2 (x1 + 1) d
set_option maxRecDepth 20000 in
theorem b_X1_checkTargets_44 {K : Kx} {Y : Yx} {z : Sh}  (hC : CK K Y cX1_checkTargets 2 RX1 1 22) (hr : (kme K).sig.returnType = none) (hA : kA K = aY Y z)  (ho : (0, 1, 1) ∈ yI Y) {d' : Dt} (hQ : kQ K = MQ (kb K) (QM Y z (none) d') (ka K) (ks K) 0 0 (aY Y z)) {k2 : Int32 → (Dt) → Option (Dt)} (hk2 : ∀ (x1 : Int32) (d : Dt), k2 x1 d = some d' → V K Y 2 0 0 z d 2 [(0, .ref (yo Y 1)), (1, .int x1)] []) (x1 : Int32) (d : Dt) (hf : t_X1_checkTargets_44 z.1 k2 x1 d = some d') : V K Y 2 0 0 z d 44 [(0, .ref (yo Y 1)), (1, .int x1)] [] := by
  have hL := hC.2.2.2.2.2.2.1
  unfold t_X1_checkTargets_44 at hf
  refine V_iinc (v := x1 + 1) (lv' := [(1, .int (x1 + 1)), (0, .ref (yo Y 1))]) 1 hC dX1_checkTargets_44 rfl rfl (by decide) rfl ?_
  refine V_goto (tgt := 2) hC dX1_checkTargets_47 (by decide) ?_
  exact V_sub [1, 0] rfl (hk2 (x1 + 1) d hf)
def t_X1_checkTargets_2 (L : Nat → Nat) (k2 : Int32 → (Dt) → Option (Dt)) (x1 : Int32) (d : Dt) : Option (Dt) := if (gF d 1 9) ≤ x1 then some d else if (gF d 1 5) = 0 then gd (inb x1 (L (32 * 1 + 7))) ((t_X0_hasPart L d 5 (gA d (32 * 1 + 7) (ix x1))).bind (fun v4 => if v4 = 0 then gd (inb x1 (L (32 * 1 + 8))) ((t_X1_fail L d 4 (gA d (32 * 1 + 8) (ix x1))).bind (fun d7 => t_X1_checkTargets_44 L k2 x1 d7)) else t_X1_checkTargets_44 L k2 x1 d)) else some d
set_option maxRecDepth 20000 in
theorem b_X1_checkTargets_2 {K : Kx} {Y : Yx} {z : Sh}  (hC : CK K Y cX1_checkTargets 2 RX1 1 22) (hr : (kme K).sig.returnType = none) (hA : kA K = aY Y z)  (ho : (0, 1, 1) ∈ yI Y) {d' : Dt} (hQ : kQ K = MQ (kb K) (QM Y z (none) d') (ka K) (ks K) 0 0 (aY Y z)) {k2 : Int32 → (Dt) → Option (Dt)} (hk2 : ∀ (x1 : Int32) (d : Dt), k2 x1 d = some d' → V K Y 2 0 0 z d 2 [(0, .ref (yo Y 1)), (1, .int x1)] []) (x1 : Int32) (d : Dt) (hf : t_X1_checkTargets_2 z.1 k2 x1 d = some d') : V K Y 2 0 0 z d 2 [(0, .ref (yo Y 1)), (1, .int x1)] [] := by
  have hL := hC.2.2.2.2.2.2.1
  have hkn : 0 ≤ (kR K).cells ∧ 0 ≤ (kR K).slots := ⟨Nat.zero_le _, Nat.zero_le _⟩
  unfold t_X1_checkTargets_2 at hf
  refine V_iload_n 1 hC dX1_checkTargets_2 rfl rfl ?_
  refine V_aload_n 0 hC dX1_checkTargets_3 rfl rfl ?_
  refine V_geti (o := 1) hC ho rfl fk_X1_46 dX1_checkTargets_4 ?_
  refine V_icmp_ge (tgt := 50) hC dX1_checkTargets_7 (by decide) (fun c1 => ?_) (fun c1 => ?_)
  · have hf := if_t hf c1
    obtain rfl := so_inj hf
    exact V_vret hC hr hQ hA dX1_checkTargets_50
  · have hf := if_f hf c1
    refine V_aload_n 0 hC dX1_checkTargets_10 rfl rfl ?_
    refine V_geti (o := 1) hC ho rfl fk_X1_32 dX1_checkTargets_11 ?_
    refine V_if_ne (tgt := 50) hC dX1_checkTargets_14 (by decide) (fun c2 => ?_) (fun c2 => ?_)
    · have hf := if_f hf c2
      obtain rfl := so_inj hf
      exact V_vret hC hr hQ hA dX1_checkTargets_50
    · have hf := if_t hf c2
      refine V_aload_n 0 hC dX1_checkTargets_17 rfl rfl ?_
      refine V_geto (o := 1) (o2 := 5) hC ho rfl fk_X1_12 rfl dX1_checkTargets_18 ?_
      refine V_aload_n 0 hC dX1_checkTargets_21 rfl rfl ?_
      refine V_geta (o := 1) hC ho rfl fk_X1_39 dX1_checkTargets_22 ?_
      refine V_iload_n 1 hC dX1_checkTargets_25 rfl rfl ?_
      obtain ⟨g3, hf⟩ := gd_some hf
      refine V_iald (a := (32 * 1 + 7)) hC (hL.row ho rfl) g3 dX1_checkTargets_26 ?_
      obtain ⟨v4, ev4, hf⟩ := bi_some hf
      refine V_invi (o := 5) (As := [.int (gA d (32 * 1 + 7) (ix x1))]) (rest := []) hC (c_X0_hasPart hL (show (0, 5, 0) ∈ yI Y from hL.obj (j := 0) ho rfl) ev4) me_X0_hasPart lk_X1_148 (show (0, 5, 0) ∈ yI Y from hL.obj (j := 0) ho rfl) rfl rfl rfl (Nat.le_of_ble_eq_true rfl) ⟨by decide, by decide⟩ hkn dX1_checkTargets_27 ?_
      refine V_if_ne (tgt := 44) hC dX1_checkTargets_30 (by decide) (fun c5 => ?_) (fun c5 => ?_)
      · have hf := if_f hf c5
        exact b_X1_checkTargets_44 hC hr hA ho hQ hk2 x1 d hf
      · have hf := if_t hf c5
        refine V_aload_n 0 hC dX1_checkTargets_33 rfl rfl ?_
        refine V_iconst (v := 4) hC dX1_checkTargets_34 rfl ?_
        refine V_aload_n 0 hC dX1_checkTargets_35 rfl rfl ?_
        refine V_geta (o := 1) hC ho rfl fk_X1_43 dX1_checkTargets_36 ?_
        refine V_iload_n 1 hC dX1_checkTargets_39 rfl rfl ?_
        obtain ⟨g6, hf⟩ := gd_some hf
        refine V_iald (a := (32 * 1 + 8)) hC (hL.row ho rfl) g6 dX1_checkTargets_40 ?_
        obtain ⟨d7, ed7, hf⟩ := bi_some hf
        refine V_invv (o := 1) (As := [.int 4, .int (gA d (32 * 1 + 8) (ix x1))]) (rest := []) hC (c_X1_fail hL ho ed7) me_X1_fail lk_X1_70 ho rfl rfl rfl (Nat.le_of_ble_eq_true rfl) ⟨by decide, by decide⟩ hkn dX1_checkTargets_41 ?_
        exact b_X1_checkTargets_44 hC hr hA ho hQ hk2 x1 d7 hf
def t_X1_checkTargets (L : Nat → Nat) (d : Dt)  : Option (Dt) := lp (fun k x => t_X1_checkTargets_2 L  (fun x1 d => k (x1, d)) x.1 x.2) FU (0, d)
set_option maxRecDepth 20000 in
theorem c_X1_checkTargets {l : Launch} {Y : Yx} (hL : LAY Y) {z : Sh} {d : Dt}  (ho : (0, 1, 1) ∈ yI Y) {d' : Dt} (hf : t_X1_checkTargets z.1 d  = some d') : MM l yX1_checkTargets cX1_checkTargets 2 none 1 22 Y z [.ref (yo Y 1)] d (none) d' := by
  refine MM.ofV (by decide +kernel) hL (Nat.le_of_ble_eq_true rfl) (fun K hl hC hr hQ hA => ?_)
  have hC : CK K Y cX1_checkTargets 2 RX1 1 22 := hC
  unfold t_X1_checkTargets at hf
  show V K Y 2 0 0 z d 0 [(0, .ref (yo Y 1))] []
  refine V_iconst (v := 0) hC dX1_checkTargets_0 rfl ?_
  refine V_istore_n (lv' := [(1, .int 0), (0, .ref (yo Y 1))]) hC dX1_checkTargets_1 rfl (by decide) rfl ?_
  exact V_sub [1, 0] rfl (lp_ind (X := Int32 × Dt) (P := fun x => V K Y 2 0 0 z x.2 2 [(0, .ref (yo Y 1)), (1, .int x.1)] []) (fun k x hk hx => b_X1_checkTargets_2 hC hr hA ho hQ  (k2 := fun x1 d => k (x1, d)) (fun x1 d hx => hk (x1, d) hx) x.1 x.2 hx) FU (0, d) hf)
def t_X1_parse_111 (L : Nat → Nat)   (d : Dt) : Option (Int32 × Dt) := (t_X1_checkTargets L d ).bind (fun d18 => some (gF d18 1 5, d18))
set_option maxRecDepth 20000 in
theorem b_X1_parse_111 {K : Kx} {Y : Yx} {z : Sh}  (hC : CK K Y cX1_parse 2 RX1 8 175) (hr : (kme K).sig.returnType = some .int) (hA : kA K = aY Y z)  (ho : (0, 1, 1) ∈ yI Y) {r : Int32} {d' : Dt} (hQ : kQ K = MQ (kb K) (QM Y z (some (.int r)) d') (ka K) (ks K) 0 0 (aY Y z))    (d : Dt) (hf : t_X1_parse_111 z.1   d = some (r, d')) : V K Y 2 0 0 z d 111 [(0, .ref (yo Y 1))] [] := by
  have hL := hC.2.2.2.2.2.2.1
  have hkn : 0 ≤ (kR K).cells ∧ 0 ≤ (kR K).slots := ⟨Nat.zero_le _, Nat.zero_le _⟩
  unfold t_X1_parse_111 at hf
  refine V_aload_n 0 hC dX1_parse_111 rfl rfl ?_
  obtain ⟨d18, ed18, hf⟩ := bi_some hf
  refine V_invv (o := 1) (As := []) (rest := []) hC (c_X1_checkTargets hL ho ed18) me_X1_checkTargets lk_X1_74 ho rfl rfl rfl (Nat.le_of_ble_eq_true rfl) ⟨by decide, by decide⟩ hkn dX1_parse_112 ?_
  refine V_aload_n 0 hC dX1_parse_115 rfl rfl ?_
  refine V_geti (o := 1) hC ho rfl fk_X1_32 dX1_parse_116 ?_
  obtain ⟨rfl, rfl⟩ := so_inj2 hf
  exact V_iret hC hr hQ hA dX1_parse_119
def t_X1_parse_105 (L : Nat → Nat) (k39 : Int32 → (Dt) → Option (Int32 × Dt)) (x1 : Int32) (d : Dt) : Option (Int32 × Dt) := k39 (x1 + 1) d
set_option maxRecDepth 20000 in
theorem b_X1_parse_105 {K : Kx} {Y : Yx} {z : Sh}  (hC : CK K Y cX1_parse 2 RX1 8 175) (hr : (kme K).sig.returnType = some .int) (hA : kA K = aY Y z)  (ho : (0, 1, 1) ∈ yI Y) {r : Int32} {d' : Dt} (hQ : kQ K = MQ (kb K) (QM Y z (some (.int r)) d') (ka K) (ks K) 0 0 (aY Y z)) {k39 : Int32 → (Dt) → Option (Int32 × Dt)} (hk39 : ∀ (x1 : Int32) (d : Dt), k39 x1 d = some (r, d') → V K Y 2 0 0 z d 39 [(0, .ref (yo Y 1)), (1, .int x1)] []) (x1 : Int32) (d : Dt) (hf : t_X1_parse_105 z.1 k39 x1 d = some (r, d')) : V K Y 2 0 0 z d 105 [(0, .ref (yo Y 1)), (1, .int x1)] [] := by
  have hL := hC.2.2.2.2.2.2.1
  unfold t_X1_parse_105 at hf
  refine V_iinc (v := x1 + 1) (lv' := [(1, .int (x1 + 1)), (0, .ref (yo Y 1))]) 1 hC dX1_parse_105 rfl rfl (by decide) rfl ?_
  refine V_goto (tgt := 39) hC dX1_parse_108 (by decide) ?_
  exact V_sub [1, 0] rfl (hk39 (x1 + 1) d hf)
def t_X1_parse_39 (L : Nat → Nat) (k39 : Int32 → (Dt) → Option (Int32 × Dt)) (x1 : Int32) (d : Dt) : Option (Int32 × Dt) := if 600 ≤ x1 then t_X1_parse_111 L  d else if (gF d 1 1) ≤ (gF d 1 4) then t_X1_parse_111 L  d else if (gF d 1 5) = 0 then (t_X1_isWord L d 0).bind (fun v11 => if v11 = 0 then (t_X1_isWord L d 1).bind (fun v13 => if v13 = 0 then (t_X1_fail L d 1 (gF d 1 4)).bind (fun d15 => t_X1_parse_105 L k39 x1 d15) else (t_X1_readPart L d ).bind (fun d16 => t_X1_parse_105 L k39 x1 d16)) else (t_X1_readHealth L d ).bind (fun d17 => t_X1_parse_105 L k39 x1 d17)) else t_X1_parse_111 L  d
set_option maxRecDepth 20000 in
theorem b_X1_parse_39 {K : Kx} {Y : Yx} {z : Sh}  (hC : CK K Y cX1_parse 2 RX1 8 175) (hr : (kme K).sig.returnType = some .int) (hA : kA K = aY Y z)  (ho : (0, 1, 1) ∈ yI Y) {r : Int32} {d' : Dt} (hQ : kQ K = MQ (kb K) (QM Y z (some (.int r)) d') (ka K) (ks K) 0 0 (aY Y z)) {k39 : Int32 → (Dt) → Option (Int32 × Dt)} (hk39 : ∀ (x1 : Int32) (d : Dt), k39 x1 d = some (r, d') → V K Y 2 0 0 z d 39 [(0, .ref (yo Y 1)), (1, .int x1)] []) (x1 : Int32) (d : Dt) (hf : t_X1_parse_39 z.1 k39 x1 d = some (r, d')) : V K Y 2 0 0 z d 39 [(0, .ref (yo Y 1)), (1, .int x1)] [] := by
  have hL := hC.2.2.2.2.2.2.1
  have hkn : 0 ≤ (kR K).cells ∧ 0 ≤ (kR K).slots := ⟨Nat.zero_le _, Nat.zero_le _⟩
  unfold t_X1_parse_39 at hf
  refine V_iload_n 1 hC dX1_parse_39 rfl rfl ?_
  refine V_sipush (v := 600) hC dX1_parse_40 rfl ?_
  refine V_icmp_ge (tgt := 111) hC dX1_parse_43 (by decide) (fun c8 => ?_) (fun c8 => ?_)
  · have hf := if_t hf c8
    exact V_sub [0] rfl (b_X1_parse_111 hC hr hA ho hQ  d hf)
  · have hf := if_f hf c8
    refine V_aload_n 0 hC dX1_parse_46 rfl rfl ?_
    refine V_geti (o := 1) hC ho rfl fk_X1_29 dX1_parse_47 ?_
    refine V_aload_n 0 hC dX1_parse_50 rfl rfl ?_
    refine V_geti (o := 1) hC ho rfl fk_X1_18 dX1_parse_51 ?_
    refine V_icmp_ge (tgt := 111) hC dX1_parse_54 (by decide) (fun c9 => ?_) (fun c9 => ?_)
    · have hf := if_t hf c9
      exact V_sub [0] rfl (b_X1_parse_111 hC hr hA ho hQ  d hf)
    · have hf := if_f hf c9
      refine V_aload_n 0 hC dX1_parse_57 rfl rfl ?_
      refine V_geti (o := 1) hC ho rfl fk_X1_32 dX1_parse_58 ?_
      refine V_if_ne (tgt := 111) hC dX1_parse_61 (by decide) (fun c10 => ?_) (fun c10 => ?_)
      · have hf := if_f hf c10
        exact V_sub [0] rfl (b_X1_parse_111 hC hr hA ho hQ  d hf)
      · have hf := if_t hf c10
        refine V_aload_n 0 hC dX1_parse_64 rfl rfl ?_
        refine V_ldcS (i := 0) hC rfl dX1_parse_65 ?_
        obtain ⟨v11, ev11, hf⟩ := bi_some hf
        refine V_invi (o := 1) (As := [.ref (yK Y 0)]) (rest := []) hC (c_X1_isWord hL ho (show 0 < 12 by decide) ev11) me_X1_isWord lk_X1_58 ho rfl rfl rfl (Nat.le_of_ble_eq_true rfl) ⟨by decide, by decide⟩ hkn dX1_parse_67 ?_
        refine V_if_eq (tgt := 80) hC dX1_parse_70 (by decide) (fun c12 => ?_) (fun c12 => ?_)
        · have hf := if_t hf c12
          refine V_aload_n 0 hC dX1_parse_80 rfl rfl ?_
          refine V_ldcS (i := 1) hC rfl dX1_parse_81 ?_
          obtain ⟨v13, ev13, hf⟩ := bi_some hf
          refine V_invi (o := 1) (As := [.ref (yK Y 1)]) (rest := []) hC (c_X1_isWord hL ho (show 1 < 12 by decide) ev13) me_X1_isWord lk_X1_58 ho rfl rfl rfl (Nat.le_of_ble_eq_true rfl) ⟨by decide, by decide⟩ hkn dX1_parse_83 ?_
          refine V_if_eq (tgt := 96) hC dX1_parse_86 (by decide) (fun c14 => ?_) (fun c14 => ?_)
          · have hf := if_t hf c14
            refine V_aload_n 0 hC dX1_parse_96 rfl rfl ?_
            refine V_iconst (v := 1) hC dX1_parse_97 rfl ?_
            refine V_aload_n 0 hC dX1_parse_98 rfl rfl ?_
            refine V_geti (o := 1) hC ho rfl fk_X1_29 dX1_parse_99 ?_
            obtain ⟨d15, ed15, hf⟩ := bi_some hf
            refine V_invv (o := 1) (As := [.int 1, .int (gF d 1 4)]) (rest := []) hC (c_X1_fail hL ho ed15) me_X1_fail lk_X1_70 ho rfl rfl rfl (Nat.le_of_ble_eq_true rfl) ⟨by decide, by decide⟩ hkn dX1_parse_102 ?_
            exact b_X1_parse_105 hC hr hA ho hQ hk39 x1 d15 hf
          · have hf := if_f hf c14
            refine V_aload_n 0 hC dX1_parse_89 rfl rfl ?_
            obtain ⟨d16, ed16, hf⟩ := bi_some hf
            refine V_invv (o := 1) (As := []) (rest := []) hC (c_X1_readPart hL ho ed16) me_X1_readPart lk_X1_67 ho rfl rfl rfl (Nat.le_of_ble_eq_true rfl) ⟨by decide, by decide⟩ hkn dX1_parse_90 ?_
            refine V_goto (tgt := 105) hC dX1_parse_93 (by decide) ?_
            exact b_X1_parse_105 hC hr hA ho hQ hk39 x1 d16 hf
        · have hf := if_f hf c12
          refine V_aload_n 0 hC dX1_parse_73 rfl rfl ?_
          obtain ⟨d17, ed17, hf⟩ := bi_some hf
          refine V_invv (o := 1) (As := []) (rest := []) hC (c_X1_readHealth hL ho ed17) me_X1_readHealth lk_X1_62 ho rfl rfl rfl (Nat.le_of_ble_eq_true rfl) ⟨by decide, by decide⟩ hkn dX1_parse_74 ?_
          refine V_goto (tgt := 105) hC dX1_parse_77 (by decide) ?_
          exact b_X1_parse_105 hC hr hA ho hQ hk39 x1 d17 hf
def t_X1_parse (L : Nat → Nat) (d : Dt)  : Option (Int32 × Dt) := bd (sF d 1 4 0) (fun d1 => bd (sF d1 1 5 0) (fun d2 => bd (sF d2 1 2 (-1)) (fun d3 => bd (sF d3 1 6 0) (fun d4 => bd (sF d4 1 9 0) (fun d5 => (t_X0_empty L d5 5).bind (fun d6 => (t_X1_pass L d6 0).bind (fun d7 => lp (fun k x => t_X1_parse_39 L  (fun x1 d => k (x1, d)) x.1 x.2) FU (0, d7))))))))
set_option maxRecDepth 20000 in
theorem c_X1_parse {l : Launch} {Y : Yx} (hL : LAY Y) {z : Sh} {d : Dt}  (ho : (0, 1, 1) ∈ yI Y) {r : Int32} {d' : Dt} (hf : t_X1_parse z.1 d  = some (r, d')) : MM l yX1_parse cX1_parse 2 (some .int) 8 175 Y z [.ref (yo Y 1)] d (some (.int r)) d' := by
  refine MM.ofV (by decide +kernel) hL (Nat.le_of_ble_eq_true rfl) (fun K hl hC hr hQ hA => ?_)
  have hC : CK K Y cX1_parse 2 RX1 8 175 := hC
  have hkn : 0 ≤ (kR K).cells ∧ 0 ≤ (kR K).slots := ⟨Nat.zero_le _, Nat.zero_le _⟩
  unfold t_X1_parse at hf
  show V K Y 2 0 0 z d 0 [(0, .ref (yo Y 1))] []
  refine V_aload_n 0 hC dX1_parse_0 rfl rfl ?_
  refine V_iconst (v := 0) hC dX1_parse_1 rfl ?_
  refine V_puti (o := 1) hC ho rfl fk_X1_29 pl_X1 rfl rfl dX1_parse_2 (fun d1 ed1 => ?_)
  have hf := bd_e hf d1 ed1
  refine V_aload_n 0 hC dX1_parse_5 rfl rfl ?_
  refine V_iconst (v := 0) hC dX1_parse_6 rfl ?_
  refine V_puti (o := 1) hC ho rfl fk_X1_32 pl_X1 rfl rfl dX1_parse_7 (fun d2 ed2 => ?_)
  have hf := bd_e hf d2 ed2
  refine V_aload_n 0 hC dX1_parse_10 rfl rfl ?_
  refine V_iconst (v := -1) hC dX1_parse_11 rfl ?_
  refine V_puti (o := 1) hC ho rfl fk_X1_22 pl_X1 rfl rfl dX1_parse_12 (fun d3 ed3 => ?_)
  have hf := bd_e hf d3 ed3
  refine V_aload_n 0 hC dX1_parse_15 rfl rfl ?_
  refine V_iconst (v := 0) hC dX1_parse_16 rfl ?_
  refine V_putz (o := 1) hC ho rfl fk_X1_35 pl_X1 rfl rfl rfl dX1_parse_17 (fun d4 ed4 => ?_)
  have hf := bd_e hf d4 ed4
  refine V_aload_n 0 hC dX1_parse_20 rfl rfl ?_
  refine V_iconst (v := 0) hC dX1_parse_21 rfl ?_
  refine V_puti (o := 1) hC ho rfl fk_X1_46 pl_X1 rfl rfl dX1_parse_22 (fun d5 ed5 => ?_)
  have hf := bd_e hf d5 ed5
  refine V_aload_n 0 hC dX1_parse_25 rfl rfl ?_
  refine V_geto (o := 1) (o2 := 5) hC ho rfl fk_X1_12 rfl dX1_parse_26 ?_
  obtain ⟨d6, ed6, hf⟩ := bi_some hf
  refine V_invv (o := 5) (As := []) (rest := []) hC (c_X0_empty hL (show (0, 5, 0) ∈ yI Y from hL.obj (j := 0) ho rfl) ed6) me_X0_empty lk_X1_49 (show (0, 5, 0) ∈ yI Y from hL.obj (j := 0) ho rfl) rfl rfl rfl (Nat.le_of_ble_eq_true rfl) ⟨by decide, by decide⟩ hkn dX1_parse_29 ?_
  refine V_aload_n 0 hC dX1_parse_32 rfl rfl ?_
  refine V_iconst (v := 0) hC dX1_parse_33 rfl ?_
  obtain ⟨d7, ed7, hf⟩ := bi_some hf
  refine V_invv (o := 1) (As := [.int 0]) (rest := []) hC (c_X1_pass hL ho ed7) me_X1_pass lk_X1_52 ho rfl rfl rfl (Nat.le_of_ble_eq_true rfl) ⟨by decide, by decide⟩ hkn dX1_parse_34 ?_
  refine V_iconst (v := 0) hC dX1_parse_37 rfl ?_
  refine V_istore_n (lv' := [(1, .int 0), (0, .ref (yo Y 1))]) hC dX1_parse_38 rfl (by decide) rfl ?_
  exact V_sub [1, 0] rfl (lp_ind (X := Int32 × Dt) (P := fun x => V K Y 2 0 0 z x.2 39 [(0, .ref (yo Y 1)), (1, .int x.1)] []) (fun k x hk hx => b_X1_parse_39 hC hr hA ho hQ  (k39 := fun x1 d => k (x1, d)) (fun x1 d hx => hk (x1, d) hx) x.1 x.2 hx) FU (0, d7) hf)
