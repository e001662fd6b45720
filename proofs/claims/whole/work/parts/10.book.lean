/-! ===== ChoiceBook$State, ChoiceBook$Book: lifted and met ===== -/
theorem fk_X0_9 : FLK RX0 9 0 0 RX0 TX0 13 := ⟨rfl, uw_X0, by decide, rfl, gt_t 36 (by decide +kernel) rfl⟩
theorem fk_X0_15 : FLK RX0 15 0 1 RX0 TX0 13 := ⟨rfl, uw_X0, by decide, rfl, gt_t 40 (by decide +kernel) rfl⟩
theorem fk_X0_18 : FLK RX0 18 0 2 RX0 TX0 13 := ⟨rfl, uw_X0, by decide, rfl, gt_t 43 (by decide +kernel) rfl⟩
theorem ac_X0_52 : ACL RX0 52 := ⟨gt_t 436 (by decide +kernel) rfl, gt_t 438 (by decide +kernel) rfl, gt_t 437 (by decide +kernel) rfl, gt_t 11 (by decide +kernel) rfl⟩
theorem fk_X0_22 : FLK RX0 22 0 3 RX0 TX0 13 := ⟨rfl, uw_X0, by decide, rfl, gt_t 46 (by decide +kernel) rfl⟩
theorem fk_X0_25 : FLK RX0 25 0 4 RX0 TX0 13 := ⟨rfl, uw_X0, by decide, rfl, gt_t 49 (by decide +kernel) rfl⟩
theorem fk_X0_28 : FLK RX0 28 0 5 RX0 TX0 13 := ⟨rfl, uw_X0, by decide, rfl, gt_t 51 (by decide +kernel) rfl⟩
theorem fk_X0_31 : FLK RX0 31 0 6 RX0 TX0 13 := ⟨rfl, uw_X0, by decide, rfl, gt_t 53 (by decide +kernel) rfl⟩
theorem fk_X0_34 : FLK RX0 34 0 7 RX0 TX0 13 := ⟨rfl, uw_X0, by decide, rfl, gt_t 55 (by decide +kernel) rfl⟩
theorem fk_X0_37 : FLK RX0 37 0 8 RX0 TX0 13 := ⟨rfl, uw_X0, by decide, rfl, gt_t 57 (by decide +kernel) rfl⟩
theorem fk_X0_40 : FLK RX0 40 0 9 RX0 TX0 13 := ⟨rfl, uw_X0, by decide, rfl, gt_t 59 (by decide +kernel) rfl⟩
theorem fk_X0_43 : FLK RX0 43 0 10 RX0 TX0 13 := ⟨rfl, uw_X0, by decide, rfl, gt_t 61 (by decide +kernel) rfl⟩
theorem fk_X0_46 : FLK RX0 46 0 11 RX0 TX0 13 := ⟨rfl, uw_X0, by decide, rfl, gt_t 63 (by decide +kernel) rfl⟩
theorem fk_X0_49 : FLK RX0 49 0 12 RX0 TX0 13 := ⟨rfl, uw_X0, by decide, rfl, gt_t 65 (by decide +kernel) rfl⟩
theorem lk_X0_58 : Cond.methodLink RX0 58 yX0_hasPart ∈ gt := gt_t 389 (by decide +kernel) rfl
theorem me_X0_hasPart : MEV RX0 yX0_hasPart cX0_hasPart 2 (some .boolean) 1 := ⟨⟨gt_t 392 (by decide +kernel) rfl, gt_t 3 (by decide +kernel) rfl, by decide +kernel⟩, gt_t 390 (by decide +kernel) rfl, gt_t 391 (by decide +kernel) rfl⟩
theorem lk_X0_62 : Cond.methodLink RX0 62 yX0_hasChoice ∈ gt := gt_t 489 (by decide +kernel) rfl
theorem me_X0_hasChoice : MEV RX0 yX0_hasChoice cX0_hasChoice 3 (some .boolean) 2 := ⟨⟨gt_t 468 (by decide +kernel) rfl, gt_t 3 (by decide +kernel) rfl, by decide +kernel⟩, gt_t 466 (by decide +kernel) rfl, gt_t 467 (by decide +kernel) rfl⟩
theorem lk_X0_66 : Cond.methodLink RX0 66 yX3_partOf ∈ gt := gt_t 572 (by decide +kernel) rfl
theorem me_X3_partOf : MES yX3_partOf cX3_partOf 1 (some .int) 1 := ⟨⟨gt_t 563 (by decide +kernel) rfl, gt_t 12 (by decide +kernel) rfl, by decide +kernel⟩, gt_t 562 (by decide +kernel) rfl⟩
theorem lk_X0_72 : Cond.methodLink RX0 72 yX3_isOver ∈ gt := gt_t 577 (by decide +kernel) rfl
theorem me_X3_isOver : MES yX3_isOver cX3_isOver 1 (some .boolean) 1 := ⟨⟨gt_t 579 (by decide +kernel) rfl, gt_t 12 (by decide +kernel) rfl, by decide +kernel⟩, gt_t 578 (by decide +kernel) rfl⟩
theorem lk_X0_75 : Cond.methodLink RX0 75 yX3_thingsOf ∈ gt := gt_t 580 (by decide +kernel) rfl
theorem me_X3_thingsOf : MES yX3_thingsOf cX3_thingsOf 1 (some .int) 1 := ⟨⟨gt_t 582 (by decide +kernel) rfl, gt_t 12 (by decide +kernel) rfl, by decide +kernel⟩, gt_t 581 (by decide +kernel) rfl⟩
theorem lk_X0_78 : Cond.methodLink RX0 78 yX0_isOpen ∈ gt := gt_t 573 (by decide +kernel) rfl
theorem me_X0_isOpen : MEV RX0 yX0_isOpen cX0_isOpen 7 (some .boolean) 2 := ⟨⟨gt_t 576 (by decide +kernel) rfl, gt_t 3 (by decide +kernel) rfl, by decide +kernel⟩, gt_t 574 (by decide +kernel) rfl, gt_t 575 (by decide +kernel) rfl⟩
theorem lk_X0_81 : Cond.methodLink RX0 81 yX0_isRoll ∈ gt := gt_t 583 (by decide +kernel) rfl
theorem me_X0_isRoll : MEV RX0 yX0_isRoll cX0_isRoll 2 (some .boolean) 1 := ⟨⟨gt_t 586 (by decide +kernel) rfl, gt_t 3 (by decide +kernel) rfl, by decide +kernel⟩, gt_t 584 (by decide +kernel) rfl, gt_t 585 (by decide +kernel) rfl⟩
theorem mm_X0_84 : MML RX0 84 Lib.Math.min.name Lib.Math.min.code 2 := ⟨gt_t 529 (by decide +kernel) rfl, gt_t 530 (by decide +kernel) rfl, gt_t 13 (by decide +kernel) rfl, gt_t 531 (by decide +kernel) rfl⟩
theorem lk_X0_90 : Cond.methodLink RX0 90 yX0_waysFrom ∈ gt := gt_t 787 (by decide +kernel) rfl
theorem me_X0_waysFrom : MEV RX0 yX0_waysFrom cX0_waysFrom 2 (some .int) 1 := ⟨⟨gt_t 567 (by decide +kernel) rfl, gt_t 3 (by decide +kernel) rfl, by decide +kernel⟩, gt_t 565 (by decide +kernel) rfl, gt_t 566 (by decide +kernel) rfl⟩
theorem lk_X0_93 : Cond.methodLink RX0 93 yX0_wayOut ∈ gt := gt_t 788 (by decide +kernel) rfl
theorem me_X0_wayOut : MEV RX0 yX0_wayOut cX0_wayOut 4 (some .int) 2 := ⟨⟨gt_t 571 (by decide +kernel) rfl, gt_t 3 (by decide +kernel) rfl, by decide +kernel⟩, gt_t 569 (by decide +kernel) rfl, gt_t 570 (by decide +kernel) rfl⟩
theorem lk_X0_99 : Cond.methodLink RX0 99 yX0_openChoices ∈ gt := gt_t 619 (by decide +kernel) rfl
theorem me_X0_openChoices : MEV RX0 yX0_openChoices cX0_openChoices 5 (some .int) 1 := ⟨⟨gt_t 622 (by decide +kernel) rfl, gt_t 3 (by decide +kernel) rfl, by decide +kernel⟩, gt_t 620 (by decide +kernel) rfl, gt_t 621 (by decide +kernel) rfl⟩
theorem lk_X0_96 : Cond.methodLink RX0 96 yX3_fateOf ∈ gt := gt_t 618 (by decide +kernel) rfl
theorem me_X3_fateOf : MES yX3_fateOf cX3_fateOf 1 (some .int) 1 := ⟨⟨gt_t 542 (by decide +kernel) rfl, gt_t 12 (by decide +kernel) rfl, by decide +kernel⟩, gt_t 541 (by decide +kernel) rfl⟩
theorem lk_X0_109 : Cond.methodLink RX0 109 yX3_pack ∈ gt := gt_t 526 (by decide +kernel) rfl
theorem me_X3_pack : MES yX3_pack cX3_pack 4 (some .int) 4 := ⟨⟨gt_t 528 (by decide +kernel) rfl, gt_t 12 (by decide +kernel) rfl, by decide +kernel⟩, gt_t 527 (by decide +kernel) rfl⟩
theorem lk_X0_102 : Cond.methodLink RX0 102 yX0_arrive ∈ gt := gt_t 522 (by decide +kernel) rfl
theorem me_X0_arrive : MEV RX0 yX0_arrive cX0_arrive 9 (some .int) 4 := ⟨⟨gt_t 525 (by decide +kernel) rfl, gt_t 3 (by decide +kernel) rfl, by decide +kernel⟩, gt_t 524 (by decide +kernel) rfl, gt_s (q := (yX0_arrive, 13)) 17 (by decide +kernel)⟩
theorem lk_X0_106 : Cond.methodLink RX0 106 yX3_healthOf ∈ gt := gt_t 591 (by decide +kernel) rfl
theorem me_X3_healthOf : MES yX3_healthOf cX3_healthOf 1 (some .int) 1 := ⟨⟨gt_t 593 (by decide +kernel) rfl, gt_t 12 (by decide +kernel) rfl, by decide +kernel⟩, gt_t 592 (by decide +kernel) rfl⟩
theorem mm_X0_122 : MML RX0 122 Lib.Math.max.name Lib.Math.max.code 2 := ⟨gt_t 805 (by decide +kernel) rfl, gt_t 701 (by decide +kernel) rfl, gt_t 13 (by decide +kernel) rfl, gt_t 702 (by decide +kernel) rfl⟩
theorem lk_X0_112 : Cond.methodLink RX0 112 yJ7_fill_53178 ∈ gt := gt_t 801 (by decide +kernel) rfl
theorem me_J7_fill_53178 : MES yJ7_fill_53178 cJ7_fill_53178 4 none 2 := ⟨⟨gt_t 608 (by decide +kernel) rfl, gt_t 14 (by decide +kernel) rfl, by decide +kernel⟩, gt_t 607 (by decide +kernel) rfl⟩
theorem lk_X0_118 : Cond.methodLink RX0 118 yX0_addPair ∈ gt := gt_t 802 (by decide +kernel) rfl
theorem me_X0_addPair : MES yX0_addPair cX0_addPair 5 none 3 := ⟨⟨gt_t 804 (by decide +kernel) rfl, gt_t 3 (by decide +kernel) rfl, by decide +kernel⟩, gt_t 803 (by decide +kernel) rfl⟩
def t_X3_pack (L : Nat → Nat) (d : Dt) (p0 : Int32) (p1 : Int32) (p2 : Int32) (p3 : Int32) : Option (Int32) := some ((((p0 <<< ((14 : Int32) &&& 31)) ||| (p1 <<< ((6 : Int32) &&& 31))) ||| (p2 <<< ((2 : Int32) &&& 31))) ||| p3)
set_option maxRecDepth 20000 in
theorem c_X3_pack {l : Launch} {Y : Yx} (hL : LAY Y) {z : Sh} {d : Dt} {p0 : Int32} {p1 : Int32} {p2 : Int32} {p3 : Int32}  {r : Int32} (hf : t_X3_pack z.1 d p0 p1 p2 p3 = some r) : MM l yX3_pack cX3_pack 4 (some .int) 0 0 Y z [.int p0, .int p1, .int p2, .int p3] d (some (.int r)) d := by
  refine MM.ofV (by decide +kernel) hL (Nat.le_of_ble_eq_true rfl) (fun K hl hC hr hQ hA => ?_)
  have hC : CK K Y cX3_pack 4 RX3 0 0 := hC
  unfold t_X3_pack at hf
  show V K Y 4 0 0 z d 0 [(0, .int p0), (1, .int p1), (2, .int p2), (3, .int p3)] []
  refine V_iload_n 0 hC dX3_pack_0 rfl rfl ?_
  refine V_bipush (v := 14) hC dX3_pack_1 rfl ?_
  refine V_ishl hC dX3_pack_3 ?_
  refine V_iload_n 1 hC dX3_pack_4 rfl rfl ?_
  refine V_bipush (v := 6) hC dX3_pack_5 rfl ?_
  refine V_ishl hC dX3_pack_7 ?_
  refine V_ior hC dX3_pack_8 ?_
  refine V_iload_n 2 hC dX3_pack_9 rfl rfl ?_
  refine V_iconst (v := 2) hC dX3_pack_10 rfl ?_
  refine V_ishl hC dX3_pack_11 ?_
  refine V_ior hC dX3_pack_12 ?_
  refine V_iload_n 3 hC dX3_pack_13 rfl rfl ?_
  refine V_ior hC dX3_pack_14 ?_
  obtain rfl := so_inj hf
  exact V_iret hC hr hQ hA dX3_pack_15
def t_X3_partOf (L : Nat → Nat) (d : Dt) (p0 : Int32) : Option (Int32) := some ((p0 >>> ((14 : Int32) &&& 31)) &&& 31)
set_option maxRecDepth 20000 in
theorem c_X3_partOf {l : Launch} {Y : Yx} (hL : LAY Y) {z : Sh} {d : Dt} {p0 : Int32}  {r : Int32} (hf : t_X3_partOf z.1 d p0 = some r) : MM l yX3_partOf cX3_partOf 1 (some .int) 0 0 Y z [.int p0] d (some (.int r)) d := by
  refine MM.ofV (by decide +kernel) hL (Nat.le_of_ble_eq_true rfl) (fun K hl hC hr hQ hA => ?_)
  have hC : CK K Y cX3_partOf 1 RX3 0 0 := hC
  unfold t_X3_partOf at hf
  show V K Y 1 0 0 z d 0 [(0, .int p0)] []
  refine V_iload_n 0 hC dX3_partOf_0 rfl rfl ?_
  refine V_bipush (v := 14) hC dX3_partOf_1 rfl ?_
  refine V_ishr hC dX3_partOf_3 ?_
  refine V_bipush (v := 31) hC dX3_partOf_4 rfl ?_
  refine V_iand hC dX3_partOf_6 ?_
  obtain rfl := so_inj hf
  exact V_iret hC hr hQ hA dX3_partOf_7
def t_X3_thingsOf (L : Nat → Nat) (d : Dt) (p0 : Int32) : Option (Int32) := some ((p0 >>> ((6 : Int32) &&& 31)) &&& 255)
set_option maxRecDepth 20000 in
theorem c_X3_thingsOf {l : Launch} {Y : Yx} (hL : LAY Y) {z : Sh} {d : Dt} {p0 : Int32}  {r : Int32} (hf : t_X3_thingsOf z.1 d p0 = some r) : MM l yX3_thingsOf cX3_thingsOf 1 (some .int) 0 0 Y z [.int p0] d (some (.int r)) d := by
  refine MM.ofV (by decide +kernel) hL (Nat.le_of_ble_eq_true rfl) (fun K hl hC hr hQ hA => ?_)
  have hC : CK K Y cX3_thingsOf 1 RX3 0 0 := hC
  unfold t_X3_thingsOf at hf
  show V K Y 1 0 0 z d 0 [(0, .int p0)] []
  refine V_iload_n 0 hC dX3_thingsOf_0 rfl rfl ?_
  refine V_bipush (v := 6) hC dX3_thingsOf_1 rfl ?_
  refine V_ishr hC dX3_thingsOf_3 ?_
  refine V_sipush (v := 255) hC dX3_thingsOf_4 rfl ?_
  refine V_iand hC dX3_thingsOf_7 ?_
  obtain rfl := so_inj hf
  exact V_iret hC hr hQ hA dX3_thingsOf_8
def t_X3_healthOf (L : Nat → Nat) (d : Dt) (p0 : Int32) : Option (Int32) := some ((p0 >>> ((2 : Int32) &&& 31)) &&& 15)
set_option maxRecDepth 20000 in
theorem c_X3_healthOf {l : Launch} {Y : Yx} (hL : LAY Y) {z : Sh} {d : Dt} {p0 : Int32}  {r : Int32} (hf : t_X3_healthOf z.1 d p0 = some r) : MM l yX3_healthOf cX3_healthOf 1 (some .int) 0 0 Y z [.int p0] d (some (.int r)) d := by
  refine MM.ofV (by decide +kernel) hL (Nat.le_of_ble_eq_true rfl) (fun K hl hC hr hQ hA => ?_)
  have hC : CK K Y cX3_healthOf 1 RX3 0 0 := hC
  unfold t_X3_healthOf at hf
  show V K Y 1 0 0 z d 0 [(0, .int p0)] []
  refine V_iload_n 0 hC dX3_healthOf_0 rfl rfl ?_
  refine V_iconst (v := 2) hC dX3_healthOf_1 rfl ?_
  refine V_ishr hC dX3_healthOf_2 ?_
  refine V_bipush (v := 15) hC dX3_healthOf_3 rfl ?_
  refine V_iand hC dX3_healthOf_5 ?_
  obtain rfl := so_inj hf
  exact V_iret hC hr hQ hA dX3_healthOf_6
def t_X3_fateOf (L : Nat → Nat) (d : Dt) (p0 : Int32) : Option (Int32) := some (p0 &&& 3)
set_option maxRecDepth 20000 in
theorem c_X3_fateOf {l : Launch} {Y : Yx} (hL : LAY Y) {z : Sh} {d : Dt} {p0 : Int32}  {r : Int32} (hf : t_X3_fateOf z.1 d p0 = some r) : MM l yX3_fateOf cX3_fateOf 1 (some .int) 0 0 Y z [.int p0] d (some (.int r)) d := by
  refine MM.ofV (by decide +kernel) hL (Nat.le_of_ble_eq_true rfl) (fun K hl hC hr hQ hA => ?_)
  have hC : CK K Y cX3_fateOf 1 RX3 0 0 := hC
  unfold t_X3_fateOf at hf
  show V K Y 1 0 0 z d 0 [(0, .int p0)] []
  refine V_iload_n 0 hC dX3_fateOf_0 rfl rfl ?_
  refine V_iconst (v := 3) hC dX3_fateOf_1 rfl ?_
  refine V_iand hC dX3_fateOf_2 ?_
  obtain rfl := so_inj hf
  exact V_iret hC hr hQ hA dX3_fateOf_3
def t_X3_isOver (L : Nat → Nat) (d : Dt) (p0 : Int32) : Option (Int32) := if (p0 &&& 3) = 0 then some 0 else some 1
set_option maxRecDepth 20000 in
theorem c_X3_isOver {l : Launch} {Y : Yx} (hL : LAY Y) {z : Sh} {d : Dt} {p0 : Int32}  {r : Int32} (hf : t_X3_isOver z.1 d p0 = some r) : MM l yX3_isOver cX3_isOver 1 (some .boolean) 0 0 Y z [.int p0] d (some (.int r)) d := by
  refine MM.ofV (by decide +kernel) hL (Nat.le_of_ble_eq_true rfl) (fun K hl hC hr hQ hA => ?_)
  have hC : CK K Y cX3_isOver 1 RX3 0 0 := hC
  unfold t_X3_isOver at hf
  show V K Y 1 0 0 z d 0 [(0, .int p0)] []
  refine V_iload_n 0 hC dX3_isOver_0 rfl rfl ?_
  refine V_iconst (v := 3) hC dX3_isOver_1 rfl ?_
  refine V_iand hC dX3_isOver_2 ?_
  refine V_if_eq (tgt := 10) hC dX3_isOver_3 (by decide) (fun c1 => ?_) (fun c1 => ?_)
  · have hf := if_t hf c1
    refine V_iconst (v := 0) hC dX3_isOver_10 rfl ?_
    obtain rfl := so_inj hf
    exact V_zret hC hr rfl hQ hA dX3_isOver_11
  · have hf := if_f hf c1
    refine V_iconst (v := 1) hC dX3_isOver_6 rfl ?_
    refine V_goto (tgt := 11) hC dX3_isOver_7 (by decide) ?_
    obtain rfl := so_inj hf
    exact V_zret hC hr rfl hQ hA dX3_isOver_11
def t_X0_empty (L : Nat → Nat) (d : Dt) (o : Nat) : Option (Dt) := bd (sF d o 0 0) (fun d1 => bd (sF d1 o 1 5) (fun d2 => some d2))
set_option maxRecDepth 20000 in
theorem c_X0_empty {l : Launch} {Y : Yx} (hL : LAY Y) {z : Sh} {d : Dt} {o : Nat} (ho : (0, o, 0) ∈ yI Y) {d' : Dt} (hf : t_X0_empty z.1 d o = some d') : MM l yX0_empty cX0_empty 1 none 0 0 Y z [.ref (yo Y o)] d (none) d' := by
  refine MM.ofV (by decide +kernel) hL (Nat.le_of_ble_eq_true rfl) (fun K hl hC hr hQ hA => ?_)
  have hC : CK K Y cX0_empty 1 RX0 0 0 := hC
  unfold t_X0_empty at hf
  show V K Y 1 0 0 z d 0 [(0, .ref (yo Y o))] []
  refine V_aload_n 0 hC dX0_empty_0 rfl rfl ?_
  refine V_iconst (v := 0) hC dX0_empty_1 rfl ?_
  refine V_puti (o := o) hC ho rfl fk_X0_9 pl_X0 rfl rfl dX0_empty_2 (fun d1 ed1 => ?_)
  have hf := bd_e hf d1 ed1
  refine V_aload_n 0 hC dX0_empty_5 rfl rfl ?_
  refine V_iconst (v := 5) hC dX0_empty_6 rfl ?_
  refine V_puti (o := o) hC ho rfl fk_X0_15 pl_X0 rfl rfl dX0_empty_7 (fun d2 ed2 => ?_)
  have hf := bd_e hf d2 ed2
  obtain rfl := so_inj hf
  exact V_vret hC hr hQ hA dX0_empty_10
def t_X0_copyFrom (L : Nat → Nat) (d : Dt) (o : Nat) (o1 : Nat) : Option (Dt) := bd (sF d o 0 (gF d o1 0)) (fun d1 => bd (sF d1 o 1 (gF d1 o1 1)) (fun d2 => gd (cpok (L (32 * o1 + 2)) (L (32 * o + 2)) 0 0 24) (bd (sR d2 (32 * o + 2) (va_cpy (gA d2 (32 * o1 + 2)) (gA d2 (32 * o + 2)) (ix 0) (ix 0) (ix 24))) (fun d4 => gd (cpok (L (32 * o1 + 3)) (L (32 * o + 3)) 0 0 24) (bd (sR d4 (32 * o + 3) (va_cpy (gA d4 (32 * o1 + 3)) (gA d4 (32 * o + 3)) (ix 0) (ix 0) (ix 24))) (fun d6 => gd (cpok (L (32 * o1 + 4)) (L (32 * o + 4)) 0 0 24) (bd (sR d6 (32 * o + 4) (va_cpy (gA d6 (32 * o1 + 4)) (gA d6 (32 * o + 4)) (ix 0) (ix 0) (ix 24))) (fun d8 => gd (cpok (L (32 * o1 + 5)) (L (32 * o + 5)) 0 0 24) (bd (sR d8 (32 * o + 5) (va_cpy (gA d8 (32 * o1 + 5)) (gA d8 (32 * o + 5)) (ix 0) (ix 0) (ix 24))) (fun d10 => gd (cpok (L (32 * o1 + 6)) (L (32 * o + 6)) 0 0 24) (bd (sR d10 (32 * o + 6) (va_cpy (gA d10 (32 * o1 + 6)) (gA d10 (32 * o + 6)) (ix 0) (ix 0) (ix 24))) (fun d12 => gd (cpok (L (32 * o1 + 7)) (L (32 * o + 7)) 0 0 96) (bd (sR d12 (32 * o + 7) (va_cpy (gA d12 (32 * o1 + 7)) (gA d12 (32 * o + 7)) (ix 0) (ix 0) (ix 96))) (fun d14 => gd (cpok (L (32 * o1 + 8)) (L (32 * o + 8)) 0 0 96) (bd (sR d14 (32 * o + 8) (va_cpy (gA d14 (32 * o1 + 8)) (gA d14 (32 * o + 8)) (ix 0) (ix 0) (ix 96))) (fun d16 => gd (cpok (L (32 * o1 + 9)) (L (32 * o + 9)) 0 0 24) (bd (sR d16 (32 * o + 9) (va_cpy (gA d16 (32 * o1 + 9)) (gA d16 (32 * o + 9)) (ix 0) (ix 0) (ix 24))) (fun d18 => gd (cpok (L (32 * o1 + 10)) (L (32 * o + 10)) 0 0 144) (bd (sR d18 (32 * o + 10) (va_cpy (gA d18 (32 * o1 + 10)) (gA d18 (32 * o + 10)) (ix 0) (ix 0) (ix 144))) (fun d20 => gd (cpok (L (32 * o1 + 11)) (L (32 * o + 11)) 0 0 144) (bd (sR d20 (32 * o + 11) (va_cpy (gA d20 (32 * o1 + 11)) (gA d20 (32 * o + 11)) (ix 0) (ix 0) (ix 144))) (fun d22 => gd (cpok (L (32 * o1 + 12)) (L (32 * o + 12)) 0 0 144) (bd (sR d22 (32 * o + 12) (va_cpy (gA d22 (32 * o1 + 12)) (gA d22 (32 * o + 12)) (ix 0) (ix 0) (ix 144))) (fun d24 => some d24))))))))))))))))))))))))
set_option maxRecDepth 20000 in
theorem c_X0_copyFrom {l : Launch} {Y : Yx} (hL : LAY Y) {z : Sh} {d : Dt} {o : Nat} {o1 : Nat} (ho : (0, o, 0) ∈ yI Y) (ho1 : (0, o1, 0) ∈ yI Y) {d' : Dt} (hf : t_X0_copyFrom z.1 d o o1 = some d') : MM l yX0_copyFrom cX0_copyFrom 2 none 1 60 Y z [.ref (yo Y o), .ref (yo Y o1)] d (none) d' := by
  refine MM.ofV (by decide +kernel) hL (Nat.le_of_ble_eq_true rfl) (fun K hl hC hr hQ hA => ?_)
  have hC : CK K Y cX0_copyFrom 2 RX0 1 60 := hC
  unfold t_X0_copyFrom at hf
  show V K Y 2 0 0 z d 0 [(0, .ref (yo Y o)), (1, .ref (yo Y o1))] []
  refine V_aload_n 0 hC dX0_copyFrom_0 rfl rfl ?_
  refine V_aload_n 1 hC dX0_copyFrom_1 rfl rfl ?_
  refine V_geti (o := o1) hC ho1 rfl fk_X0_9 dX0_copyFrom_2 ?_
  refine V_puti (o := o) hC ho rfl fk_X0_9 pl_X0 rfl rfl dX0_copyFrom_5 (fun d1 ed1 => ?_)
  have hf := bd_e hf d1 ed1
  refine V_aload_n 0 hC dX0_copyFrom_8 rfl rfl ?_
  refine V_aload_n 1 hC dX0_copyFrom_9 rfl rfl ?_
  refine V_geti (o := o1) hC ho1 rfl fk_X0_15 dX0_copyFrom_10 ?_
  refine V_puti (o := o) hC ho rfl fk_X0_15 pl_X0 rfl rfl dX0_copyFrom_13 (fun d2 ed2 => ?_)
  have hf := bd_e hf d2 ed2
  refine V_aload_n 1 hC dX0_copyFrom_16 rfl rfl ?_
  refine V_geta (o := o1) hC ho1 rfl fk_X0_18 dX0_copyFrom_17 ?_
  refine V_iconst (v := 0) hC dX0_copyFrom_20 rfl ?_
  refine V_aload_n 0 hC dX0_copyFrom_21 rfl rfl ?_
  refine V_geta (o := o) hC ho rfl fk_X0_18 dX0_copyFrom_22 ?_
  refine V_iconst (v := 0) hC dX0_copyFrom_25 rfl ?_
  refine V_bipush (v := 24) hC dX0_copyFrom_26 rfl ?_
  obtain ⟨g3, hf⟩ := gd_some hf
  refine V_acopy (a := (32 * o1 + 2)) (b := (32 * o + 2)) hC ac_X0_52 (hL.row ho1 rfl) (hL.row ho rfl) g3 (by decide) (Nat.le_of_ble_eq_true rfl) dX0_copyFrom_28 (fun d4 ed4 => ?_)
  have hf := bd_e hf d4 ed4
  refine V_aload_n 1 hC dX0_copyFrom_31 rfl rfl ?_
  refine V_geta (o := o1) hC ho1 rfl fk_X0_22 dX0_copyFrom_32 ?_
  refine V_iconst (v := 0) hC dX0_copyFrom_35 rfl ?_
  refine V_aload_n 0 hC dX0_copyFrom_36 rfl rfl ?_
  refine V_geta (o := o) hC ho rfl fk_X0_22 dX0_copyFrom_37 ?_
  refine V_iconst (v := 0) hC dX0_copyFrom_40 rfl ?_
  refine V_bipush (v := 24) hC dX0_copyFrom_41 rfl ?_
  obtain ⟨g5, hf⟩ := gd_some hf
  refine V_acopy (a := (32 * o1 + 3)) (b := (32 * o + 3)) hC ac_X0_52 (hL.row ho1 rfl) (hL.row ho rfl) g5 (by decide) (Nat.le_of_ble_eq_true rfl) dX0_copyFrom_43 (fun d6 ed6 => ?_)
  have hf := bd_e hf d6 ed6
  refine V_aload_n 1 hC dX0_copyFrom_46 rfl rfl ?_
  refine V_geta (o := o1) hC ho1 rfl fk_X0_25 dX0_copyFrom_47 ?_
  refine V_iconst (v := 0) hC dX0_copyFrom_50 rfl ?_
  refine V_aload_n 0 hC dX0_copyFrom_51 rfl rfl ?_
  refine V_geta (o := o) hC ho rfl fk_X0_25 dX0_copyFrom_52 ?_
  refine V_iconst (v := 0) hC dX0_copyFrom_55 rfl ?_
  refine V_bipush (v := 24) hC dX0_copyFrom_56 rfl ?_
  obtain ⟨g7, hf⟩ := gd_some hf
  refine V_acopy (a := (32 * o1 + 4)) (b := (32 * o + 4)) hC ac_X0_52 (hL.row ho1 rfl) (hL.row ho rfl) g7 (by decide) (Nat.le_of_ble_eq_true rfl) dX0_copyFrom_58 (fun d8 ed8 => ?_)
  have hf := bd_e hf d8 ed8
  refine V_aload_n 1 hC dX0_copyFrom_61 rfl rfl ?_
  refine V_geta (o := o1) hC ho1 rfl fk_X0_28 dX0_copyFrom_62 ?_
  refine V_iconst (v := 0) hC dX0_copyFrom_65 rfl ?_
  refine V_aload_n 0 hC dX0_copyFrom_66 rfl rfl ?_
  refine V_geta (o := o) hC ho rfl fk_X0_28 dX0_copyFrom_67 ?_
  refine V_iconst (v := 0) hC dX0_copyFrom_70 rfl ?_
  refine V_bipush (v := 24) hC dX0_copyFrom_71 rfl ?_
  obtain ⟨g9, hf⟩ := gd_some hf
  refine V_acopy (a := (32 * o1 + 5)) (b := (32 * o + 5)) hC ac_X0_52 (hL.row ho1 rfl) (hL.row ho rfl) g9 (by decide) (Nat.le_of_ble_eq_true rfl) dX0_copyFrom_73 (fun d10 ed10 => ?_)
  have hf := bd_e hf d10 ed10
  refine V_aload_n 1 hC dX0_copyFrom_76 rfl rfl ?_
  refine V_geta (o := o1) hC ho1 rfl fk_X0_31 dX0_copyFrom_77 ?_
  refine V_iconst (v := 0) hC dX0_copyFrom_80 rfl ?_
  refine V_aload_n 0 hC dX0_copyFrom_81 rfl rfl ?_
  refine V_geta (o := o) hC ho rfl fk_X0_31 dX0_copyFrom_82 ?_
  refine V_iconst (v := 0) hC dX0_copyFrom_85 rfl ?_
  refine V_bipush (v := 24) hC dX0_copyFrom_86 rfl ?_
  obtain ⟨g11, hf⟩ := gd_some hf
  refine V_acopy (a := (32 * o1 + 6)) (b := (32 * o + 6)) hC ac_X0_52 (hL.row ho1 rfl) (hL.row ho rfl) g11 (by decide) (Nat.le_of_ble_eq_true rfl) dX0_copyFrom_88 (fun d12 ed12 => ?_)
  have hf := bd_e hf d12 ed12
  refine V_aload_n 1 hC dX0_copyFrom_91 rfl rfl ?_
  refine V_geta (o := o1) hC ho1 rfl fk_X0_34 dX0_copyFrom_92 ?_
  refine V_iconst (v := 0) hC dX0_copyFrom_95 rfl ?_
  refine V_aload_n 0 hC dX0_copyFrom_96 rfl rfl ?_
  refine V_geta (o := o) hC ho rfl fk_X0_34 dX0_copyFrom_97 ?_
  refine V_iconst (v := 0) hC dX0_copyFrom_100 rfl ?_
  refine V_bipush (v := 96) hC dX0_copyFrom_101 rfl ?_
  obtain ⟨g13, hf⟩ := gd_some hf
  refine V_acopy (a := (32 * o1 + 7)) (b := (32 * o + 7)) hC ac_X0_52 (hL.row ho1 rfl) (hL.row ho rfl) g13 (by decide) (Nat.le_of_ble_eq_true rfl) dX0_copyFrom_103 (fun d14 ed14 => ?_)
  have hf := bd_e hf d14 ed14
  refine V_aload_n 1 hC dX0_copyFrom_106 rfl rfl ?_
  refine V_geta (o := o1) hC ho1 rfl fk_X0_37 dX0_copyFrom_107 ?_
  refine V_iconst (v := 0) hC dX0_copyFrom_110 rfl ?_
  refine V_aload_n 0 hC dX0_copyFrom_111 rfl rfl ?_
  refine V_geta (o := o) hC ho rfl fk_X0_37 dX0_copyFrom_112 ?_
  refine V_iconst (v := 0) hC dX0_copyFrom_115 rfl ?_
  refine V_bipush (v := 96) hC dX0_copyFrom_116 rfl ?_
  obtain ⟨g15, hf⟩ := gd_some hf
  refine V_acopy (a := (32 * o1 + 8)) (b := (32 * o + 8)) hC ac_X0_52 (hL.row ho1 rfl) (hL.row ho rfl) g15 (by decide) (Nat.le_of_ble_eq_true rfl) dX0_copyFrom_118 (fun d16 ed16 => ?_)
  have hf := bd_e hf d16 ed16
  refine V_aload_n 1 hC dX0_copyFrom_121 rfl rfl ?_
  refine V_geta (o := o1) hC ho1 rfl fk_X0_40 dX0_copyFrom_122 ?_
  refine V_iconst (v := 0) hC dX0_copyFrom_125 rfl ?_
  refine V_aload_n 0 hC dX0_copyFrom_126 rfl rfl ?_
  refine V_geta (o := o) hC ho rfl fk_X0_40 dX0_copyFrom_127 ?_
  refine V_iconst (v := 0) hC dX0_copyFrom_130 rfl ?_
  refine V_bipush (v := 24) hC dX0_copyFrom_131 rfl ?_
  obtain ⟨g17, hf⟩ := gd_some hf
  refine V_acopy (a := (32 * o1 + 9)) (b := (32 * o + 9)) hC ac_X0_52 (hL.row ho1 rfl) (hL.row ho rfl) g17 (by decide) (Nat.le_of_ble_eq_true rfl) dX0_copyFrom_133 (fun d18 ed18 => ?_)
  have hf := bd_e hf d18 ed18
  refine V_aload_n 1 hC dX0_copyFrom_136 rfl rfl ?_
  refine V_geta (o := o1) hC ho1 rfl fk_X0_43 dX0_copyFrom_137 ?_
  refine V_iconst (v := 0) hC dX0_copyFrom_140 rfl ?_
  refine V_aload_n 0 hC dX0_copyFrom_141 rfl rfl ?_
  refine V_geta (o := o) hC ho rfl fk_X0_43 dX0_copyFrom_142 ?_
  refine V_iconst (v := 0) hC dX0_copyFrom_145 rfl ?_
  refine V_sipush (v := 144) hC dX0_copyFrom_146 rfl ?_
  obtain ⟨g19, hf⟩ := gd_some hf
  refine V_acopy (a := (32 * o1 + 10)) (b := (32 * o + 10)) hC ac_X0_52 (hL.row ho1 rfl) (hL.row ho rfl) g19 (by decide) (Nat.le_of_ble_eq_true rfl) dX0_copyFrom_149 (fun d20 ed20 => ?_)
  have hf := bd_e hf d20 ed20
  refine V_aload_n 1 hC dX0_copyFrom_152 rfl rfl ?_
  refine V_geta (o := o1) hC ho1 rfl fk_X0_46 dX0_copyFrom_153 ?_
  refine V_iconst (v := 0) hC dX0_copyFrom_156 rfl ?_
  refine V_aload_n 0 hC dX0_copyFrom_157 rfl rfl ?_
  refine V_geta (o := o) hC ho rfl fk_X0_46 dX0_copyFrom_158 ?_
  refine V_iconst (v := 0) hC dX0_copyFrom_161 rfl ?_
  refine V_sipush (v := 144) hC dX0_copyFrom_162 rfl ?_
  obtain ⟨g21, hf⟩ := gd_some hf
  refine V_acopy (a := (32 * o1 + 11)) (b := (32 * o + 11)) hC ac_X0_52 (hL.row ho1 rfl) (hL.row ho rfl) g21 (by decide) (Nat.le_of_ble_eq_true rfl) dX0_copyFrom_165 (fun d22 ed22 => ?_)
  have hf := bd_e hf d22 ed22
  refine V_aload_n 1 hC dX0_copyFrom_168 rfl rfl ?_
  refine V_geta (o := o1) hC ho1 rfl fk_X0_49 dX0_copyFrom_169 ?_
  refine V_iconst (v := 0) hC dX0_copyFrom_172 rfl ?_
  refine V_aload_n 0 hC dX0_copyFrom_173 rfl rfl ?_
  refine V_geta (o := o) hC ho rfl fk_X0_49 dX0_copyFrom_174 ?_
  refine V_iconst (v := 0) hC dX0_copyFrom_177 rfl ?_
  refine V_sipush (v := 144) hC dX0_copyFrom_178 rfl ?_
  obtain ⟨g23, hf⟩ := gd_some hf
  refine V_acopy (a := (32 * o1 + 12)) (b := (32 * o + 12)) hC ac_X0_52 (hL.row ho1 rfl) (hL.row ho rfl) g23 (by decide) (Nat.le_of_ble_eq_true rfl) dX0_copyFrom_181 (fun d24 ed24 => ?_)
  have hf := bd_e hf d24 ed24
  obtain rfl := so_inj hf
  exact V_vret hC hr hQ hA dX0_copyFrom_184
def t_X0_hasPart (L : Nat → Nat) (d : Dt) (o : Nat) (p1 : Int32) : Option (Int32) := if p1 < 0 then some 0 else if (gF d o 0) ≤ p1 then some 0 else if 24 ≤ p1 then some 0 else some 1
set_option maxRecDepth 20000 in
theorem c_X0_hasPart {l : Launch} {Y : Yx} (hL : LAY Y) {z : Sh} {d : Dt} {o : Nat} {p1 : Int32} (ho : (0, o, 0) ∈ yI Y) {r : Int32} (hf : t_X0_hasPart z.1 d o p1 = some r) : MM l yX0_hasPart cX0_hasPart 2 (some .boolean) 0 0 Y z [.ref (yo Y o), .int p1] d (some (.int r)) d := by
  refine MM.ofV (by decide +kernel) hL (Nat.le_of_ble_eq_true rfl) (fun K hl hC hr hQ hA => ?_)
  have hC : CK K Y cX0_hasPart 2 RX0 0 0 := hC
  unfold t_X0_hasPart at hf
  show V K Y 2 0 0 z d 0 [(0, .ref (yo Y o)), (1, .int p1)] []
  refine V_iload_n 1 hC dX0_hasPart_0 rfl rfl ?_
  refine V_if_lt (tgt := 22) hC dX0_hasPart_1 (by decide) (fun c1 => ?_) (fun c1 => ?_)
  · have hf := if_t hf c1
    refine V_iconst (v := 0) hC dX0_hasPart_22 rfl ?_
    obtain rfl := so_inj hf
    exact V_zret hC hr rfl hQ hA dX0_hasPart_23
  · have hf := if_f hf c1
    refine V_iload_n 1 hC dX0_hasPart_4 rfl rfl ?_
    refine V_aload_n 0 hC dX0_hasPart_5 rfl rfl ?_
    refine V_geti (o := o) hC ho rfl fk_X0_9 dX0_hasPart_6 ?_
    refine V_icmp_ge (tgt := 22) hC dX0_hasPart_9 (by decide) (fun c2 => ?_) (fun c2 => ?_)
    · have hf := if_t hf c2
      refine V_iconst (v := 0) hC dX0_hasPart_22 rfl ?_
      obtain rfl := so_inj hf
      exact V_zret hC hr rfl hQ hA dX0_hasPart_23
    · have hf := if_f hf c2
      refine V_iload_n 1 hC dX0_hasPart_12 rfl rfl ?_
      refine V_bipush (v := 24) hC dX0_hasPart_13 rfl ?_
      refine V_icmp_ge (tgt := 22) hC dX0_hasPart_15 (by decide) (fun c3 => ?_) (fun c3 => ?_)
      · have hf := if_t hf c3
        refine V_iconst (v := 0) hC dX0_hasPart_22 rfl ?_
        obtain rfl := so_inj hf
        exact V_zret hC hr rfl hQ hA dX0_hasPart_23
      · have hf := if_f hf c3
        refine V_iconst (v := 1) hC dX0_hasPart_18 rfl ?_
        refine V_goto (tgt := 23) hC dX0_hasPart_19 (by decide) ?_
        obtain rfl := so_inj hf
        exact V_zret hC hr rfl hQ hA dX0_hasPart_23
def t_X0_hasEffect (L : Nat → Nat) (d : Dt) (o : Nat) (p1 : Int32) (p2 : Int32) : Option (Int32) := (t_X0_hasPart L d o p1).bind (fun v1 => if v1 = 0 then some 0 else if p2 < 0 then some 0 else gd (inb p1 (L (32 * o + 6))) (if (gA d (32 * o + 6) (ix p1)) ≤ p2 then some 0 else if 4 ≤ p2 then some 0 else some 1))
set_option maxRecDepth 20000 in
theorem c_X0_hasEffect {l : Launch} {Y : Yx} (hL : LAY Y) {z : Sh} {d : Dt} {o : Nat} {p1 : Int32} {p2 : Int32} (ho : (0, o, 0) ∈ yI Y) {r : Int32} (hf : t_X0_hasEffect z.1 d o p1 p2 = some r) : MM l yX0_hasEffect cX0_hasEffect 3 (some .boolean) 1 21 Y z [.ref (yo Y o), .int p1, .int p2] d (some (.int r)) d := by
  refine MM.ofV (by decide +kernel) hL (Nat.le_of_ble_eq_true rfl) (fun K hl hC hr hQ hA => ?_)
  have hC : CK K Y cX0_hasEffect 3 RX0 1 21 := hC
  have hkn : 0 ≤ (kR K).cells ∧ 0 ≤ (kR K).slots := ⟨Nat.zero_le _, Nat.zero_le _⟩
  unfold t_X0_hasEffect at hf
  show V K Y 3 0 0 z d 0 [(0, .ref (yo Y o)), (1, .int p1), (2, .int p2)] []
  refine V_aload_n 0 hC dX0_hasEffect_0 rfl rfl ?_
  refine V_iload_n 1 hC dX0_hasEffect_1 rfl rfl ?_
  obtain ⟨v1, ev1, hf⟩ := bi_some hf
  refine V_invi (o := o) (As := [.int p1]) (rest := []) hC (c_X0_hasPart hL ho ev1) me_X0_hasPart lk_X0_58 ho rfl rfl rfl (Nat.le_of_ble_eq_true rfl) ⟨by decide, by decide⟩ hkn dX0_hasEffect_2 ?_
  refine V_if_eq (tgt := 31) hC dX0_hasEffect_5 (by decide) (fun c2 => ?_) (fun c2 => ?_)
  · have hf := if_t hf c2
    refine V_iconst (v := 0) hC dX0_hasEffect_31 rfl ?_
    obtain rfl := so_inj hf
    exact V_zret hC hr rfl hQ hA dX0_hasEffect_32
  · have hf := if_f hf c2
    refine V_iload_n 2 hC dX0_hasEffect_8 rfl rfl ?_
    refine V_if_lt (tgt := 31) hC dX0_hasEffect_9 (by decide) (fun c3 => ?_) (fun c3 => ?_)
    · have hf := if_t hf c3
      refine V_iconst (v := 0) hC dX0_hasEffect_31 rfl ?_
      obtain rfl := so_inj hf
      exact V_zret hC hr rfl hQ hA dX0_hasEffect_32
    · have hf := if_f hf c3
      refine V_iload_n 2 hC dX0_hasEffect_12 rfl rfl ?_
      refine V_aload_n 0 hC dX0_hasEffect_13 rfl rfl ?_
      refine V_geta (o := o) hC ho rfl fk_X0_31 dX0_hasEffect_14 ?_
      refine V_iload_n 1 hC dX0_hasEffect_17 rfl rfl ?_
      obtain ⟨g4, hf⟩ := gd_some hf
      refine V_iald (a := (32 * o + 6)) hC (hL.row ho rfl) g4 dX0_hasEffect_18 ?_
      refine V_icmp_ge (tgt := 31) hC dX0_hasEffect_19 (by decide) (fun c5 => ?_) (fun c5 => ?_)
      · have hf := if_t hf c5
        refine V_iconst (v := 0) hC dX0_hasEffect_31 rfl ?_
        obtain rfl := so_inj hf
        exact V_zret hC hr rfl hQ hA dX0_hasEffect_32
      · have hf := if_f hf c5
        refine V_iload_n 2 hC dX0_hasEffect_22 rfl rfl ?_
        refine V_iconst (v := 4) hC dX0_hasEffect_23 rfl ?_
        refine V_icmp_ge (tgt := 31) hC dX0_hasEffect_24 (by decide) (fun c6 => ?_) (fun c6 => ?_)
        · have hf := if_t hf c6
          refine V_iconst (v := 0) hC dX0_hasEffect_31 rfl ?_
          obtain rfl := so_inj hf
          exact V_zret hC hr rfl hQ hA dX0_hasEffect_32
        · have hf := if_f hf c6
          refine V_iconst (v := 1) hC dX0_hasEffect_27 rfl ?_
          refine V_goto (tgt := 32) hC dX0_hasEffect_28 (by decide) ?_
          obtain rfl := so_inj hf
          exact V_zret hC hr rfl hQ hA dX0_hasEffect_32
def t_X0_hasChoice (L : Nat → Nat) (d : Dt) (o : Nat) (p1 : Int32) (p2 : Int32) : Option (Int32) := (t_X0_hasPart L d o p1).bind (fun v1 => if v1 = 0 then some 0 else if p2 < 0 then some 0 else gd (inb p1 (L (32 * o + 9))) (if (gA d (32 * o + 9) (ix p1)) ≤ p2 then some 0 else if 6 ≤ p2 then some 0 else some 1))
set_option maxRecDepth 20000 in
theorem c_X0_hasChoice {l : Launch} {Y : Yx} (hL : LAY Y) {z : Sh} {d : Dt} {o : Nat} {p1 : Int32} {p2 : Int32} (ho : (0, o, 0) ∈ yI Y) {r : Int32} (hf : t_X0_hasChoice z.1 d o p1 p2 = some r) : MM l yX0_hasChoice cX0_hasChoice 3 (some .boolean) 1 21 Y z [.ref (yo Y o), .int p1, .int p2] d (some (.int r)) d := by
  refine MM.ofV (by decide +kernel) hL (Nat.le_of_ble_eq_true rfl) (fun K hl hC hr hQ hA => ?_)
  have hC : CK K Y cX0_hasChoice 3 RX0 1 21 := hC
  have hkn : 0 ≤ (kR K).cells ∧ 0 ≤ (kR K).slots := ⟨Nat.zero_le _, Nat.zero_le _⟩
  unfold t_X0_hasChoice at hf
  show V K Y 3 0 0 z d 0 [(0, .ref (yo Y o)), (1, .int p1), (2, .int p2)] []
  refine V_aload_n 0 hC dX0_hasChoice_0 rfl rfl ?_
  refine V_iload_n 1 hC dX0_hasChoice_1 rfl rfl ?_
  obtain ⟨v1, ev1, hf⟩ := bi_some hf
  refine V_invi (o := o) (As := [.int p1]) (rest := []) hC (c_X0_hasPart hL ho ev1) me_X0_hasPart lk_X0_58 ho rfl rfl rfl (Nat.le_of_ble_eq_true rfl) ⟨by decide, by decide⟩ hkn dX0_hasChoice_2 ?_
  refine V_if_eq (tgt := 32) hC dX0_hasChoice_5 (by decide) (fun c2 => ?_) (fun c2 => ?_)
  · have hf := if_t hf c2
    refine V_iconst (v := 0) hC dX0_hasChoice_32 rfl ?_
    obtain rfl := so_inj hf
    exact V_zret hC hr rfl hQ hA dX0_hasChoice_33
  · have hf := if_f hf c2
    refine V_iload_n 2 hC dX0_hasChoice_8 rfl rfl ?_
    refine V_if_lt (tgt := 32) hC dX0_hasChoice_9 (by decide) (fun c3 => ?_) (fun c3 => ?_)
    · have hf := if_t hf c3
      refine V_iconst (v := 0) hC dX0_hasChoice_32 rfl ?_
      obtain rfl := so_inj hf
      exact V_zret hC hr rfl hQ hA dX0_hasChoice_33
    · have hf := if_f hf c3
      refine V_iload_n 2 hC dX0_hasChoice_12 rfl rfl ?_
      refine V_aload_n 0 hC dX0_hasChoice_13 rfl rfl ?_
      refine V_geta (o := o) hC ho rfl fk_X0_40 dX0_hasChoice_14 ?_
      refine V_iload_n 1 hC dX0_hasChoice_17 rfl rfl ?_
      obtain ⟨g4, hf⟩ := gd_some hf
      refine V_iald (a := (32 * o + 9)) hC (hL.row ho rfl) g4 dX0_hasChoice_18 ?_
      refine V_icmp_ge (tgt := 32) hC dX0_hasChoice_19 (by decide) (fun c5 => ?_) (fun c5 => ?_)
      · have hf := if_t hf c5
        refine V_iconst (v := 0) hC dX0_hasChoice_32 rfl ?_
        obtain rfl := so_inj hf
        exact V_zret hC hr rfl hQ hA dX0_hasChoice_33
      · have hf := if_f hf c5
        refine V_iload_n 2 hC dX0_hasChoice_22 rfl rfl ?_
        refine V_bipush (v := 6) hC dX0_hasChoice_23 rfl ?_
        refine V_icmp_ge (tgt := 32) hC dX0_hasChoice_25 (by decide) (fun c6 => ?_) (fun c6 => ?_)
        · have hf := if_t hf c6
          refine V_iconst (v := 0) hC dX0_hasChoice_32 rfl ?_
          obtain rfl := so_inj hf
          exact V_zret hC hr rfl hQ hA dX0_hasChoice_33
        · have hf := if_f hf c6
          refine V_iconst (v := 1) hC dX0_hasChoice_28 rfl ?_
          refine V_goto (tgt := 33) hC dX0_hasChoice_29 (by decide) ?_
          obtain rfl := so_inj hf
          exact V_zret hC hr rfl hQ hA dX0_hasChoice_33
def t_X0_isRoll (L : Nat → Nat) (d : Dt) (o : Nat) (p1 : Int32) : Option (Int32) := (t_X0_hasPart L d o p1).bind (fun v1 => if v1 = 0 then some 0 else gd (inb p1 (L (32 * o + 2))) (if (gA d (32 * o + 2) (ix p1)) = 3 then some 1 else some 0))
set_option maxRecDepth 20000 in
theorem c_X0_isRoll {l : Launch} {Y : Yx} (hL : LAY Y) {z : Sh} {d : Dt} {o : Nat} {p1 : Int32} (ho : (0, o, 0) ∈ yI Y) {r : Int32} (hf : t_X0_isRoll z.1 d o p1 = some r) : MM l yX0_isRoll cX0_isRoll 2 (some .boolean) 1 21 Y z [.ref (yo Y o), .int p1] d (some (.int r)) d := by
  refine MM.ofV (by decide +kernel) hL (Nat.le_of_ble_eq_true rfl) (fun K hl hC hr hQ hA => ?_)
  have hC : CK K Y cX0_isRoll 2 RX0 1 21 := hC
  have hkn : 0 ≤ (kR K).cells ∧ 0 ≤ (kR K).slots := ⟨Nat.zero_le _, Nat.zero_le _⟩
  unfold t_X0_isRoll at hf
  show V K Y 2 0 0 z d 0 [(0, .ref (yo Y o)), (1, .int p1)] []
  refine V_aload_n 0 hC dX0_isRoll_0 rfl rfl ?_
  refine V_iload_n 1 hC dX0_isRoll_1 rfl rfl ?_
  obtain ⟨v1, ev1, hf⟩ := bi_some hf
  refine V_invi (o := o) (As := [.int p1]) (rest := []) hC (c_X0_hasPart hL ho ev1) me_X0_hasPart lk_X0_58 ho rfl rfl rfl (Nat.le_of_ble_eq_true rfl) ⟨by decide, by decide⟩ hkn dX0_isRoll_2 ?_
  refine V_if_eq (tgt := 22) hC dX0_isRoll_5 (by decide) (fun c2 => ?_) (fun c2 => ?_)
  · have hf := if_t hf c2
    refine V_iconst (v := 0) hC dX0_isRoll_22 rfl ?_
    obtain rfl := so_inj hf
    exact V_zret hC hr rfl hQ hA dX0_isRoll_23
  · have hf := if_f hf c2
    refine V_aload_n 0 hC dX0_isRoll_8 rfl rfl ?_
    refine V_geta (o := o) hC ho rfl fk_X0_18 dX0_isRoll_9 ?_
    refine V_iload_n 1 hC dX0_isRoll_12 rfl rfl ?_
    obtain ⟨g3, hf⟩ := gd_some hf
    refine V_iald (a := (32 * o + 2)) hC (hL.row ho rfl) g3 dX0_isRoll_13 ?_
    refine V_iconst (v := 3) hC dX0_isRoll_14 rfl ?_
    refine V_icmp_ne (tgt := 22) hC dX0_isRoll_15 (by decide) (fun c4 => ?_) (fun c4 => ?_)
    · have hf := if_f hf c4
      refine V_iconst (v := 0) hC dX0_isRoll_22 rfl ?_
      obtain rfl := so_inj hf
      exact V_zret hC hr rfl hQ hA dX0_isRoll_23
    · have hf := if_t hf c4
      refine V_iconst (v := 1) hC dX0_isRoll_18 rfl ?_
      refine V_goto (tgt := 23) hC dX0_isRoll_19 (by decide) ?_
      obtain rfl := so_inj hf
      exact V_zret hC hr rfl hQ hA dX0_isRoll_23
def t_X0_lines (L : Nat → Nat) (d : Dt) (o : Nat) (p1 : Int32) : Option (Int32) := (t_X0_hasPart L d o p1).bind (fun v1 => if v1 = 0 then some 0 else gd (inb p1 (L (32 * o + 6))) (gd (inb p1 (L (32 * o + 9))) (gd (inb p1 (L (32 * o + 2))) (if (gA d (32 * o + 2) (ix p1)) = 3 then some (((2 + (gA d (32 * o + 6) (ix p1))) + (2 * (gA d (32 * o + 9) (ix p1)))) + 2) else some (((2 + (gA d (32 * o + 6) (ix p1))) + (2 * (gA d (32 * o + 9) (ix p1)))) + 0)))))
set_option maxRecDepth 20000 in
theorem c_X0_lines {l : Launch} {Y : Yx} (hL : LAY Y) {z : Sh} {d : Dt} {o : Nat} {p1 : Int32} (ho : (0, o, 0) ∈ yI Y) {r : Int32} (hf : t_X0_lines z.1 d o p1 = some r) : MM l yX0_lines cX0_lines 2 (some .int) 1 21 Y z [.ref (yo Y o), .int p1] d (some (.int r)) d := by
  refine MM.ofV (by decide +kernel) hL (Nat.le_of_ble_eq_true rfl) (fun K hl hC hr hQ hA => ?_)
  have hC : CK K Y cX0_lines 2 RX0 1 21 := hC
  have hkn : 0 ≤ (kR K).cells ∧ 0 ≤ (kR K).slots := ⟨Nat.zero_le _, Nat.zero_le _⟩
  unfold t_X0_lines at hf
  show V K Y 2 0 0 z d 0 [(0, .ref (yo Y o)), (1, .int p1)] []
  refine V_aload_n 0 hC dX0_lines_0 rfl rfl ?_
  refine V_iload_n 1 hC dX0_lines_1 rfl rfl ?_
  obtain ⟨v1, ev1, hf⟩ := bi_some hf
  refine V_invi (o := o) (As := [.int p1]) (rest := []) hC (c_X0_hasPart hL ho ev1) me_X0_hasPart lk_X0_58 ho rfl rfl rfl (Nat.le_of_ble_eq_true rfl) ⟨by decide, by decide⟩ hkn dX0_lines_2 ?_
  refine V_if_ne (tgt := 10) hC dX0_lines_5 (by decide) (fun c2 => ?_) (fun c2 => ?_)
  · have hf := if_f hf c2
    refine V_iconst (v := 2) hC dX0_lines_10 rfl ?_
    refine V_aload_n 0 hC dX0_lines_11 rfl rfl ?_
    refine V_geta (o := o) hC ho rfl fk_X0_31 dX0_lines_12 ?_
    refine V_iload_n 1 hC dX0_lines_15 rfl rfl ?_
    obtain ⟨g3, hf⟩ := gd_some hf
    refine V_iald (a := (32 * o + 6)) hC (hL.row ho rfl) g3 dX0_lines_16 ?_
    refine V_iadd hC dX0_lines_17 ?_
    refine V_iconst (v := 2) hC dX0_lines_18 rfl ?_
    refine V_aload_n 0 hC dX0_lines_19 rfl rfl ?_
    refine V_geta (o := o) hC ho rfl fk_X0_40 dX0_lines_20 ?_
    refine V_iload_n 1 hC dX0_lines_23 rfl rfl ?_
    obtain ⟨g4, hf⟩ := gd_some hf
    refine V_iald (a := (32 * o + 9)) hC (hL.row ho rfl) g4 dX0_lines_24 ?_
    refine V_imul hC dX0_lines_25 ?_
    refine V_iadd hC dX0_lines_26 ?_
    refine V_aload_n 0 hC dX0_lines_27 rfl rfl ?_
    refine V_geta (o := o) hC ho rfl fk_X0_18 dX0_lines_28 ?_
    refine V_iload_n 1 hC dX0_lines_31 rfl rfl ?_
    obtain ⟨g5, hf⟩ := gd_some hf
    refine V_iald (a := (32 * o + 2)) hC (hL.row ho rfl) g5 dX0_lines_32 ?_
    refine V_iconst (v := 3) hC dX0_lines_33 rfl ?_
    refine V_icmp_ne (tgt := 41) hC dX0_lines_34 (by decide) (fun c6 => ?_) (fun c6 => ?_)
    · have hf := if_f hf c6
      refine V_iconst (v := 0) hC dX0_lines_41 rfl ?_
      refine V_iadd hC dX0_lines_42 ?_
      obtain rfl := so_inj hf
      exact V_iret hC hr hQ hA dX0_lines_43
    · have hf := if_t hf c6
      refine V_iconst (v := 2) hC dX0_lines_37 rfl ?_
      refine V_goto (tgt := 42) hC dX0_lines_38 (by decide) ?_
      refine V_iadd hC dX0_lines_42 ?_
      obtain rfl := so_inj hf
      exact V_iret hC hr hQ hA dX0_lines_43
  · have hf := if_t hf c2
    refine V_iconst (v := 0) hC dX0_lines_8 rfl ?_
    obtain rfl := so_inj hf
    exact V_iret hC hr hQ hA dX0_lines_9
def t_X0_allChoices_4 (L : Nat → Nat) (d : Dt) (o : Nat) (k4 : Int32 → Int32 → Option (Int32)) (x1 : Int32) (x2 : Int32)  : Option (Int32) := if (gF d o 0) ≤ x2 then some x1 else if 24 ≤ x2 then some x1 else gd (inb x2 (L (32 * o + 9))) (bd (x1 + (gA d (32 * o + 9) (ix x2))) (fun y4 => k4 y4 (x2 + 1)))
set_option maxRecDepth 20000 in
theorem b_X0_allChoices_4 {K : Kx} {Y : Yx} {z : Sh} {d : Dt} (hC : CK K Y cX0_allChoices 3 RX0 0 0) (hr : (kme K).sig.returnType = some .int) (hA : kA K = aY Y z) {o : Nat} (ho : (0, o, 0) ∈ yI Y) {r : Int32} (hQ : kQ K = MQ (kb K) (QM Y z (some (.int r)) d) (ka K) (ks K) 0 0 (aY Y z)) {k4 : Int32 → Int32 → Option (Int32)} (hk4 : ∀ (x1 : Int32) (x2 : Int32) , k4 x1 x2  = some r → V K Y 3 0 0 z d 4 [(0, .ref (yo Y o)), (1, .int x1), (2, .int x2)] []) (x1 : Int32) (x2 : Int32)  (hf : t_X0_allChoices_4 z.1 d o k4 x1 x2  = some r) : V K Y 3 0 0 z d 4 [(0, .ref (yo Y o)), (1, .int x1), (2, .int x2)] [] := by
  have hL := hC.2.2.2.2.2.2.1
  unfold t_X0_allChoices_4 at hf
  refine V_iload_n 2 hC dX0_allChoices_4 rfl rfl ?_
  refine V_aload_n 0 hC dX0_allChoices_5 rfl rfl ?_
  refine V_geti (o := o) hC ho rfl fk_X0_9 dX0_allChoices_6 ?_
  refine V_icmp_ge (tgt := 33) hC dX0_allChoices_9 (by decide) (fun c1 => ?_) (fun c1 => ?_)
  · have hf := if_t hf c1
    refine V_iload_n 1 hC dX0_allChoices_33 rfl rfl ?_
    obtain rfl := so_inj hf
    exact V_iret hC hr hQ hA dX0_allChoices_34
  · have hf := if_f hf c1
    refine V_iload_n 2 hC dX0_allChoices_12 rfl rfl ?_
    refine V_bipush (v := 24) hC dX0_allChoices_13 rfl ?_
    refine V_icmp_ge (tgt := 33) hC dX0_allChoices_15 (by decide) (fun c2 => ?_) (fun c2 => ?_)
    · have hf := if_t hf c2
      refine V_iload_n 1 hC dX0_allChoices_33 rfl rfl ?_
      obtain rfl := so_inj hf
      exact V_iret hC hr hQ hA dX0_allChoices_34
    · have hf := if_f hf c2
      refine V_iload_n 1 hC dX0_allChoices_18 rfl rfl ?_
      refine V_aload_n 0 hC dX0_allChoices_19 rfl rfl ?_
      refine V_geta (o := o) hC ho rfl fk_X0_40 dX0_allChoices_20 ?_
      refine V_iload_n 2 hC dX0_allChoices_23 rfl rfl ?_
      obtain ⟨g3, hf⟩ := gd_some hf
      refine V_iald (a := (32 * o + 9)) hC (hL.row ho rfl) g3 dX0_allChoices_24 ?_
      refine V_iadd hC dX0_allChoices_25 ?_
      refine V_topi (fun y4 ey4 => ?_)
      have hf := bd_e hf y4 ey4
      refine V_istore_n (lv' := [(1, .int y4), (0, .ref (yo Y o)), (2, .int x2)]) hC dX0_allChoices_26 rfl (by decide) rfl ?_
      refine V_iinc (v := x2 + 1) (lv' := [(2, .int (x2 + 1)), (1, .int y4), (0, .ref (yo Y o))]) 2 hC dX0_allChoices_27 rfl rfl (by decide) rfl ?_
      refine V_goto (tgt := 4) hC dX0_allChoices_30 (by decide) ?_
      exact V_sub [2, 1, 0] rfl (hk4 y4 (x2 + 1) hf)
def t_X0_allChoices (L : Nat → Nat) (d : Dt) (o : Nat) : Option (Int32) := lp (fun k x => t_X0_allChoices_4 L d o  (fun x1 x2 => k (x1, x2)) x.1 x.2) FU (0, 0)
set_option maxRecDepth 20000 in
theorem c_X0_allChoices {l : Launch} {Y : Yx} (hL : LAY Y) {z : Sh} {d : Dt} {o : Nat} (ho : (0, o, 0) ∈ yI Y) {r : Int32} (hf : t_X0_allChoices z.1 d o = some r) : MM l yX0_allChoices cX0_allChoices 3 (some .int) 0 0 Y z [.ref (yo Y o)] d (some (.int r)) d := by
  refine MM.ofV (by decide +kernel) hL (Nat.le_of_ble_eq_true rfl) (fun K hl hC hr hQ hA => ?_)
  have hC : CK K Y cX0_allChoices 3 RX0 0 0 := hC
  unfold t_X0_allChoices at hf
  show V K Y 3 0 0 z d 0 [(0, .ref (yo Y o))] []
  refine V_iconst (v := 0) hC dX0_allChoices_0 rfl ?_
  refine V_istore_n (lv' := [(1, .int 0), (0, .ref (yo Y o))]) hC dX0_allChoices_1 rfl (by decide) rfl ?_
  refine V_iconst (v := 0) hC dX0_allChoices_2 rfl ?_
  refine V_istore_n (lv' := [(2, .int 0), (1, .int 0), (0, .ref (yo Y o))]) hC dX0_allChoices_3 rfl (by decide) rfl ?_
  exact V_sub [2, 1, 0] rfl (lp_ind (X := Int32 × Int32) (P := fun x => V K Y 3 0 0 z d 4 [(0, .ref (yo Y o)), (1, .int x.1), (2, .int x.2)] []) (fun k x hk hx => b_X0_allChoices_4 hC hr hA ho hQ  (k4 := fun x1 x2 => k (x1, x2)) (fun x1 x2 hx => hk (x1, x2) hx) x.1 x.2 hx) FU (0, 0) hf)
def t_X0_addPart (L : Nat → Nat) (d : Dt) (o : Nat) : Option (Int32 × Dt) := if (gF d o 0) < 24 then bd (gF d o 0) (fun y2 => bd (sF d o 0 ((gF d o 0) + 1)) (fun d3 => gd (inb y2 (L (32 * o + 2))) (bd (sA d3 (32 * o + 2) (ix y2) 0) (fun d5 => gd (inb y2 (L (32 * o + 6))) (bd (sA d5 (32 * o + 6) (ix y2) 0) (fun d7 => gd (inb y2 (L (32 * o + 9))) (bd (sA d7 (32 * o + 9) (ix y2) 0) (fun d9 => some (y2, d9))))))))) else some ((-1), d)
set_option maxRecDepth 20000 in
theorem c_X0_addPart {l : Launch} {Y : Yx} (hL : LAY Y) {z : Sh} {d : Dt} {o : Nat} (ho : (0, o, 0) ∈ yI Y) {r : Int32} {d' : Dt} (hf : t_X0_addPart z.1 d o = some (r, d')) : MM l yX0_addPart cX0_addPart 2 (some .int) 0 0 Y z [.ref (yo Y o)] d (some (.int r)) d' := by
  refine MM.ofV (by decide +kernel) hL (Nat.le_of_ble_eq_true rfl) (fun K hl hC hr hQ hA => ?_)
  have hC : CK K Y cX0_addPart 2 RX0 0 0 := hC
  unfold t_X0_addPart at hf
  show V K Y 2 0 0 z d 0 [(0, .ref (yo Y o))] []
  refine V_aload_n 0 hC dX0_addPart_0 rfl rfl ?_
  refine V_geti (o := o) hC ho rfl fk_X0_9 dX0_addPart_1 ?_
  refine V_bipush (v := 24) hC dX0_addPart_4 rfl ?_
  refine V_icmp_lt (tgt := 11) hC dX0_addPart_6 (by decide) (fun c1 => ?_) (fun c1 => ?_)
  · have hf := if_t hf c1
    refine V_aload_n 0 hC dX0_addPart_11 rfl rfl ?_
    refine V_geti (o := o) hC ho rfl fk_X0_9 dX0_addPart_12 ?_
    refine V_topi (fun y2 ey2 => ?_)
    have hf := bd_e hf y2 ey2
    refine V_istore_n (lv' := [(1, .int y2), (0, .ref (yo Y o))]) hC dX0_addPart_15 rfl (by decide) rfl ?_
    refine V_aload_n 1 hC dX0_addPart_16 rfl rfl ?_
    refine V_dup hC dX0_addPart_17 rfl ?_
    refine V_geti (o := o) hC ho rfl fk_X0_9 dX0_addPart_18 ?_
    refine V_iconst (v := 1) hC dX0_addPart_21 rfl ?_
    refine V_iadd hC dX0_addPart_22 ?_
    refine V_puti (o := o) hC ho rfl fk_X0_9 pl_X0 rfl rfl dX0_addPart_23 (fun d3 ed3 => ?_)
    have hf := bd_e hf d3 ed3
    refine V_aload_n 1 hC dX0_addPart_26 rfl rfl ?_
    refine V_geta (o := o) hC ho rfl fk_X0_18 dX0_addPart_27 ?_
    refine V_iload_n 0 hC dX0_addPart_30 rfl rfl ?_
    refine V_iconst (v := 0) hC dX0_addPart_31 rfl ?_
    obtain ⟨g4, hf⟩ := gd_some hf
    refine V_iast (a := (32 * o + 2)) hC (hL.row ho rfl) g4 dX0_addPart_32 (fun d5 ed5 => ?_)
    have hf := bd_e hf d5 ed5
    refine V_aload_n 1 hC dX0_addPart_33 rfl rfl ?_
    refine V_geta (o := o) hC ho rfl fk_X0_31 dX0_addPart_34 ?_
    refine V_iload_n 0 hC dX0_addPart_37 rfl rfl ?_
    refine V_iconst (v := 0) hC dX0_addPart_38 rfl ?_
    obtain ⟨g6, hf⟩ := gd_some hf
    refine V_iast (a := (32 * o + 6)) hC (hL.row ho rfl) g6 dX0_addPart_39 (fun d7 ed7 => ?_)
    have hf := bd_e hf d7 ed7
    refine V_aload_n 1 hC dX0_addPart_40 rfl rfl ?_
    refine V_geta (o := o) hC ho rfl fk_X0_40 dX0_addPart_41 ?_
    refine V_iload_n 0 hC dX0_addPart_44 rfl rfl ?_
    refine V_iconst (v := 0) hC dX0_addPart_45 rfl ?_
    obtain ⟨g8, hf⟩ := gd_some hf
    refine V_iast (a := (32 * o + 9)) hC (hL.row ho rfl) g8 dX0_addPart_46 (fun d9 ed9 => ?_)
    have hf := bd_e hf d9 ed9
    refine V_iload_n 0 hC dX0_addPart_47 rfl rfl ?_
    obtain ⟨rfl, rfl⟩ := so_inj2 hf
    exact V_iret hC hr hQ hA dX0_addPart_48
  · have hf := if_f hf c1
    refine V_iconst (v := -1) hC dX0_addPart_9 rfl ?_
    obtain ⟨rfl, rfl⟩ := so_inj2 hf
    exact V_iret hC hr hQ hA dX0_addPart_10
def t_X0_addEffect (L : Nat → Nat) (d : Dt) (o : Nat) (p1 : Int32) (p2 : Int32) (p3 : Int32) : Option (Dt) := (t_X0_hasPart L d o p1).bind (fun v1 => if v1 = 0 then some d else gd (inb p1 (L (32 * o + 6))) (if 4 ≤ (gA d (32 * o + 6) (ix p1)) then some d else gd (inb p1 (L (32 * o + 6))) (bd ((p1 * 4) + (gA d (32 * o + 6) (ix p1))) (fun y6 => gd (inb y6 (L (32 * o + 7))) (bd (sA d (32 * o + 7) (ix y6) p2) (fun d8 => gd (inb y6 (L (32 * o + 8))) (bd (sA d8 (32 * o + 8) (ix y6) p3) (fun d10 => gd (inb p1 (L (32 * o + 6))) (gd (inb p1 (L (32 * o + 6))) (bd (sA d10 (32 * o + 6) (ix p1) ((gA d10 (32 * o + 6) (ix p1)) + 1)) (fun d13 => some d13)))))))))))
set_option maxRecDepth 20000 in
theorem c_X0_addEffect {l : Launch} {Y : Yx} (hL : LAY Y) {z : Sh} {d : Dt} {o : Nat} {p1 : Int32} {p2 : Int32} {p3 : Int32} (ho : (0, o, 0) ∈ yI Y) {d' : Dt} (hf : t_X0_addEffect z.1 d o p1 p2 p3 = some d') : MM l yX0_addEffect cX0_addEffect 5 none 1 21 Y z [.ref (yo Y o), .int p1, .int p2, .int p3] d (none) d' := by
  refine MM.ofV (by decide +kernel) hL (Nat.le_of_ble_eq_true rfl) (fun K hl hC hr hQ hA => ?_)
  have hC : CK K Y cX0_addEffect 5 RX0 1 21 := hC
  have hkn : 0 ≤ (kR K).cells ∧ 0 ≤ (kR K).slots := ⟨Nat.zero_le _, Nat.zero_le _⟩
  unfold t_X0_addEffect at hf
  show V K Y 5 0 0 z d 0 [(0, .ref (yo Y o)), (1, .int p1), (2, .int p2), (3, .int p3)] []
  refine V_aload_n 0 hC dX0_addEffect_0 rfl rfl ?_
  refine V_iload_n 1 hC dX0_addEffect_1 rfl rfl ?_
  obtain ⟨v1, ev1, hf⟩ := bi_some hf
  refine V_invi (o := o) (As := [.int p1]) (rest := []) hC (c_X0_hasPart hL ho ev1) me_X0_hasPart lk_X0_58 ho rfl rfl rfl (Nat.le_of_ble_eq_true rfl) ⟨by decide, by decide⟩ hkn dX0_addEffect_2 ?_
  refine V_if_eq (tgt := 56) hC dX0_addEffect_5 (by decide) (fun c2 => ?_) (fun c2 => ?_)
  · have hf := if_t hf c2
    obtain rfl := so_inj hf
    exact V_vret hC hr hQ hA dX0_addEffect_56
  · have hf := if_f hf c2
    refine V_aload_n 0 hC dX0_addEffect_8 rfl rfl ?_
    refine V_geta (o := o) hC ho rfl fk_X0_31 dX0_addEffect_9 ?_
    refine V_iload_n 1 hC dX0_addEffect_12 rfl rfl ?_
    obtain ⟨g3, hf⟩ := gd_some hf
    refine V_iald (a := (32 * o + 6)) hC (hL.row ho rfl) g3 dX0_addEffect_13 ?_
    refine V_iconst (v := 4) hC dX0_addEffect_14 rfl ?_
    refine V_icmp_ge (tgt := 56) hC dX0_addEffect_15 (by decide) (fun c4 => ?_) (fun c4 => ?_)
    · have hf := if_t hf c4
      obtain rfl := so_inj hf
      exact V_vret hC hr hQ hA dX0_addEffect_56
    · have hf := if_f hf c4
      refine V_iload_n 1 hC dX0_addEffect_18 rfl rfl ?_
      refine V_iconst (v := 4) hC dX0_addEffect_19 rfl ?_
      refine V_imul hC dX0_addEffect_20 ?_
      refine V_aload_n 0 hC dX0_addEffect_21 rfl rfl ?_
      refine V_geta (o := o) hC ho rfl fk_X0_31 dX0_addEffect_22 ?_
      refine V_iload_n 1 hC dX0_addEffect_25 rfl rfl ?_
      obtain ⟨g5, hf⟩ := gd_some hf
      refine V_iald (a := (32 * o + 6)) hC (hL.row ho rfl) g5 dX0_addEffect_26 ?_
      refine V_iadd hC dX0_addEffect_27 ?_
      refine V_topi (fun y6 ey6 => ?_)
      have hf := bd_e hf y6 ey6
      refine V_istore (lv' := [(4, .int y6), (0, .ref (yo Y o)), (1, .int p1), (2, .int p2), (3, .int p3)]) hC dX0_addEffect_28 (by decide) rfl ?_
      refine V_aload_n 1 hC dX0_addEffect_30 rfl rfl ?_
      refine V_geta (o := o) hC ho rfl fk_X0_34 dX0_addEffect_31 ?_
      refine V_iload 0 hC dX0_addEffect_34 rfl ?_
      refine V_iload_n 3 hC dX0_addEffect_36 rfl rfl ?_
      obtain ⟨g7, hf⟩ := gd_some hf
      refine V_iast (a := (32 * o + 7)) hC (hL.row ho rfl) g7 dX0_addEffect_37 (fun d8 ed8 => ?_)
      have hf := bd_e hf d8 ed8
      refine V_aload_n 1 hC dX0_addEffect_38 rfl rfl ?_
      refine V_geta (o := o) hC ho rfl fk_X0_37 dX0_addEffect_39 ?_
      refine V_iload 0 hC dX0_addEffect_42 rfl ?_
      refine V_iload_n 4 hC dX0_addEffect_44 rfl rfl ?_
      obtain ⟨g9, hf⟩ := gd_some hf
      refine V_iast (a := (32 * o + 8)) hC (hL.row ho rfl) g9 dX0_addEffect_45 (fun d10 ed10 => ?_)
      have hf := bd_e hf d10 ed10
      refine V_aload_n 1 hC dX0_addEffect_46 rfl rfl ?_
      refine V_geta (o := o) hC ho rfl fk_X0_31 dX0_addEffect_47 ?_
      refine V_iload_n 2 hC dX0_addEffect_50 rfl rfl ?_
      refine V_dup2 hC dX0_addEffect_51 rfl rfl ?_
      obtain ⟨g11, hf⟩ := gd_some hf
      refine V_iald (a := (32 * o + 6)) hC (hL.row ho rfl) g11 dX0_addEffect_52 ?_
      refine V_iconst (v := 1) hC dX0_addEffect_53 rfl ?_
      refine V_iadd hC dX0_addEffect_54 ?_
      obtain ⟨g12, hf⟩ := gd_some hf
      refine V_iast (a := (32 * o + 6)) hC (hL.row ho rfl) g12 dX0_addEffect_55 (fun d13 ed13 => ?_)
      have hf := bd_e hf d13 ed13
      obtain rfl := so_inj hf
      exact V_vret hC hr hQ hA dX0_addEffect_56
def t_X0_addChoice (L : Nat → Nat) (d : Dt) (o : Nat) (p1 : Int32) (p2 : Int32) (p3 : Int32) (p4 : Int32) : Option (Dt) := (t_X0_hasPart L d o p1).bind (fun v1 => if v1 = 0 then some d else gd (inb p1 (L (32 * o + 9))) (if 6 ≤ (gA d (32 * o + 9) (ix p1)) then some d else gd (inb p1 (L (32 * o + 9))) (bd ((p1 * 6) + (gA d (32 * o + 9) (ix p1))) (fun y6 => gd (inb y6 (L (32 * o + 10))) (bd (sA d (32 * o + 10) (ix y6) p2) (fun d8 => gd (inb y6 (L (32 * o + 11))) (bd (sA d8 (32 * o + 11) (ix y6) p3) (fun d10 => gd (inb y6 (L (32 * o + 12))) (bd (sA d10 (32 * o + 12) (ix y6) p4) (fun d12 => gd (inb p1 (L (32 * o + 9))) (gd (inb p1 (L (32 * o + 9))) (bd (sA d12 (32 * o + 9) (ix p1) ((gA d12 (32 * o + 9) (ix p1)) + 1)) (fun d15 => some d15)))))))))))))
set_option maxRecDepth 20000 in
theorem c_X0_addChoice {l : Launch} {Y : Yx} (hL : LAY Y) {z : Sh} {d : Dt} {o : Nat} {p1 : Int32} {p2 : Int32} {p3 : Int32} {p4 : Int32} (ho : (0, o, 0) ∈ yI Y) {d' : Dt} (hf : t_X0_addChoice z.1 d o p1 p2 p3 p4 = some d') : MM l yX0_addChoice cX0_addChoice 6 none 1 21 Y z [.ref (yo Y o), .int p1, .int p2, .int p3, .int p4] d (none) d' := by
  refine MM.ofV (by decide +kernel) hL (Nat.le_of_ble_eq_true rfl) (fun K hl hC hr hQ hA => ?_)
  have hC : CK K Y cX0_addChoice 6 RX0 1 21 := hC
  have hkn : 0 ≤ (kR K).cells ∧ 0 ≤ (kR K).slots := ⟨Nat.zero_le _, Nat.zero_le _⟩
  unfold t_X0_addChoice at hf
  show V K Y 6 0 0 z d 0 [(0, .ref (yo Y o)), (1, .int p1), (2, .int p2), (3, .int p3), (4, .int p4)] []
  refine V_aload_n 0 hC dX0_addChoice_0 rfl rfl ?_
  refine V_iload_n 1 hC dX0_addChoice_1 rfl rfl ?_
  obtain ⟨v1, ev1, hf⟩ := bi_some hf
  refine V_invi (o := o) (As := [.int p1]) (rest := []) hC (c_X0_hasPart hL ho ev1) me_X0_hasPart lk_X0_58 ho rfl rfl rfl (Nat.le_of_ble_eq_true rfl) ⟨by decide, by decide⟩ hkn dX0_addChoice_2 ?_
  refine V_if_eq (tgt := 67) hC dX0_addChoice_5 (by decide) (fun c2 => ?_) (fun c2 => ?_)
  · have hf := if_t hf c2
    obtain rfl := so_inj hf
    exact V_vret hC hr hQ hA dX0_addChoice_67
  · have hf := if_f hf c2
    refine V_aload_n 0 hC dX0_addChoice_8 rfl rfl ?_
    refine V_geta (o := o) hC ho rfl fk_X0_40 dX0_addChoice_9 ?_
    refine V_iload_n 1 hC dX0_addChoice_12 rfl rfl ?_
    obtain ⟨g3, hf⟩ := gd_some hf
    refine V_iald (a := (32 * o + 9)) hC (hL.row ho rfl) g3 dX0_addChoice_13 ?_
    refine V_bipush (v := 6) hC dX0_addChoice_14 rfl ?_
    refine V_icmp_ge (tgt := 67) hC dX0_addChoice_16 (by decide) (fun c4 => ?_) (fun c4 => ?_)
    · have hf := if_t hf c4
      obtain rfl := so_inj hf
      exact V_vret hC hr hQ hA dX0_addChoice_67
    · have hf := if_f hf c4
      refine V_iload_n 1 hC dX0_addChoice_19 rfl rfl ?_
      refine V_bipush (v := 6) hC dX0_addChoice_20 rfl ?_
      refine V_imul hC dX0_addChoice_22 ?_
      refine V_aload_n 0 hC dX0_addChoice_23 rfl rfl ?_
      refine V_geta (o := o) hC ho rfl fk_X0_40 dX0_addChoice_24 ?_
      refine V_iload_n 1 hC dX0_addChoice_27 rfl rfl ?_
      obtain ⟨g5, hf⟩ := gd_some hf
      refine V_iald (a := (32 * o + 9)) hC (hL.row ho rfl) g5 dX0_addChoice_28 ?_
      refine V_iadd hC dX0_addChoice_29 ?_
      refine V_topi (fun y6 ey6 => ?_)
      have hf := bd_e hf y6 ey6
      refine V_istore (lv' := [(5, .int y6), (0, .ref (yo Y o)), (1, .int p1), (2, .int p2), (3, .int p3), (4, .int p4)]) hC dX0_addChoice_30 (by decide) rfl ?_
      refine V_aload_n 1 hC dX0_addChoice_32 rfl rfl ?_
      refine V_geta (o := o) hC ho rfl fk_X0_43 dX0_addChoice_33 ?_
      refine V_iload 0 hC dX0_addChoice_36 rfl ?_
      refine V_iload_n 3 hC dX0_addChoice_38 rfl rfl ?_
      obtain ⟨g7, hf⟩ := gd_some hf
      refine V_iast (a := (32 * o + 10)) hC (hL.row ho rfl) g7 dX0_addChoice_39 (fun d8 ed8 => ?_)
      have hf := bd_e hf d8 ed8
      refine V_aload_n 1 hC dX0_addChoice_40 rfl rfl ?_
      refine V_geta (o := o) hC ho rfl fk_X0_46 dX0_addChoice_41 ?_
      refine V_iload 0 hC dX0_addChoice_44 rfl ?_
      refine V_iload_n 4 hC dX0_addChoice_46 rfl rfl ?_
      obtain ⟨g9, hf⟩ := gd_some hf
      refine V_iast (a := (32 * o + 11)) hC (hL.row ho rfl) g9 dX0_addChoice_47 (fun d10 ed10 => ?_)
      have hf := bd_e hf d10 ed10
      refine V_aload_n 1 hC dX0_addChoice_48 rfl rfl ?_
      refine V_geta (o := o) hC ho rfl fk_X0_49 dX0_addChoice_49 ?_
      refine V_iload 0 hC dX0_addChoice_52 rfl ?_
      refine V_iload 5 hC dX0_addChoice_54 rfl ?_
      obtain ⟨g11, hf⟩ := gd_some hf
      refine V_iast (a := (32 * o + 12)) hC (hL.row ho rfl) g11 dX0_addChoice_56 (fun d12 ed12 => ?_)
      have hf := bd_e hf d12 ed12
      refine V_aload_n 1 hC dX0_addChoice_57 rfl rfl ?_
      refine V_geta (o := o) hC ho rfl fk_X0_40 dX0_addChoice_58 ?_
      refine V_iload_n 2 hC dX0_addChoice_61 rfl rfl ?_
      refine V_dup2 hC dX0_addChoice_62 rfl rfl ?_
      obtain ⟨g13, hf⟩ := gd_some hf
      refine V_iald (a := (32 * o + 9)) hC (hL.row ho rfl) g13 dX0_addChoice_63 ?_
      refine V_iconst (v := 1) hC dX0_addChoice_64 rfl ?_
      refine V_iadd hC dX0_addChoice_65 ?_
      obtain ⟨g14, hf⟩ := gd_some hf
      refine V_iast (a := (32 * o + 9)) hC (hL.row ho rfl) g14 dX0_addChoice_66 (fun d15 ed15 => ?_)
      have hf := bd_e hf d15 ed15
      obtain rfl := so_inj hf
      exact V_vret hC hr hQ hA dX0_addChoice_67
def t_X0_strikeChoice_20 (L : Nat → Nat) (o : Nat) (p1 : Int32) (p2 : Int32) (k20 : Int32 → Int32 → (Dt) → Option (Dt)) (x3 : Int32) (x4 : Int32) (d : Dt) : Option (Dt) := gd (inb p1 (L (32 * o + 9))) (if (x3 + (gA d (32 * o + 9) (ix p1))) ≤ (x4 + 1) then gd (inb p1 (L (32 * o + 9))) (gd (inb p1 (L (32 * o + 9))) (bd (sA d (32 * o + 9) (ix p1) ((gA d (32 * o + 9) (ix p1)) - 1)) (fun d9 => some d9))) else gd (inb (x4 + 1) (L (32 * o + 10))) (gd (inb x4 (L (32 * o + 10))) (bd (sA d (32 * o + 10) (ix x4) (gA d (32 * o + 10) (ix (x4 + 1)))) (fun d12 => gd (inb (x4 + 1) (L (32 * o + 11))) (gd (inb x4 (L (32 * o + 11))) (bd (sA d12 (32 * o + 11) (ix x4) (gA d12 (32 * o + 11) (ix (x4 + 1)))) (fun d15 => gd (inb (x4 + 1) (L (32 * o + 12))) (gd (inb x4 (L (32 * o + 12))) (bd (sA d15 (32 * o + 12) (ix x4) (gA d15 (32 * o + 12) (ix (x4 + 1)))) (fun d18 => k20 x3 (x4 + 1) d18))))))))))
set_option maxRecDepth 20000 in
theorem b_X0_strikeChoice_20 {K : Kx} {Y : Yx} {z : Sh}  (hC : CK K Y cX0_strikeChoice 5 RX0 2 43) (hr : (kme K).sig.returnType = none) (hA : kA K = aY Y z) {o : Nat} {p1 : Int32} {p2 : Int32} (ho : (0, o, 0) ∈ yI Y) {d' : Dt} (hQ : kQ K = MQ (kb K) (QM Y z (none) d') (ka K) (ks K) 0 0 (aY Y z)) {k20 : Int32 → Int32 → (Dt) → Option (Dt)} (hk20 : ∀ (x3 : Int32) (x4 : Int32) (d : Dt), k20 x3 x4 d = some d' → V K Y 5 0 0 z d 20 [(0, .ref (yo Y o)), (1, .int p1), (3, .int x3), (4, .int x4)] []) (x3 : Int32) (x4 : Int32) (d : Dt) (hf : t_X0_strikeChoice_20 z.1 o p1 p2 k20 x3 x4 d = some d') : V K Y 5 0 0 z d 20 [(0, .ref (yo Y o)), (1, .int p1), (3, .int x3), (4, .int x4)] [] := by
  have hL := hC.2.2.2.2.2.2.1
  unfold t_X0_strikeChoice_20 at hf
  refine V_iload 3 hC dX0_strikeChoice_20 rfl ?_
  refine V_iconst (v := 1) hC dX0_strikeChoice_22 rfl ?_
  refine V_iadd hC dX0_strikeChoice_23 ?_
  refine V_iload_n 2 hC dX0_strikeChoice_24 rfl rfl ?_
  refine V_aload_n 0 hC dX0_strikeChoice_25 rfl rfl ?_
  refine V_geta (o := o) hC ho rfl fk_X0_40 dX0_strikeChoice_26 ?_
  refine V_iload_n 1 hC dX0_strikeChoice_29 rfl rfl ?_
  obtain ⟨g5, hf⟩ := gd_some hf
  refine V_iald (a := (32 * o + 9)) hC (hL.row ho rfl) g5 dX0_strikeChoice_30 ?_
  refine V_iadd hC dX0_strikeChoice_31 ?_
  refine V_icmp_ge (tgt := 89) hC dX0_strikeChoice_32 (by decide) (fun c6 => ?_) (fun c6 => ?_)
  · have hf := if_t hf c6
    refine V_aload_n 0 hC dX0_strikeChoice_89 rfl rfl ?_
    refine V_geta (o := o) hC ho rfl fk_X0_40 dX0_strikeChoice_90 ?_
    refine V_iload_n 1 hC dX0_strikeChoice_93 rfl rfl ?_
    refine V_dup2 hC dX0_strikeChoice_94 rfl rfl ?_
    obtain ⟨g7, hf⟩ := gd_some hf
    refine V_iald (a := (32 * o + 9)) hC (hL.row ho rfl) g7 dX0_strikeChoice_95 ?_
    refine V_iconst (v := 1) hC dX0_strikeChoice_96 rfl ?_
    refine V_isub hC dX0_strikeChoice_97 ?_
    obtain ⟨g8, hf⟩ := gd_some hf
    refine V_iast (a := (32 * o + 9)) hC (hL.row ho rfl) g8 dX0_strikeChoice_98 (fun d9 ed9 => ?_)
    have hf := bd_e hf d9 ed9
    obtain rfl := so_inj hf
    exact V_vret hC hr hQ hA dX0_strikeChoice_99
  · have hf := if_f hf c6
    refine V_aload_n 0 hC dX0_strikeChoice_35 rfl rfl ?_
    refine V_geta (o := o) hC ho rfl fk_X0_43 dX0_strikeChoice_36 ?_
    refine V_iload 3 hC dX0_strikeChoice_39 rfl ?_
    refine V_aload_n 0 hC dX0_strikeChoice_41 rfl rfl ?_
    refine V_geta (o := o) hC ho rfl fk_X0_43 dX0_strikeChoice_42 ?_
    refine V_iload 3 hC dX0_strikeChoice_45 rfl ?_
    refine V_iconst (v := 1) hC dX0_strikeChoice_47 rfl ?_
    refine V_iadd hC dX0_strikeChoice_48 ?_
    obtain ⟨g10, hf⟩ := gd_some hf
    refine V_iald (a := (32 * o + 10)) hC (hL.row ho rfl) g10 dX0_strikeChoice_49 ?_
    obtain ⟨g11, hf⟩ := gd_some hf
    refine V_iast (a := (32 * o + 10)) hC (hL.row ho rfl) g11 dX0_strikeChoice_50 (fun d12 ed12 => ?_)
    have hf := bd_e hf d12 ed12
    refine V_aload_n 0 hC dX0_strikeChoice_51 rfl rfl ?_
    refine V_geta (o := o) hC ho rfl fk_X0_46 dX0_strikeChoice_52 ?_
    refine V_iload 3 hC dX0_strikeChoice_55 rfl ?_
    refine V_aload_n 0 hC dX0_strikeChoice_57 rfl rfl ?_
    refine V_geta (o := o) hC ho rfl fk_X0_46 dX0_strikeChoice_58 ?_
    refine V_iload 3 hC dX0_strikeChoice_61 rfl ?_
    refine V_iconst (v := 1) hC dX0_strikeChoice_63 rfl ?_
    refine V_iadd hC dX0_strikeChoice_64 ?_
    obtain ⟨g13, hf⟩ := gd_some hf
    refine V_iald (a := (32 * o + 11)) hC (hL.row ho rfl) g13 dX0_strikeChoice_65 ?_
    obtain ⟨g14, hf⟩ := gd_some hf
    refine V_iast (a := (32 * o + 11)) hC (hL.row ho rfl) g14 dX0_strikeChoice_66 (fun d15 ed15 => ?_)
    have hf := bd_e hf d15 ed15
    refine V_aload_n 0 hC dX0_strikeChoice_67 rfl rfl ?_
    refine V_geta (o := o) hC ho rfl fk_X0_49 dX0_strikeChoice_68 ?_
    refine V_iload 3 hC dX0_strikeChoice_71 rfl ?_
    refine V_aload_n 0 hC dX0_strikeChoice_73 rfl rfl ?_
    refine V_geta (o := o) hC ho rfl fk_X0_49 dX0_strikeChoice_74 ?_
    refine V_iload 3 hC dX0_strikeChoice_77 rfl ?_
    refine V_iconst (v := 1) hC dX0_strikeChoice_79 rfl ?_
    refine V_iadd hC dX0_strikeChoice_80 ?_
    obtain ⟨g16, hf⟩ := gd_some hf
    refine V_iald (a := (32 * o + 12)) hC (hL.row ho rfl) g16 dX0_strikeChoice_81 ?_
    obtain ⟨g17, hf⟩ := gd_some hf
    refine V_iast (a := (32 * o + 12)) hC (hL.row ho rfl) g17 dX0_strikeChoice_82 (fun d18 ed18 => ?_)
    have hf := bd_e hf d18 ed18
    refine V_iinc (v := x4 + 1) (lv' := [(4, .int (x4 + 1)), (0, .ref (yo Y o)), (1, .int p1), (3, .int x3)]) 3 hC dX0_strikeChoice_83 rfl rfl (by decide) rfl ?_
    refine V_goto (tgt := 20) hC dX0_strikeChoice_86 (by decide) ?_
    exact V_sub [1, 2, 3, 0] rfl (hk20 x3 (x4 + 1) d18 hf)
def t_X0_strikeChoice (L : Nat → Nat) (d : Dt) (o : Nat) (p1 : Int32) (p2 : Int32) : Option (Dt) := (t_X0_hasChoice L d o p1 p2).bind (fun v1 => if v1 = 0 then some d else bd (p1 * 6) (fun y3 => bd (y3 + p2) (fun y4 => lp (fun k x => t_X0_strikeChoice_20 L o p1 p2  (fun x3 x4 d => k (x3, x4, d)) x.1 x.2.1 x.2.2) FU (y3, y4, d))))
set_option maxRecDepth 20000 in
theorem c_X0_strikeChoice {l : Launch} {Y : Yx} (hL : LAY Y) {z : Sh} {d : Dt} {o : Nat} {p1 : Int32} {p2 : Int32} (ho : (0, o, 0) ∈ yI Y) {d' : Dt} (hf : t_X0_strikeChoice z.1 d o p1 p2 = some d') : MM l yX0_strikeChoice cX0_strikeChoice 5 none 2 43 Y z [.ref (yo Y o), .int p1, .int p2] d (none) d' := by
  refine MM.ofV (by decide +kernel) hL (Nat.le_of_ble_eq_true rfl) (fun K hl hC hr hQ hA => ?_)
  have hC : CK K Y cX0_strikeChoice 5 RX0 2 43 := hC
  have hkn : 0 ≤ (kR K).cells ∧ 0 ≤ (kR K).slots := ⟨Nat.zero_le _, Nat.zero_le _⟩
  unfold t_X0_strikeChoice at hf
  show V K Y 5 0 0 z d 0 [(0, .ref (yo Y o)), (1, .int p1), (2, .int p2)] []
  refine V_aload_n 0 hC dX0_strikeChoice_0 rfl rfl ?_
  refine V_iload_n 1 hC dX0_strikeChoice_1 rfl rfl ?_
  refine V_iload_n 2 hC dX0_strikeChoice_2 rfl rfl ?_
  obtain ⟨v1, ev1, hf⟩ := bi_some hf
  refine V_invi (o := o) (As := [.int p1, .int p2]) (rest := []) hC (c_X0_hasChoice hL ho ev1) me_X0_hasChoice lk_X0_62 ho rfl rfl rfl (Nat.le_of_ble_eq_true rfl) ⟨by decide, by decide⟩ hkn dX0_strikeChoice_3 ?_
  refine V_if_ne (tgt := 10) hC dX0_strikeChoice_6 (by decide) (fun c2 => ?_) (fun c2 => ?_)
  · have hf := if_f hf c2
    refine V_iload_n 1 hC dX0_strikeChoice_10 rfl rfl ?_
    refine V_bipush (v := 6) hC dX0_strikeChoice_11 rfl ?_
    refine V_imul hC dX0_strikeChoice_13 ?_
    refine V_topi (fun y3 ey3 => ?_)
    have hf := bd_e hf y3 ey3
    refine V_istore_n (lv' := [(3, .int y3), (0, .ref (yo Y o)), (1, .int p1), (2, .int p2)]) hC dX0_strikeChoice_14 rfl (by decide) rfl ?_
    refine V_iload_n 0 hC dX0_strikeChoice_15 rfl rfl ?_
    refine V_iload_n 3 hC dX0_strikeChoice_16 rfl rfl ?_
    refine V_iadd hC dX0_strikeChoice_17 ?_
    refine V_topi (fun y4 ey4 => ?_)
    have hf := bd_e hf y4 ey4
    refine V_istore (lv' := [(4, .int y4), (3, .int y3), (0, .ref (yo Y o)), (1, .int p1), (2, .int p2)]) hC dX0_strikeChoice_18 (by decide) rfl ?_
    exact V_sub [2, 3, 1, 0] rfl (lp_ind (X := Int32 × Int32 × Dt) (P := fun x => V K Y 5 0 0 z x.2.2 20 [(0, .ref (yo Y o)), (1, .int p1), (3, .int x.1), (4, .int x.2.1)] []) (fun k x hk hx => b_X0_strikeChoice_20 hC hr hA ho hQ  (k20 := fun x3 x4 d => k (x3, x4, d)) (fun x3 x4 d hx => hk (x3, x4, d) hx) x.1 x.2.1 x.2.2 hx) FU (y3, y4, d) hf)
  · have hf := if_t hf c2
    obtain rfl := so_inj hf
    exact V_vret hC hr hQ hA dX0_strikeChoice_9
def t_X0_endByRoll (L : Nat → Nat) (d : Dt) (o : Nat) (p1 : Int32) (p2 : Int32) (p3 : Int32) (p4 : Int32) : Option (Dt) := (t_X0_hasPart L d o p1).bind (fun v1 => if v1 = 0 then some d else gd (inb p1 (L (32 * o + 2))) (bd (sA d (32 * o + 2) (ix p1) 3) (fun d4 => gd (inb p1 (L (32 * o + 3))) (bd (sA d4 (32 * o + 3) (ix p1) p2) (fun d6 => gd (inb p1 (L (32 * o + 4))) (bd (sA d6 (32 * o + 4) (ix p1) p3) (fun d8 => gd (inb p1 (L (32 * o + 5))) (bd (sA d8 (32 * o + 5) (ix p1) p4) (fun d10 => some d10)))))))))
set_option maxRecDepth 20000 in
theorem c_X0_endByRoll {l : Launch} {Y : Yx} (hL : LAY Y) {z : Sh} {d : Dt} {o : Nat} {p1 : Int32} {p2 : Int32} {p3 : Int32} {p4 : Int32} (ho : (0, o, 0) ∈ yI Y) {d' : Dt} (hf : t_X0_endByRoll z.1 d o p1 p2 p3 p4 = some d') : MM l yX0_endByRoll cX0_endByRoll 5 none 1 21 Y z [.ref (yo Y o), .int p1, .int p2, .int p3, .int p4] d (none) d' := by
  refine MM.ofV (by decide +kernel) hL (Nat.le_of_ble_eq_true rfl) (fun K hl hC hr hQ hA => ?_)
  have hC : CK K Y cX0_endByRoll 5 RX0 1 21 := hC
  have hkn : 0 ≤ (kR K).cells ∧ 0 ≤ (kR K).slots := ⟨Nat.zero_le _, Nat.zero_le _⟩
  unfold t_X0_endByRoll at hf
  show V K Y 5 0 0 z d 0 [(0, .ref (yo Y o)), (1, .int p1), (2, .int p2), (3, .int p3), (4, .int p4)] []
  refine V_aload_n 0 hC dX0_endByRoll_0 rfl rfl ?_
  refine V_iload_n 1 hC dX0_endByRoll_1 rfl rfl ?_
  obtain ⟨v1, ev1, hf⟩ := bi_some hf
  refine V_invi (o := o) (As := [.int p1]) (rest := []) hC (c_X0_hasPart hL ho ev1) me_X0_hasPart lk_X0_58 ho rfl rfl rfl (Nat.le_of_ble_eq_true rfl) ⟨by decide, by decide⟩ hkn dX0_endByRoll_2 ?_
  refine V_if_eq (tgt := 37) hC dX0_endByRoll_5 (by decide) (fun c2 => ?_) (fun c2 => ?_)
  · have hf := if_t hf c2
    obtain rfl := so_inj hf
    exact V_vret hC hr hQ hA dX0_endByRoll_37
  · have hf := if_f hf c2
    refine V_aload_n 0 hC dX0_endByRoll_8 rfl rfl ?_
    refine V_geta (o := o) hC ho rfl fk_X0_18 dX0_endByRoll_9 ?_
    refine V_iload_n 1 hC dX0_endByRoll_12 rfl rfl ?_
    refine V_iconst (v := 3) hC dX0_endByRoll_13 rfl ?_
    obtain ⟨g3, hf⟩ := gd_some hf
    refine V_iast (a := (32 * o + 2)) hC (hL.row ho rfl) g3 dX0_endByRoll_14 (fun d4 ed4 => ?_)
    have hf := bd_e hf d4 ed4
    refine V_aload_n 0 hC dX0_endByRoll_15 rfl rfl ?_
    refine V_geta (o := o) hC ho rfl fk_X0_22 dX0_endByRoll_16 ?_
    refine V_iload_n 1 hC dX0_endByRoll_19 rfl rfl ?_
    refine V_iload_n 2 hC dX0_endByRoll_20 rfl rfl ?_
    obtain ⟨g5, hf⟩ := gd_some hf
    refine V_iast (a := (32 * o + 3)) hC (hL.row ho rfl) g5 dX0_endByRoll_21 (fun d6 ed6 => ?_)
    have hf := bd_e hf d6 ed6
    refine V_aload_n 0 hC dX0_endByRoll_22 rfl rfl ?_
    refine V_geta (o := o) hC ho rfl fk_X0_25 dX0_endByRoll_23 ?_
    refine V_iload_n 1 hC dX0_endByRoll_26 rfl rfl ?_
    refine V_iload_n 3 hC dX0_endByRoll_27 rfl rfl ?_
    obtain ⟨g7, hf⟩ := gd_some hf
    refine V_iast (a := (32 * o + 4)) hC (hL.row ho rfl) g7 dX0_endByRoll_28 (fun d8 ed8 => ?_)
    have hf := bd_e hf d8 ed8
    refine V_aload_n 0 hC dX0_endByRoll_29 rfl rfl ?_
    refine V_geta (o := o) hC ho rfl fk_X0_28 dX0_endByRoll_30 ?_
    refine V_iload_n 1 hC dX0_endByRoll_33 rfl rfl ?_
    refine V_iload 4 hC dX0_endByRoll_34 rfl ?_
    obtain ⟨g9, hf⟩ := gd_some hf
    refine V_iast (a := (32 * o + 5)) hC (hL.row ho rfl) g9 dX0_endByRoll_36 (fun d10 ed10 => ?_)
    have hf := bd_e hf d10 ed10
    obtain rfl := so_inj hf
    exact V_vret hC hr hQ hA dX0_endByRoll_37
def t_X0_isOpen_72 (L : Nat → Nat) (d : Dt) (o : Nat) (p1 : Int32) (p2 : Int32)  (x4 : Int32) (x6 : Int32)  : Option (Int32) := if x6 = (-1) then some 1 else if ((x4 >>> (x6 &&& 31)) &&& 1) = 0 then some 1 else some 0
set_option maxRecDepth 20000 in
theorem b_X0_isOpen_72 {K : Kx} {Y : Yx} {z : Sh} {d : Dt} (hC : CK K Y cX0_isOpen 7 RX0 2 43) (hr : (kme K).sig.returnType = some .boolean) (hA : kA K = aY Y z) {o : Nat} {p1 : Int32} {p2 : Int32} (ho : (0, o, 0) ∈ yI Y) {r : Int32} (hQ : kQ K = MQ (kb K) (QM Y z (some (.int r)) d) (ka K) (ks K) 0 0 (aY Y z))   (x4 : Int32) (x6 : Int32)  (hf : t_X0_isOpen_72 z.1 d o p1 p2  x4 x6  = some r) : V K Y 7 0 0 z d 72 [(4, .int x4), (6, .int x6)] [] := by
  have hL := hC.2.2.2.2.2.2.1
  unfold t_X0_isOpen_72 at hf
  refine V_iload 1 hC dX0_isOpen_72 rfl ?_
  refine V_iconst (v := -1) hC dX0_isOpen_74 rfl ?_
  refine V_icmp_eq (tgt := 88) hC dX0_isOpen_75 (by decide) (fun c13 => ?_) (fun c13 => ?_)
  · have hf := if_t hf c13
    refine V_iconst (v := 1) hC dX0_isOpen_88 rfl ?_
    refine V_goto (tgt := 93) hC dX0_isOpen_89 (by decide) ?_
    obtain rfl := so_inj hf
    exact V_zret hC hr rfl hQ hA dX0_isOpen_93
  · have hf := if_f hf c13
    refine V_iload 0 hC dX0_isOpen_78 rfl ?_
    refine V_iload 1 hC dX0_isOpen_80 rfl ?_
    refine V_ishr hC dX0_isOpen_82 ?_
    refine V_iconst (v := 1) hC dX0_isOpen_83 rfl ?_
    refine V_iand hC dX0_isOpen_84 ?_
    refine V_if_ne (tgt := 92) hC dX0_isOpen_85 (by decide) (fun c14 => ?_) (fun c14 => ?_)
    · have hf := if_f hf c14
      refine V_iconst (v := 0) hC dX0_isOpen_92 rfl ?_
      obtain rfl := so_inj hf
      exact V_zret hC hr rfl hQ hA dX0_isOpen_93
    · have hf := if_t hf c14
      refine V_iconst (v := 1) hC dX0_isOpen_88 rfl ?_
      refine V_goto (tgt := 93) hC dX0_isOpen_89 (by decide) ?_
      obtain rfl := so_inj hf
      exact V_zret hC hr rfl hQ hA dX0_isOpen_93
def t_X0_isOpen (L : Nat → Nat) (d : Dt) (o : Nat) (p1 : Int32) (p2 : Int32) : Option (Int32) := (t_X3_partOf L d p1).bind (fun v1 => (t_X3_isOver L d p1).bind (fun v2 => if v2 = 0 then (t_X0_hasChoice L d o v1 p2).bind (fun v4 => if v4 = 0 then some 0 else (t_X3_thingsOf L d p1).bind (fun v6 => gd (inb ((v1 * 6) + p2) (L (32 * o + 11))) (bd (gA d (32 * o + 11) (ix ((v1 * 6) + p2))) (fun y8 => gd (inb ((v1 * 6) + p2) (L (32 * o + 12))) (bd (gA d (32 * o + 12) (ix ((v1 * 6) + p2))) (fun y10 => if y8 = (-1) then t_X0_isOpen_72 L d o p1 p2  v6 y10 else if ((v6 >>> (y8 &&& 31)) &&& 1) = 1 then t_X0_isOpen_72 L d o p1 p2  v6 y10 else some 0)))))) else some 0))
set_option maxRecDepth 20000 in
theorem c_X0_isOpen {l : Launch} {Y : Yx} (hL : LAY Y) {z : Sh} {d : Dt} {o : Nat} {p1 : Int32} {p2 : Int32} (ho : (0, o, 0) ∈ yI Y) {r : Int32} (hf : t_X0_isOpen z.1 d o p1 p2 = some r) : MM l yX0_isOpen cX0_isOpen 7 (some .boolean) 2 43 Y z [.ref (yo Y o), .int p1, .int p2] d (some (.int r)) d := by
  refine MM.ofV (by decide +kernel) hL (Nat.le_of_ble_eq_true rfl) (fun K hl hC hr hQ hA => ?_)
  have hC : CK K Y cX0_isOpen 7 RX0 2 43 := hC
  have hkn : 0 ≤ (kR K).cells ∧ 0 ≤ (kR K).slots := ⟨Nat.zero_le _, Nat.zero_le _⟩
  unfold t_X0_isOpen at hf
  show V K Y 7 0 0 z d 0 [(0, .ref (yo Y o)), (1, .int p1), (2, .int p2)] []
  refine V_iload_n 1 hC dX0_isOpen_0 rfl rfl ?_
  obtain ⟨v1, ev1, hf⟩ := bi_some hf
  refine V_insi (As := [.int p1]) (rest := []) hC (c_X3_partOf hL  ev1) me_X3_partOf lk_X0_66 rfl rfl (Nat.le_of_ble_eq_true rfl) ⟨by decide, by decide⟩ hkn dX0_isOpen_1 ?_
  refine V_istore_n (lv' := [(3, .int v1), (0, .ref (yo Y o)), (1, .int p1), (2, .int p2)]) hC dX0_isOpen_4 rfl (by decide) rfl ?_
  refine V_iload_n 2 hC dX0_isOpen_5 rfl rfl ?_
  obtain ⟨v2, ev2, hf⟩ := bi_some hf
  refine V_insi (As := [.int p1]) (rest := []) hC (c_X3_isOver hL  ev2) me_X3_isOver lk_X0_72 rfl rfl (Nat.le_of_ble_eq_true rfl) ⟨by decide, by decide⟩ hkn dX0_isOpen_6 ?_
  refine V_if_ne (tgt := 21) hC dX0_isOpen_9 (by decide) (fun c3 => ?_) (fun c3 => ?_)
  · have hf := if_f hf c3
    refine V_iconst (v := 0) hC dX0_isOpen_21 rfl ?_
    obtain rfl := so_inj hf
    exact V_zret hC hr rfl hQ hA dX0_isOpen_22
  · have hf := if_t hf c3
    refine V_aload_n 1 hC dX0_isOpen_12 rfl rfl ?_
    refine V_iload_n 0 hC dX0_isOpen_13 rfl rfl ?_
    refine V_iload_n 3 hC dX0_isOpen_14 rfl rfl ?_
    obtain ⟨v4, ev4, hf⟩ := bi_some hf
    refine V_invi (o := o) (As := [.int v1, .int p2]) (rest := []) hC (c_X0_hasChoice hL ho ev4) me_X0_hasChoice lk_X0_62 ho rfl rfl rfl (Nat.le_of_ble_eq_true rfl) ⟨by decide, by decide⟩ hkn dX0_isOpen_15 ?_
    refine V_if_ne (tgt := 23) hC dX0_isOpen_18 (by decide) (fun c5 => ?_) (fun c5 => ?_)
    · have hf := if_f hf c5
      refine V_iload_n 2 hC dX0_isOpen_23 rfl rfl ?_
      obtain ⟨v6, ev6, hf⟩ := bi_some hf
      refine V_insi (As := [.int p1]) (rest := []) hC (c_X3_thingsOf hL  ev6) me_X3_thingsOf lk_X0_75 rfl rfl (Nat.le_of_ble_eq_true rfl) ⟨by decide, by decide⟩ hkn dX0_isOpen_24 ?_
      refine V_istore (lv' := [(4, .int v6), (3, .int v1), (0, .ref (yo Y o)), (1, .int p1), (2, .int p2)]) hC dX0_isOpen_27 (by decide) rfl ?_
      refine V_aload_n 2 hC dX0_isOpen_29 rfl rfl ?_
      refine V_geta (o := o) hC ho rfl fk_X0_46 dX0_isOpen_30 ?_
      refine V_iload_n 1 hC dX0_isOpen_33 rfl rfl ?_
      refine V_bipush (v := 6) hC dX0_isOpen_34 rfl ?_
      refine V_imul hC dX0_isOpen_36 ?_
      refine V_iload_n 4 hC dX0_isOpen_37 rfl rfl ?_
      refine V_iadd hC dX0_isOpen_38 ?_
      obtain ⟨g7, hf⟩ := gd_some hf
      refine V_iald (a := (32 * o + 11)) hC (hL.row ho rfl) g7 dX0_isOpen_39 ?_
      refine V_topi (fun y8 ey8 => ?_)
      have hf := bd_e hf y8 ey8
      refine V_istore (lv' := [(5, .int y8), (4, .int v6), (3, .int v1), (0, .ref (yo Y o)), (1, .int p1), (2, .int p2)]) hC dX0_isOpen_40 (by decide) rfl ?_
      refine V_aload_n 3 hC dX0_isOpen_42 rfl rfl ?_
      refine V_geta (o := o) hC ho rfl fk_X0_49 dX0_isOpen_43 ?_
      refine V_iload_n 2 hC dX0_isOpen_46 rfl rfl ?_
      refine V_bipush (v := 6) hC dX0_isOpen_47 rfl ?_
      refine V_imul hC dX0_isOpen_49 ?_
      refine V_iload_n 5 hC dX0_isOpen_50 rfl rfl ?_
      refine V_iadd hC dX0_isOpen_51 ?_
      obtain ⟨g9, hf⟩ := gd_some hf
      refine V_iald (a := (32 * o + 12)) hC (hL.row ho rfl) g9 dX0_isOpen_52 ?_
      refine V_topi (fun y10 ey10 => ?_)
      have hf := bd_e hf y10 ey10
      refine V_istore (lv' := [(6, .int y10), (5, .int y8), (4, .int v6), (3, .int v1), (0, .ref (yo Y o)), (1, .int p1), (2, .int p2)]) hC dX0_isOpen_53 (by decide) rfl ?_
      refine V_iload 1 hC dX0_isOpen_55 rfl ?_
      refine V_iconst (v := -1) hC dX0_isOpen_57 rfl ?_
      refine V_icmp_eq (tgt := 72) hC dX0_isOpen_58 (by decide) (fun c11 => ?_) (fun c11 => ?_)
      · have hf := if_t hf c11
        exact V_sub [2, 0] rfl (b_X0_isOpen_72 hC hr hA ho hQ  v6 y10 hf)
      · have hf := if_f hf c11
        refine V_iload 2 hC dX0_isOpen_61 rfl ?_
        refine V_iload 1 hC dX0_isOpen_63 rfl ?_
        refine V_ishr hC dX0_isOpen_65 ?_
        refine V_iconst (v := 1) hC dX0_isOpen_66 rfl ?_
        refine V_iand hC dX0_isOpen_67 ?_
        refine V_iconst (v := 1) hC dX0_isOpen_68 rfl ?_
        refine V_icmp_ne (tgt := 92) hC dX0_isOpen_69 (by decide) (fun c12 => ?_) (fun c12 => ?_)
        · have hf := if_f hf c12
          refine V_iconst (v := 0) hC dX0_isOpen_92 rfl ?_
          obtain rfl := so_inj hf
          exact V_zret hC hr rfl hQ hA dX0_isOpen_93
        · have hf := if_t hf c12
          exact V_sub [2, 0] rfl (b_X0_isOpen_72 hC hr hA ho hQ  v6 y10 hf)
    · have hf := if_t hf c5
      refine V_iconst (v := 0) hC dX0_isOpen_21 rfl ?_
      obtain rfl := so_inj hf
      exact V_zret hC hr rfl hQ hA dX0_isOpen_22
def t_X0_openChoices_44 (L : Nat → Nat) (d : Dt) (o : Nat) (p1 : Int32) (k10 : Int32 → Int32 → Int32 → Option (Int32)) (x2 : Int32) (x3 : Int32) (x4 : Int32)  : Option (Int32) := k10 x2 x3 (x4 + 1)
set_option maxRecDepth 20000 in
theorem b_X0_openChoices_44 {K : Kx} {Y : Yx} {z : Sh} {d : Dt} (hC : CK K Y cX0_openChoices 5 RX0 3 69) (hr : (kme K).sig.returnType = some .int) (hA : kA K = aY Y z) {o : Nat} {p1 : Int32} (ho : (0, o, 0) ∈ yI Y) {r : Int32} (hQ : kQ K = MQ (kb K) (QM Y z (some (.int r)) d) (ka K) (ks K) 0 0 (aY Y z)) {k10 : Int32 → Int32 → Int32 → Option (Int32)} (hk10 : ∀ (x2 : Int32) (x3 : Int32) (x4 : Int32) , k10 x2 x3 x4  = some r → V K Y 5 0 0 z d 10 [(0, .ref (yo Y o)), (1, .int p1), (2, .int x2), (3, .int x3), (4, .int x4)] []) (x2 : Int32) (x3 : Int32) (x4 : Int32)  (hf : t_X0_openChoices_44 z.1 d o p1 k10 x2 x3 x4  = some r) : V K Y 5 0 0 z d 44 [(0, .ref (yo Y o)), (1, .int p1), (2, .int x2), (3, .int x3), (4, .int x4)] [] := by
  have hL := hC.2.2.2.2.2.2.1
  unfold t_X0_openChoices_44 at hf
  refine V_iinc (v := x4 + 1) (lv' := [(4, .int (x4 + 1)), (0, .ref (yo Y o)), (1, .int p1), (2, .int x2), (3, .int x3)]) 4 hC dX0_openChoices_44 rfl rfl (by decide) rfl ?_
  refine V_goto (tgt := 10) hC dX0_openChoices_47 (by decide) ?_
  exact V_sub [1, 2, 3, 4, 0] rfl (hk10 x2 x3 (x4 + 1) hf)
def t_X0_openChoices_10 (L : Nat → Nat) (d : Dt) (o : Nat) (p1 : Int32) (k10 : Int32 → Int32 → Int32 → Option (Int32)) (x2 : Int32) (x3 : Int32) (x4 : Int32)  : Option (Int32) := (t_X0_hasChoice L d o x3 x4).bind (fun v2 => if v2 = 0 then some x2 else if 6 ≤ x4 then some x2 else (t_X0_isOpen L d o p1 x4).bind (fun v5 => if v5 = 0 then t_X0_openChoices_44 L d o p1 k10 x2 x3 x4 else bd (x2 ||| ((1 : Int32) <<< (x4 &&& 31))) (fun y7 => t_X0_openChoices_44 L d o p1 k10 y7 x3 x4)))
set_option maxRecDepth 20000 in
theorem b_X0_openChoices_10 {K : Kx} {Y : Yx} {z : Sh} {d : Dt} (hC : CK K Y cX0_openChoices 5 RX0 3 69) (hr : (kme K).sig.returnType = some .int) (hA : kA K = aY Y z) {o : Nat} {p1 : Int32} (ho : (0, o, 0) ∈ yI Y) {r : Int32} (hQ : kQ K = MQ (kb K) (QM Y z (some (.int r)) d) (ka K) (ks K) 0 0 (aY Y z)) {k10 : Int32 → Int32 → Int32 → Option (Int32)} (hk10 : ∀ (x2 : Int32) (x3 : Int32) (x4 : Int32) , k10 x2 x3 x4  = some r → V K Y 5 0 0 z d 10 [(0, .ref (yo Y o)), (1, .int p1), (2, .int x2), (3, .int x3), (4, .int x4)] []) (x2 : Int32) (x3 : Int32) (x4 : Int32)  (hf : t_X0_openChoices_10 z.1 d o p1 k10 x2 x3 x4  = some r) : V K Y 5 0 0 z d 10 [(0, .ref (yo Y o)), (1, .int p1), (2, .int x2), (3, .int x3), (4, .int x4)] [] := by
  have hL := hC.2.2.2.2.2.2.1
  have hkn : 0 ≤ (kR K).cells ∧ 0 ≤ (kR K).slots := ⟨Nat.zero_le _, Nat.zero_le _⟩
  unfold t_X0_openChoices_10 at hf
  refine V_aload_n 0 hC dX0_openChoices_10 rfl rfl ?_
  refine V_iload_n 3 hC dX0_openChoices_11 rfl rfl ?_
  refine V_iload 4 hC dX0_openChoices_12 rfl ?_
  obtain ⟨v2, ev2, hf⟩ := bi_some hf
  refine V_invi (o := o) (As := [.int x3, .int x4]) (rest := []) hC (c_X0_hasChoice hL ho ev2) me_X0_hasChoice lk_X0_62 ho rfl rfl rfl (Nat.le_of_ble_eq_true rfl) ⟨by decide, by decide⟩ hkn dX0_openChoices_14 ?_
  refine V_if_eq (tgt := 50) hC dX0_openChoices_17 (by decide) (fun c3 => ?_) (fun c3 => ?_)
  · have hf := if_t hf c3
    refine V_iload_n 2 hC dX0_openChoices_50 rfl rfl ?_
    obtain rfl := so_inj hf
    exact V_iret hC hr hQ hA dX0_openChoices_51
  · have hf := if_f hf c3
    refine V_iload 4 hC dX0_openChoices_20 rfl ?_
    refine V_bipush (v := 6) hC dX0_openChoices_22 rfl ?_
    refine V_icmp_ge (tgt := 50) hC dX0_openChoices_24 (by decide) (fun c4 => ?_) (fun c4 => ?_)
    · have hf := if_t hf c4
      refine V_iload_n 2 hC dX0_openChoices_50 rfl rfl ?_
      obtain rfl := so_inj hf
      exact V_iret hC hr hQ hA dX0_openChoices_51
    · have hf := if_f hf c4
      refine V_aload_n 0 hC dX0_openChoices_27 rfl rfl ?_
      refine V_iload_n 1 hC dX0_openChoices_28 rfl rfl ?_
      refine V_iload 4 hC dX0_openChoices_29 rfl ?_
      obtain ⟨v5, ev5, hf⟩ := bi_some hf
      refine V_invi (o := o) (As := [.int p1, .int x4]) (rest := []) hC (c_X0_isOpen hL ho ev5) me_X0_isOpen lk_X0_78 ho rfl rfl rfl (Nat.le_of_ble_eq_true rfl) ⟨by decide, by decide⟩ hkn dX0_openChoices_31 ?_
      refine V_if_eq (tgt := 44) hC dX0_openChoices_34 (by decide) (fun c6 => ?_) (fun c6 => ?_)
      · have hf := if_t hf c6
        exact b_X0_openChoices_44 hC hr hA ho hQ hk10 x2 x3 x4 hf
      · have hf := if_f hf c6
        refine V_iload_n 2 hC dX0_openChoices_37 rfl rfl ?_
        refine V_iconst (v := 1) hC dX0_openChoices_38 rfl ?_
        refine V_iload 4 hC dX0_openChoices_39 rfl ?_
        refine V_ishl hC dX0_openChoices_41 ?_
        refine V_ior hC dX0_openChoices_42 ?_
        refine V_topi (fun y7 ey7 => ?_)
        have hf := bd_e hf y7 ey7
        refine V_istore_n (lv' := [(2, .int y7), (0, .ref (yo Y o)), (1, .int p1), (3, .int x3), (4, .int x4)]) hC dX0_openChoices_43 rfl (by decide) rfl ?_
        exact V_sub [1, 2, 0, 3, 4] rfl (b_X0_openChoices_44 hC hr hA ho hQ hk10 y7 x3 x4 hf)
def t_X0_openChoices (L : Nat → Nat) (d : Dt) (o : Nat) (p1 : Int32) : Option (Int32) := (t_X3_partOf L d p1).bind (fun v1 => lp (fun k x => t_X0_openChoices_10 L d o p1  (fun x2 x3 x4 => k (x2, x3, x4)) x.1 x.2.1 x.2.2) FU (0, v1, 0))
set_option maxRecDepth 20000 in
theorem c_X0_openChoices {l : Launch} {Y : Yx} (hL : LAY Y) {z : Sh} {d : Dt} {o : Nat} {p1 : Int32} (ho : (0, o, 0) ∈ yI Y) {r : Int32} (hf : t_X0_openChoices z.1 d o p1 = some r) : MM l yX0_openChoices cX0_openChoices 5 (some .int) 3 69 Y z [.ref (yo Y o), .int p1] d (some (.int r)) d := by
  refine MM.ofV (by decide +kernel) hL (Nat.le_of_ble_eq_true rfl) (fun K hl hC hr hQ hA => ?_)
  have hC : CK K Y cX0_openChoices 5 RX0 3 69 := hC
  have hkn : 0 ≤ (kR K).cells ∧ 0 ≤ (kR K).slots := ⟨Nat.zero_le _, Nat.zero_le _⟩
  unfold t_X0_openChoices at hf
  show V K Y 5 0 0 z d 0 [(0, .ref (yo Y o)), (1, .int p1)] []
  refine V_iconst (v := 0) hC dX0_openChoices_0 rfl ?_
  refine V_istore_n (lv' := [(2, .int 0), (0, .ref (yo Y o)), (1, .int p1)]) hC dX0_openChoices_1 rfl (by decide) rfl ?_
  refine V_iload_n 2 hC dX0_openChoices_2 rfl rfl ?_
  obtain ⟨v1, ev1, hf⟩ := bi_some hf
  refine V_insi (As := [.int p1]) (rest := []) hC (c_X3_partOf hL  ev1) me_X3_partOf lk_X0_66 rfl rfl (Nat.le_of_ble_eq_true rfl) ⟨by decide, by decide⟩ hkn dX0_openChoices_3 ?_
  refine V_istore_n (lv' := [(3, .int v1), (2, .int 0), (0, .ref (yo Y o)), (1, .int p1)]) hC dX0_openChoices_6 rfl (by decide) rfl ?_
  refine V_iconst (v := 0) hC dX0_openChoices_7 rfl ?_
  refine V_istore (lv' := [(4, .int 0), (3, .int v1), (2, .int 0), (0, .ref (yo Y o)), (1, .int p1)]) hC dX0_openChoices_8 (by decide) rfl ?_
  exact V_sub [3, 4, 2, 1, 0] rfl (lp_ind (X := Int32 × Int32 × Int32) (P := fun x => V K Y 5 0 0 z d 10 [(0, .ref (yo Y o)), (1, .int p1), (2, .int x.1), (3, .int x.2.1), (4, .int x.2.2)] []) (fun k x hk hx => b_X0_openChoices_10 hC hr hA ho hQ  (k10 := fun x2 x3 x4 => k (x2, x3, x4)) (fun x2 x3 x4 hx => hk (x2, x3, x4) hx) x.1 x.2.1 x.2.2 hx) FU (0, v1, 0) hf)
def t_X0_rollTarget (L : Nat → Nat) (d : Dt) (o : Nat) (p1 : Int32) (p2 : Int32) : Option (Int32) := (t_X0_isRoll L d o p1).bind (fun v1 => if v1 = 0 then some (-1) else gd (inb p1 (L (32 * o + 3))) (if p2 < (gA d (32 * o + 3) (ix p1)) then gd (inb p1 (L (32 * o + 5))) (some (gA d (32 * o + 5) (ix p1))) else gd (inb p1 (L (32 * o + 4))) (some (gA d (32 * o + 4) (ix p1)))))
set_option maxRecDepth 20000 in
theorem c_X0_rollTarget {l : Launch} {Y : Yx} (hL : LAY Y) {z : Sh} {d : Dt} {o : Nat} {p1 : Int32} {p2 : Int32} (ho : (0, o, 0) ∈ yI Y) {r : Int32} (hf : t_X0_rollTarget z.1 d o p1 p2 = some r) : MM l yX0_rollTarget cX0_rollTarget 3 (some .int) 2 42 Y z [.ref (yo Y o), .int p1, .int p2] d (some (.int r)) d := by
  refine MM.ofV (by decide +kernel) hL (Nat.le_of_ble_eq_true rfl) (fun K hl hC hr hQ hA => ?_)
  have hC : CK K Y cX0_rollTarget 3 RX0 2 42 := hC
  have hkn : 0 ≤ (kR K).cells ∧ 0 ≤ (kR K).slots := ⟨Nat.zero_le _, Nat.zero_le _⟩
  unfold t_X0_rollTarget at hf
  show V K Y 3 0 0 z d 0 [(0, .ref (yo Y o)), (1, .int p1), (2, .int p2)] []
  refine V_aload_n 0 hC dX0_rollTarget_0 rfl rfl ?_
  refine V_iload_n 1 hC dX0_rollTarget_1 rfl rfl ?_
  obtain ⟨v1, ev1, hf⟩ := bi_some hf
  refine V_invi (o := o) (As := [.int p1]) (rest := []) hC (c_X0_isRoll hL ho ev1) me_X0_isRoll lk_X0_81 ho rfl rfl rfl (Nat.le_of_ble_eq_true rfl) ⟨by decide, by decide⟩ hkn dX0_rollTarget_2 ?_
  refine V_if_ne (tgt := 10) hC dX0_rollTarget_5 (by decide) (fun c2 => ?_) (fun c2 => ?_)
  · have hf := if_f hf c2
    refine V_iload_n 2 hC dX0_rollTarget_10 rfl rfl ?_
    refine V_aload_n 0 hC dX0_rollTarget_11 rfl rfl ?_
    refine V_geta (o := o) hC ho rfl fk_X0_22 dX0_rollTarget_12 ?_
    refine V_iload_n 1 hC dX0_rollTarget_15 rfl rfl ?_
    obtain ⟨g3, hf⟩ := gd_some hf
    refine V_iald (a := (32 * o + 3)) hC (hL.row ho rfl) g3 dX0_rollTarget_16 ?_
    refine V_icmp_lt (tgt := 29) hC dX0_rollTarget_17 (by decide) (fun c4 => ?_) (fun c4 => ?_)
    · have hf := if_t hf c4
      refine V_aload_n 0 hC dX0_rollTarget_29 rfl rfl ?_
      refine V_geta (o := o) hC ho rfl fk_X0_28 dX0_rollTarget_30 ?_
      refine V_iload_n 1 hC dX0_rollTarget_33 rfl rfl ?_
      obtain ⟨g5, hf⟩ := gd_some hf
      refine V_iald (a := (32 * o + 5)) hC (hL.row ho rfl) g5 dX0_rollTarget_34 ?_
      obtain rfl := so_inj hf
      exact V_iret hC hr hQ hA dX0_rollTarget_35
    · have hf := if_f hf c4
      refine V_aload_n 0 hC dX0_rollTarget_20 rfl rfl ?_
      refine V_geta (o := o) hC ho rfl fk_X0_25 dX0_rollTarget_21 ?_
      refine V_iload_n 1 hC dX0_rollTarget_24 rfl rfl ?_
      obtain ⟨g6, hf⟩ := gd_some hf
      refine V_iald (a := (32 * o + 4)) hC (hL.row ho rfl) g6 dX0_rollTarget_25 ?_
      refine V_goto (tgt := 35) hC dX0_rollTarget_26 (by decide) ?_
      obtain rfl := so_inj hf
      exact V_iret hC hr hQ hA dX0_rollTarget_35
  · have hf := if_t hf c2
    refine V_iconst (v := -1) hC dX0_rollTarget_8 rfl ?_
    obtain rfl := so_inj hf
    exact V_iret hC hr hQ hA dX0_rollTarget_9
def t_X0_waysFrom (L : Nat → Nat) (d : Dt) (o : Nat) (p1 : Int32) : Option (Int32) := (t_X0_hasPart L d o p1).bind (fun v1 => if v1 = 0 then some 0 else gd (inb p1 (L (32 * o + 2))) (if (gA d (32 * o + 2) (ix p1)) = 3 then some 2 else gd (inb p1 (L (32 * o + 9))) (some (if (gA d (32 * o + 9) (ix p1)) < 6 then (gA d (32 * o + 9) (ix p1)) else 6))))
set_option maxRecDepth 20000 in
theorem c_X0_waysFrom {l : Launch} {Y : Yx} (hL : LAY Y) {z : Sh} {d : Dt} {o : Nat} {p1 : Int32} (ho : (0, o, 0) ∈ yI Y) {r : Int32} (hf : t_X0_waysFrom z.1 d o p1 = some r) : MM l yX0_waysFrom cX0_waysFrom 2 (some .int) 1 21 Y z [.ref (yo Y o), .int p1] d (some (.int r)) d := by
  refine MM.ofV (by decide +kernel) hL (Nat.le_of_ble_eq_true rfl) (fun K hl hC hr hQ hA => ?_)
  have hC : CK K Y cX0_waysFrom 2 RX0 1 21 := hC
  have hkn : 0 ≤ (kR K).cells ∧ 0 ≤ (kR K).slots := ⟨Nat.zero_le _, Nat.zero_le _⟩
  unfold t_X0_waysFrom at hf
  show V K Y 2 0 0 z d 0 [(0, .ref (yo Y o)), (1, .int p1)] []
  refine V_aload_n 0 hC dX0_waysFrom_0 rfl rfl ?_
  refine V_iload_n 1 hC dX0_waysFrom_1 rfl rfl ?_
  obtain ⟨v1, ev1, hf⟩ := bi_some hf
  refine V_invi (o := o) (As := [.int p1]) (rest := []) hC (c_X0_hasPart hL ho ev1) me_X0_hasPart lk_X0_58 ho rfl rfl rfl (Nat.le_of_ble_eq_true rfl) ⟨by decide, by decide⟩ hkn dX0_waysFrom_2 ?_
  refine V_if_ne (tgt := 10) hC dX0_waysFrom_5 (by decide) (fun c2 => ?_) (fun c2 => ?_)
  · have hf := if_f hf c2
    refine V_aload_n 0 hC dX0_waysFrom_10 rfl rfl ?_
    refine V_geta (o := o) hC ho rfl fk_X0_18 dX0_waysFrom_11 ?_
    refine V_iload_n 1 hC dX0_waysFrom_14 rfl rfl ?_
    obtain ⟨g3, hf⟩ := gd_some hf
    refine V_iald (a := (32 * o + 2)) hC (hL.row ho rfl) g3 dX0_waysFrom_15 ?_
    refine V_iconst (v := 3) hC dX0_waysFrom_16 rfl ?_
    refine V_icmp_ne (tgt := 24) hC dX0_waysFrom_17 (by decide) (fun c4 => ?_) (fun c4 => ?_)
    · have hf := if_f hf c4
      refine V_bipush (v := 6) hC dX0_waysFrom_24 rfl ?_
      refine V_aload_n 0 hC dX0_waysFrom_26 rfl rfl ?_
      refine V_geta (o := o) hC ho rfl fk_X0_40 dX0_waysFrom_27 ?_
      refine V_iload_n 1 hC dX0_waysFrom_30 rfl rfl ?_
      obtain ⟨g5, hf⟩ := gd_some hf
      refine V_iald (a := (32 * o + 9)) hC (hL.row ho rfl) g5 dX0_waysFrom_31 ?_
      refine V_mmin hC mm_X0_84 (by decide) (Nat.le_of_ble_eq_true rfl) hkn dX0_waysFrom_32 ?_
      obtain rfl := so_inj hf
      exact V_iret hC hr hQ hA dX0_waysFrom_35
    · have hf := if_t hf c4
      refine V_iconst (v := 2) hC dX0_waysFrom_20 rfl ?_
      refine V_goto (tgt := 35) hC dX0_waysFrom_21 (by decide) ?_
      obtain rfl := so_inj hf
      exact V_iret hC hr hQ hA dX0_waysFrom_35
  · have hf := if_t hf c2
    refine V_iconst (v := 0) hC dX0_waysFrom_8 rfl ?_
    obtain rfl := so_inj hf
    exact V_iret hC hr hQ hA dX0_waysFrom_9
def t_X0_wayOut (L : Nat → Nat) (d : Dt) (o : Nat) (p1 : Int32) (p2 : Int32) : Option (Int32) := (t_X3_partOf L d p1).bind (fun v1 => (t_X0_isOpen L d o p1 p2).bind (fun v2 => if v2 = 0 then (t_X3_isOver L d p1).bind (fun v4 => if v4 = 0 then (t_X0_isRoll L d o v1).bind (fun v6 => if v6 = 0 then some (-1) else if p2 < 0 then some (-1) else if p2 ≤ 1 then if p2 = 0 then gd (inb v1 (L (32 * o + 4))) (some (gA d (32 * o + 4) (ix v1))) else gd (inb v1 (L (32 * o + 5))) (some (gA d (32 * o + 5) (ix v1))) else some (-1)) else some (-1)) else gd (inb ((v1 * 6) + p2) (L (32 * o + 10))) (some (gA d (32 * o + 10) (ix ((v1 * 6) + p2))))))
set_option maxRecDepth 20000 in
theorem c_X0_wayOut {l : Launch} {Y : Yx} (hL : LAY Y) {z : Sh} {d : Dt} {o : Nat} {p1 : Int32} {p2 : Int32} (ho : (0, o, 0) ∈ yI Y) {r : Int32} (hf : t_X0_wayOut z.1 d o p1 p2 = some r) : MM l yX0_wayOut cX0_wayOut 4 (some .int) 3 69 Y z [.ref (yo Y o), .int p1, .int p2] d (some (.int r)) d := by
  refine MM.ofV (by decide +kernel) hL (Nat.le_of_ble_eq_true rfl) (fun K hl hC hr hQ hA => ?_)
  have hC : CK K Y cX0_wayOut 4 RX0 3 69 := hC
  have hkn : 0 ≤ (kR K).cells ∧ 0 ≤ (kR K).slots := ⟨Nat.zero_le _, Nat.zero_le _⟩
  unfold t_X0_wayOut at hf
  show V K Y 4 0 0 z d 0 [(0, .ref (yo Y o)), (1, .int p1), (2, .int p2)] []
  refine V_iload_n 1 hC dX0_wayOut_0 rfl rfl ?_
  obtain ⟨v1, ev1, hf⟩ := bi_some hf
  refine V_insi (As := [.int p1]) (rest := []) hC (c_X3_partOf hL  ev1) me_X3_partOf lk_X0_66 rfl rfl (Nat.le_of_ble_eq_true rfl) ⟨by decide, by decide⟩ hkn dX0_wayOut_1 ?_
  refine V_istore_n (lv' := [(3, .int v1), (0, .ref (yo Y o)), (1, .int p1), (2, .int p2)]) hC dX0_wayOut_4 rfl (by decide) rfl ?_
  refine V_aload_n 1 hC dX0_wayOut_5 rfl rfl ?_
  refine V_iload_n 2 hC dX0_wayOut_6 rfl rfl ?_
  refine V_iload_n 3 hC dX0_wayOut_7 rfl rfl ?_
  obtain ⟨v2, ev2, hf⟩ := bi_some hf
  refine V_invi (o := o) (As := [.int p1, .int p2]) (rest := []) hC (c_X0_isOpen hL ho ev2) me_X0_isOpen lk_X0_78 ho rfl rfl rfl (Nat.le_of_ble_eq_true rfl) ⟨by decide, by decide⟩ hkn dX0_wayOut_8 ?_
  refine V_if_eq (tgt := 26) hC dX0_wayOut_11 (by decide) (fun c3 => ?_) (fun c3 => ?_)
  · have hf := if_t hf c3
    refine V_iload_n 2 hC dX0_wayOut_26 rfl rfl ?_
    obtain ⟨v4, ev4, hf⟩ := bi_some hf
    refine V_insi (As := [.int p1]) (rest := []) hC (c_X3_isOver hL  ev4) me_X3_isOver lk_X0_72 rfl rfl (Nat.le_of_ble_eq_true rfl) ⟨by decide, by decide⟩ hkn dX0_wayOut_27 ?_
    refine V_if_ne (tgt := 50) hC dX0_wayOut_30 (by decide) (fun c5 => ?_) (fun c5 => ?_)
    · have hf := if_f hf c5
      refine V_iconst (v := -1) hC dX0_wayOut_50 rfl ?_
      obtain rfl := so_inj hf
      exact V_iret hC hr hQ hA dX0_wayOut_51
    · have hf := if_t hf c5
      refine V_aload_n 1 hC dX0_wayOut_33 rfl rfl ?_
      refine V_iload_n 0 hC dX0_wayOut_34 rfl rfl ?_
      obtain ⟨v6, ev6, hf⟩ := bi_some hf
      refine V_invi (o := o) (As := [.int v1]) (rest := []) hC (c_X0_isRoll hL ho ev6) me_X0_isRoll lk_X0_81 ho rfl rfl rfl (Nat.le_of_ble_eq_true rfl) ⟨by decide, by decide⟩ hkn dX0_wayOut_35 ?_
      refine V_if_eq (tgt := 50) hC dX0_wayOut_38 (by decide) (fun c7 => ?_) (fun c7 => ?_)
      · have hf := if_t hf c7
        refine V_iconst (v := -1) hC dX0_wayOut_50 rfl ?_
        obtain rfl := so_inj hf
        exact V_iret hC hr hQ hA dX0_wayOut_51
      · have hf := if_f hf c7
        refine V_iload_n 3 hC dX0_wayOut_41 rfl rfl ?_
        refine V_if_lt (tgt := 50) hC dX0_wayOut_42 (by decide) (fun c8 => ?_) (fun c8 => ?_)
        · have hf := if_t hf c8
          refine V_iconst (v := -1) hC dX0_wayOut_50 rfl ?_
          obtain rfl := so_inj hf
          exact V_iret hC hr hQ hA dX0_wayOut_51
        · have hf := if_f hf c8
          refine V_iload_n 3 hC dX0_wayOut_45 rfl rfl ?_
          refine V_iconst (v := 1) hC dX0_wayOut_46 rfl ?_
          refine V_icmp_le (tgt := 52) hC dX0_wayOut_47 (by decide) (fun c9 => ?_) (fun c9 => ?_)
          · have hf := if_t hf c9
            refine V_iload_n 3 hC dX0_wayOut_52 rfl rfl ?_
            refine V_if_ne (tgt := 65) hC dX0_wayOut_53 (by decide) (fun c10 => ?_) (fun c10 => ?_)
            · have hf := if_f hf c10
              refine V_aload_n 1 hC dX0_wayOut_65 rfl rfl ?_
              refine V_geta (o := o) hC ho rfl fk_X0_28 dX0_wayOut_66 ?_
              refine V_iload_n 0 hC dX0_wayOut_69 rfl rfl ?_
              obtain ⟨g11, hf⟩ := gd_some hf
              refine V_iald (a := (32 * o + 5)) hC (hL.row ho rfl) g11 dX0_wayOut_70 ?_
              obtain rfl := so_inj hf
              exact V_iret hC hr hQ hA dX0_wayOut_71
            · have hf := if_t hf c10
              refine V_aload_n 1 hC dX0_wayOut_56 rfl rfl ?_
              refine V_geta (o := o) hC ho rfl fk_X0_25 dX0_wayOut_57 ?_
              refine V_iload_n 0 hC dX0_wayOut_60 rfl rfl ?_
              obtain ⟨g12, hf⟩ := gd_some hf
              refine V_iald (a := (32 * o + 4)) hC (hL.row ho rfl) g12 dX0_wayOut_61 ?_
              refine V_goto (tgt := 71) hC dX0_wayOut_62 (by decide) ?_
              obtain rfl := so_inj hf
              exact V_iret hC hr hQ hA dX0_wayOut_71
          · have hf := if_f hf c9
            refine V_iconst (v := -1) hC dX0_wayOut_50 rfl ?_
            obtain rfl := so_inj hf
            exact V_iret hC hr hQ hA dX0_wayOut_51
  · have hf := if_f hf c3
    refine V_aload_n 1 hC dX0_wayOut_14 rfl rfl ?_
    refine V_geta (o := o) hC ho rfl fk_X0_43 dX0_wayOut_15 ?_
    refine V_iload_n 0 hC dX0_wayOut_18 rfl rfl ?_
    refine V_bipush (v := 6) hC dX0_wayOut_19 rfl ?_
    refine V_imul hC dX0_wayOut_21 ?_
    refine V_iload_n 3 hC dX0_wayOut_22 rfl rfl ?_
    refine V_iadd hC dX0_wayOut_23 ?_
    obtain ⟨g13, hf⟩ := gd_some hf
    refine V_iald (a := (32 * o + 10)) hC (hL.row ho rfl) g13 dX0_wayOut_24 ?_
    obtain rfl := so_inj hf
    exact V_iret hC hr hQ hA dX0_wayOut_25
def t_X0_canGo_22 (L : Nat → Nat) (d : Dt) (o : Nat) (p1 : Int32) (p2 : Int32) (k22 : Int32 → Int32 → Option (Int32)) (x3 : Int32) (x4 : Int32)  : Option (Int32) := if x3 ≤ x4 then some 0 else (t_X0_wayOut L d o p1 x4).bind (fun v6 => if v6 = p2 then some 1 else k22 x3 (x4 + 1))
set_option maxRecDepth 20000 in
theorem b_X0_canGo_22 {K : Kx} {Y : Yx} {z : Sh} {d : Dt} (hC : CK K Y cX0_canGo 5 RX0 4 92) (hr : (kme K).sig.returnType = some .boolean) (hA : kA K = aY Y z) {o : Nat} {p1 : Int32} {p2 : Int32} (ho : (0, o, 0) ∈ yI Y) {r : Int32} (hQ : kQ K = MQ (kb K) (QM Y z (some (.int r)) d) (ka K) (ks K) 0 0 (aY Y z)) {k22 : Int32 → Int32 → Option (Int32)} (hk22 : ∀ (x3 : Int32) (x4 : Int32) , k22 x3 x4  = some r → V K Y 5 0 0 z d 22 [(0, .ref (yo Y o)), (1, .int p1), (2, .int p2), (3, .int x3), (4, .int x4)] []) (x3 : Int32) (x4 : Int32)  (hf : t_X0_canGo_22 z.1 d o p1 p2 k22 x3 x4  = some r) : V K Y 5 0 0 z d 22 [(0, .ref (yo Y o)), (1, .int p1), (2, .int p2), (3, .int x3), (4, .int x4)] [] := by
  have hL := hC.2.2.2.2.2.2.1
  have hkn : 0 ≤ (kR K).cells ∧ 0 ≤ (kR K).slots := ⟨Nat.zero_le _, Nat.zero_le _⟩
  unfold t_X0_canGo_22 at hf
  refine V_iload 4 hC dX0_canGo_22 rfl ?_
  refine V_iload_n 3 hC dX0_canGo_24 rfl rfl ?_
  refine V_icmp_ge (tgt := 47) hC dX0_canGo_25 (by decide) (fun c5 => ?_) (fun c5 => ?_)
  · have hf := if_t hf c5
    refine V_iconst (v := 0) hC dX0_canGo_47 rfl ?_
    obtain rfl := so_inj hf
    exact V_zret hC hr rfl hQ hA dX0_canGo_48
  · have hf := if_f hf c5
    refine V_aload_n 0 hC dX0_canGo_28 rfl rfl ?_
    refine V_iload_n 1 hC dX0_canGo_29 rfl rfl ?_
    refine V_iload 4 hC dX0_canGo_30 rfl ?_
    obtain ⟨v6, ev6, hf⟩ := bi_some hf
    refine V_invi (o := o) (As := [.int p1, .int x4]) (rest := []) hC (c_X0_wayOut hL ho ev6) me_X0_wayOut lk_X0_93 ho rfl rfl rfl (Nat.le_of_ble_eq_true rfl) ⟨by decide, by decide⟩ hkn dX0_canGo_32 ?_
    refine V_iload_n 2 hC dX0_canGo_35 rfl rfl ?_
    refine V_icmp_ne (tgt := 41) hC dX0_canGo_36 (by decide) (fun c7 => ?_) (fun c7 => ?_)
    · have hf := if_f hf c7
      refine V_iinc (v := x4 + 1) (lv' := [(4, .int (x4 + 1)), (0, .ref (yo Y o)), (1, .int p1), (2, .int p2), (3, .int x3)]) 4 hC dX0_canGo_41 rfl rfl (by decide) rfl ?_
      refine V_goto (tgt := 22) hC dX0_canGo_44 (by decide) ?_
      exact V_sub [1, 2, 3, 4, 0] rfl (hk22 x3 (x4 + 1) hf)
    · have hf := if_t hf c7
      refine V_iconst (v := 1) hC dX0_canGo_39 rfl ?_
      obtain rfl := so_inj hf
      exact V_zret hC hr rfl hQ hA dX0_canGo_40
def t_X0_canGo (L : Nat → Nat) (d : Dt) (o : Nat) (p1 : Int32) (p2 : Int32) : Option (Int32) := (t_X0_hasPart L d o p2).bind (fun v1 => if v1 = 0 then some 0 else (t_X3_partOf L d p1).bind (fun v3 => (t_X0_waysFrom L d o v3).bind (fun v4 => lp (fun k x => t_X0_canGo_22 L d o p1 p2  (fun x3 x4 => k (x3, x4)) x.1 x.2) FU (v4, 0))))
set_option maxRecDepth 20000 in
theorem c_X0_canGo {l : Launch} {Y : Yx} (hL : LAY Y) {z : Sh} {d : Dt} {o : Nat} {p1 : Int32} {p2 : Int32} (ho : (0, o, 0) ∈ yI Y) {r : Int32} (hf : t_X0_canGo z.1 d o p1 p2 = some r) : MM l yX0_canGo cX0_canGo 5 (some .boolean) 4 92 Y z [.ref (yo Y o), .int p1, .int p2] d (some (.int r)) d := by
  refine MM.ofV (by decide +kernel) hL (Nat.le_of_ble_eq_true rfl) (fun K hl hC hr hQ hA => ?_)
  have hC : CK K Y cX0_canGo 5 RX0 4 92 := hC
  have hkn : 0 ≤ (kR K).cells ∧ 0 ≤ (kR K).slots := ⟨Nat.zero_le _, Nat.zero_le _⟩
  unfold t_X0_canGo at hf
  show V K Y 5 0 0 z d 0 [(0, .ref (yo Y o)), (1, .int p1), (2, .int p2)] []
  refine V_aload_n 0 hC dX0_canGo_0 rfl rfl ?_
  refine V_iload_n 2 hC dX0_canGo_1 rfl rfl ?_
  obtain ⟨v1, ev1, hf⟩ := bi_some hf
  refine V_invi (o := o) (As := [.int p2]) (rest := []) hC (c_X0_hasPart hL ho ev1) me_X0_hasPart lk_X0_58 ho rfl rfl rfl (Nat.le_of_ble_eq_true rfl) ⟨by decide, by decide⟩ hkn dX0_canGo_2 ?_
  refine V_if_ne (tgt := 10) hC dX0_canGo_5 (by decide) (fun c2 => ?_) (fun c2 => ?_)
  · have hf := if_f hf c2
    refine V_aload_n 0 hC dX0_canGo_10 rfl rfl ?_
    refine V_iload_n 1 hC dX0_canGo_11 rfl rfl ?_
    obtain ⟨v3, ev3, hf⟩ := bi_some hf
    refine V_insi (As := [.int p1]) (rest := [.ref (yo Y o)]) hC (c_X3_partOf hL  ev3) me_X3_partOf lk_X0_66 rfl rfl (Nat.le_of_ble_eq_true rfl) ⟨by decide, by decide⟩ hkn dX0_canGo_12 ?_
    obtain ⟨v4, ev4, hf⟩ := bi_some hf
    refine V_invi (o := o) (As := [.int v3]) (rest := []) hC (c_X0_waysFrom hL ho ev4) me_X0_waysFrom lk_X0_90 ho rfl rfl rfl (Nat.le_of_ble_eq_true rfl) ⟨by decide, by decide⟩ hkn dX0_canGo_15 ?_
    refine V_istore_n (lv' := [(3, .int v4), (0, .ref (yo Y o)), (1, .int p1), (2, .int p2)]) hC dX0_canGo_18 rfl (by decide) rfl ?_
    refine V_iconst (v := 0) hC dX0_canGo_19 rfl ?_
    refine V_istore (lv' := [(4, .int 0), (3, .int v4), (0, .ref (yo Y o)), (1, .int p1), (2, .int p2)]) hC dX0_canGo_20 (by decide) rfl ?_
    exact V_sub [2, 3, 4, 1, 0] rfl (lp_ind (X := Int32 × Int32) (P := fun x => V K Y 5 0 0 z d 22 [(0, .ref (yo Y o)), (1, .int p1), (2, .int p2), (3, .int x.1), (4, .int x.2)] []) (fun k x hk hx => b_X0_canGo_22 hC hr hA ho hQ  (k22 := fun x3 x4 => k (x3, x4)) (fun x3 x4 hx => hk (x3, x4) hx) x.1 x.2 hx) FU (v4, 0) hf)
  · have hf := if_t hf c2
    refine V_iconst (v := 0) hC dX0_canGo_8 rfl ?_
    obtain rfl := so_inj hf
    exact V_zret hC hr rfl hQ hA dX0_canGo_9
def t_X0_standing (L : Nat → Nat) (d : Dt) (o : Nat) (p1 : Int32) : Option (Int32) := (t_X3_isOver L d p1).bind (fun v1 => if v1 = 0 then (t_X3_partOf L d p1).bind (fun v3 => (t_X0_isRoll L d o v3).bind (fun v4 => if v4 = 0 then (t_X0_openChoices L d o p1).bind (fun v6 => if v6 = 0 then some 3 else some 0) else some 0)) else (t_X3_fateOf L d p1).bind (fun v8 => some v8))
set_option maxRecDepth 20000 in
theorem c_X0_standing {l : Launch} {Y : Yx} (hL : LAY Y) {z : Sh} {d : Dt} {o : Nat} {p1 : Int32} (ho : (0, o, 0) ∈ yI Y) {r : Int32} (hf : t_X0_standing z.1 d o p1 = some r) : MM l yX0_standing cX0_standing 2 (some .int) 4 93 Y z [.ref (yo Y o), .int p1] d (some (.int r)) d := by
  refine MM.ofV (by decide +kernel) hL (Nat.le_of_ble_eq_true rfl) (fun K hl hC hr hQ hA => ?_)
  have hC : CK K Y cX0_standing 2 RX0 4 93 := hC
  have hkn : 0 ≤ (kR K).cells ∧ 0 ≤ (kR K).slots := ⟨Nat.zero_le _, Nat.zero_le _⟩
  unfold t_X0_standing at hf
  show V K Y 2 0 0 z d 0 [(0, .ref (yo Y o)), (1, .int p1)] []
  refine V_iload_n 1 hC dX0_standing_0 rfl rfl ?_
  obtain ⟨v1, ev1, hf⟩ := bi_some hf
  refine V_insi (As := [.int p1]) (rest := []) hC (c_X3_isOver hL  ev1) me_X3_isOver lk_X0_72 rfl rfl (Nat.le_of_ble_eq_true rfl) ⟨by decide, by decide⟩ hkn dX0_standing_1 ?_
  refine V_if_eq (tgt := 12) hC dX0_standing_4 (by decide) (fun c2 => ?_) (fun c2 => ?_)
  · have hf := if_t hf c2
    refine V_aload_n 0 hC dX0_standing_12 rfl rfl ?_
    refine V_iload_n 1 hC dX0_standing_13 rfl rfl ?_
    obtain ⟨v3, ev3, hf⟩ := bi_some hf
    refine V_insi (As := [.int p1]) (rest := [.ref (yo Y o)]) hC (c_X3_partOf hL  ev3) me_X3_partOf lk_X0_66 rfl rfl (Nat.le_of_ble_eq_true rfl) ⟨by decide, by decide⟩ hkn dX0_standing_14 ?_
    obtain ⟨v4, ev4, hf⟩ := bi_some hf
    refine V_invi (o := o) (As := [.int v3]) (rest := []) hC (c_X0_isRoll hL ho ev4) me_X0_isRoll lk_X0_81 ho rfl rfl rfl (Nat.le_of_ble_eq_true rfl) ⟨by decide, by decide⟩ hkn dX0_standing_17 ?_
    refine V_if_ne (tgt := 31) hC dX0_standing_20 (by decide) (fun c5 => ?_) (fun c5 => ?_)
    · have hf := if_f hf c5
      refine V_iconst (v := 0) hC dX0_standing_31 rfl ?_
      refine V_goto (tgt := 36) hC dX0_standing_32 (by decide) ?_
      obtain rfl := so_inj hf
      exact V_iret hC hr hQ hA dX0_standing_36
    · have hf := if_t hf c5
      refine V_aload_n 0 hC dX0_standing_23 rfl rfl ?_
      refine V_iload_n 1 hC dX0_standing_24 rfl rfl ?_
      obtain ⟨v6, ev6, hf⟩ := bi_some hf
      refine V_invi (o := o) (As := [.int p1]) (rest := []) hC (c_X0_openChoices hL ho ev6) me_X0_openChoices lk_X0_99 ho rfl rfl rfl (Nat.le_of_ble_eq_true rfl) ⟨by decide, by decide⟩ hkn dX0_standing_25 ?_
      refine V_if_eq (tgt := 35) hC dX0_standing_28 (by decide) (fun c7 => ?_) (fun c7 => ?_)
      · have hf := if_t hf c7
        refine V_iconst (v := 3) hC dX0_standing_35 rfl ?_
        obtain rfl := so_inj hf
        exact V_iret hC hr hQ hA dX0_standing_36
      · have hf := if_f hf c7
        refine V_iconst (v := 0) hC dX0_standing_31 rfl ?_
        refine V_goto (tgt := 36) hC dX0_standing_32 (by decide) ?_
        obtain rfl := so_inj hf
        exact V_iret hC hr hQ hA dX0_standing_36
  · have hf := if_f hf c2
    refine V_iload_n 1 hC dX0_standing_7 rfl rfl ?_
    obtain ⟨v8, ev8, hf⟩ := bi_some hf
    refine V_insi (As := [.int p1]) (rest := []) hC (c_X3_fateOf hL  ev8) me_X3_fateOf lk_X0_96 rfl rfl (Nat.le_of_ble_eq_true rfl) ⟨by decide, by decide⟩ hkn dX0_standing_8 ?_
    obtain rfl := so_inj hf
    exact V_iret hC hr hQ hA dX0_standing_11
def t_X0_arrive_200 (L : Nat → Nat) (d : Dt) (o : Nat) (p1 : Int32) (p2 : Int32) (p3 : Int32) (p4 : Int32)  (x5 : Int32) (x6 : Int32) (s0 : Int32)  : Option (Int32) := (t_X3_pack L d p1 x5 x6 s0).bind (fun v24 => some v24)
set_option maxRecDepth 20000 in
theorem b_X0_arrive_200 {K : Kx} {Y : Yx} {z : Sh} {d : Dt} (hC : CK K Y cX0_arrive 9 RX0 1 23) (hr : (kme K).sig.returnType = some .int) (hA : kA K = aY Y z) {o : Nat} {p1 : Int32} {p2 : Int32} {p3 : Int32} {p4 : Int32} (ho : (0, o, 0) ∈ yI Y) {r : Int32} (hQ : kQ K = MQ (kb K) (QM Y z (some (.int r)) d) (ka K) (ks K) 0 0 (aY Y z))   (x5 : Int32) (x6 : Int32) (s0 : Int32)  (hf : t_X0_arrive_200 z.1 d o p1 p2 p3 p4  x5 x6 s0  = some r) : V K Y 9 0 0 z d 200 [(1, .int p1), (5, .int x5), (6, .int x6)] [.int s0] := by
  have hL := hC.2.2.2.2.2.2.1
  have hkn : 0 ≤ (kR K).cells ∧ 0 ≤ (kR K).slots := ⟨Nat.zero_le _, Nat.zero_le _⟩
  unfold t_X0_arrive_200 at hf
  refine V_istore (lv' := [(7, .int s0), (1, .int p1), (5, .int x5), (6, .int x6)]) hC dX0_arrive_200 (by decide) rfl ?_
  refine V_iload_n 1 hC dX0_arrive_202 rfl rfl ?_
  refine V_iload 2 hC dX0_arrive_203 rfl ?_
  refine V_iload 3 hC dX0_arrive_205 rfl ?_
  refine V_iload 0 hC dX0_arrive_207 rfl ?_
  obtain ⟨v24, ev24, hf⟩ := bi_some hf
  refine V_insi (As := [.int p1, .int x5, .int x6, .int s0]) (rest := []) hC (c_X3_pack hL  ev24) me_X3_pack lk_X0_109 rfl rfl (Nat.le_of_ble_eq_true rfl) ⟨by decide, by decide⟩ hkn dX0_arrive_209 ?_
  obtain rfl := so_inj hf
  exact V_iret hC hr hQ hA dX0_arrive_212
def t_X0_arrive_171 (L : Nat → Nat) (d : Dt) (o : Nat) (p1 : Int32) (p2 : Int32) (p3 : Int32) (p4 : Int32)  (x5 : Int32) (x6 : Int32)  : Option (Int32) := gd (inb p1 (L (32 * o + 2))) (if (gA d (32 * o + 2) (ix p1)) = 1 then t_X0_arrive_200 L d o p1 p2 p3 p4  x5 x6 1 else gd (inb p1 (L (32 * o + 2))) (if (gA d (32 * o + 2) (ix p1)) = 2 then t_X0_arrive_200 L d o p1 p2 p3 p4  x5 x6 2 else t_X0_arrive_200 L d o p1 p2 p3 p4  x5 x6 0))
set_option maxRecDepth 20000 in
theorem b_X0_arrive_171 {K : Kx} {Y : Yx} {z : Sh} {d : Dt} (hC : CK K Y cX0_arrive 9 RX0 1 23) (hr : (kme K).sig.returnType = some .int) (hA : kA K = aY Y z) {o : Nat} {p1 : Int32} {p2 : Int32} {p3 : Int32} {p4 : Int32} (ho : (0, o, 0) ∈ yI Y) {r : Int32} (hQ : kQ K = MQ (kb K) (QM Y z (some (.int r)) d) (ka K) (ks K) 0 0 (aY Y z))   (x5 : Int32) (x6 : Int32)  (hf : t_X0_arrive_171 z.1 d o p1 p2 p3 p4  x5 x6  = some r) : V K Y 9 0 0 z d 171 [(0, .ref (yo Y o)), (1, .int p1), (5, .int x5), (6, .int x6)] [] := by
  have hL := hC.2.2.2.2.2.2.1
  unfold t_X0_arrive_171 at hf
  refine V_aload_n 0 hC dX0_arrive_171 rfl rfl ?_
  refine V_geta (o := o) hC ho rfl fk_X0_18 dX0_arrive_172 ?_
  refine V_iload_n 1 hC dX0_arrive_175 rfl rfl ?_
  obtain ⟨g17, hf⟩ := gd_some hf
  refine V_iald (a := (32 * o + 2)) hC (hL.row ho rfl) g17 dX0_arrive_176 ?_
  refine V_iconst (v := 1) hC dX0_arrive_177 rfl ?_
  refine V_icmp_ne (tgt := 185) hC dX0_arrive_178 (by decide) (fun c18 => ?_) (fun c18 => ?_)
  · have hf := if_f hf c18
    refine V_aload_n 0 hC dX0_arrive_185 rfl rfl ?_
    refine V_geta (o := o) hC ho rfl fk_X0_18 dX0_arrive_186 ?_
    refine V_iload_n 1 hC dX0_arrive_189 rfl rfl ?_
    obtain ⟨g19, hf⟩ := gd_some hf
    refine V_iald (a := (32 * o + 2)) hC (hL.row ho rfl) g19 dX0_arrive_190 ?_
    refine V_iconst (v := 2) hC dX0_arrive_191 rfl ?_
    refine V_icmp_ne (tgt := 199) hC dX0_arrive_192 (by decide) (fun c20 => ?_) (fun c20 => ?_)
    · have hf := if_f hf c20
      refine V_iconst (v := 0) hC dX0_arrive_199 rfl ?_
      exact V_sub [1, 2, 3] rfl (b_X0_arrive_200 hC hr hA ho hQ  x5 x6 0 hf)
    · have hf := if_t hf c20
      refine V_iconst (v := 2) hC dX0_arrive_195 rfl ?_
      refine V_goto (tgt := 200) hC dX0_arrive_196 (by decide) ?_
      exact V_sub [1, 2, 3] rfl (b_X0_arrive_200 hC hr hA ho hQ  x5 x6 2 hf)
  · have hf := if_t hf c18
    refine V_iconst (v := 1) hC dX0_arrive_181 rfl ?_
    refine V_goto (tgt := 200) hC dX0_arrive_182 (by decide) ?_
    exact V_sub [1, 2, 3] rfl (b_X0_arrive_200 hC hr hA ho hQ  x5 x6 1 hf)
def t_X0_arrive_151 (L : Nat → Nat) (d : Dt) (o : Nat) (p1 : Int32) (p2 : Int32) (p3 : Int32) (p4 : Int32) (k25 : Int32 → Int32 → Int32 → Option (Int32)) (x5 : Int32) (x6 : Int32) (x7 : Int32)  : Option (Int32) := if 0 < x6 then k25 x5 x6 (x7 + 1) else (t_X3_pack L d p1 x5 0 2).bind (fun v23 => some v23)
set_option maxRecDepth 20000 in
theorem b_X0_arrive_151 {K : Kx} {Y : Yx} {z : Sh} {d : Dt} (hC : CK K Y cX0_arrive 9 RX0 1 23) (hr : (kme K).sig.returnType = some .int) (hA : kA K = aY Y z) {o : Nat} {p1 : Int32} {p2 : Int32} {p3 : Int32} {p4 : Int32} (ho : (0, o, 0) ∈ yI Y) {r : Int32} (hQ : kQ K = MQ (kb K) (QM Y z (some (.int r)) d) (ka K) (ks K) 0 0 (aY Y z)) {k25 : Int32 → Int32 → Int32 → Option (Int32)} (hk25 : ∀ (x5 : Int32) (x6 : Int32) (x7 : Int32) , k25 x5 x6 x7  = some r → V K Y 9 0 0 z d 25 [(0, .ref (yo Y o)), (1, .int p1), (4, .int p4), (5, .int x5), (6, .int x6), (7, .int x7)] []) (x5 : Int32) (x6 : Int32) (x7 : Int32)  (hf : t_X0_arrive_151 z.1 d o p1 p2 p3 p4 k25 x5 x6 x7  = some r) : V K Y 9 0 0 z d 151 [(0, .ref (yo Y o)), (1, .int p1), (4, .int p4), (5, .int x5), (6, .int x6), (7, .int x7)] [] := by
  have hL := hC.2.2.2.2.2.2.1
  have hkn : 0 ≤ (kR K).cells ∧ 0 ≤ (kR K).slots := ⟨Nat.zero_le _, Nat.zero_le _⟩
  unfold t_X0_arrive_151 at hf
  refine V_iload 4 hC dX0_arrive_151 rfl ?_
  refine V_if_gt (tgt := 165) hC dX0_arrive_153 (by decide) (fun c22 => ?_) (fun c22 => ?_)
  · have hf := if_t hf c22
    refine V_iinc (v := x7 + 1) (lv' := [(7, .int (x7 + 1)), (0, .ref (yo Y o)), (1, .int p1), (4, .int p4), (5, .int x5), (6, .int x6)]) 5 hC dX0_arrive_165 rfl rfl (by decide) rfl ?_
    refine V_goto (tgt := 25) hC dX0_arrive_168 (by decide) ?_
    exact V_sub [1, 2, 3, 4, 5, 0] rfl (hk25 x5 x6 (x7 + 1) hf)
  · have hf := if_f hf c22
    refine V_iload_n 1 hC dX0_arrive_156 rfl rfl ?_
    refine V_iload 3 hC dX0_arrive_157 rfl ?_
    refine V_iconst (v := 0) hC dX0_arrive_159 rfl ?_
    refine V_iconst (v := 2) hC dX0_arrive_160 rfl ?_
    obtain ⟨v23, ev23, hf⟩ := bi_some hf
    refine V_insi (As := [.int p1, .int x5, .int 0, .int 2]) (rest := []) hC (c_X3_pack hL  ev23) me_X3_pack lk_X0_109 rfl rfl (Nat.le_of_ble_eq_true rfl) ⟨by decide, by decide⟩ hkn dX0_arrive_161 ?_
    obtain rfl := so_inj hf
    exact V_iret hC hr hQ hA dX0_arrive_164
def t_X0_arrive_109 (L : Nat → Nat) (d : Dt) (o : Nat) (p1 : Int32) (p2 : Int32) (p3 : Int32) (p4 : Int32) (k25 : Int32 → Int32 → Int32 → Option (Int32)) (x6 : Int32) (x7 : Int32) (s0 : Int32) (s1 : Int32)  : Option (Int32) := bd (s1 ||| s0) (fun y21 => t_X0_arrive_151 L d o p1 p2 p3 p4 k25 y21 x6 x7)
set_option maxRecDepth 20000 in
theorem b_X0_arrive_109 {K : Kx} {Y : Yx} {z : Sh} {d : Dt} (hC : CK K Y cX0_arrive 9 RX0 1 23) (hr : (kme K).sig.returnType = some .int) (hA : kA K = aY Y z) {o : Nat} {p1 : Int32} {p2 : Int32} {p3 : Int32} {p4 : Int32} (ho : (0, o, 0) ∈ yI Y) {r : Int32} (hQ : kQ K = MQ (kb K) (QM Y z (some (.int r)) d) (ka K) (ks K) 0 0 (aY Y z)) {k25 : Int32 → Int32 → Int32 → Option (Int32)} (hk25 : ∀ (x5 : Int32) (x6 : Int32) (x7 : Int32) , k25 x5 x6 x7  = some r → V K Y 9 0 0 z d 25 [(0, .ref (yo Y o)), (1, .int p1), (4, .int p4), (5, .int x5), (6, .int x6), (7, .int x7)] []) (x6 : Int32) (x7 : Int32) (s0 : Int32) (s1 : Int32)  (hf : t_X0_arrive_109 z.1 d o p1 p2 p3 p4 k25 x6 x7 s0 s1  = some r) : V K Y 9 0 0 z d 109 [(0, .ref (yo Y o)), (1, .int p1), (4, .int p4), (6, .int x6), (7, .int x7)] [.int s0, .int s1] := by
  have hL := hC.2.2.2.2.2.2.1
  unfold t_X0_arrive_109 at hf
  refine V_ior hC dX0_arrive_109 ?_
  refine V_topi (fun y21 ey21 => ?_)
  have hf := bd_e hf y21 ey21
  refine V_istore (lv' := [(5, .int y21), (0, .ref (yo Y o)), (1, .int p1), (4, .int p4), (6, .int x6), (7, .int x7)]) hC dX0_arrive_110 (by decide) rfl ?_
  refine V_goto (tgt := 151) hC dX0_arrive_112 (by decide) ?_
  exact V_sub [1, 2, 3, 0, 4, 5] rfl (b_X0_arrive_151 hC hr hA ho hQ hk25 y21 x6 x7 hf)
def t_X0_arrive_25 (L : Nat → Nat) (d : Dt) (o : Nat) (p1 : Int32) (p2 : Int32) (p3 : Int32) (p4 : Int32) (k25 : Int32 → Int32 → Int32 → Option (Int32)) (x5 : Int32) (x6 : Int32) (x7 : Int32)  : Option (Int32) := gd (inb p1 (L (32 * o + 6))) (if (gA d (32 * o + 6) (ix p1)) ≤ x7 then t_X0_arrive_171 L d o p1 p2 p3 p4  x5 x6 else if 4 ≤ x7 then t_X0_arrive_171 L d o p1 p2 p3 p4  x5 x6 else gd (inb ((p1 * 4) + x7) (L (32 * o + 8))) (bd (gA d (32 * o + 8) (ix ((p1 * 4) + x7))) (fun y8 => gd (inb ((p1 * 4) + x7) (L (32 * o + 7))) (if (gA d (32 * o + 7) (ix ((p1 * 4) + x7))) = 0 then if y8 = p4 then t_X0_arrive_109 L d o p1 p2 p3 p4 k25 x6 x7 0 x5 else t_X0_arrive_109 L d o p1 p2 p3 p4 k25 x6 x7 ((1 : Int32) <<< (y8 &&& 31)) x5 else if (gA d (32 * o + 7) (ix ((p1 * 4) + x7))) = 1 then bd (x5 &&& (((1 : Int32) <<< (y8 &&& 31)) ^^^ (-1))) (fun y13 => t_X0_arrive_151 L d o p1 p2 p3 p4 k25 y13 x6 x7) else if (gA d (32 * o + 7) (ix ((p1 * 4) + x7))) = 2 then bd (x6 - y8) (fun y15 => t_X0_arrive_151 L d o p1 p2 p3 p4 k25 x5 y15 x7) else bd (if (x6 + y8) < 9 then (x6 + y8) else 9) (fun y16 => t_X0_arrive_151 L d o p1 p2 p3 p4 k25 x5 y16 x7)))))
set_option maxRecDepth 20000 in
theorem b_X0_arrive_25 {K : Kx} {Y : Yx} {z : Sh} {d : Dt} (hC : CK K Y cX0_arrive 9 RX0 1 23) (hr : (kme K).sig.returnType = some .int) (hA : kA K = aY Y z) {o : Nat} {p1 : Int32} {p2 : Int32} {p3 : Int32} {p4 : Int32} (ho : (0, o, 0) ∈ yI Y) {r : Int32} (hQ : kQ K = MQ (kb K) (QM Y z (some (.int r)) d) (ka K) (ks K) 0 0 (aY Y z)) {k25 : Int32 → Int32 → Int32 → Option (Int32)} (hk25 : ∀ (x5 : Int32) (x6 : Int32) (x7 : Int32) , k25 x5 x6 x7  = some r → V K Y 9 0 0 z d 25 [(0, .ref (yo Y o)), (1, .int p1), (4, .int p4), (5, .int x5), (6, .int x6), (7, .int x7)] []) (x5 : Int32) (x6 : Int32) (x7 : Int32)  (hf : t_X0_arrive_25 z.1 d o p1 p2 p3 p4 k25 x5 x6 x7  = some r) : V K Y 9 0 0 z d 25 [(0, .ref (yo Y o)), (1, .int p1), (4, .int p4), (5, .int x5), (6, .int x6), (7, .int x7)] [] := by
  have hL := hC.2.2.2.2.2.2.1
  have hkn : 0 ≤ (kR K).cells ∧ 0 ≤ (kR K).slots := ⟨Nat.zero_le _, Nat.zero_le _⟩
  unfold t_X0_arrive_25 at hf
  refine V_iload 5 hC dX0_arrive_25 rfl ?_
  refine V_aload_n 0 hC dX0_arrive_27 rfl rfl ?_
  refine V_geta (o := o) hC ho rfl fk_X0_31 dX0_arrive_28 ?_
  refine V_iload_n 1 hC dX0_arrive_31 rfl rfl ?_
  obtain ⟨g4, hf⟩ := gd_some hf
  refine V_iald (a := (32 * o + 6)) hC (hL.row ho rfl) g4 dX0_arrive_32 ?_
  refine V_icmp_ge (tgt := 171) hC dX0_arrive_33 (by decide) (fun c5 => ?_) (fun c5 => ?_)
  · have hf := if_t hf c5
    exact V_sub [0, 1, 3, 4] rfl (b_X0_arrive_171 hC hr hA ho hQ  x5 x6 hf)
  · have hf := if_f hf c5
    refine V_iload 5 hC dX0_arrive_36 rfl ?_
    refine V_iconst (v := 4) hC dX0_arrive_38 rfl ?_
    refine V_icmp_ge (tgt := 171) hC dX0_arrive_39 (by decide) (fun c6 => ?_) (fun c6 => ?_)
    · have hf := if_t hf c6
      exact V_sub [0, 1, 3, 4] rfl (b_X0_arrive_171 hC hr hA ho hQ  x5 x6 hf)
    · have hf := if_f hf c6
      refine V_aload_n 0 hC dX0_arrive_42 rfl rfl ?_
      refine V_geta (o := o) hC ho rfl fk_X0_37 dX0_arrive_43 ?_
      refine V_iload_n 1 hC dX0_arrive_46 rfl rfl ?_
      refine V_iconst (v := 4) hC dX0_arrive_47 rfl ?_
      refine V_imul hC dX0_arrive_48 ?_
      refine V_iload 5 hC dX0_arrive_49 rfl ?_
      refine V_iadd hC dX0_arrive_51 ?_
      obtain ⟨g7, hf⟩ := gd_some hf
      refine V_iald (a := (32 * o + 8)) hC (hL.row ho rfl) g7 dX0_arrive_52 ?_
      refine V_topi (fun y8 ey8 => ?_)
      have hf := bd_e hf y8 ey8
      refine V_istore (lv' := [(8, .int y8), (0, .ref (yo Y o)), (1, .int p1), (4, .int p4), (5, .int x5), (6, .int x6), (7, .int x7)]) hC dX0_arrive_53 (by decide) rfl ?_
      refine V_aload_n 1 hC dX0_arrive_55 rfl rfl ?_
      refine V_geta (o := o) hC ho rfl fk_X0_34 dX0_arrive_56 ?_
      refine V_iload_n 2 hC dX0_arrive_59 rfl rfl ?_
      refine V_iconst (v := 4) hC dX0_arrive_60 rfl ?_
      refine V_imul hC dX0_arrive_61 ?_
      refine V_iload 6 hC dX0_arrive_62 rfl ?_
      refine V_iadd hC dX0_arrive_64 ?_
      obtain ⟨g9, hf⟩ := gd_some hf
      refine V_iald (a := (32 * o + 7)) hC (hL.row ho rfl) g9 dX0_arrive_65 ?_
      by_cases c10 : (gA d (32 * o + 7) (ix ((p1 * 4) + x7))) = 0
      · have hf := if_t hf c10
        refine V_tswIn (tgt := 92) hC dX0_arrive_66 0 c10 (by decide) (by decide) rfl (by decide) ?_
        refine V_iload 4 hC dX0_arrive_92 rfl ?_
        refine V_iload 0 hC dX0_arrive_94 rfl ?_
        refine V_iload 3 hC dX0_arrive_96 rfl ?_
        refine V_icmp_ne (tgt := 105) hC dX0_arrive_98 (by decide) (fun c11 => ?_) (fun c11 => ?_)
        · have hf := if_f hf c11
          refine V_iconst (v := 1) hC dX0_arrive_105 rfl ?_
          refine V_iload 0 hC dX0_arrive_106 rfl ?_
          refine V_ishl hC dX0_arrive_108 ?_
          exact V_sub [1, 2, 3, 5, 6] rfl (b_X0_arrive_109 hC hr hA ho hQ hk25 x6 x7 ((1 : Int32) <<< (y8 &&& 31)) x5 hf)
        · have hf := if_t hf c11
          refine V_iconst (v := 0) hC dX0_arrive_101 rfl ?_
          refine V_goto (tgt := 109) hC dX0_arrive_102 (by decide) ?_
          exact V_sub [1, 2, 3, 5, 6] rfl (b_X0_arrive_109 hC hr hA ho hQ hk25 x6 x7 0 x5 hf)
      · have hf := if_f hf c10
        by_cases c12 : (gA d (32 * o + 7) (ix ((p1 * 4) + x7))) = 1
        · have hf := if_t hf c12
          refine V_tswIn (tgt := 115) hC dX0_arrive_66 1 c12 (by decide) (by decide) rfl (by decide) ?_
          refine V_iload 4 hC dX0_arrive_115 rfl ?_
          refine V_iconst (v := 1) hC dX0_arrive_117 rfl ?_
          refine V_iload 0 hC dX0_arrive_118 rfl ?_
          refine V_ishl hC dX0_arrive_120 ?_
          refine V_iconst (v := -1) hC dX0_arrive_121 rfl ?_
          refine V_ixor hC dX0_arrive_122 ?_
          refine V_iand hC dX0_arrive_123 ?_
          refine V_topi (fun y13 ey13 => ?_)
          have hf := bd_e hf y13 ey13
          refine V_istore (lv' := [(5, .int y13), (8, .int y8), (0, .ref (yo Y o)), (1, .int p1), (4, .int p4), (6, .int x6), (7, .int x7)]) hC dX0_arrive_124 (by decide) rfl ?_
          refine V_goto (tgt := 151) hC dX0_arrive_126 (by decide) ?_
          exact V_sub [2, 3, 4, 0, 5, 6] rfl (b_X0_arrive_151 hC hr hA ho hQ hk25 y13 x6 x7 hf)
        · have hf := if_f hf c12
          by_cases c14 : (gA d (32 * o + 7) (ix ((p1 * 4) + x7))) = 2
          · have hf := if_t hf c14
            refine V_tswIn (tgt := 129) hC dX0_arrive_66 2 c14 (by decide) (by decide) rfl (by decide) ?_
            refine V_iload 5 hC dX0_arrive_129 rfl ?_
            refine V_iload 0 hC dX0_arrive_131 rfl ?_
            refine V_isub hC dX0_arrive_133 ?_
            refine V_topi (fun y15 ey15 => ?_)
            have hf := bd_e hf y15 ey15
            refine V_istore (lv' := [(6, .int y15), (8, .int y8), (0, .ref (yo Y o)), (1, .int p1), (4, .int p4), (5, .int x5), (7, .int x7)]) hC dX0_arrive_134 (by decide) rfl ?_
            refine V_goto (tgt := 151) hC dX0_arrive_136 (by decide) ?_
            exact V_sub [2, 3, 4, 5, 0, 6] rfl (b_X0_arrive_151 hC hr hA ho hQ hk25 x5 y15 x7 hf)
          · have hf := if_f hf c14
            refine V_tswOut (tgt := 139) hC dX0_arrive_66 (by have hc10 := lv_neT c10 (show (0 : Int32).toInt = 0 from rfl); have hc12 := lv_neT c12 (show (1 : Int32).toInt = 1 from rfl); have hc14 := lv_neT c14 (show (2 : Int32).toInt = 2 from rfl); omega) (by decide) ?_
            refine V_bipush (v := 9) hC dX0_arrive_139 rfl ?_
            refine V_iload 5 hC dX0_arrive_141 rfl ?_
            refine V_iload 0 hC dX0_arrive_143 rfl ?_
            refine V_iadd hC dX0_arrive_145 ?_
            refine V_mmin hC mm_X0_84 (by decide) (Nat.le_of_ble_eq_true rfl) hkn dX0_arrive_146 ?_
            refine V_topi (fun y16 ey16 => ?_)
            have hf := bd_e hf y16 ey16
            refine V_istore (lv' := [(6, .int y16), (8, .int y8), (0, .ref (yo Y o)), (1, .int p1), (4, .int p4), (5, .int x5), (7, .int x7)]) hC dX0_arrive_149 (by decide) rfl ?_
            exact V_sub [2, 3, 4, 5, 0, 6] rfl (b_X0_arrive_151 hC hr hA ho hQ hk25 x5 y16 x7 hf)
def t_X0_arrive (L : Nat → Nat) (d : Dt) (o : Nat) (p1 : Int32) (p2 : Int32) (p3 : Int32) (p4 : Int32) : Option (Int32) := (t_X0_hasPart L d o p1).bind (fun v1 => if v1 = 0 then (t_X3_pack L d 0 0 0 2).bind (fun v3 => some v3) else lp (fun k x => t_X0_arrive_25 L d o p1 p2 p3 p4  (fun x5 x6 x7 => k (x5, x6, x7)) x.1 x.2.1 x.2.2) FU (p2, p3, 0))
set_option maxRecDepth 20000 in
theorem c_X0_arrive {l : Launch} {Y : Yx} (hL : LAY Y) {z : Sh} {d : Dt} {o : Nat} {p1 : Int32} {p2 : Int32} {p3 : Int32} {p4 : Int32} (ho : (0, o, 0) ∈ yI Y) {r : Int32} (hf : t_X0_arrive z.1 d o p1 p2 p3 p4 = some r) : MM l yX0_arrive cX0_arrive 9 (some .int) 1 23 Y z [.ref (yo Y o), .int p1, .int p2, .int p3, .int p4] d (some (.int r)) d := by
  refine MM.ofV (by decide +kernel) hL (Nat.le_of_ble_eq_true rfl) (fun K hl hC hr hQ hA => ?_)
  have hC : CK K Y cX0_arrive 9 RX0 1 23 := hC
  have hkn : 0 ≤ (kR K).cells ∧ 0 ≤ (kR K).slots := ⟨Nat.zero_le _, Nat.zero_le _⟩
  unfold t_X0_arrive at hf
  show V K Y 9 0 0 z d 0 [(0, .ref (yo Y o)), (1, .int p1), (2, .int p2), (3, .int p3), (4, .int p4)] []
  refine V_aload_n 0 hC dX0_arrive_0 rfl rfl ?_
  refine V_iload_n 1 hC dX0_arrive_1 rfl rfl ?_
  obtain ⟨v1, ev1, hf⟩ := bi_some hf
  refine V_invi (o := o) (As := [.int p1]) (rest := []) hC (c_X0_hasPart hL ho ev1) me_X0_hasPart lk_X0_58 ho rfl rfl rfl (Nat.le_of_ble_eq_true rfl) ⟨by decide, by decide⟩ hkn dX0_arrive_2 ?_
  refine V_if_ne (tgt := 16) hC dX0_arrive_5 (by decide) (fun c2 => ?_) (fun c2 => ?_)
  · have hf := if_f hf c2
    refine V_iload_n 2 hC dX0_arrive_16 rfl rfl ?_
    refine V_istore (lv' := [(5, .int p2), (0, .ref (yo Y o)), (1, .int p1), (2, .int p2), (3, .int p3), (4, .int p4)]) hC dX0_arrive_17 (by decide) rfl ?_
    refine V_iload_n 4 hC dX0_arrive_19 rfl rfl ?_
    refine V_istore (lv' := [(6, .int p3), (5, .int p2), (0, .ref (yo Y o)), (1, .int p1), (2, .int p2), (3, .int p3), (4, .int p4)]) hC dX0_arrive_20 (by decide) rfl ?_
    refine V_iconst (v := 0) hC dX0_arrive_22 rfl ?_
    refine V_istore (lv' := [(7, .int 0), (6, .int p3), (5, .int p2), (0, .ref (yo Y o)), (1, .int p1), (2, .int p2), (3, .int p3), (4, .int p4)]) hC dX0_arrive_23 (by decide) rfl ?_
    exact V_sub [3, 4, 7, 2, 1, 0] rfl (lp_ind (X := Int32 × Int32 × Int32) (P := fun x => V K Y 9 0 0 z d 25 [(0, .ref (yo Y o)), (1, .int p1), (4, .int p4), (5, .int x.1), (6, .int x.2.1), (7, .int x.2.2)] []) (fun k x hk hx => b_X0_arrive_25 hC hr hA ho hQ  (k25 := fun x5 x6 x7 => k (x5, x6, x7)) (fun x5 x6 x7 hx => hk (x5, x6, x7) hx) x.1 x.2.1 x.2.2 hx) FU (p2, p3, 0) hf)
  · have hf := if_t hf c2
    refine V_iconst (v := 0) hC dX0_arrive_8 rfl ?_
    refine V_iconst (v := 0) hC dX0_arrive_9 rfl ?_
    refine V_iconst (v := 0) hC dX0_arrive_10 rfl ?_
    refine V_iconst (v := 2) hC dX0_arrive_11 rfl ?_
    obtain ⟨v3, ev3, hf⟩ := bi_some hf
    refine V_insi (As := [.int 0, .int 0, .int 0, .int 2]) (rest := []) hC (c_X3_pack hL  ev3) me_X3_pack lk_X0_109 rfl rfl (Nat.le_of_ble_eq_true rfl) ⟨by decide, by decide⟩ hkn dX0_arrive_12 ?_
    obtain rfl := so_inj hf
    exact V_iret hC hr hQ hA dX0_arrive_15
def t_X0_beginning (L : Nat → Nat) (d : Dt) (o : Nat) (p1 : Int32) : Option (Int32) := (t_X0_arrive L d o 0 0 (gF d o 1) p1).bind (fun v1 => some v1)
set_option maxRecDepth 20000 in
theorem c_X0_beginning {l : Launch} {Y : Yx} (hL : LAY Y) {z : Sh} {d : Dt} {o : Nat} {p1 : Int32} (ho : (0, o, 0) ∈ yI Y) {r : Int32} (hf : t_X0_beginning z.1 d o p1 = some r) : MM l yX0_beginning cX0_beginning 2 (some .int) 2 51 Y z [.ref (yo Y o), .int p1] d (some (.int r)) d := by
  refine MM.ofV (by decide +kernel) hL (Nat.le_of_ble_eq_true rfl) (fun K hl hC hr hQ hA => ?_)
  have hC : CK K Y cX0_beginning 2 RX0 2 51 := hC
  have hkn : 0 ≤ (kR K).cells ∧ 0 ≤ (kR K).slots := ⟨Nat.zero_le _, Nat.zero_le _⟩
  unfold t_X0_beginning at hf
  show V K Y 2 0 0 z d 0 [(0, .ref (yo Y o)), (1, .int p1)] []
  refine V_aload_n 0 hC dX0_beginning_0 rfl rfl ?_
  refine V_iconst (v := 0) hC dX0_beginning_1 rfl ?_
  refine V_iconst (v := 0) hC dX0_beginning_2 rfl ?_
  refine V_aload_n 0 hC dX0_beginning_3 rfl rfl ?_
  refine V_geti (o := o) hC ho rfl fk_X0_15 dX0_beginning_4 ?_
  refine V_iload_n 1 hC dX0_beginning_7 rfl rfl ?_
  obtain ⟨v1, ev1, hf⟩ := bi_some hf
  refine V_invi (o := o) (As := [.int 0, .int 0, .int (gF d o 1), .int p1]) (rest := []) hC (c_X0_arrive hL ho ev1) me_X0_arrive lk_X0_102 ho rfl rfl rfl (Nat.le_of_ble_eq_true rfl) ⟨by decide, by decide⟩ hkn dX0_beginning_8 ?_
  obtain rfl := so_inj hf
  exact V_iret hC hr hQ hA dX0_beginning_11
def t_X0_goOn (L : Nat → Nat) (d : Dt) (o : Nat) (p1 : Int32) (p2 : Int32) (p3 : Int32) : Option (Int32) := (t_X3_thingsOf L d p1).bind (fun v1 => (t_X3_healthOf L d p1).bind (fun v2 => (t_X0_arrive L d o p2 v1 v2 p3).bind (fun v3 => some v3)))
set_option maxRecDepth 20000 in
theorem c_X0_goOn {l : Launch} {Y : Yx} (hL : LAY Y) {z : Sh} {d : Dt} {o : Nat} {p1 : Int32} {p2 : Int32} {p3 : Int32} (ho : (0, o, 0) ∈ yI Y) {r : Int32} (hf : t_X0_goOn z.1 d o p1 p2 p3 = some r) : MM l yX0_goOn cX0_goOn 4 (some .int) 2 51 Y z [.ref (yo Y o), .int p1, .int p2, .int p3] d (some (.int r)) d := by
  refine MM.ofV (by decide +kernel) hL (Nat.le_of_ble_eq_true rfl) (fun K hl hC hr hQ hA => ?_)
  have hC : CK K Y cX0_goOn 4 RX0 2 51 := hC
  have hkn : 0 ≤ (kR K).cells ∧ 0 ≤ (kR K).slots := ⟨Nat.zero_le _, Nat.zero_le _⟩
  unfold t_X0_goOn at hf
  show V K Y 4 0 0 z d 0 [(0, .ref (yo Y o)), (1, .int p1), (2, .int p2), (3, .int p3)] []
  refine V_aload_n 0 hC dX0_goOn_0 rfl rfl ?_
  refine V_iload_n 2 hC dX0_goOn_1 rfl rfl ?_
  refine V_iload_n 1 hC dX0_goOn_2 rfl rfl ?_
  obtain ⟨v1, ev1, hf⟩ := bi_some hf
  refine V_insi (As := [.int p1]) (rest := [.int p2, .ref (yo Y o)]) hC (c_X3_thingsOf hL  ev1) me_X3_thingsOf lk_X0_75 rfl rfl (Nat.le_of_ble_eq_true rfl) ⟨by decide, by decide⟩ hkn dX0_goOn_3 ?_
  refine V_iload_n 1 hC dX0_goOn_6 rfl rfl ?_
  obtain ⟨v2, ev2, hf⟩ := bi_some hf
  refine V_insi (As := [.int p1]) (rest := [.int v1, .int p2, .ref (yo Y o)]) hC (c_X3_healthOf hL  ev2) me_X3_healthOf lk_X0_106 rfl rfl (Nat.le_of_ble_eq_true rfl) ⟨by decide, by decide⟩ hkn dX0_goOn_7 ?_
  refine V_iload_n 3 hC dX0_goOn_10 rfl rfl ?_
  obtain ⟨v3, ev3, hf⟩ := bi_some hf
  refine V_invi (o := o) (As := [.int p2, .int v1, .int v2, .int p3]) (rest := []) hC (c_X0_arrive hL ho ev3) me_X0_arrive lk_X0_102 ho rfl rfl rfl (Nat.le_of_ble_eq_true rfl) ⟨by decide, by decide⟩ hkn dX0_goOn_11 ?_
  obtain rfl := so_inj hf
  exact V_iret hC hr hQ hA dX0_goOn_14
def t_X0_addPair (L : Nat → Nat) (d : Dt) (a0 : Nat) (p1 : Int32) (p2 : Int32) : Option (Dt) := bd (if p2 < p1 then p2 else p1) (fun y1 => bd (if p1 < p2 then p2 else p1) (fun y2 => if y1 < 0 then some d else if y2 ≤ y1 then some d else if (nI (L a0)) ≤ y1 then some d else gd (inb y1 (L a0)) (gd (inb y1 (L a0)) (bd (sA d a0 (ix y1) ((gA d a0 (ix y1)) ||| ((1 : Int32) <<< (y2 &&& 31)))) (fun d8 => some d8)))))
set_option maxRecDepth 20000 in
theorem c_X0_addPair {l : Launch} {Y : Yx} (hL : LAY Y) {z : Sh} {d : Dt} {a0 : Nat} {p1 : Int32} {p2 : Int32} (ha0 : (1, a0, 0) ∈ yI Y) {d' : Dt} (hf : t_X0_addPair z.1 d a0 p1 p2 = some d') : MM l yX0_addPair cX0_addPair 5 none 1 21 Y z [.ref (gad z a0), .int p1, .int p2] d (none) d' := by
  refine MM.ofV (by decide +kernel) hL (Nat.le_of_ble_eq_true rfl) (fun K hl hC hr hQ hA => ?_)
  have hC : CK K Y cX0_addPair 5 RX0 1 21 := hC
  have hkn : 0 ≤ (kR K).cells ∧ 0 ≤ (kR K).slots := ⟨Nat.zero_le _, Nat.zero_le _⟩
  unfold t_X0_addPair at hf
  show V K Y 5 0 0 z d 0 [(0, .ref (gad z a0)), (1, .int p1), (2, .int p2)] []
  refine V_iload_n 1 hC dX0_addPair_0 rfl rfl ?_
  refine V_iload_n 2 hC dX0_addPair_1 rfl rfl ?_
  refine V_mmin hC mm_X0_84 (by decide) (Nat.le_of_ble_eq_true rfl) hkn dX0_addPair_2 ?_
  refine V_topi (fun y1 ey1 => ?_)
  have hf := bd_e hf y1 ey1
  refine V_istore_n (lv' := [(3, .int y1), (0, .ref (gad z a0)), (1, .int p1), (2, .int p2)]) hC dX0_addPair_5 rfl (by decide) rfl ?_
  refine V_iload_n 2 hC dX0_addPair_6 rfl rfl ?_
  refine V_iload_n 3 hC dX0_addPair_7 rfl rfl ?_
  refine V_mmax hC mm_X0_122 (by decide) (Nat.le_of_ble_eq_true rfl) hkn dX0_addPair_8 ?_
  refine V_topi (fun y2 ey2 => ?_)
  have hf := bd_e hf y2 ey2
  refine V_istore (lv' := [(4, .int y2), (3, .int y1), (0, .ref (gad z a0)), (1, .int p1), (2, .int p2)]) hC dX0_addPair_11 (by decide) rfl ?_
  refine V_iload_n 1 hC dX0_addPair_13 rfl rfl ?_
  refine V_if_lt (tgt := 39) hC dX0_addPair_14 (by decide) (fun c3 => ?_) (fun c3 => ?_)
  · have hf := if_t hf c3
    obtain rfl := so_inj hf
    exact V_vret hC hr hQ hA dX0_addPair_39
  · have hf := if_f hf c3
    refine V_iload_n 1 hC dX0_addPair_17 rfl rfl ?_
    refine V_iload 0 hC dX0_addPair_18 rfl ?_
    refine V_icmp_ge (tgt := 39) hC dX0_addPair_20 (by decide) (fun c4 => ?_) (fun c4 => ?_)
    · have hf := if_t hf c4
      obtain rfl := so_inj hf
      exact V_vret hC hr hQ hA dX0_addPair_39
    · have hf := if_f hf c4
      refine V_iload_n 1 hC dX0_addPair_23 rfl rfl ?_
      refine V_aload_n 2 hC dX0_addPair_24 rfl rfl ?_
      refine V_alen (a := a0) hC ha0 (by decide) dX0_addPair_25 ?_
      refine V_icmp_ge (tgt := 39) hC dX0_addPair_26 (by decide) (fun c5 => ?_) (fun c5 => ?_)
      · have hf := if_t hf c5
        obtain rfl := so_inj hf
        exact V_vret hC hr hQ hA dX0_addPair_39
      · have hf := if_f hf c5
        refine V_aload_n 2 hC dX0_addPair_29 rfl rfl ?_
        refine V_iload_n 1 hC dX0_addPair_30 rfl rfl ?_
        refine V_dup2 hC dX0_addPair_31 rfl rfl ?_
        obtain ⟨g6, hf⟩ := gd_some hf
        refine V_iald (a := a0) hC ha0 g6 dX0_addPair_32 ?_
        refine V_iconst (v := 1) hC dX0_addPair_33 rfl ?_
        refine V_iload 0 hC dX0_addPair_34 rfl ?_
        refine V_ishl hC dX0_addPair_36 ?_
        refine V_ior hC dX0_addPair_37 ?_
        obtain ⟨g7, hf⟩ := gd_some hf
        refine V_iast (a := a0) hC ha0 g7 dX0_addPair_38 (fun d8 ed8 => ?_)
        have hf := bd_e hf d8 ed8
        obtain rfl := so_inj hf
        exact V_vret hC hr hQ hA dX0_addPair_39
def t_J7_fill_53178_5 (L : Nat → Nat) (a0 : Nat) (p1 : Int32) (k5 : Int32 → Int32 → (Dt) → Option (Dt)) (x2 : Int32) (x3 : Int32) (d : Dt) : Option (Dt) := if x3 ≤ x2 then some d else gd (inb x2 (L a0)) (bd (sA d a0 (ix x2) p1) (fun d4 => k5 (x2 + 1) x3 d4))
set_option maxRecDepth 20000 in
theorem b_J7_fill_53178_5 {K : Kx} {Y : Yx} {z : Sh}  (hC : CK K Y cJ7_fill_53178 4 RJ7 0 0) (hr : (kme K).sig.returnType = none) (hA : kA K = aY Y z) {a0 : Nat} {p1 : Int32} (ha0 : (1, a0, 0) ∈ yI Y) {d' : Dt} (hQ : kQ K = MQ (kb K) (QM Y z (none) d') (ka K) (ks K) 0 0 (aY Y z)) {k5 : Int32 → Int32 → (Dt) → Option (Dt)} (hk5 : ∀ (x2 : Int32) (x3 : Int32) (d : Dt), k5 x2 x3 d = some d' → V K Y 4 0 0 z d 5 [(0, .ref (gad z a0)), (1, .int p1), (2, .int x2), (3, .int x3)] []) (x2 : Int32) (x3 : Int32) (d : Dt) (hf : t_J7_fill_53178_5 z.1 a0 p1 k5 x2 x3 d = some d') : V K Y 4 0 0 z d 5 [(0, .ref (gad z a0)), (1, .int p1), (2, .int x2), (3, .int x3)] [] := by
  have hL := hC.2.2.2.2.2.2.1
  unfold t_J7_fill_53178_5 at hf
  refine V_iload_n 2 hC dJ7_fill_53178_5 rfl rfl ?_
  refine V_iload_n 3 hC dJ7_fill_53178_6 rfl rfl ?_
  refine V_icmp_ge (tgt := 20) hC dJ7_fill_53178_7 (by decide) (fun c2 => ?_) (fun c2 => ?_)
  · have hf := if_t hf c2
    obtain rfl := so_inj hf
    exact V_vret hC hr hQ hA dJ7_fill_53178_20
  · have hf := if_f hf c2
    refine V_aload_n 0 hC dJ7_fill_53178_10 rfl rfl ?_
    refine V_iload_n 2 hC dJ7_fill_53178_11 rfl rfl ?_
    refine V_iload_n 1 hC dJ7_fill_53178_12 rfl rfl ?_
    obtain ⟨g3, hf⟩ := gd_some hf
    refine V_iast (a := a0) hC ha0 g3 dJ7_fill_53178_13 (fun d4 ed4 => ?_)
    have hf := bd_e hf d4 ed4
    refine V_iinc (v := x2 + 1) (lv' := [(2, .int (x2 + 1)), (0, .ref (gad z a0)), (1, .int p1), (3, .int x3)]) 2 hC dJ7_fill_53178_14 rfl rfl (by decide) rfl ?_
    refine V_goto (tgt := 5) hC dJ7_fill_53178_17 (by decide) ?_
    exact V_sub [1, 2, 0, 3] rfl (hk5 (x2 + 1) x3 d4 hf)
def t_J7_fill_53178 (L : Nat → Nat) (d : Dt) (a0 : Nat) (p1 : Int32) : Option (Dt) := bd (nI (L a0)) (fun y1 => lp (fun k x => t_J7_fill_53178_5 L a0 p1  (fun x2 x3 d => k (x2, x3, d)) x.1 x.2.1 x.2.2) FU (0, y1, d))
set_option maxRecDepth 20000 in
theorem c_J7_fill_53178 {l : Launch} {Y : Yx} (hL : LAY Y) {z : Sh} {d : Dt} {a0 : Nat} {p1 : Int32} (ha0 : (1, a0, 0) ∈ yI Y) {d' : Dt} (hf : t_J7_fill_53178 z.1 d a0 p1 = some d') : MM l yJ7_fill_53178 cJ7_fill_53178 4 none 0 0 Y z [.ref (gad z a0), .int p1] d (none) d' := by
  refine MM.ofV (by decide +kernel) hL (Nat.le_of_ble_eq_true rfl) (fun K hl hC hr hQ hA => ?_)
  have hC : CK K Y cJ7_fill_53178 4 RJ7 0 0 := hC
  unfold t_J7_fill_53178 at hf
  show V K Y 4 0 0 z d 0 [(0, .ref (gad z a0)), (1, .int p1)] []
  refine V_iconst (v := 0) hC dJ7_fill_53178_0 rfl ?_
  refine V_istore_n (lv' := [(2, .int 0), (0, .ref (gad z a0)), (1, .int p1)]) hC dJ7_fill_53178_1 rfl (by decide) rfl ?_
  refine V_aload_n 1 hC dJ7_fill_53178_2 rfl rfl ?_
  refine V_alen (a := a0) hC ha0 (by decide) dJ7_fill_53178_3 ?_
  refine V_topi (fun y1 ey1 => ?_)
  have hf := bd_e hf y1 ey1
  refine V_istore_n (lv' := [(3, .int y1), (2, .int 0), (0, .ref (gad z a0)), (1, .int p1)]) hC dJ7_fill_53178_4 rfl (by decide) rfl ?_
  exact V_sub [2, 3, 1, 0] rfl (lp_ind (X := Int32 × Int32 × Dt) (P := fun x => V K Y 4 0 0 z x.2.2 5 [(0, .ref (gad z a0)), (1, .int p1), (2, .int x.1), (3, .int x.2.1)] []) (fun k x hk hx => b_J7_fill_53178_5 hC hr hA ha0 hQ  (k5 := fun x2 x3 d => k (x2, x3, d)) (fun x2 x3 d hx => hk (x2, x3, d) hx) x.1 x.2.1 x.2.2 hx) FU (0, y1, d) hf)
def t_X0_findLinks_93 (L : Nat → Nat) (o : Nat) (a1 : Nat) (k7 : Int32 → (Dt) → Option (Dt)) (x2 : Int32) (d : Dt) : Option (Dt) := k7 (x2 + 1) d
set_option maxRecDepth 20000 in
theorem b_X0_findLinks_93 {K : Kx} {Y : Yx} {z : Sh}  (hC : CK K Y cX0_findLinks 4 RX0 2 45) (hr : (kme K).sig.returnType = none) (hA : kA K = aY Y z) {o : Nat} {a1 : Nat} (ho : (0, o, 0) ∈ yI Y) (ha1 : (1, a1, 0) ∈ yI Y) {d' : Dt} (hQ : kQ K = MQ (kb K) (QM Y z (none) d') (ka K) (ks K) 0 0 (aY Y z)) {k7 : Int32 → (Dt) → Option (Dt)} (hk7 : ∀ (x2 : Int32) (d : Dt), k7 x2 d = some d' → V K Y 4 0 0 z d 7 [(0, .ref (yo Y o)), (1, .ref (gad z a1)), (2, .int x2)] []) (x2 : Int32) (d : Dt) (hf : t_X0_findLinks_93 z.1 o a1 k7 x2 d = some d') : V K Y 4 0 0 z d 93 [(0, .ref (yo Y o)), (1, .ref (gad z a1)), (2, .int x2)] [] := by
  have hL := hC.2.2.2.2.2.2.1
  unfold t_X0_findLinks_93 at hf
  refine V_iinc (v := x2 + 1) (lv' := [(2, .int (x2 + 1)), (0, .ref (yo Y o)), (1, .ref (gad z a1))]) 2 hC dX0_findLinks_93 rfl rfl (by decide) rfl ?_
  refine V_goto (tgt := 7) hC dX0_findLinks_96 (by decide) ?_
  exact V_sub [1, 2, 0] rfl (hk7 (x2 + 1) d hf)
def t_X0_findLinks_55 (L : Nat → Nat) (o : Nat) (a1 : Nat) (k7 : Int32 → (Dt) → Option (Dt)) (k55 : Int32 → Int32 → (Dt) → Option (Dt)) (x2 : Int32) (x3 : Int32) (d : Dt) : Option (Dt) := gd (inb x2 (L (32 * o + 9))) (if (gA d (32 * o + 9) (ix x2)) ≤ x3 then t_X0_findLinks_93 L o a1 k7 x2 d else if 6 ≤ x3 then t_X0_findLinks_93 L o a1 k7 x2 d else gd (inb ((x2 * 6) + x3) (L (32 * o + 10))) ((t_X0_addPair L d a1 x2 (gA d (32 * o + 10) (ix ((x2 * 6) + x3)))).bind (fun d14 => k55 x2 (x3 + 1) d14)))
set_option maxRecDepth 20000 in
theorem b_X0_findLinks_55 {K : Kx} {Y : Yx} {z : Sh}  (hC : CK K Y cX0_findLinks 4 RX0 2 45) (hr : (kme K).sig.returnType = none) (hA : kA K = aY Y z) {o : Nat} {a1 : Nat} (ho : (0, o, 0) ∈ yI Y) (ha1 : (1, a1, 0) ∈ yI Y) {d' : Dt} (hQ : kQ K = MQ (kb K) (QM Y z (none) d') (ka K) (ks K) 0 0 (aY Y z)) {k7 : Int32 → (Dt) → Option (Dt)} {k55 : Int32 → Int32 → (Dt) → Option (Dt)} (hk7 : ∀ (x2 : Int32) (d : Dt), k7 x2 d = some d' → V K Y 4 0 0 z d 7 [(0, .ref (yo Y o)), (1, .ref (gad z a1)), (2, .int x2)] []) (hk55 : ∀ (x2 : Int32) (x3 : Int32) (d : Dt), k55 x2 x3 d = some d' → V K Y 4 0 0 z d 55 [(0, .ref (yo Y o)), (1, .ref (gad z a1)), (2, .int x2), (3, .int x3)] []) (x2 : Int32) (x3 : Int32) (d : Dt) (hf : t_X0_findLinks_55 z.1 o a1 k7 k55 x2 x3 d = some d') : V K Y 4 0 0 z d 55 [(0, .ref (yo Y o)), (1, .ref (gad z a1)), (2, .int x2), (3, .int x3)] [] := by
  have hL := hC.2.2.2.2.2.2.1
  have hkn : 0 ≤ (kR K).cells ∧ 0 ≤ (kR K).slots := ⟨Nat.zero_le _, Nat.zero_le _⟩
  unfold t_X0_findLinks_55 at hf
  refine V_iload_n 3 hC dX0_findLinks_55 rfl rfl ?_
  refine V_aload_n 0 hC dX0_findLinks_56 rfl rfl ?_
  refine V_geta (o := o) hC ho rfl fk_X0_40 dX0_findLinks_57 ?_
  refine V_iload_n 2 hC dX0_findLinks_60 rfl rfl ?_
  obtain ⟨g10, hf⟩ := gd_some hf
  refine V_iald (a := (32 * o + 9)) hC (hL.row ho rfl) g10 dX0_findLinks_61 ?_
  refine V_icmp_ge (tgt := 93) hC dX0_findLinks_62 (by decide) (fun c11 => ?_) (fun c11 => ?_)
  · have hf := if_t hf c11
    exact V_sub [0, 1, 2] rfl (b_X0_findLinks_93 hC hr hA ho ha1 hQ hk7 x2 d hf)
  · have hf := if_f hf c11
    refine V_iload_n 3 hC dX0_findLinks_65 rfl rfl ?_
    refine V_bipush (v := 6) hC dX0_findLinks_66 rfl ?_
    refine V_icmp_ge (tgt := 93) hC dX0_findLinks_68 (by decide) (fun c12 => ?_) (fun c12 => ?_)
    · have hf := if_t hf c12
      exact V_sub [0, 1, 2] rfl (b_X0_findLinks_93 hC hr hA ho ha1 hQ hk7 x2 d hf)
    · have hf := if_f hf c12
      refine V_aload_n 1 hC dX0_findLinks_71 rfl rfl ?_
      refine V_iload_n 2 hC dX0_findLinks_72 rfl rfl ?_
      refine V_aload_n 0 hC dX0_findLinks_73 rfl rfl ?_
      refine V_geta (o := o) hC ho rfl fk_X0_43 dX0_findLinks_74 ?_
      refine V_iload_n 2 hC dX0_findLinks_77 rfl rfl ?_
      refine V_bipush (v := 6) hC dX0_findLinks_78 rfl ?_
      refine V_imul hC dX0_findLinks_80 ?_
      refine V_iload_n 3 hC dX0_findLinks_81 rfl rfl ?_
      refine V_iadd hC dX0_findLinks_82 ?_
      obtain ⟨g13, hf⟩ := gd_some hf
      refine V_iald (a := (32 * o + 10)) hC (hL.row ho rfl) g13 dX0_findLinks_83 ?_
      obtain ⟨d14, ed14, hf⟩ := bi_some hf
      refine V_insv (As := [.ref (gad z a1), .int x2, .int (gA d (32 * o + 10) (ix ((x2 * 6) + x3)))]) (rest := []) hC (c_X0_addPair hL ha1 ed14) me_X0_addPair lk_X0_118 rfl rfl (Nat.le_of_ble_eq_true rfl) ⟨by decide, by decide⟩ hkn dX0_findLinks_84 ?_
      refine V_iinc (v := x3 + 1) (lv' := [(3, .int (x3 + 1)), (0, .ref (yo Y o)), (1, .ref (gad z a1)), (2, .int x2)]) 3 hC dX0_findLinks_87 rfl rfl (by decide) rfl ?_
      refine V_goto (tgt := 55) hC dX0_findLinks_90 (by decide) ?_
      exact V_sub [1, 2, 3, 0] rfl (hk55 x2 (x3 + 1) d14 hf)
def t_X0_findLinks_53 (L : Nat → Nat) (o : Nat) (a1 : Nat) (k7 : Int32 → (Dt) → Option (Dt)) (x2 : Int32) (d : Dt) : Option (Dt) := lp (fun k x => t_X0_findLinks_55 L o a1 k7 (fun x2 x3 d => k (x2, x3, d)) x.1 x.2.1 x.2.2) FU (x2, 0, d)
set_option maxRecDepth 20000 in
theorem b_X0_findLinks_53 {K : Kx} {Y : Yx} {z : Sh}  (hC : CK K Y cX0_findLinks 4 RX0 2 45) (hr : (kme K).sig.returnType = none) (hA : kA K = aY Y z) {o : Nat} {a1 : Nat} (ho : (0, o, 0) ∈ yI Y) (ha1 : (1, a1, 0) ∈ yI Y) {d' : Dt} (hQ : kQ K = MQ (kb K) (QM Y z (none) d') (ka K) (ks K) 0 0 (aY Y z)) {k7 : Int32 → (Dt) → Option (Dt)} (hk7 : ∀ (x2 : Int32) (d : Dt), k7 x2 d = some d' → V K Y 4 0 0 z d 7 [(0, .ref (yo Y o)), (1, .ref (gad z a1)), (2, .int x2)] []) (x2 : Int32) (d : Dt) (hf : t_X0_findLinks_53 z.1 o a1 k7 x2 d = some d') : V K Y 4 0 0 z d 53 [(0, .ref (yo Y o)), (1, .ref (gad z a1)), (2, .int x2)] [] := by
  have hL := hC.2.2.2.2.2.2.1
  unfold t_X0_findLinks_53 at hf
  refine V_iconst (v := 0) hC dX0_findLinks_53 rfl ?_
  refine V_istore_n (lv' := [(3, .int 0), (0, .ref (yo Y o)), (1, .ref (gad z a1)), (2, .int x2)]) hC dX0_findLinks_54 rfl (by decide) rfl ?_
  exact V_sub [1, 2, 3, 0] rfl (lp_ind (X := Int32 × Int32 × Dt) (P := fun x => V K Y 4 0 0 z x.2.2 55 [(0, .ref (yo Y o)), (1, .ref (gad z a1)), (2, .int x.1), (3, .int x.2.1)] []) (fun k x hk hx => b_X0_findLinks_55 hC hr hA ho ha1 hQ hk7 (k55 := fun x2 x3 d => k (x2, x3, d)) (fun x2 x3 d hx => hk (x2, x3, d) hx) x.1 x.2.1 x.2.2 hx) FU (x2, 0, d) hf)
def t_X0_findLinks_7 (L : Nat → Nat) (o : Nat) (a1 : Nat) (k7 : Int32 → (Dt) → Option (Dt)) (x2 : Int32) (d : Dt) : Option (Dt) := if (gF d o 0) ≤ x2 then some d else if 24 ≤ x2 then some d else gd (inb x2 (L (32 * o + 2))) (if (gA d (32 * o + 2) (ix x2)) = 3 then gd (inb x2 (L (32 * o + 4))) ((t_X0_addPair L d a1 x2 (gA d (32 * o + 4) (ix x2))).bind (fun d7 => gd (inb x2 (L (32 * o + 5))) ((t_X0_addPair L d7 a1 x2 (gA d7 (32 * o + 5) (ix x2))).bind (fun d9 => t_X0_findLinks_53 L o a1 k7 x2 d9)))) else t_X0_findLinks_53 L o a1 k7 x2 d)
set_option maxRecDepth 20000 in
theorem b_X0_findLinks_7 {K : Kx} {Y : Yx} {z : Sh}  (hC : CK K Y cX0_findLinks 4 RX0 2 45) (hr : (kme K).sig.returnType = none) (hA : kA K = aY Y z) {o : Nat} {a1 : Nat} (ho : (0, o, 0) ∈ yI Y) (ha1 : (1, a1, 0) ∈ yI Y) {d' : Dt} (hQ : kQ K = MQ (kb K) (QM Y z (none) d') (ka K) (ks K) 0 0 (aY Y z)) {k7 : Int32 → (Dt) → Option (Dt)} (hk7 : ∀ (x2 : Int32) (d : Dt), k7 x2 d = some d' → V K Y 4 0 0 z d 7 [(0, .ref (yo Y o)), (1, .ref (gad z a1)), (2, .int x2)] []) (x2 : Int32) (d : Dt) (hf : t_X0_findLinks_7 z.1 o a1 k7 x2 d = some d') : V K Y 4 0 0 z d 7 [(0, .ref (yo Y o)), (1, .ref (gad z a1)), (2, .int x2)] [] := by
  have hL := hC.2.2.2.2.2.2.1
  have hkn : 0 ≤ (kR K).cells ∧ 0 ≤ (kR K).slots := ⟨Nat.zero_le _, Nat.zero_le _⟩
  unfold t_X0_findLinks_7 at hf
  refine V_iload_n 2 hC dX0_findLinks_7 rfl rfl ?_
  refine V_aload_n 0 hC dX0_findLinks_8 rfl rfl ?_
  refine V_geti (o := o) hC ho rfl fk_X0_9 dX0_findLinks_9 ?_
  refine V_icmp_ge (tgt := 99) hC dX0_findLinks_12 (by decide) (fun c2 => ?_) (fun c2 => ?_)
  · have hf := if_t hf c2
    obtain rfl := so_inj hf
    exact V_vret hC hr hQ hA dX0_findLinks_99
  · have hf := if_f hf c2
    refine V_iload_n 2 hC dX0_findLinks_15 rfl rfl ?_
    refine V_bipush (v := 24) hC dX0_findLinks_16 rfl ?_
    refine V_icmp_ge (tgt := 99) hC dX0_findLinks_18 (by decide) (fun c3 => ?_) (fun c3 => ?_)
    · have hf := if_t hf c3
      obtain rfl := so_inj hf
      exact V_vret hC hr hQ hA dX0_findLinks_99
    · have hf := if_f hf c3
      refine V_aload_n 0 hC dX0_findLinks_21 rfl rfl ?_
      refine V_geta (o := o) hC ho rfl fk_X0_18 dX0_findLinks_22 ?_
      refine V_iload_n 2 hC dX0_findLinks_25 rfl rfl ?_
      obtain ⟨g4, hf⟩ := gd_some hf
      refine V_iald (a := (32 * o + 2)) hC (hL.row ho rfl) g4 dX0_findLinks_26 ?_
      refine V_iconst (v := 3) hC dX0_findLinks_27 rfl ?_
      refine V_icmp_ne (tgt := 53) hC dX0_findLinks_28 (by decide) (fun c5 => ?_) (fun c5 => ?_)
      · have hf := if_f hf c5
        exact b_X0_findLinks_53 hC hr hA ho ha1 hQ hk7 x2 d hf
      · have hf := if_t hf c5
        refine V_aload_n 1 hC dX0_findLinks_31 rfl rfl ?_
        refine V_iload_n 2 hC dX0_findLinks_32 rfl rfl ?_
        refine V_aload_n 0 hC dX0_findLinks_33 rfl rfl ?_
        refine V_geta (o := o) hC ho rfl fk_X0_25 dX0_findLinks_34 ?_
        refine V_iload_n 2 hC dX0_findLinks_37 rfl rfl ?_
        obtain ⟨g6, hf⟩ := gd_some hf
        refine V_iald (a := (32 * o + 4)) hC (hL.row ho rfl) g6 dX0_findLinks_38 ?_
        obtain ⟨d7, ed7, hf⟩ := bi_some hf
        refine V_insv (As := [.ref (gad z a1), .int x2, .int (gA d (32 * o + 4) (ix x2))]) (rest := []) hC (c_X0_addPair hL ha1 ed7) me_X0_addPair lk_X0_118 rfl rfl (Nat.le_of_ble_eq_true rfl) ⟨by decide, by decide⟩ hkn dX0_findLinks_39 ?_
        refine V_aload_n 1 hC dX0_findLinks_42 rfl rfl ?_
        refine V_iload_n 2 hC dX0_findLinks_43 rfl rfl ?_
        refine V_aload_n 0 hC dX0_findLinks_44 rfl rfl ?_
        refine V_geta (o := o) hC ho rfl fk_X0_28 dX0_findLinks_45 ?_
        refine V_iload_n 2 hC dX0_findLinks_48 rfl rfl ?_
        obtain ⟨g8, hf⟩ := gd_some hf
        refine V_iald (a := (32 * o + 5)) hC (hL.row ho rfl) g8 dX0_findLinks_49 ?_
        obtain ⟨d9, ed9, hf⟩ := bi_some hf
        refine V_insv (As := [.ref (gad z a1), .int x2, .int (gA d7 (32 * o + 5) (ix x2))]) (rest := []) hC (c_X0_addPair hL ha1 ed9) me_X0_addPair lk_X0_118 rfl rfl (Nat.le_of_ble_eq_true rfl) ⟨by decide, by decide⟩ hkn dX0_findLinks_50 ?_
        exact b_X0_findLinks_53 hC hr hA ho ha1 hQ hk7 x2 d9 hf
def t_X0_findLinks (L : Nat → Nat) (d : Dt) (o : Nat) (a1 : Nat) : Option (Dt) := (t_J7_fill_53178 L d a1 0).bind (fun d1 => lp (fun k x => t_X0_findLinks_7 L o a1  (fun x2 d => k (x2, d)) x.1 x.2) FU (0, d1))
set_option maxRecDepth 20000 in
theorem c_X0_findLinks {l : Launch} {Y : Yx} (hL : LAY Y) {z : Sh} {d : Dt} {o : Nat} {a1 : Nat} (ho : (0, o, 0) ∈ yI Y) (ha1 : (1, a1, 0) ∈ yI Y) {d' : Dt} (hf : t_X0_findLinks z.1 d o a1 = some d') : MM l yX0_findLinks cX0_findLinks 4 none 2 45 Y z [.ref (yo Y o), .ref (gad z a1)] d (none) d' := by
  refine MM.ofV (by decide +kernel) hL (Nat.le_of_ble_eq_true rfl) (fun K hl hC hr hQ hA => ?_)
  have hC : CK K Y cX0_findLinks 4 RX0 2 45 := hC
  have hkn : 0 ≤ (kR K).cells ∧ 0 ≤ (kR K).slots := ⟨Nat.zero_le _, Nat.zero_le _⟩
  unfold t_X0_findLinks at hf
  show V K Y 4 0 0 z d 0 [(0, .ref (yo Y o)), (1, .ref (gad z a1))] []
  refine V_aload_n 1 hC dX0_findLinks_0 rfl rfl ?_
  refine V_iconst (v := 0) hC dX0_findLinks_1 rfl ?_
  obtain ⟨d1, ed1, hf⟩ := bi_some hf
  refine V_insv (As := [.ref (gad z a1), .int 0]) (rest := []) hC (c_J7_fill_53178 hL ha1 ed1) me_J7_fill_53178 lk_X0_112 rfl rfl (Nat.le_of_ble_eq_true rfl) ⟨by decide, by decide⟩ hkn dX0_findLinks_2 ?_
  refine V_iconst (v := 0) hC dX0_findLinks_5 rfl ?_
  refine V_istore_n (lv' := [(2, .int 0), (0, .ref (yo Y o)), (1, .ref (gad z a1))]) hC dX0_findLinks_6 rfl (by decide) rfl ?_
  exact V_sub [1, 2, 0] rfl (lp_ind (X := Int32 × Dt) (P := fun x => V K Y 4 0 0 z x.2 7 [(0, .ref (yo Y o)), (1, .ref (gad z a1)), (2, .int x.1)] []) (fun k x hk hx => b_X0_findLinks_7 hC hr hA ho ha1 hQ  (k7 := fun x2 d => k (x2, d)) (fun x2 d hx => hk (x2, d) hx) x.1 x.2 hx) FU (0, d1) hf)
