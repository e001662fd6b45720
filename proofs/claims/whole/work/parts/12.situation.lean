/-! ===== ChoiceBook$Situation: lifted and met ===== -/
theorem fk_X2_38 : FLK RX2 38 2 0 RX2 TX2 9 := ⟨rfl, uw_X2, by decide, rfl, gt_t 138 (by decide +kernel) rfl⟩
theorem lk_X2_42 : Cond.methodLink RX2 42 yX0_copyFrom ∈ gt := gt_t 432 (by decide +kernel) rfl
theorem me_X0_copyFrom : MEV RX0 yX0_copyFrom cX0_copyFrom 2 none 1 := ⟨⟨gt_t 435 (by decide +kernel) rfl, gt_t 3 (by decide +kernel) rfl, by decide +kernel⟩, gt_t 433 (by decide +kernel) rfl, gt_t 434 (by decide +kernel) rfl⟩
theorem fk_X2_9 : FLK RX2 9 2 1 RX2 TX2 9 := ⟨rfl, uw_X2, by decide, rfl, gt_t 140 (by decide +kernel) rfl⟩
theorem ac_X2_48 : ACL RX2 48 := ⟨gt_t 873 (by decide +kernel) rfl, gt_t 438 (by decide +kernel) rfl, gt_t 437 (by decide +kernel) rfl, gt_t 11 (by decide +kernel) rfl⟩
theorem fk_X2_15 : FLK RX2 15 2 2 RX2 TX2 9 := ⟨rfl, uw_X2, by decide, rfl, gt_t 142 (by decide +kernel) rfl⟩
theorem fk_X2_19 : FLK RX2 19 2 3 RX2 TX2 9 := ⟨rfl, uw_X2, by decide, rfl, gt_t 144 (by decide +kernel) rfl⟩
theorem fk_X2_23 : FLK RX2 23 2 4 RX2 TX2 9 := ⟨rfl, uw_X2, by decide, rfl, gt_t 146 (by decide +kernel) rfl⟩
theorem fk_X2_26 : FLK RX2 26 2 5 RX2 TX2 9 := ⟨rfl, uw_X2, by decide, rfl, gt_t 148 (by decide +kernel) rfl⟩
theorem fk_X2_32 : FLK RX2 32 2 7 RX2 TX2 9 := ⟨rfl, uw_X2, by decide, rfl, gt_t 152 (by decide +kernel) rfl⟩
theorem lk_X2_54 : Cond.methodLink RX2 54 yJ7_fill_53178 ∈ gt := gt_t 606 (by decide +kernel) rfl
theorem lk_X2_60 : Cond.methodLink RX2 60 yX0_beginning ∈ gt := gt_t 609 (by decide +kernel) rfl
theorem me_X0_beginning : MEV RX0 yX0_beginning cX0_beginning 2 (some .int) 1 := ⟨⟨gt_t 521 (by decide +kernel) rfl, gt_t 3 (by decide +kernel) rfl, by decide +kernel⟩, gt_t 519 (by decide +kernel) rfl, gt_t 520 (by decide +kernel) rfl⟩
theorem lk_X2_64 : Cond.methodLink RX2 64 yX3_partOf ∈ gt := gt_t 634 (by decide +kernel) rfl
theorem lk_X2_69 : Cond.methodLink RX2 69 yX0_hasPart ∈ gt := gt_t 635 (by decide +kernel) rfl
theorem lk_X2_73 : Cond.methodLink RX2 73 yX0_goOn ∈ gt := gt_t 636 (by decide +kernel) rfl
theorem me_X0_goOn : MEV RX0 yX0_goOn cX0_goOn 4 (some .int) 3 := ⟨⟨gt_t 590 (by decide +kernel) rfl, gt_t 3 (by decide +kernel) rfl, by decide +kernel⟩, gt_t 588 (by decide +kernel) rfl, gt_t 589 (by decide +kernel) rfl⟩
theorem lk_X2_77 : Cond.methodLink RX2 77 yX0_standing ∈ gt := gt_t 614 (by decide +kernel) rfl
theorem me_X0_standing : MEV RX0 yX0_standing cX0_standing 2 (some .int) 1 := ⟨⟨gt_t 617 (by decide +kernel) rfl, gt_t 3 (by decide +kernel) rfl, by decide +kernel⟩, gt_t 615 (by decide +kernel) rfl, gt_t 616 (by decide +kernel) rfl⟩
theorem cl_X2_80 : Cond.constantLong RX2 80 (1103515245) ∈ gt := gt_t 647 (by decide +kernel) rfl
theorem cl_X2_82 : Cond.constantLong RX2 82 (12345) ∈ gt := gt_t 648 (by decide +kernel) rfl
theorem cl_X2_84 : Cond.constantLong RX2 84 (2147483647) ∈ gt := gt_t 649 (by decide +kernel) rfl
theorem ck_X2_86 : Cond.constant RX2 86 (65536) ∈ gt := gt_t 650 (by decide +kernel) rfl
theorem fk_X2_87 : FLK RX2 87 0 0 RX0 TX0 13 := ⟨rfl, uw_X0, by decide, rfl, gt_t 38 (by decide +kernel) rfl⟩
theorem fk_X2_35 : FLK RX2 35 2 8 RX2 TX2 9 := ⟨rfl, uw_X2, by decide, rfl, gt_t 153 (by decide +kernel) rfl⟩
theorem lk_X2_90 : Cond.methodLink RX2 90 yX0_lines ∈ gt := gt_t 829 (by decide +kernel) rfl
theorem me_X0_lines : MEV RX0 yX0_lines cX0_lines 2 (some .int) 1 := ⟨⟨gt_t 452 (by decide +kernel) rfl, gt_t 3 (by decide +kernel) rfl, by decide +kernel⟩, gt_t 450 (by decide +kernel) rfl, gt_t 451 (by decide +kernel) rfl⟩
theorem mm_X2_93 : MML RX2 93 Lib.Math.abs.name Lib.Math.abs.code 1 := ⟨gt_t 838 (by decide +kernel) rfl, gt_t 810 (by decide +kernel) rfl, gt_t 13 (by decide +kernel) rfl, gt_t 811 (by decide +kernel) rfl⟩
def t_X2_copyFrom (L : Nat → Nat) (d : Dt) (o : Nat) (o1 : Nat) : Option (Dt) := (t_X0_copyFrom L d (o + 4) (o1 + 4)).bind (fun d1 => gd (cpok (L (32 * o1 + 1)) (L (32 * o + 1)) 0 0 24) (bd (sR d1 (32 * o + 1) (va_cpy (gA d1 (32 * o1 + 1)) (gA d1 (32 * o + 1)) (ix 0) (ix 0) (ix 24))) (fun d3 => bd (sF d3 o 2 (gF d3 o1 2)) (fun d4 => gd (isB (gF d4 o1 3)) (bd (sF d4 o 3 (gF d4 o1 3)) (fun d5 => bd (sF d5 o 4 (gF d5 o1 4)) (fun d7 => bd (sF d7 o 5 (gF d7 o1 5)) (fun d8 => gd (cpok (L (32 * o1 + 7)) (L (32 * o + 7)) 0 0 576) (bd (sR d8 (32 * o + 7) (va_cpy (gA d8 (32 * o1 + 7)) (gA d8 (32 * o + 7)) (ix 0) (ix 0) (ix 576))) (fun d10 => some d10))))))))))
set_option maxRecDepth 20000 in
theorem c_X2_copyFrom {l : Launch} {Y : Yx} (hL : LAY Y) {z : Sh} {d : Dt} {o : Nat} {o1 : Nat} (ho : (0, o, 2) ∈ yI Y) (ho1 : (0, o1, 2) ∈ yI Y) {d' : Dt} (hf : t_X2_copyFrom z.1 d o o1 = some d') : MM l yX2_copyFrom cX2_copyFrom 2 none 2 81 Y z [.ref (yo Y o), .ref (yo Y o1)] d (none) d' := by
  refine MM.ofV (by decide +kernel) hL (Nat.le_of_ble_eq_true rfl) (fun K hl hC hr hQ hA => ?_)
  have hC : CK K Y cX2_copyFrom 2 RX2 2 81 := hC
  have hkn : 0 ≤ (kR K).cells ∧ 0 ≤ (kR K).slots := ⟨Nat.zero_le _, Nat.zero_le _⟩
  unfold t_X2_copyFrom at hf
  show V K Y 2 0 0 z d 0 [(0, .ref (yo Y o)), (1, .ref (yo Y o1))] []
  refine V_aload_n 0 hC dX2_copyFrom_0 rfl rfl ?_
  refine V_geto (o := o) (o2 := (o + 4)) hC ho rfl fk_X2_38 rfl dX2_copyFrom_1 ?_
  refine V_aload_n 1 hC dX2_copyFrom_4 rfl rfl ?_
  refine V_geto (o := o1) (o2 := (o1 + 4)) hC ho1 rfl fk_X2_38 rfl dX2_copyFrom_5 ?_
  obtain ⟨d1, ed1, hf⟩ := bi_some hf
  refine V_invv (o := (o + 4)) (As := [.ref (yo Y (o1 + 4))]) (rest := []) hC (c_X0_copyFrom hL (show (0, (o + 4), 0) ∈ yI Y from hL.obj (j := 0) ho rfl) (show (0, (o1 + 4), 0) ∈ yI Y from hL.obj (j := 0) ho1 rfl) ed1) me_X0_copyFrom lk_X2_42 (show (0, (o + 4), 0) ∈ yI Y from hL.obj (j := 0) ho rfl) rfl rfl rfl (Nat.le_of_ble_eq_true rfl) ⟨by decide, by decide⟩ hkn dX2_copyFrom_8 ?_
  refine V_aload_n 1 hC dX2_copyFrom_11 rfl rfl ?_
  refine V_geta (o := o1) hC ho1 rfl fk_X2_9 dX2_copyFrom_12 ?_
  refine V_iconst (v := 0) hC dX2_copyFrom_15 rfl ?_
  refine V_aload_n 0 hC dX2_copyFrom_16 rfl rfl ?_
  refine V_geta (o := o) hC ho rfl fk_X2_9 dX2_copyFrom_17 ?_
  refine V_iconst (v := 0) hC dX2_copyFrom_20 rfl ?_
  refine V_bipush (v := 24) hC dX2_copyFrom_21 rfl ?_
  obtain ⟨g2, hf⟩ := gd_some hf
  refine V_acopy (a := (32 * o1 + 1)) (b := (32 * o + 1)) hC ac_X2_48 (hL.row ho1 rfl) (hL.row ho rfl) g2 (by decide) (Nat.le_of_ble_eq_true rfl) dX2_copyFrom_23 (fun d3 ed3 => ?_)
  have hf := bd_e hf d3 ed3
  refine V_aload_n 0 hC dX2_copyFrom_26 rfl rfl ?_
  refine V_aload_n 1 hC dX2_copyFrom_27 rfl rfl ?_
  refine V_geti (o := o1) hC ho1 rfl fk_X2_15 dX2_copyFrom_28 ?_
  refine V_puti (o := o) hC ho rfl fk_X2_15 pl_X2 rfl rfl dX2_copyFrom_31 (fun d4 ed4 => ?_)
  have hf := bd_e hf d4 ed4
  refine V_aload_n 0 hC dX2_copyFrom_34 rfl rfl ?_
  refine V_aload_n 1 hC dX2_copyFrom_35 rfl rfl ?_
  refine V_geti (o := o1) hC ho1 rfl fk_X2_19 dX2_copyFrom_36 ?_
  obtain ⟨g6, hf⟩ := gd_some hf
  refine V_putz (o := o) hC ho rfl fk_X2_19 pl_X2 rfl rfl g6 dX2_copyFrom_39 (fun d5 ed5 => ?_)
  have hf := bd_e hf d5 ed5
  refine V_aload_n 0 hC dX2_copyFrom_42 rfl rfl ?_
  refine V_aload_n 1 hC dX2_copyFrom_43 rfl rfl ?_
  refine V_geti (o := o1) hC ho1 rfl fk_X2_23 dX2_copyFrom_44 ?_
  refine V_puti (o := o) hC ho rfl fk_X2_23 pl_X2 rfl rfl dX2_copyFrom_47 (fun d7 ed7 => ?_)
  have hf := bd_e hf d7 ed7
  refine V_aload_n 0 hC dX2_copyFrom_50 rfl rfl ?_
  refine V_aload_n 1 hC dX2_copyFrom_51 rfl rfl ?_
  refine V_geti (o := o1) hC ho1 rfl fk_X2_26 dX2_copyFrom_52 ?_
  refine V_puti (o := o) hC ho rfl fk_X2_26 pl_X2 rfl rfl dX2_copyFrom_55 (fun d8 ed8 => ?_)
  have hf := bd_e hf d8 ed8
  refine V_aload_n 1 hC dX2_copyFrom_58 rfl rfl ?_
  refine V_geta (o := o1) hC ho1 rfl fk_X2_32 dX2_copyFrom_59 ?_
  refine V_iconst (v := 0) hC dX2_copyFrom_62 rfl ?_
  refine V_aload_n 0 hC dX2_copyFrom_63 rfl rfl ?_
  refine V_geta (o := o) hC ho rfl fk_X2_32 dX2_copyFrom_64 ?_
  refine V_iconst (v := 0) hC dX2_copyFrom_67 rfl ?_
  refine V_sipush (v := 576) hC dX2_copyFrom_68 rfl ?_
  obtain ⟨g9, hf⟩ := gd_some hf
  refine V_acopy (a := (32 * o1 + 7)) (b := (32 * o + 7)) hC ac_X2_48 (hL.row ho1 rfl) (hL.row ho rfl) g9 (by decide) (Nat.le_of_ble_eq_true rfl) dX2_copyFrom_71 (fun d10 ed10 => ?_)
  have hf := bd_e hf d10 ed10
  obtain rfl := so_inj hf
  exact V_vret hC hr hQ hA dX2_copyFrom_74
def t_X2_openBook_15 (L : Nat → Nat) (o : Nat) (o1 : Nat) (k15 : Int32 → (Dt) → Option (Dt)) (x2 : Int32) (d : Dt) : Option (Dt) := if 24 ≤ x2 then some d else gd (inb x2 (L (32 * o + 1))) (bd (sA d (32 * o + 1) (ix x2) (x2 + 1)) (fun d5 => k15 (x2 + 1) d5))
set_option maxRecDepth 20000 in
theorem b_X2_openBook_15 {K : Kx} {Y : Yx} {z : Sh}  (hC : CK K Y cX2_openBook 3 RX2 2 81) (hr : (kme K).sig.returnType = none) (hA : kA K = aY Y z) {o : Nat} {o1 : Nat} (ho : (0, o, 2) ∈ yI Y) (ho1 : (0, o1, 0) ∈ yI Y) {d' : Dt} (hQ : kQ K = MQ (kb K) (QM Y z (none) d') (ka K) (ks K) 0 0 (aY Y z)) {k15 : Int32 → (Dt) → Option (Dt)} (hk15 : ∀ (x2 : Int32) (d : Dt), k15 x2 d = some d' → V K Y 3 0 0 z d 15 [(0, .ref (yo Y o)), (2, .int x2)] []) (x2 : Int32) (d : Dt) (hf : t_X2_openBook_15 z.1 o o1 k15 x2 d = some d') : V K Y 3 0 0 z d 15 [(0, .ref (yo Y o)), (2, .int x2)] [] := by
  have hL := hC.2.2.2.2.2.2.1
  unfold t_X2_openBook_15 at hf
  refine V_iload_n 1 hC dX2_openBook_15 rfl rfl ?_
  refine V_bipush (v := 24) hC dX2_openBook_16 rfl ?_
  refine V_icmp_ge (tgt := 36) hC dX2_openBook_18 (by decide) (fun c3 => ?_) (fun c3 => ?_)
  · have hf := if_t hf c3
    obtain rfl := so_inj hf
    exact V_vret hC hr hQ hA dX2_openBook_36
  · have hf := if_f hf c3
    refine V_aload_n 0 hC dX2_openBook_21 rfl rfl ?_
    refine V_geta (o := o) hC ho rfl fk_X2_9 dX2_openBook_22 ?_
    refine V_iload_n 1 hC dX2_openBook_25 rfl rfl ?_
    refine V_iload_n 1 hC dX2_openBook_26 rfl rfl ?_
    refine V_iconst (v := 1) hC dX2_openBook_27 rfl ?_
    refine V_iadd hC dX2_openBook_28 ?_
    obtain ⟨g4, hf⟩ := gd_some hf
    refine V_iast (a := (32 * o + 1)) hC (hL.row ho rfl) g4 dX2_openBook_29 (fun d5 ed5 => ?_)
    have hf := bd_e hf d5 ed5
    refine V_iinc (v := x2 + 1) (lv' := [(2, .int (x2 + 1)), (0, .ref (yo Y o))]) 1 hC dX2_openBook_30 rfl rfl (by decide) rfl ?_
    refine V_goto (tgt := 15) hC dX2_openBook_33 (by decide) ?_
    exact V_sub [1, 0] rfl (hk15 (x2 + 1) d5 hf)
def t_X2_openBook (L : Nat → Nat) (d : Dt) (o : Nat) (o1 : Nat) : Option (Dt) := (t_X0_copyFrom L d (o + 4) o1).bind (fun d1 => bd (sF d1 o 3 0) (fun d2 => lp (fun k x => t_X2_openBook_15 L o o1  (fun x2 d => k (x2, d)) x.1 x.2) FU (0, d2)))
set_option maxRecDepth 20000 in
theorem c_X2_openBook {l : Launch} {Y : Yx} (hL : LAY Y) {z : Sh} {d : Dt} {o : Nat} {o1 : Nat} (ho : (0, o, 2) ∈ yI Y) (ho1 : (0, o1, 0) ∈ yI Y) {d' : Dt} (hf : t_X2_openBook z.1 d o o1 = some d') : MM l yX2_openBook cX2_openBook 3 none 2 81 Y z [.ref (yo Y o), .ref (yo Y o1)] d (none) d' := by
  refine MM.ofV (by decide +kernel) hL (Nat.le_of_ble_eq_true rfl) (fun K hl hC hr hQ hA => ?_)
  have hC : CK K Y cX2_openBook 3 RX2 2 81 := hC
  have hkn : 0 ≤ (kR K).cells ∧ 0 ≤ (kR K).slots := ⟨Nat.zero_le _, Nat.zero_le _⟩
  unfold t_X2_openBook at hf
  show V K Y 3 0 0 z d 0 [(0, .ref (yo Y o)), (1, .ref (yo Y o1))] []
  refine V_aload_n 0 hC dX2_openBook_0 rfl rfl ?_
  refine V_geto (o := o) (o2 := (o + 4)) hC ho rfl fk_X2_38 rfl dX2_openBook_1 ?_
  refine V_aload_n 1 hC dX2_openBook_4 rfl rfl ?_
  obtain ⟨d1, ed1, hf⟩ := bi_some hf
  refine V_invv (o := (o + 4)) (As := [.ref (yo Y o1)]) (rest := []) hC (c_X0_copyFrom hL (show (0, (o + 4), 0) ∈ yI Y from hL.obj (j := 0) ho rfl) ho1 ed1) me_X0_copyFrom lk_X2_42 (show (0, (o + 4), 0) ∈ yI Y from hL.obj (j := 0) ho rfl) rfl rfl rfl (Nat.le_of_ble_eq_true rfl) ⟨by decide, by decide⟩ hkn dX2_openBook_5 ?_
  refine V_aload_n 0 hC dX2_openBook_8 rfl rfl ?_
  refine V_iconst (v := 0) hC dX2_openBook_9 rfl ?_
  refine V_putz (o := o) hC ho rfl fk_X2_19 pl_X2 rfl rfl rfl dX2_openBook_10 (fun d2 ed2 => ?_)
  have hf := bd_e hf d2 ed2
  refine V_iconst (v := 0) hC dX2_openBook_13 rfl ?_
  refine V_istore_n (lv' := [(2, .int 0), (0, .ref (yo Y o)), (1, .ref (yo Y o1))]) hC dX2_openBook_14 rfl (by decide) rfl ?_
  exact V_sub [1, 0] rfl (lp_ind (X := Int32 × Dt) (P := fun x => V K Y 3 0 0 z x.2 15 [(0, .ref (yo Y o)), (2, .int x.1)] []) (fun k x hk hx => b_X2_openBook_15 hC hr hA ho ho1 hQ  (k15 := fun x2 d => k (x2, d)) (fun x2 d hx => hk (x2, d) hx) x.1 x.2 hx) FU (0, d2) hf)
def t_X2_beginReading (L : Nat → Nat) (d : Dt) (o : Nat) : Option (Dt) := bd (sF d o 3 1) (fun d1 => bd (sF d1 o 5 0) (fun d2 => (t_J7_fill_53178 L d2 (32 * o + 7) 0).bind (fun d3 => (t_X0_beginning L d3 (o + 4) (-1)).bind (fun v4 => bd (sF d3 o 4 v4) (fun d5 => some d5)))))
set_option maxRecDepth 20000 in
theorem c_X2_beginReading {l : Launch} {Y : Yx} (hL : LAY Y) {z : Sh} {d : Dt} {o : Nat} (ho : (0, o, 2) ∈ yI Y) {d' : Dt} (hf : t_X2_beginReading z.1 d o = some d') : MM l yX2_beginReading cX2_beginReading 1 none 3 72 Y z [.ref (yo Y o)] d (none) d' := by
  refine MM.ofV (by decide +kernel) hL (Nat.le_of_ble_eq_true rfl) (fun K hl hC hr hQ hA => ?_)
  have hC : CK K Y cX2_beginReading 1 RX2 3 72 := hC
  have hkn : 0 ≤ (kR K).cells ∧ 0 ≤ (kR K).slots := ⟨Nat.zero_le _, Nat.zero_le _⟩
  unfold t_X2_beginReading at hf
  show V K Y 1 0 0 z d 0 [(0, .ref (yo Y o))] []
  refine V_aload_n 0 hC dX2_beginReading_0 rfl rfl ?_
  refine V_iconst (v := 1) hC dX2_beginReading_1 rfl ?_
  refine V_putz (o := o) hC ho rfl fk_X2_19 pl_X2 rfl rfl rfl dX2_beginReading_2 (fun d1 ed1 => ?_)
  have hf := bd_e hf d1 ed1
  refine V_aload_n 0 hC dX2_beginReading_5 rfl rfl ?_
  refine V_iconst (v := 0) hC dX2_beginReading_6 rfl ?_
  refine V_puti (o := o) hC ho rfl fk_X2_26 pl_X2 rfl rfl dX2_beginReading_7 (fun d2 ed2 => ?_)
  have hf := bd_e hf d2 ed2
  refine V_aload_n 0 hC dX2_beginReading_10 rfl rfl ?_
  refine V_geta (o := o) hC ho rfl fk_X2_32 dX2_beginReading_11 ?_
  refine V_iconst (v := 0) hC dX2_beginReading_14 rfl ?_
  obtain ⟨d3, ed3, hf⟩ := bi_some hf
  refine V_insv (As := [.ref (gad z (32 * o + 7)), .int 0]) (rest := []) hC (c_J7_fill_53178 hL (hL.row ho rfl) ed3) me_J7_fill_53178 lk_X2_54 rfl rfl (Nat.le_of_ble_eq_true rfl) ⟨by decide, by decide⟩ hkn dX2_beginReading_15 ?_
  refine V_aload_n 0 hC dX2_beginReading_18 rfl rfl ?_
  refine V_aload_n 0 hC dX2_beginReading_19 rfl rfl ?_
  refine V_geto (o := o) (o2 := (o + 4)) hC ho rfl fk_X2_38 rfl dX2_beginReading_20 ?_
  refine V_iconst (v := -1) hC dX2_beginReading_23 rfl ?_
  obtain ⟨v4, ev4, hf⟩ := bi_some hf
  refine V_invi (o := (o + 4)) (As := [.int (-1)]) (rest := [.ref (yo Y o)]) hC (c_X0_beginning hL (show (0, (o + 4), 0) ∈ yI Y from hL.obj (j := 0) ho rfl) ev4) me_X0_beginning lk_X2_60 (show (0, (o + 4), 0) ∈ yI Y from hL.obj (j := 0) ho rfl) rfl rfl rfl (Nat.le_of_ble_eq_true rfl) ⟨by decide, by decide⟩ hkn dX2_beginReading_24 ?_
  refine V_puti (o := o) hC ho rfl fk_X2_23 pl_X2 rfl rfl dX2_beginReading_27 (fun d5 ed5 => ?_)
  have hf := bd_e hf d5 ed5
  obtain rfl := so_inj hf
  exact V_vret hC hr hQ hA dX2_beginReading_30
def t_X2_turnTo (L : Nat → Nat) (d : Dt) (o : Nat) (p1 : Int32) : Option (Dt) := (t_X3_partOf L d (gF d o 4)).bind (fun v1 => (t_X0_hasPart L d (o + 4) v1).bind (fun v2 => if v2 = 0 then some d else (t_X0_hasPart L d (o + 4) p1).bind (fun v4 => if v4 = 0 then some d else gd (inb ((v1 * 24) + p1) (L (32 * o + 7))) (gd (inb ((v1 * 24) + p1) (L (32 * o + 7))) (bd (sA d (32 * o + 7) (ix ((v1 * 24) + p1)) ((gA d (32 * o + 7) (ix ((v1 * 24) + p1))) + 1)) (fun d8 => bd (sF d8 o 5 ((gF d8 o 5) + 1)) (fun d9 => (t_X0_goOn L d9 (o + 4) (gF d9 o 4) p1 (-1)).bind (fun v10 => bd (sF d9 o 4 v10) (fun d11 => some d11)))))))))
set_option maxRecDepth 20000 in
theorem c_X2_turnTo {l : Launch} {Y : Yx} (hL : LAY Y) {z : Sh} {d : Dt} {o : Nat} {p1 : Int32} (ho : (0, o, 2) ∈ yI Y) {d' : Dt} (hf : t_X2_turnTo z.1 d o p1 = some d') : MM l yX2_turnTo cX2_turnTo 3 none 3 74 Y z [.ref (yo Y o), .int p1] d (none) d' := by
  refine MM.ofV (by decide +kernel) hL (Nat.le_of_ble_eq_true rfl) (fun K hl hC hr hQ hA => ?_)
  have hC : CK K Y cX2_turnTo 3 RX2 3 74 := hC
  have hkn : 0 ≤ (kR K).cells ∧ 0 ≤ (kR K).slots := ⟨Nat.zero_le _, Nat.zero_le _⟩
  unfold t_X2_turnTo at hf
  show V K Y 3 0 0 z d 0 [(0, .ref (yo Y o)), (1, .int p1)] []
  refine V_aload_n 0 hC dX2_turnTo_0 rfl rfl ?_
  refine V_geti (o := o) hC ho rfl fk_X2_23 dX2_turnTo_1 ?_
  obtain ⟨v1, ev1, hf⟩ := bi_some hf
  refine V_insi (As := [.int (gF d o 4)]) (rest := []) hC (c_X3_partOf hL  ev1) me_X3_partOf lk_X2_64 rfl rfl (Nat.le_of_ble_eq_true rfl) ⟨by decide, by decide⟩ hkn dX2_turnTo_4 ?_
  refine V_istore_n (lv' := [(2, .int v1), (0, .ref (yo Y o)), (1, .int p1)]) hC dX2_turnTo_7 rfl (by decide) rfl ?_
  refine V_aload_n 1 hC dX2_turnTo_8 rfl rfl ?_
  refine V_geto (o := o) (o2 := (o + 4)) hC ho rfl fk_X2_38 rfl dX2_turnTo_9 ?_
  refine V_iload_n 0 hC dX2_turnTo_12 rfl rfl ?_
  obtain ⟨v2, ev2, hf⟩ := bi_some hf
  refine V_invi (o := (o + 4)) (As := [.int v1]) (rest := []) hC (c_X0_hasPart hL (show (0, (o + 4), 0) ∈ yI Y from hL.obj (j := 0) ho rfl) ev2) me_X0_hasPart lk_X2_69 (show (0, (o + 4), 0) ∈ yI Y from hL.obj (j := 0) ho rfl) rfl rfl rfl (Nat.le_of_ble_eq_true rfl) ⟨by decide, by decide⟩ hkn dX2_turnTo_13 ?_
  refine V_if_eq (tgt := 30) hC dX2_turnTo_16 (by decide) (fun c3 => ?_) (fun c3 => ?_)
  · have hf := if_t hf c3
    obtain rfl := so_inj hf
    exact V_vret hC hr hQ hA dX2_turnTo_30
  · have hf := if_f hf c3
    refine V_aload_n 1 hC dX2_turnTo_19 rfl rfl ?_
    refine V_geto (o := o) (o2 := (o + 4)) hC ho rfl fk_X2_38 rfl dX2_turnTo_20 ?_
    refine V_iload_n 2 hC dX2_turnTo_23 rfl rfl ?_
    obtain ⟨v4, ev4, hf⟩ := bi_some hf
    refine V_invi (o := (o + 4)) (As := [.int p1]) (rest := []) hC (c_X0_hasPart hL (show (0, (o + 4), 0) ∈ yI Y from hL.obj (j := 0) ho rfl) ev4) me_X0_hasPart lk_X2_69 (show (0, (o + 4), 0) ∈ yI Y from hL.obj (j := 0) ho rfl) rfl rfl rfl (Nat.le_of_ble_eq_true rfl) ⟨by decide, by decide⟩ hkn dX2_turnTo_24 ?_
    refine V_if_ne (tgt := 31) hC dX2_turnTo_27 (by decide) (fun c5 => ?_) (fun c5 => ?_)
    · have hf := if_f hf c5
      refine V_aload_n 1 hC dX2_turnTo_31 rfl rfl ?_
      refine V_geta (o := o) hC ho rfl fk_X2_32 dX2_turnTo_32 ?_
      refine V_iload_n 0 hC dX2_turnTo_35 rfl rfl ?_
      refine V_bipush (v := 24) hC dX2_turnTo_36 rfl ?_
      refine V_imul hC dX2_turnTo_38 ?_
      refine V_iload_n 2 hC dX2_turnTo_39 rfl rfl ?_
      refine V_iadd hC dX2_turnTo_40 ?_
      refine V_dup2 hC dX2_turnTo_41 rfl rfl ?_
      obtain ⟨g6, hf⟩ := gd_some hf
      refine V_iald (a := (32 * o + 7)) hC (hL.row ho rfl) g6 dX2_turnTo_42 ?_
      refine V_iconst (v := 1) hC dX2_turnTo_43 rfl ?_
      refine V_iadd hC dX2_turnTo_44 ?_
      obtain ⟨g7, hf⟩ := gd_some hf
      refine V_iast (a := (32 * o + 7)) hC (hL.row ho rfl) g7 dX2_turnTo_45 (fun d8 ed8 => ?_)
      have hf := bd_e hf d8 ed8
      refine V_aload_n 1 hC dX2_turnTo_46 rfl rfl ?_
      refine V_dup hC dX2_turnTo_47 rfl ?_
      refine V_geti (o := o) hC ho rfl fk_X2_26 dX2_turnTo_48 ?_
      refine V_iconst (v := 1) hC dX2_turnTo_51 rfl ?_
      refine V_iadd hC dX2_turnTo_52 ?_
      refine V_puti (o := o) hC ho rfl fk_X2_26 pl_X2 rfl rfl dX2_turnTo_53 (fun d9 ed9 => ?_)
      have hf := bd_e hf d9 ed9
      refine V_aload_n 1 hC dX2_turnTo_56 rfl rfl ?_
      refine V_aload_n 1 hC dX2_turnTo_57 rfl rfl ?_
      refine V_geto (o := o) (o2 := (o + 4)) hC ho rfl fk_X2_38 rfl dX2_turnTo_58 ?_
      refine V_aload_n 1 hC dX2_turnTo_61 rfl rfl ?_
      refine V_geti (o := o) hC ho rfl fk_X2_23 dX2_turnTo_62 ?_
      refine V_iload_n 2 hC dX2_turnTo_65 rfl rfl ?_
      refine V_iconst (v := -1) hC dX2_turnTo_66 rfl ?_
      obtain ⟨v10, ev10, hf⟩ := bi_some hf
      refine V_invi (o := (o + 4)) (As := [.int (gF d9 o 4), .int p1, .int (-1)]) (rest := [.ref (yo Y o)]) hC (c_X0_goOn hL (show (0, (o + 4), 0) ∈ yI Y from hL.obj (j := 0) ho rfl) ev10) me_X0_goOn lk_X2_73 (show (0, (o + 4), 0) ∈ yI Y from hL.obj (j := 0) ho rfl) rfl rfl rfl (Nat.le_of_ble_eq_true rfl) ⟨by decide, by decide⟩ hkn dX2_turnTo_67 ?_
      refine V_puti (o := o) hC ho rfl fk_X2_23 pl_X2 rfl rfl dX2_turnTo_70 (fun d11 ed11 => ?_)
      have hf := bd_e hf d11 ed11
      obtain rfl := so_inj hf
      exact V_vret hC hr hQ hA dX2_turnTo_73
    · have hf := if_t hf c5
      obtain rfl := so_inj hf
      exact V_vret hC hr hQ hA dX2_turnTo_30
def t_X2_standing (L : Nat → Nat) (d : Dt) (o : Nat) : Option (Int32) := (t_X0_standing L d (o + 4) (gF d o 4)).bind (fun v1 => some v1)
set_option maxRecDepth 20000 in
theorem c_X2_standing {l : Launch} {Y : Yx} (hL : LAY Y) {z : Sh} {d : Dt} {o : Nat} (ho : (0, o, 2) ∈ yI Y) {r : Int32} (hf : t_X2_standing z.1 d o = some r) : MM l yX2_standing cX2_standing 1 (some .int) 5 114 Y z [.ref (yo Y o)] d (some (.int r)) d := by
  refine MM.ofV (by decide +kernel) hL (Nat.le_of_ble_eq_true rfl) (fun K hl hC hr hQ hA => ?_)
  have hC : CK K Y cX2_standing 1 RX2 5 114 := hC
  have hkn : 0 ≤ (kR K).cells ∧ 0 ≤ (kR K).slots := ⟨Nat.zero_le _, Nat.zero_le _⟩
  unfold t_X2_standing at hf
  show V K Y 1 0 0 z d 0 [(0, .ref (yo Y o))] []
  refine V_aload_n 0 hC dX2_standing_0 rfl rfl ?_
  refine V_geto (o := o) (o2 := (o + 4)) hC ho rfl fk_X2_38 rfl dX2_standing_1 ?_
  refine V_aload_n 0 hC dX2_standing_4 rfl rfl ?_
  refine V_geti (o := o) hC ho rfl fk_X2_23 dX2_standing_5 ?_
  obtain ⟨v1, ev1, hf⟩ := bi_some hf
  refine V_invi (o := (o + 4)) (As := [.int (gF d o 4)]) (rest := []) hC (c_X0_standing hL (show (0, (o + 4), 0) ∈ yI Y from hL.obj (j := 0) ho rfl) ev1) me_X0_standing lk_X2_77 (show (0, (o + 4), 0) ∈ yI Y from hL.obj (j := 0) ho rfl) rfl rfl rfl (Nat.le_of_ble_eq_true rfl) ⟨by decide, by decide⟩ hkn dX2_standing_8 ?_
  obtain rfl := so_inj hf
  exact V_iret hC hr hQ hA dX2_standing_11
def t_X2_draw (L : Nat → Nat) (d : Dt) (o : Nat) (p1 : Int32) : Option (Int32 × Dt) := bd (sF d o 2 ((((((gF d o 2 : Int32).toInt64) * 1103515245) + 12345) &&& 2147483647 : Int64).toInt32)) (fun d1 => if p1 ≤ 0 then some (0, d1) else gd (!decide (p1 = 0)) (some (((gF d1 o 2) / 65536) - ((gF d1 o 2) / 65536) / p1 * p1, d1)))
set_option maxRecDepth 20000 in
theorem c_X2_draw {l : Launch} {Y : Yx} (hL : LAY Y) {z : Sh} {d : Dt} {o : Nat} {p1 : Int32} (ho : (0, o, 2) ∈ yI Y) {r : Int32} {d' : Dt} (hf : t_X2_draw z.1 d o p1 = some (r, d')) : MM l yX2_draw cX2_draw 2 (some .int) 0 0 Y z [.ref (yo Y o), .int p1] d (some (.int r)) d' := by
  refine MM.ofV (by decide +kernel) hL (Nat.le_of_ble_eq_true rfl) (fun K hl hC hr hQ hA => ?_)
  have hC : CK K Y cX2_draw 2 RX2 0 0 := hC
  unfold t_X2_draw at hf
  show V K Y 2 0 0 z d 0 [(0, .ref (yo Y o)), (1, .int p1)] []
  refine V_aload_n 0 hC dX2_draw_0 rfl rfl ?_
  refine V_aload_n 0 hC dX2_draw_1 rfl rfl ?_
  refine V_geti (o := o) hC ho rfl fk_X2_15 dX2_draw_2 ?_
  refine V_i2l hC dX2_draw_5 ?_
  refine V_ldc2 hC cl_X2_80 dX2_draw_6 ?_
  refine V_lmul hC dX2_draw_9 ?_
  refine V_ldc2 hC cl_X2_82 dX2_draw_10 ?_
  refine V_ladd hC dX2_draw_13 ?_
  refine V_ldc2 hC cl_X2_84 dX2_draw_14 ?_
  refine V_land hC dX2_draw_17 ?_
  refine V_l2i hC dX2_draw_18 ?_
  refine V_puti (o := o) hC ho rfl fk_X2_15 pl_X2 rfl rfl dX2_draw_19 (fun d1 ed1 => ?_)
  have hf := bd_e hf d1 ed1
  refine V_iload_n 1 hC dX2_draw_22 rfl rfl ?_
  refine V_if_le (tgt := 38) hC dX2_draw_23 (by decide) (fun c2 => ?_) (fun c2 => ?_)
  · have hf := if_t hf c2
    refine V_iconst (v := 0) hC dX2_draw_38 rfl ?_
    obtain ⟨rfl, rfl⟩ := so_inj2 hf
    exact V_iret hC hr hQ hA dX2_draw_39
  · have hf := if_f hf c2
    refine V_aload_n 0 hC dX2_draw_26 rfl rfl ?_
    refine V_geti (o := o) hC ho rfl fk_X2_15 dX2_draw_27 ?_
    refine V_ldc hC ck_X2_86 dX2_draw_30 ?_
    refine V_idiv hC dX2_draw_32 (by decide) ?_
    refine V_iload_n 1 hC dX2_draw_33 rfl rfl ?_
    obtain ⟨g4, hf⟩ := gd_some hf
    refine V_irem hC dX2_draw_34 (by simpa using g4) ?_
    refine V_goto (tgt := 39) hC dX2_draw_35 (by decide) ?_
    obtain ⟨rfl, rfl⟩ := so_inj2 hf
    exact V_iret hC hr hQ hA dX2_draw_39
def t_X2_layPages_122 (L : Nat → Nat) (o : Nat) (p1 : Int32) (a2 : Nat) (k63 : Int32 → Int32 → Int32 → (Dt) → Option (Dt)) (x3 : Int32) (x4 : Int32) (x5 : Int32) (x6 : Int32) (x7 : Int32) (d : Dt) : Option (Dt) := bd (x4 + x7) (fun y16 => gd (inb x6 (L a2)) (bd (sA d a2 (ix x6) x3) (fun d18 => k63 x3 y16 (x5 + 1) d18)))
set_option maxRecDepth 20000 in
theorem b_X2_layPages_122 {K : Kx} {Y : Yx} {z : Sh}  (hC : CK K Y cX2_layPages 8 RX2 2 42) (hr : (kme K).sig.returnType = none) (hA : kA K = aY Y z) {o : Nat} {p1 : Int32} {a2 : Nat} (ho : (0, o, 2) ∈ yI Y) (ha2 : (1, a2, 0) ∈ yI Y) {d' : Dt} (hQ : kQ K = MQ (kb K) (QM Y z (none) d') (ka K) (ks K) 0 0 (aY Y z)) {k63 : Int32 → Int32 → Int32 → (Dt) → Option (Dt)} (hk63 : ∀ (x3 : Int32) (x4 : Int32) (x5 : Int32) (d : Dt), k63 x3 x4 x5 d = some d' → V K Y 8 0 0 z d 63 [(0, .ref (yo Y o)), (1, .int p1), (2, .ref (gad z a2)), (3, .int x3), (4, .int x4), (5, .int x5)] []) (x3 : Int32) (x4 : Int32) (x5 : Int32) (x6 : Int32) (x7 : Int32) (d : Dt) (hf : t_X2_layPages_122 z.1 o p1 a2 k63 x3 x4 x5 x6 x7 d = some d') : V K Y 8 0 0 z d 122 [(0, .ref (yo Y o)), (1, .int p1), (2, .ref (gad z a2)), (3, .int x3), (4, .int x4), (5, .int x5), (6, .int x6), (7, .int x7)] [] := by
  have hL := hC.2.2.2.2.2.2.1
  unfold t_X2_layPages_122 at hf
  refine V_iload 4 hC dX2_layPages_122 rfl ?_
  refine V_iload 7 hC dX2_layPages_124 rfl ?_
  refine V_iadd hC dX2_layPages_126 ?_
  refine V_topi (fun y16 ey16 => ?_)
  have hf := bd_e hf y16 ey16
  refine V_istore (lv' := [(4, .int y16), (0, .ref (yo Y o)), (1, .int p1), (2, .ref (gad z a2)), (3, .int x3), (5, .int x5), (6, .int x6), (7, .int x7)]) hC dX2_layPages_127 (by decide) rfl ?_
  refine V_aload_n 3 hC dX2_layPages_129 rfl rfl ?_
  refine V_iload 6 hC dX2_layPages_130 rfl ?_
  refine V_iload_n 4 hC dX2_layPages_132 rfl rfl ?_
  obtain ⟨g17, hf⟩ := gd_some hf
  refine V_iast (a := a2) hC ha2 g17 dX2_layPages_133 (fun d18 ed18 => ?_)
  have hf := bd_e hf d18 ed18
  refine V_iinc (v := x5 + 1) (lv' := [(5, .int (x5 + 1)), (4, .int y16), (0, .ref (yo Y o)), (1, .int p1), (2, .ref (gad z a2)), (3, .int x3), (6, .int x6), (7, .int x7)]) 5 hC dX2_layPages_134 rfl rfl (by decide) rfl ?_
  refine V_goto (tgt := 63) hC dX2_layPages_137 (by decide) ?_
  exact V_sub [2, 3, 4, 5, 1, 0] rfl (hk63 x3 y16 (x5 + 1) d18 hf)
def t_X2_layPages_63 (L : Nat → Nat) (o : Nat) (p1 : Int32) (a2 : Nat) (k63 : Int32 → Int32 → Int32 → (Dt) → Option (Dt)) (x3 : Int32) (x4 : Int32) (x5 : Int32) (d : Dt) : Option (Dt) := if (gF d (o + 4) 0) ≤ x5 then some d else if 24 ≤ x5 then some d else gd (inb x5 (L (32 * o + 8))) (bd (gA d (32 * o + 8) (ix x5)) (fun y12 => (t_X0_lines L d (o + 4) y12).bind (fun v13 => if x4 ≤ 0 then t_X2_layPages_122 L o p1 a2 k63 x3 x4 x5 y12 v13 d else if (x4 + v13) ≤ p1 then t_X2_layPages_122 L o p1 a2 k63 x3 x4 x5 y12 v13 d else t_X2_layPages_122 L o p1 a2 k63 (x3 + 1) 0 x5 y12 v13 d)))
set_option maxRecDepth 20000 in
theorem b_X2_layPages_63 {K : Kx} {Y : Yx} {z : Sh}  (hC : CK K Y cX2_layPages 8 RX2 2 42) (hr : (kme K).sig.returnType = none) (hA : kA K = aY Y z) {o : Nat} {p1 : Int32} {a2 : Nat} (ho : (0, o, 2) ∈ yI Y) (ha2 : (1, a2, 0) ∈ yI Y) {d' : Dt} (hQ : kQ K = MQ (kb K) (QM Y z (none) d') (ka K) (ks K) 0 0 (aY Y z)) {k63 : Int32 → Int32 → Int32 → (Dt) → Option (Dt)} (hk63 : ∀ (x3 : Int32) (x4 : Int32) (x5 : Int32) (d : Dt), k63 x3 x4 x5 d = some d' → V K Y 8 0 0 z d 63 [(0, .ref (yo Y o)), (1, .int p1), (2, .ref (gad z a2)), (3, .int x3), (4, .int x4), (5, .int x5)] []) (x3 : Int32) (x4 : Int32) (x5 : Int32) (d : Dt) (hf : t_X2_layPages_63 z.1 o p1 a2 k63 x3 x4 x5 d = some d') : V K Y 8 0 0 z d 63 [(0, .ref (yo Y o)), (1, .int p1), (2, .ref (gad z a2)), (3, .int x3), (4, .int x4), (5, .int x5)] [] := by
  have hL := hC.2.2.2.2.2.2.1
  have hkn : 0 ≤ (kR K).cells ∧ 0 ≤ (kR K).slots := ⟨Nat.zero_le _, Nat.zero_le _⟩
  unfold t_X2_layPages_63 at hf
  refine V_iload 5 hC dX2_layPages_63 rfl ?_
  refine V_aload_n 0 hC dX2_layPages_65 rfl rfl ?_
  refine V_geto (o := o) (o2 := (o + 4)) hC ho rfl fk_X2_38 rfl dX2_layPages_66 ?_
  refine V_geti (o := (o + 4)) hC (show (0, (o + 4), 0) ∈ yI Y from hL.obj (j := 0) ho rfl) rfl fk_X2_87 dX2_layPages_69 ?_
  refine V_icmp_ge (tgt := 140) hC dX2_layPages_72 (by decide) (fun c9 => ?_) (fun c9 => ?_)
  · have hf := if_t hf c9
    obtain rfl := so_inj hf
    exact V_vret hC hr hQ hA dX2_layPages_140
  · have hf := if_f hf c9
    refine V_iload 5 hC dX2_layPages_75 rfl ?_
    refine V_bipush (v := 24) hC dX2_layPages_77 rfl ?_
    refine V_icmp_ge (tgt := 140) hC dX2_layPages_79 (by decide) (fun c10 => ?_) (fun c10 => ?_)
    · have hf := if_t hf c10
      obtain rfl := so_inj hf
      exact V_vret hC hr hQ hA dX2_layPages_140
    · have hf := if_f hf c10
      refine V_aload_n 0 hC dX2_layPages_82 rfl rfl ?_
      refine V_geta (o := o) hC ho rfl fk_X2_35 dX2_layPages_83 ?_
      refine V_iload 5 hC dX2_layPages_86 rfl ?_
      obtain ⟨g11, hf⟩ := gd_some hf
      refine V_iald (a := (32 * o + 8)) hC (hL.row ho rfl) g11 dX2_layPages_88 ?_
      refine V_topi (fun y12 ey12 => ?_)
      have hf := bd_e hf y12 ey12
      refine V_istore (lv' := [(6, .int y12), (0, .ref (yo Y o)), (1, .int p1), (2, .ref (gad z a2)), (3, .int x3), (4, .int x4), (5, .int x5)]) hC dX2_layPages_89 (by decide) rfl ?_
      refine V_aload_n 1 hC dX2_layPages_91 rfl rfl ?_
      refine V_geto (o := o) (o2 := (o + 4)) hC ho rfl fk_X2_38 rfl dX2_layPages_92 ?_
      refine V_iload 0 hC dX2_layPages_95 rfl ?_
      obtain ⟨v13, ev13, hf⟩ := bi_some hf
      refine V_invi (o := (o + 4)) (As := [.int y12]) (rest := []) hC (c_X0_lines hL (show (0, (o + 4), 0) ∈ yI Y from hL.obj (j := 0) ho rfl) ev13) me_X0_lines lk_X2_90 (show (0, (o + 4), 0) ∈ yI Y from hL.obj (j := 0) ho rfl) rfl rfl rfl (Nat.le_of_ble_eq_true rfl) ⟨by decide, by decide⟩ hkn dX2_layPages_97 ?_
      refine V_istore (lv' := [(7, .int v13), (6, .int y12), (0, .ref (yo Y o)), (1, .int p1), (2, .ref (gad z a2)), (3, .int x3), (4, .int x4), (5, .int x5)]) hC dX2_layPages_100 (by decide) rfl ?_
      refine V_iload 6 hC dX2_layPages_102 rfl ?_
      refine V_if_le (tgt := 122) hC dX2_layPages_104 (by decide) (fun c14 => ?_) (fun c14 => ?_)
      · have hf := if_t hf c14
        exact V_sub [2, 3, 4, 5, 6, 7, 1, 0] rfl (b_X2_layPages_122 hC hr hA ho ha2 hQ hk63 x3 x4 x5 y12 v13 d hf)
      · have hf := if_f hf c14
        refine V_iload 6 hC dX2_layPages_107 rfl ?_
        refine V_iload 0 hC dX2_layPages_109 rfl ?_
        refine V_iadd hC dX2_layPages_111 ?_
        refine V_iload_n 3 hC dX2_layPages_112 rfl rfl ?_
        refine V_icmp_le (tgt := 122) hC dX2_layPages_113 (by decide) (fun c15 => ?_) (fun c15 => ?_)
        · have hf := if_t hf c15
          exact V_sub [2, 3, 4, 5, 6, 7, 1, 0] rfl (b_X2_layPages_122 hC hr hA ho ha2 hQ hk63 x3 x4 x5 y12 v13 d hf)
        · have hf := if_f hf c15
          refine V_iinc (v := x3 + 1) (lv' := [(3, .int (x3 + 1)), (7, .int v13), (6, .int y12), (0, .ref (yo Y o)), (1, .int p1), (2, .ref (gad z a2)), (4, .int x4), (5, .int x5)]) 5 hC dX2_layPages_116 rfl rfl (by decide) rfl ?_
          refine V_iconst (v := 0) hC dX2_layPages_119 rfl ?_
          refine V_istore (lv' := [(4, .int 0), (3, .int (x3 + 1)), (7, .int v13), (6, .int y12), (0, .ref (yo Y o)), (1, .int p1), (2, .ref (gad z a2)), (5, .int x5)]) hC dX2_layPages_120 (by decide) rfl ?_
          exact V_sub [4, 5, 6, 1, 0, 7, 3, 2] rfl (b_X2_layPages_122 hC hr hA ho ha2 hQ hk63 (x3 + 1) 0 x5 y12 v13 d hf)
def t_X2_layPages_55 (L : Nat → Nat) (o : Nat) (p1 : Int32) (a2 : Nat)   (d : Dt) : Option (Dt) := lp (fun k x => t_X2_layPages_63 L o p1 a2  (fun x3 x4 x5 d => k (x3, x4, x5, d)) x.1 x.2.1 x.2.2.1 x.2.2.2) FU (0, 0, 0, d)
set_option maxRecDepth 20000 in
theorem b_X2_layPages_55 {K : Kx} {Y : Yx} {z : Sh}  (hC : CK K Y cX2_layPages 8 RX2 2 42) (hr : (kme K).sig.returnType = none) (hA : kA K = aY Y z) {o : Nat} {p1 : Int32} {a2 : Nat} (ho : (0, o, 2) ∈ yI Y) (ha2 : (1, a2, 0) ∈ yI Y) {d' : Dt} (hQ : kQ K = MQ (kb K) (QM Y z (none) d') (ka K) (ks K) 0 0 (aY Y z))    (d : Dt) (hf : t_X2_layPages_55 z.1 o p1 a2   d = some d') : V K Y 8 0 0 z d 55 [(0, .ref (yo Y o)), (1, .int p1), (2, .ref (gad z a2))] [] := by
  have hL := hC.2.2.2.2.2.2.1
  unfold t_X2_layPages_55 at hf
  refine V_iconst (v := 0) hC dX2_layPages_55 rfl ?_
  refine V_istore_n (lv' := [(3, .int 0), (0, .ref (yo Y o)), (1, .int p1), (2, .ref (gad z a2))]) hC dX2_layPages_56 rfl (by decide) rfl ?_
  refine V_iconst (v := 0) hC dX2_layPages_57 rfl ?_
  refine V_istore (lv' := [(4, .int 0), (3, .int 0), (0, .ref (yo Y o)), (1, .int p1), (2, .ref (gad z a2))]) hC dX2_layPages_58 (by decide) rfl ?_
  refine V_iconst (v := 0) hC dX2_layPages_60 rfl ?_
  refine V_istore (lv' := [(5, .int 0), (4, .int 0), (3, .int 0), (0, .ref (yo Y o)), (1, .int p1), (2, .ref (gad z a2))]) hC dX2_layPages_61 (by decide) rfl ?_
  exact V_sub [3, 4, 5, 2, 1, 0] rfl (lp_ind (X := Int32 × Int32 × Int32 × Dt) (P := fun x => V K Y 8 0 0 z x.2.2.2 63 [(0, .ref (yo Y o)), (1, .int p1), (2, .ref (gad z a2)), (3, .int x.1), (4, .int x.2.1), (5, .int x.2.2.1)] []) (fun k x hk hx => b_X2_layPages_63 hC hr hA ho ha2 hQ  (k63 := fun x3 x4 x5 d => k (x3, x4, x5, d)) (fun x3 x4 x5 d hx => hk (x3, x4, x5, d) hx) x.1 x.2.1 x.2.2.1 x.2.2.2 hx) FU (0, 0, 0, d) hf)
def t_X2_layPages_49 (L : Nat → Nat) (o : Nat) (p1 : Int32) (a2 : Nat) (k2 : Int32 → (Dt) → Option (Dt)) (x3 : Int32) (d : Dt) : Option (Dt) := k2 (x3 + 1) d
set_option maxRecDepth 20000 in
theorem b_X2_layPages_49 {K : Kx} {Y : Yx} {z : Sh}  (hC : CK K Y cX2_layPages 8 RX2 2 42) (hr : (kme K).sig.returnType = none) (hA : kA K = aY Y z) {o : Nat} {p1 : Int32} {a2 : Nat} (ho : (0, o, 2) ∈ yI Y) (ha2 : (1, a2, 0) ∈ yI Y) {d' : Dt} (hQ : kQ K = MQ (kb K) (QM Y z (none) d') (ka K) (ks K) 0 0 (aY Y z)) {k2 : Int32 → (Dt) → Option (Dt)} (hk2 : ∀ (x3 : Int32) (d : Dt), k2 x3 d = some d' → V K Y 8 0 0 z d 2 [(0, .ref (yo Y o)), (1, .int p1), (2, .ref (gad z a2)), (3, .int x3)] []) (x3 : Int32) (d : Dt) (hf : t_X2_layPages_49 z.1 o p1 a2 k2 x3 d = some d') : V K Y 8 0 0 z d 49 [(0, .ref (yo Y o)), (1, .int p1), (2, .ref (gad z a2)), (3, .int x3)] [] := by
  have hL := hC.2.2.2.2.2.2.1
  unfold t_X2_layPages_49 at hf
  refine V_iinc (v := x3 + 1) (lv' := [(3, .int (x3 + 1)), (0, .ref (yo Y o)), (1, .int p1), (2, .ref (gad z a2))]) 3 hC dX2_layPages_49 rfl rfl (by decide) rfl ?_
  refine V_goto (tgt := 2) hC dX2_layPages_52 (by decide) ?_
  exact V_sub [1, 2, 3, 0] rfl (hk2 (x3 + 1) d hf)
def t_X2_layPages_2 (L : Nat → Nat) (o : Nat) (p1 : Int32) (a2 : Nat) (k2 : Int32 → (Dt) → Option (Dt)) (x3 : Int32) (d : Dt) : Option (Dt) := if (gF d (o + 4) 0) ≤ x3 then t_X2_layPages_55 L o p1 a2  d else if 24 ≤ x3 then t_X2_layPages_55 L o p1 a2  d else gd (inb x3 (L (32 * o + 1))) (bd ((gA d (32 * o + 1) (ix x3)) - 1) (fun y4 => if y4 < 0 then t_X2_layPages_49 L o p1 a2 k2 x3 d else if 24 ≤ y4 then t_X2_layPages_49 L o p1 a2 k2 x3 d else gd (inb y4 (L (32 * o + 8))) (bd (sA d (32 * o + 8) (ix y4) x3) (fun d8 => t_X2_layPages_49 L o p1 a2 k2 x3 d8))))
set_option maxRecDepth 20000 in
theorem b_X2_layPages_2 {K : Kx} {Y : Yx} {z : Sh}  (hC : CK K Y cX2_layPages 8 RX2 2 42) (hr : (kme K).sig.returnType = none) (hA : kA K = aY Y z) {o : Nat} {p1 : Int32} {a2 : Nat} (ho : (0, o, 2) ∈ yI Y) (ha2 : (1, a2, 0) ∈ yI Y) {d' : Dt} (hQ : kQ K = MQ (kb K) (QM Y z (none) d') (ka K) (ks K) 0 0 (aY Y z)) {k2 : Int32 → (Dt) → Option (Dt)} (hk2 : ∀ (x3 : Int32) (d : Dt), k2 x3 d = some d' → V K Y 8 0 0 z d 2 [(0, .ref (yo Y o)), (1, .int p1), (2, .ref (gad z a2)), (3, .int x3)] []) (x3 : Int32) (d : Dt) (hf : t_X2_layPages_2 z.1 o p1 a2 k2 x3 d = some d') : V K Y 8 0 0 z d 2 [(0, .ref (yo Y o)), (1, .int p1), (2, .ref (gad z a2)), (3, .int x3)] [] := by
  have hL := hC.2.2.2.2.2.2.1
  unfold t_X2_layPages_2 at hf
  refine V_iload_n 3 hC dX2_layPages_2 rfl rfl ?_
  refine V_aload_n 0 hC dX2_layPages_3 rfl rfl ?_
  refine V_geto (o := o) (o2 := (o + 4)) hC ho rfl fk_X2_38 rfl dX2_layPages_4 ?_
  refine V_geti (o := (o + 4)) hC (show (0, (o + 4), 0) ∈ yI Y from hL.obj (j := 0) ho rfl) rfl fk_X2_87 dX2_layPages_7 ?_
  refine V_icmp_ge (tgt := 55) hC dX2_layPages_10 (by decide) (fun c1 => ?_) (fun c1 => ?_)
  · have hf := if_t hf c1
    exact V_sub [0, 1, 2] rfl (b_X2_layPages_55 hC hr hA ho ha2 hQ  d hf)
  · have hf := if_f hf c1
    refine V_iload_n 3 hC dX2_layPages_13 rfl rfl ?_
    refine V_bipush (v := 24) hC dX2_layPages_14 rfl ?_
    refine V_icmp_ge (tgt := 55) hC dX2_layPages_16 (by decide) (fun c2 => ?_) (fun c2 => ?_)
    · have hf := if_t hf c2
      exact V_sub [0, 1, 2] rfl (b_X2_layPages_55 hC hr hA ho ha2 hQ  d hf)
    · have hf := if_f hf c2
      refine V_aload_n 0 hC dX2_layPages_19 rfl rfl ?_
      refine V_geta (o := o) hC ho rfl fk_X2_9 dX2_layPages_20 ?_
      refine V_iload_n 3 hC dX2_layPages_23 rfl rfl ?_
      obtain ⟨g3, hf⟩ := gd_some hf
      refine V_iald (a := (32 * o + 1)) hC (hL.row ho rfl) g3 dX2_layPages_24 ?_
      refine V_iconst (v := 1) hC dX2_layPages_25 rfl ?_
      refine V_isub hC dX2_layPages_26 ?_
      refine V_topi (fun y4 ey4 => ?_)
      have hf := bd_e hf y4 ey4
      refine V_istore (lv' := [(4, .int y4), (0, .ref (yo Y o)), (1, .int p1), (2, .ref (gad z a2)), (3, .int x3)]) hC dX2_layPages_27 (by decide) rfl ?_
      refine V_iload 0 hC dX2_layPages_29 rfl ?_
      refine V_if_lt (tgt := 49) hC dX2_layPages_31 (by decide) (fun c5 => ?_) (fun c5 => ?_)
      · have hf := if_t hf c5
        exact V_sub [1, 2, 3, 4] rfl (b_X2_layPages_49 hC hr hA ho ha2 hQ hk2 x3 d hf)
      · have hf := if_f hf c5
        refine V_iload 0 hC dX2_layPages_34 rfl ?_
        refine V_bipush (v := 24) hC dX2_layPages_36 rfl ?_
        refine V_icmp_ge (tgt := 49) hC dX2_layPages_38 (by decide) (fun c6 => ?_) (fun c6 => ?_)
        · have hf := if_t hf c6
          exact V_sub [1, 2, 3, 4] rfl (b_X2_layPages_49 hC hr hA ho ha2 hQ hk2 x3 d hf)
        · have hf := if_f hf c6
          refine V_aload_n 1 hC dX2_layPages_41 rfl rfl ?_
          refine V_geta (o := o) hC ho rfl fk_X2_35 dX2_layPages_42 ?_
          refine V_iload 0 hC dX2_layPages_45 rfl ?_
          refine V_iload_n 4 hC dX2_layPages_47 rfl rfl ?_
          obtain ⟨g7, hf⟩ := gd_some hf
          refine V_iast (a := (32 * o + 8)) hC (hL.row ho rfl) g7 dX2_layPages_48 (fun d8 ed8 => ?_)
          have hf := bd_e hf d8 ed8
          exact V_sub [1, 2, 3, 4] rfl (b_X2_layPages_49 hC hr hA ho ha2 hQ hk2 x3 d8 hf)
def t_X2_layPages (L : Nat → Nat) (d : Dt) (o : Nat) (p1 : Int32) (a2 : Nat) : Option (Dt) := lp (fun k x => t_X2_layPages_2 L o p1 a2  (fun x3 d => k (x3, d)) x.1 x.2) FU (0, d)
set_option maxRecDepth 20000 in
theorem c_X2_layPages {l : Launch} {Y : Yx} (hL : LAY Y) {z : Sh} {d : Dt} {o : Nat} {p1 : Int32} {a2 : Nat} (ho : (0, o, 2) ∈ yI Y) (ha2 : (1, a2, 0) ∈ yI Y) {d' : Dt} (hf : t_X2_layPages z.1 d o p1 a2 = some d') : MM l yX2_layPages cX2_layPages 8 none 2 42 Y z [.ref (yo Y o), .int p1, .ref (gad z a2)] d (none) d' := by
  refine MM.ofV (by decide +kernel) hL (Nat.le_of_ble_eq_true rfl) (fun K hl hC hr hQ hA => ?_)
  have hC : CK K Y cX2_layPages 8 RX2 2 42 := hC
  unfold t_X2_layPages at hf
  show V K Y 8 0 0 z d 0 [(0, .ref (yo Y o)), (1, .int p1), (2, .ref (gad z a2))] []
  refine V_iconst (v := 0) hC dX2_layPages_0 rfl ?_
  refine V_istore_n (lv' := [(3, .int 0), (0, .ref (yo Y o)), (1, .int p1), (2, .ref (gad z a2))]) hC dX2_layPages_1 rfl (by decide) rfl ?_
  exact V_sub [1, 2, 3, 0] rfl (lp_ind (X := Int32 × Dt) (P := fun x => V K Y 8 0 0 z x.2 2 [(0, .ref (yo Y o)), (1, .int p1), (2, .ref (gad z a2)), (3, .int x.1)] []) (fun k x hk hx => b_X2_layPages_2 hC hr hA ho ha2 hQ  (k2 := fun x3 d => k (x3, d)) (fun x3 d hx => hk (x3, d) hx) x.1 x.2 hx) FU (0, d) hf)
def t_X2_flipsOver_76 (L : Nat → Nat) (d : Dt) (o : Nat) (a1 : Nat) (k4 : Int32 → Int32 → Option (Int32)) (x2 : Int32) (x3 : Int32)  : Option (Int32) := k4 x2 (x3 + 1)
set_option maxRecDepth 20000 in
theorem b_X2_flipsOver_76 {K : Kx} {Y : Yx} {z : Sh} {d : Dt} (hC : CK K Y cX2_flipsOver 5 RX2 1 21) (hr : (kme K).sig.returnType = some .int) (hA : kA K = aY Y z) {o : Nat} {a1 : Nat} (ho : (0, o, 2) ∈ yI Y) (ha1 : (1, a1, 0) ∈ yI Y) {r : Int32} (hQ : kQ K = MQ (kb K) (QM Y z (some (.int r)) d) (ka K) (ks K) 0 0 (aY Y z)) {k4 : Int32 → Int32 → Option (Int32)} (hk4 : ∀ (x2 : Int32) (x3 : Int32) , k4 x2 x3  = some r → V K Y 5 0 0 z d 4 [(0, .ref (yo Y o)), (1, .ref (gad z a1)), (2, .int x2), (3, .int x3)] []) (x2 : Int32) (x3 : Int32)  (hf : t_X2_flipsOver_76 z.1 d o a1 k4 x2 x3  = some r) : V K Y 5 0 0 z d 76 [(0, .ref (yo Y o)), (1, .ref (gad z a1)), (2, .int x2), (3, .int x3)] [] := by
  have hL := hC.2.2.2.2.2.2.1
  unfold t_X2_flipsOver_76 at hf
  refine V_iinc (v := x3 + 1) (lv' := [(3, .int (x3 + 1)), (0, .ref (yo Y o)), (1, .ref (gad z a1)), (2, .int x2)]) 3 hC dX2_flipsOver_76 rfl rfl (by decide) rfl ?_
  refine V_goto (tgt := 4) hC dX2_flipsOver_79 (by decide) ?_
  exact V_sub [1, 2, 3, 0] rfl (hk4 x2 (x3 + 1) hf)
def t_X2_flipsOver_24 (L : Nat → Nat) (d : Dt) (o : Nat) (a1 : Nat) (k4 : Int32 → Int32 → Option (Int32)) (k24 : Int32 → Int32 → Int32 → Option (Int32)) (x2 : Int32) (x3 : Int32) (x4 : Int32)  : Option (Int32) := if (gF d (o + 4) 0) ≤ x4 then t_X2_flipsOver_76 L d o a1 k4 x2 x3 else if 24 ≤ x4 then t_X2_flipsOver_76 L d o a1 k4 x2 x3 else gd (inb ((x3 * 24) + x4) (L (32 * o + 7))) (gd (inb x3 (L a1)) (gd (inb x4 (L a1)) (bd (x2 + ((gA d (32 * o + 7) (ix ((x3 * 24) + x4))) * (if 0 ≤ ((gA d a1 (ix x3)) - (gA d a1 (ix x4))) then ((gA d a1 (ix x3)) - (gA d a1 (ix x4))) else 0 - ((gA d a1 (ix x3)) - (gA d a1 (ix x4)))))) (fun y8 => k24 y8 x3 (x4 + 1)))))
set_option maxRecDepth 20000 in
theorem b_X2_flipsOver_24 {K : Kx} {Y : Yx} {z : Sh} {d : Dt} (hC : CK K Y cX2_flipsOver 5 RX2 1 21) (hr : (kme K).sig.returnType = some .int) (hA : kA K = aY Y z) {o : Nat} {a1 : Nat} (ho : (0, o, 2) ∈ yI Y) (ha1 : (1, a1, 0) ∈ yI Y) {r : Int32} (hQ : kQ K = MQ (kb K) (QM Y z (some (.int r)) d) (ka K) (ks K) 0 0 (aY Y z)) {k4 : Int32 → Int32 → Option (Int32)} {k24 : Int32 → Int32 → Int32 → Option (Int32)} (hk4 : ∀ (x2 : Int32) (x3 : Int32) , k4 x2 x3  = some r → V K Y 5 0 0 z d 4 [(0, .ref (yo Y o)), (1, .ref (gad z a1)), (2, .int x2), (3, .int x3)] []) (hk24 : ∀ (x2 : Int32) (x3 : Int32) (x4 : Int32) , k24 x2 x3 x4  = some r → V K Y 5 0 0 z d 24 [(0, .ref (yo Y o)), (1, .ref (gad z a1)), (2, .int x2), (3, .int x3), (4, .int x4)] []) (x2 : Int32) (x3 : Int32) (x4 : Int32)  (hf : t_X2_flipsOver_24 z.1 d o a1 k4 k24 x2 x3 x4  = some r) : V K Y 5 0 0 z d 24 [(0, .ref (yo Y o)), (1, .ref (gad z a1)), (2, .int x2), (3, .int x3), (4, .int x4)] [] := by
  have hL := hC.2.2.2.2.2.2.1
  have hkn : 0 ≤ (kR K).cells ∧ 0 ≤ (kR K).slots := ⟨Nat.zero_le _, Nat.zero_le _⟩
  unfold t_X2_flipsOver_24 at hf
  refine V_iload 4 hC dX2_flipsOver_24 rfl ?_
  refine V_aload_n 0 hC dX2_flipsOver_26 rfl rfl ?_
  refine V_geto (o := o) (o2 := (o + 4)) hC ho rfl fk_X2_38 rfl dX2_flipsOver_27 ?_
  refine V_geti (o := (o + 4)) hC (show (0, (o + 4), 0) ∈ yI Y from hL.obj (j := 0) ho rfl) rfl fk_X2_87 dX2_flipsOver_30 ?_
  refine V_icmp_ge (tgt := 76) hC dX2_flipsOver_33 (by decide) (fun c3 => ?_) (fun c3 => ?_)
  · have hf := if_t hf c3
    exact V_sub [0, 1, 2, 3] rfl (b_X2_flipsOver_76 hC hr hA ho ha1 hQ hk4 x2 x3 hf)
  · have hf := if_f hf c3
    refine V_iload 4 hC dX2_flipsOver_36 rfl ?_
    refine V_bipush (v := 24) hC dX2_flipsOver_38 rfl ?_
    refine V_icmp_ge (tgt := 76) hC dX2_flipsOver_40 (by decide) (fun c4 => ?_) (fun c4 => ?_)
    · have hf := if_t hf c4
      exact V_sub [0, 1, 2, 3] rfl (b_X2_flipsOver_76 hC hr hA ho ha1 hQ hk4 x2 x3 hf)
    · have hf := if_f hf c4
      refine V_iload_n 2 hC dX2_flipsOver_43 rfl rfl ?_
      refine V_aload_n 0 hC dX2_flipsOver_44 rfl rfl ?_
      refine V_geta (o := o) hC ho rfl fk_X2_32 dX2_flipsOver_45 ?_
      refine V_iload_n 3 hC dX2_flipsOver_48 rfl rfl ?_
      refine V_bipush (v := 24) hC dX2_flipsOver_49 rfl ?_
      refine V_imul hC dX2_flipsOver_51 ?_
      refine V_iload 4 hC dX2_flipsOver_52 rfl ?_
      refine V_iadd hC dX2_flipsOver_54 ?_
      obtain ⟨g5, hf⟩ := gd_some hf
      refine V_iald (a := (32 * o + 7)) hC (hL.row ho rfl) g5 dX2_flipsOver_55 ?_
      refine V_aload_n 1 hC dX2_flipsOver_56 rfl rfl ?_
      refine V_iload_n 3 hC dX2_flipsOver_57 rfl rfl ?_
      obtain ⟨g6, hf⟩ := gd_some hf
      refine V_iald (a := a1) hC ha1 g6 dX2_flipsOver_58 ?_
      refine V_aload_n 1 hC dX2_flipsOver_59 rfl rfl ?_
      refine V_iload 4 hC dX2_flipsOver_60 rfl ?_
      obtain ⟨g7, hf⟩ := gd_some hf
      refine V_iald (a := a1) hC ha1 g7 dX2_flipsOver_62 ?_
      refine V_isub hC dX2_flipsOver_63 ?_
      refine V_mabs hC mm_X2_93 (by decide) (Nat.le_of_ble_eq_true rfl) hkn dX2_flipsOver_64 ?_
      refine V_imul hC dX2_flipsOver_67 ?_
      refine V_iadd hC dX2_flipsOver_68 ?_
      refine V_topi (fun y8 ey8 => ?_)
      have hf := bd_e hf y8 ey8
      refine V_istore_n (lv' := [(2, .int y8), (0, .ref (yo Y o)), (1, .ref (gad z a1)), (3, .int x3), (4, .int x4)]) hC dX2_flipsOver_69 rfl (by decide) rfl ?_
      refine V_iinc (v := x4 + 1) (lv' := [(4, .int (x4 + 1)), (2, .int y8), (0, .ref (yo Y o)), (1, .ref (gad z a1)), (3, .int x3)]) 4 hC dX2_flipsOver_70 rfl rfl (by decide) rfl ?_
      refine V_goto (tgt := 24) hC dX2_flipsOver_73 (by decide) ?_
      exact V_sub [2, 3, 1, 4, 0] rfl (hk24 y8 x3 (x4 + 1) hf)
def t_X2_flipsOver_4 (L : Nat → Nat) (d : Dt) (o : Nat) (a1 : Nat) (k4 : Int32 → Int32 → Option (Int32)) (x2 : Int32) (x3 : Int32)  : Option (Int32) := if (gF d (o + 4) 0) ≤ x3 then some x2 else if 24 ≤ x3 then some x2 else lp (fun k x => t_X2_flipsOver_24 L d o a1 k4 (fun x2 x3 x4 => k (x2, x3, x4)) x.1 x.2.1 x.2.2) FU (x2, x3, 0)
set_option maxRecDepth 20000 in
theorem b_X2_flipsOver_4 {K : Kx} {Y : Yx} {z : Sh} {d : Dt} (hC : CK K Y cX2_flipsOver 5 RX2 1 21) (hr : (kme K).sig.returnType = some .int) (hA : kA K = aY Y z) {o : Nat} {a1 : Nat} (ho : (0, o, 2) ∈ yI Y) (ha1 : (1, a1, 0) ∈ yI Y) {r : Int32} (hQ : kQ K = MQ (kb K) (QM Y z (some (.int r)) d) (ka K) (ks K) 0 0 (aY Y z)) {k4 : Int32 → Int32 → Option (Int32)} (hk4 : ∀ (x2 : Int32) (x3 : Int32) , k4 x2 x3  = some r → V K Y 5 0 0 z d 4 [(0, .ref (yo Y o)), (1, .ref (gad z a1)), (2, .int x2), (3, .int x3)] []) (x2 : Int32) (x3 : Int32)  (hf : t_X2_flipsOver_4 z.1 d o a1 k4 x2 x3  = some r) : V K Y 5 0 0 z d 4 [(0, .ref (yo Y o)), (1, .ref (gad z a1)), (2, .int x2), (3, .int x3)] [] := by
  have hL := hC.2.2.2.2.2.2.1
  unfold t_X2_flipsOver_4 at hf
  refine V_iload_n 3 hC dX2_flipsOver_4 rfl rfl ?_
  refine V_aload_n 0 hC dX2_flipsOver_5 rfl rfl ?_
  refine V_geto (o := o) (o2 := (o + 4)) hC ho rfl fk_X2_38 rfl dX2_flipsOver_6 ?_
  refine V_geti (o := (o + 4)) hC (show (0, (o + 4), 0) ∈ yI Y from hL.obj (j := 0) ho rfl) rfl fk_X2_87 dX2_flipsOver_9 ?_
  refine V_icmp_ge (tgt := 82) hC dX2_flipsOver_12 (by decide) (fun c1 => ?_) (fun c1 => ?_)
  · have hf := if_t hf c1
    refine V_iload_n 2 hC dX2_flipsOver_82 rfl rfl ?_
    obtain rfl := so_inj hf
    exact V_iret hC hr hQ hA dX2_flipsOver_83
  · have hf := if_f hf c1
    refine V_iload_n 3 hC dX2_flipsOver_15 rfl rfl ?_
    refine V_bipush (v := 24) hC dX2_flipsOver_16 rfl ?_
    refine V_icmp_ge (tgt := 82) hC dX2_flipsOver_18 (by decide) (fun c2 => ?_) (fun c2 => ?_)
    · have hf := if_t hf c2
      refine V_iload_n 2 hC dX2_flipsOver_82 rfl rfl ?_
      obtain rfl := so_inj hf
      exact V_iret hC hr hQ hA dX2_flipsOver_83
    · have hf := if_f hf c2
      refine V_iconst (v := 0) hC dX2_flipsOver_21 rfl ?_
      refine V_istore (lv' := [(4, .int 0), (0, .ref (yo Y o)), (1, .ref (gad z a1)), (2, .int x2), (3, .int x3)]) hC dX2_flipsOver_22 (by decide) rfl ?_
      exact V_sub [1, 2, 3, 4, 0] rfl (lp_ind (X := Int32 × Int32 × Int32) (P := fun x => V K Y 5 0 0 z d 24 [(0, .ref (yo Y o)), (1, .ref (gad z a1)), (2, .int x.1), (3, .int x.2.1), (4, .int x.2.2)] []) (fun k x hk hx => b_X2_flipsOver_24 hC hr hA ho ha1 hQ hk4 (k24 := fun x2 x3 x4 => k (x2, x3, x4)) (fun x2 x3 x4 hx => hk (x2, x3, x4) hx) x.1 x.2.1 x.2.2 hx) FU (x2, x3, 0) hf)
def t_X2_flipsOver (L : Nat → Nat) (d : Dt) (o : Nat) (a1 : Nat) : Option (Int32) := lp (fun k x => t_X2_flipsOver_4 L d o a1  (fun x2 x3 => k (x2, x3)) x.1 x.2) FU (0, 0)
set_option maxRecDepth 20000 in
theorem c_X2_flipsOver {l : Launch} {Y : Yx} (hL : LAY Y) {z : Sh} {d : Dt} {o : Nat} {a1 : Nat} (ho : (0, o, 2) ∈ yI Y) (ha1 : (1, a1, 0) ∈ yI Y) {r : Int32} (hf : t_X2_flipsOver z.1 d o a1 = some r) : MM l yX2_flipsOver cX2_flipsOver 5 (some .int) 1 21 Y z [.ref (yo Y o), .ref (gad z a1)] d (some (.int r)) d := by
  refine MM.ofV (by decide +kernel) hL (Nat.le_of_ble_eq_true rfl) (fun K hl hC hr hQ hA => ?_)
  have hC : CK K Y cX2_flipsOver 5 RX2 1 21 := hC
  unfold t_X2_flipsOver at hf
  show V K Y 5 0 0 z d 0 [(0, .ref (yo Y o)), (1, .ref (gad z a1))] []
  refine V_iconst (v := 0) hC dX2_flipsOver_0 rfl ?_
  refine V_istore_n (lv' := [(2, .int 0), (0, .ref (yo Y o)), (1, .ref (gad z a1))]) hC dX2_flipsOver_1 rfl (by decide) rfl ?_
  refine V_iconst (v := 0) hC dX2_flipsOver_2 rfl ?_
  refine V_istore_n (lv' := [(3, .int 0), (2, .int 0), (0, .ref (yo Y o)), (1, .ref (gad z a1))]) hC dX2_flipsOver_3 rfl (by decide) rfl ?_
  exact V_sub [2, 3, 1, 0] rfl (lp_ind (X := Int32 × Int32) (P := fun x => V K Y 5 0 0 z d 4 [(0, .ref (yo Y o)), (1, .ref (gad z a1)), (2, .int x.1), (3, .int x.2)] []) (fun k x hk hx => b_X2_flipsOver_4 hC hr hA ho ha1 hQ  (k4 := fun x2 x3 => k (x2, x3)) (fun x2 x3 hx => hk (x2, x3) hx) x.1 x.2 hx) FU (0, 0) hf)
