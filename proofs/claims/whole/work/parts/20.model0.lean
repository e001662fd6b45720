/-! ===== ChoiceBookModel: lifted and met ===== -/
theorem cl_X6_64 : Cond.constantLong RX6 64 (8) ∈ gt := gt_t 980 (by decide +kernel) rfl
theorem lk_X6_66 : Cond.methodLink RX6 66 yX6_in ∈ gt := gt_t 981 (by decide +kernel) rfl
theorem me_X6_in : MES yX6_in cX6_in 6 (some .boolean) 3 := ⟨⟨gt_t 983 (by decide +kernel) rfl, gt_t 6 (by decide +kernel) rfl, by decide +kernel⟩, gt_t 982 (by decide +kernel) rfl⟩
theorem fk_X6_71 : FLK RX6 71 5 4 RX6 TX6 30 := ⟨rfl, uw_X6, by decide, rfl, gt_t 889 (by decide +kernel) rfl⟩
theorem ck_X6_74 : Cond.constant RX6 74 (-1000004) ∈ gt := gt_t 985 (by decide +kernel) rfl
theorem ck_X6_70 : Cond.constant RX6 70 (-1000002) ∈ gt := gt_t 984 (by decide +kernel) rfl
theorem cl_X6_75 : Cond.constantLong RX6 75 (255) ∈ gt := gt_t 986 (by decide +kernel) rfl
theorem fk_X6_77 : FLK RX6 77 5 5 RX6 TX6 30 := ⟨rfl, uw_X6, by decide, rfl, gt_t 890 (by decide +kernel) rfl⟩
theorem fk_X6_80 : FLK RX6 80 5 8 RX6 TX6 30 := ⟨rfl, uw_X6, by decide, rfl, gt_t 893 (by decide +kernel) rfl⟩
theorem lk_X6_83 : Cond.methodLink RX6 83 yX6_here ∈ gt := gt_t 991 (by decide +kernel) rfl
theorem me_X6_here : MEV RX6 yX6_here cX6_here 1 (some .int) 0 := ⟨⟨gt_t 994 (by decide +kernel) rfl, gt_t 6 (by decide +kernel) rfl, by decide +kernel⟩, gt_t 993 (by decide +kernel) rfl, gt_s (q := (yX6_here, 30)) 33 (by decide +kernel)⟩
theorem fk_X6_87 : FLK RX6 87 5 6 RX6 TX6 30 := ⟨rfl, uw_X6, by decide, rfl, gt_t 891 (by decide +kernel) rfl⟩
theorem cl_X6_90 : Cond.constantLong RX6 90 (97) ∈ gt := gt_t 1003 (by decide +kernel) rfl
theorem cl_X6_92 : Cond.constantLong RX6 92 (122) ∈ gt := gt_t 1004 (by decide +kernel) rfl
theorem fk_X6_94 : FLK RX6 94 5 7 RX6 TX6 30 := ⟨rfl, uw_X6, by decide, rfl, gt_t 892 (by decide +kernel) rfl⟩
theorem cl_X6_97 : Cond.constantLong RX6 97 (48) ∈ gt := gt_t 1029 (by decide +kernel) rfl
theorem cl_X6_99 : Cond.constantLong RX6 99 (57) ∈ gt := gt_t 1030 (by decide +kernel) rfl
theorem lk_X6_101 : Cond.methodLink RX6 101 yX6_want ∈ gt := gt_t 1013 (by decide +kernel) rfl
theorem me_X6_want : MEV RX6 yX6_want cX6_want 4 (some .boolean) 3 := ⟨⟨gt_t 1016 (by decide +kernel) rfl, gt_t 6 (by decide +kernel) rfl, by decide +kernel⟩, gt_t 1015 (by decide +kernel) rfl, gt_s (q := (yX6_want, 30)) 38 (by decide +kernel)⟩
theorem lk_X6_105 : Cond.methodLink RX6 105 yX6_takeNumber ∈ gt := gt_t 1025 (by decide +kernel) rfl
theorem me_X6_takeNumber : MEV RX6 yX6_takeNumber cX6_takeNumber 6 (some .int) 2 := ⟨⟨gt_t 1028 (by decide +kernel) rfl, gt_t 6 (by decide +kernel) rfl, by decide +kernel⟩, gt_t 1027 (by decide +kernel) rfl, gt_s (q := (yX6_takeNumber, 30)) 41 (by decide +kernel)⟩
theorem fk_X6_109 : FLK RX6 109 5 14 RX6 TX6 30 := ⟨rfl, uw_X6, by decide, rfl, gt_t 898 (by decide +kernel) rfl⟩
theorem lk_X6_112 : Cond.methodLink RX6 112 yX6_isWord ∈ gt := gt_t 1005 (by decide +kernel) rfl
theorem me_X6_isWord : MEV RX6 yX6_isWord cX6_isWord 9 (some .boolean) 6 := ⟨⟨gt_t 1008 (by decide +kernel) rfl, gt_t 6 (by decide +kernel) rfl, by decide +kernel⟩, gt_t 1007 (by decide +kernel) rfl, gt_s (q := (yX6_isWord, 30)) 36 (by decide +kernel)⟩
theorem lk_X6_116 : Cond.methodLink RX6 116 yX6_takeWord ∈ gt := gt_t 999 (by decide +kernel) rfl
theorem me_X6_takeWord : MEV RX6 yX6_takeWord cX6_takeWord 2 none 0 := ⟨⟨gt_t 1002 (by decide +kernel) rfl, gt_t 6 (by decide +kernel) rfl, by decide +kernel⟩, gt_t 1001 (by decide +kernel) rfl, gt_s (q := (yX6_takeWord, 30)) 35 (by decide +kernel)⟩
theorem lk_X6_119 : Cond.methodLink RX6 119 yX6_kindHere ∈ gt := gt_t 1021 (by decide +kernel) rfl
theorem me_X6_kindHere : MEV RX6 yX6_kindHere cX6_kindHere 1 (some .int) 0 := ⟨⟨gt_t 1024 (by decide +kernel) rfl, gt_t 6 (by decide +kernel) rfl, by decide +kernel⟩, gt_t 1023 (by decide +kernel) rfl, gt_s (q := (yX6_kindHere, 30)) 40 (by decide +kernel)⟩
theorem lk_X6_122 : Cond.methodLink RX6 122 yX6_takeGoal ∈ gt := gt_t 1031 (by decide +kernel) rfl
theorem me_X6_takeGoal : MEV RX6 yX6_takeGoal cX6_takeGoal 2 (some .int) 0 := ⟨⟨gt_t 1034 (by decide +kernel) rfl, gt_t 6 (by decide +kernel) rfl, by decide +kernel⟩, gt_t 1033 (by decide +kernel) rfl, gt_s (q := (yX6_takeGoal, 30)) 42 (by decide +kernel)⟩
theorem lk_X6_125 : Cond.methodLink RX6 125 yX6_isLong ∈ gt := gt_t 1039 (by decide +kernel) rfl
theorem me_X6_isLong : MEV RX6 yX6_isLong cX6_isLong 6 (some .boolean) 4 := ⟨⟨gt_t 1042 (by decide +kernel) rfl, gt_t 6 (by decide +kernel) rfl, by decide +kernel⟩, gt_t 1041 (by decide +kernel) rfl, gt_s (q := (yX6_isLong, 30)) 44 (by decide +kernel)⟩
theorem lk_X6_129 : Cond.methodLink RX6 129 yX6_isBegun ∈ gt := gt_t 1043 (by decide +kernel) rfl
theorem me_X6_isBegun : MEV RX6 yX6_isBegun cX6_isBegun 5 (some .boolean) 4 := ⟨⟨gt_t 1046 (by decide +kernel) rfl, gt_t 6 (by decide +kernel) rfl, by decide +kernel⟩, gt_t 1045 (by decide +kernel) rfl, gt_s (q := (yX6_isBegun, 30)) 45 (by decide +kernel)⟩
theorem lk_X6_132 : Cond.methodLink RX6 132 yX6_takeEffects ∈ gt := gt_t 1017 (by decide +kernel) rfl
theorem me_X6_takeEffects : MEV RX6 yX6_takeEffects cX6_takeEffects 4 none 1 := ⟨⟨gt_t 1020 (by decide +kernel) rfl, gt_t 6 (by decide +kernel) rfl, by decide +kernel⟩, gt_t 1019 (by decide +kernel) rfl, gt_s (q := (yX6_takeEffects, 30)) 39 (by decide +kernel)⟩
theorem lk_X6_136 : Cond.methodLink RX6 136 yX6_takeChoices ∈ gt := gt_t 1035 (by decide +kernel) rfl
theorem me_X6_takeChoices : MEV RX6 yX6_takeChoices cX6_takeChoices 4 none 1 := ⟨⟨gt_t 1038 (by decide +kernel) rfl, gt_t 6 (by decide +kernel) rfl, by decide +kernel⟩, gt_t 1037 (by decide +kernel) rfl, gt_s (q := (yX6_takeChoices, 30)) 43 (by decide +kernel)⟩
theorem lk_X6_139 : Cond.methodLink RX6 139 yX6_takePart ∈ gt := gt_t 1009 (by decide +kernel) rfl
theorem me_X6_takePart : MEV RX6 yX6_takePart cX6_takePart 2 none 0 := ⟨⟨gt_t 1012 (by decide +kernel) rfl, gt_t 6 (by decide +kernel) rfl, by decide +kernel⟩, gt_t 1011 (by decide +kernel) rfl, gt_s (q := (yX6_takePart, 30)) 37 (by decide +kernel)⟩
theorem fk_X6_142 : FLK RX6 142 5 10 RX6 TX6 30 := ⟨rfl, uw_X6, by decide, rfl, gt_t 895 (by decide +kernel) rfl⟩
theorem lk_X6_146 : Cond.methodLink RX6 146 yX6_takeClause ∈ gt := gt_t 995 (by decide +kernel) rfl
theorem me_X6_takeClause : MEV RX6 yX6_takeClause cX6_takeClause 1 none 0 := ⟨⟨gt_t 998 (by decide +kernel) rfl, gt_t 6 (by decide +kernel) rfl, by decide +kernel⟩, gt_t 997 (by decide +kernel) rfl, gt_s (q := (yX6_takeClause, 30)) 34 (by decide +kernel)⟩
theorem fk_X6_149 : FLK RX6 149 5 23 RX6 TX6 30 := ⟨rfl, uw_X6, by decide, rfl, gt_t 907 (by decide +kernel) rfl⟩
def t_X6_in (L : Nat → Nat) (d : Dt) (p0 : Int64) (p2 : Int64) (p4 : Int64) : Option (Int32) := if (lg_cmp p0 p2) < 0 then some 0 else if 0 < (lg_cmp p0 p4) then some 0 else some 1
set_option maxRecDepth 20000 in
theorem c_X6_in {l : Launch} {Y : Yx} (hL : LAY Y) {z : Sh} {d : Dt} {p0 : Int64} {p2 : Int64} {p4 : Int64}  {r : Int32} (hf : t_X6_in z.1 d p0 p2 p4 = some r) : MM l yX6_in cX6_in 6 (some .boolean) 0 0 Y z [.long p0, .long p2, .long p4] d (some (.int r)) d := by
  refine MM.ofV (by decide +kernel) hL (Nat.le_of_ble_eq_true rfl) (fun K hl hC hr hQ hA => ?_)
  have hC : CK K Y cX6_in 6 RX6 0 0 := hC
  unfold t_X6_in at hf
  show V K Y 6 0 0 z d 0 [(0, .long p0), (2, .long p2), (4, .long p4)] []
  refine V_lload_n 0 hC dX6_in_0 rfl rfl ?_
  refine V_lload_n 1 hC dX6_in_1 rfl rfl ?_
  refine V_lcmp hC dX6_in_2 ?_
  refine V_if_lt (tgt := 17) hC dX6_in_3 (by decide) (fun c1 => ?_) (fun c1 => ?_)
  · have hf := if_t hf c1
    refine V_iconst (v := 0) hC dX6_in_17 rfl ?_
    obtain rfl := so_inj hf
    exact V_zret hC hr rfl hQ hA dX6_in_18
  · have hf := if_f hf c1
    refine V_lload_n 0 hC dX6_in_6 rfl rfl ?_
    refine V_lload 2 hC dX6_in_7 rfl ?_
    refine V_lcmp hC dX6_in_9 ?_
    refine V_if_gt (tgt := 17) hC dX6_in_10 (by decide) (fun c2 => ?_) (fun c2 => ?_)
    · have hf := if_t hf c2
      refine V_iconst (v := 0) hC dX6_in_17 rfl ?_
      obtain rfl := so_inj hf
      exact V_zret hC hr rfl hQ hA dX6_in_18
    · have hf := if_f hf c2
      refine V_iconst (v := 1) hC dX6_in_13 rfl ?_
      refine V_goto (tgt := 18) hC dX6_in_14 (by decide) ?_
      obtain rfl := so_inj hf
      exact V_zret hC hr rfl hQ hA dX6_in_18
def t_X6_one (L : Nat → Nat) (d : Dt) (p0 : Int32) : Option (Int32) := if p0 = 0 then some 0 else some 1
set_option maxRecDepth 20000 in
theorem c_X6_one {l : Launch} {Y : Yx} (hL : LAY Y) {z : Sh} {d : Dt} {p0 : Int32}  {r : Int32} (hf : t_X6_one z.1 d p0 = some r) : MM l yX6_one cX6_one 1 (some .int) 0 0 Y z [.int p0] d (some (.int r)) d := by
  refine MM.ofV (by decide +kernel) hL (Nat.le_of_ble_eq_true rfl) (fun K hl hC hr hQ hA => ?_)
  have hC : CK K Y cX6_one 1 RX6 0 0 := hC
  unfold t_X6_one at hf
  show V K Y 1 0 0 z d 0 [(0, .int p0)] []
  refine V_iload_n 0 hC dX6_one_0 rfl rfl ?_
  refine V_if_eq (tgt := 8) hC dX6_one_1 (by decide) (fun c1 => ?_) (fun c1 => ?_)
  · have hf := if_t hf c1
    refine V_iconst (v := 0) hC dX6_one_8 rfl ?_
    obtain rfl := so_inj hf
    exact V_iret hC hr hQ hA dX6_one_9
  · have hf := if_f hf c1
    refine V_iconst (v := 1) hC dX6_one_4 rfl ?_
    refine V_goto (tgt := 9) hC dX6_one_5 (by decide) ?_
    obtain rfl := so_inj hf
    exact V_iret hC hr hQ hA dX6_one_9
def t_X6_has (L : Nat → Nat) (d : Dt) (p0 : Int32) (p1 : Int32) : Option (Int32) := if ((p0 >>> (p1 &&& 31)) &&& 1) = 1 then some 1 else some 0
set_option maxRecDepth 20000 in
theorem c_X6_has {l : Launch} {Y : Yx} (hL : LAY Y) {z : Sh} {d : Dt} {p0 : Int32} {p1 : Int32}  {r : Int32} (hf : t_X6_has z.1 d p0 p1 = some r) : MM l yX6_has cX6_has 2 (some .boolean) 0 0 Y z [.int p0, .int p1] d (some (.int r)) d := by
  refine MM.ofV (by decide +kernel) hL (Nat.le_of_ble_eq_true rfl) (fun K hl hC hr hQ hA => ?_)
  have hC : CK K Y cX6_has 2 RX6 0 0 := hC
  unfold t_X6_has at hf
  show V K Y 2 0 0 z d 0 [(0, .int p0), (1, .int p1)] []
  refine V_iload_n 0 hC dX6_has_0 rfl rfl ?_
  refine V_iload_n 1 hC dX6_has_1 rfl rfl ?_
  refine V_ishr hC dX6_has_2 ?_
  refine V_iconst (v := 1) hC dX6_has_3 rfl ?_
  refine V_iand hC dX6_has_4 ?_
  refine V_iconst (v := 1) hC dX6_has_5 rfl ?_
  refine V_icmp_ne (tgt := 13) hC dX6_has_6 (by decide) (fun c1 => ?_) (fun c1 => ?_)
  · have hf := if_f hf c1
    refine V_iconst (v := 0) hC dX6_has_13 rfl ?_
    obtain rfl := so_inj hf
    exact V_zret hC hr rfl hQ hA dX6_has_14
  · have hf := if_t hf c1
    refine V_iconst (v := 1) hC dX6_has_9 rfl ?_
    refine V_goto (tgt := 14) hC dX6_has_10 (by decide) ?_
    obtain rfl := so_inj hf
    exact V_zret hC hr rfl hQ hA dX6_has_14
def t_X6_feed_35 (L : Nat → Nat) (p1 : Int32) (p2 : Int64) (k35 : Int32 → (Dt) → Option (Int32 × Dt)) (x4 : Int32) (d : Dt) : Option (Int32 × Dt) := if x4 < 0 then some (gF d 0 4, d) else gd (inb (gF d 0 4) (L (32 * 0 + 3))) (bd (sA d (32 * 0 + 3) (ix (gF d 0 4)) (((p2 >>> ((8 * x4 : Int32).toInt64 &&& 63)) &&& 255 : Int64).toInt32)) (fun d7 => bd (sF d7 0 4 ((gF d7 0 4) + 1)) (fun d8 => k35 (x4 + (-1)) d8)))
set_option maxRecDepth 20000 in
theorem b_X6_feed_35 {K : Kx} {Y : Yx} {z : Sh}  (hC : CK K Y cX6_feed 5 RX6 1 25) (hr : (kme K).sig.returnType = some .int) (hA : kA K = aY Y z) {p1 : Int32} {p2 : Int64} (ho : (0, 0, 5) ∈ yI Y) {r : Int32} {d' : Dt} (hQ : kQ K = MQ (kb K) (QM Y z (some (.int r)) d') (ka K) (ks K) 0 0 (aY Y z)) {k35 : Int32 → (Dt) → Option (Int32 × Dt)} (hk35 : ∀ (x4 : Int32) (d : Dt), k35 x4 d = some (r, d') → V K Y 5 0 0 z d 35 [(0, .ref (yo Y 0)), (2, .long p2), (4, .int x4)] []) (x4 : Int32) (d : Dt) (hf : t_X6_feed_35 z.1 p1 p2 k35 x4 d = some (r, d')) : V K Y 5 0 0 z d 35 [(0, .ref (yo Y 0)), (2, .long p2), (4, .int x4)] [] := by
  have hL := hC.2.2.2.2.2.2.1
  unfold t_X6_feed_35 at hf
  refine V_iload 2 hC dX6_feed_35 rfl ?_
  refine V_if_lt (tgt := 77) hC dX6_feed_37 (by decide) (fun c5 => ?_) (fun c5 => ?_)
  · have hf := if_t hf c5
    refine V_aload_n 0 hC dX6_feed_77 rfl rfl ?_
    refine V_geti (o := 0) hC ho rfl fk_X6_71 dX6_feed_78 ?_
    obtain ⟨rfl, rfl⟩ := so_inj2 hf
    exact V_iret hC hr hQ hA dX6_feed_81
  · have hf := if_f hf c5
    refine V_aload_n 0 hC dX6_feed_40 rfl rfl ?_
    refine V_geta (o := 0) hC ho rfl fk_X6_20 dX6_feed_41 ?_
    refine V_aload_n 0 hC dX6_feed_44 rfl rfl ?_
    refine V_geti (o := 0) hC ho rfl fk_X6_71 dX6_feed_45 ?_
    refine V_lload_n 1 hC dX6_feed_48 rfl rfl ?_
    refine V_bipush (v := 8) hC dX6_feed_49 rfl ?_
    refine V_iload 2 hC dX6_feed_51 rfl ?_
    refine V_imul hC dX6_feed_53 ?_
    refine V_lshr hC dX6_feed_54 ?_
    refine V_ldc2 hC cl_X6_75 dX6_feed_55 ?_
    refine V_land hC dX6_feed_58 ?_
    refine V_l2i hC dX6_feed_59 ?_
    obtain ⟨g6, hf⟩ := gd_some hf
    refine V_iast (a := (32 * 0 + 3)) hC (hL.row ho rfl) g6 dX6_feed_60 (fun d7 ed7 => ?_)
    have hf := bd_e hf d7 ed7
    refine V_aload_n 0 hC dX6_feed_61 rfl rfl ?_
    refine V_dup hC dX6_feed_62 rfl ?_
    refine V_geti (o := 0) hC ho rfl fk_X6_71 dX6_feed_63 ?_
    refine V_iconst (v := 1) hC dX6_feed_66 rfl ?_
    refine V_iadd hC dX6_feed_67 ?_
    refine V_puti (o := 0) hC ho rfl fk_X6_71 pl_X6 rfl rfl dX6_feed_68 (fun d8 ed8 => ?_)
    have hf := bd_e hf d8 ed8
    refine V_iinc (v := x4 + (-1)) (lv' := [(4, .int (x4 + (-1))), (0, .ref (yo Y 0)), (2, .long p2)]) 2 hC dX6_feed_71 rfl rfl (by decide) rfl ?_
    refine V_goto (tgt := 35) hC dX6_feed_74 (by decide) ?_
    exact V_sub [1, 2, 0] rfl (hk35 (x4 + (-1)) d8 hf)
def t_X6_feed (L : Nat → Nat) (d : Dt) (p1 : Int32) (p2 : Int64) : Option (Int32 × Dt) := (t_X6_in L d (p1.toInt64) 1 8).bind (fun v1 => if v1 = 0 then some ((-1000002), d) else if ((gF d 0 4) + p1) ≤ 600 then bd (p1 - 1) (fun y4 => lp (fun k x => t_X6_feed_35 L p1 p2  (fun x4 d => k (x4, d)) x.1 x.2) FU (y4, d)) else some ((-1000004), d))
set_option maxRecDepth 20000 in
theorem c_X6_feed {l : Launch} {Y : Yx} (hL : LAY Y) {z : Sh} {d : Dt} {p1 : Int32} {p2 : Int64} (ho : (0, 0, 5) ∈ yI Y) {r : Int32} {d' : Dt} (hf : t_X6_feed z.1 d p1 p2 = some (r, d')) : MM l yX6_feed cX6_feed 5 (some .int) 1 25 Y z [.ref (yo Y 0), .int p1, .long p2] d (some (.int r)) d' := by
  refine MM.ofV (by decide +kernel) hL (Nat.le_of_ble_eq_true rfl) (fun K hl hC hr hQ hA => ?_)
  have hC : CK K Y cX6_feed 5 RX6 1 25 := hC
  have hkn : 0 ≤ (kR K).cells ∧ 0 ≤ (kR K).slots := ⟨Nat.zero_le _, Nat.zero_le _⟩
  unfold t_X6_feed at hf
  show V K Y 5 0 0 z d 0 [(0, .ref (yo Y 0)), (1, .int p1), (2, .long p2)] []
  refine V_iload_n 1 hC dX6_feed_0 rfl rfl ?_
  refine V_i2l hC dX6_feed_1 ?_
  refine V_lconst (v := 1) hC dX6_feed_2 rfl ?_
  refine V_ldc2 hC cl_X6_64 dX6_feed_3 ?_
  obtain ⟨v1, ev1, hf⟩ := bi_some hf
  refine V_insi (As := [.long (p1.toInt64), .long 1, .long 8]) (rest := []) hC (c_X6_in hL  ev1) me_X6_in lk_X6_66 rfl rfl (Nat.le_of_ble_eq_true rfl) ⟨by decide, by decide⟩ hkn dX6_feed_6 ?_
  refine V_if_ne (tgt := 15) hC dX6_feed_9 (by decide) (fun c2 => ?_) (fun c2 => ?_)
  · have hf := if_f hf c2
    refine V_aload_n 0 hC dX6_feed_15 rfl rfl ?_
    refine V_geti (o := 0) hC ho rfl fk_X6_71 dX6_feed_16 ?_
    refine V_iload_n 1 hC dX6_feed_19 rfl rfl ?_
    refine V_iadd hC dX6_feed_20 ?_
    refine V_sipush (v := 600) hC dX6_feed_21 rfl ?_
    refine V_icmp_le (tgt := 30) hC dX6_feed_24 (by decide) (fun c3 => ?_) (fun c3 => ?_)
    · have hf := if_t hf c3
      refine V_iload_n 1 hC dX6_feed_30 rfl rfl ?_
      refine V_iconst (v := 1) hC dX6_feed_31 rfl ?_
      refine V_isub hC dX6_feed_32 ?_
      refine V_topi (fun y4 ey4 => ?_)
      have hf := bd_e hf y4 ey4
      refine V_istore (lv' := [(4, .int y4), (0, .ref (yo Y 0)), (1, .int p1), (2, .long p2)]) hC dX6_feed_33 (by decide) rfl ?_
      exact V_sub [1, 3, 0] rfl (lp_ind (X := Int32 × Dt) (P := fun x => V K Y 5 0 0 z x.2 35 [(0, .ref (yo Y 0)), (2, .long p2), (4, .int x.1)] []) (fun k x hk hx => b_X6_feed_35 hC hr hA ho hQ  (k35 := fun x4 d => k (x4, d)) (fun x4 d hx => hk (x4, d) hx) x.1 x.2 hx) FU (y4, d) hf)
    · have hf := if_f hf c3
      refine V_ldc hC ck_X6_74 dX6_feed_27 ?_
      obtain ⟨rfl, rfl⟩ := so_inj2 hf
      exact V_iret hC hr hQ hA dX6_feed_29
  · have hf := if_t hf c2
    refine V_ldc hC ck_X6_70 dX6_feed_12 ?_
    obtain ⟨rfl, rfl⟩ := so_inj2 hf
    exact V_iret hC hr hQ hA dX6_feed_14
def t_X6_here_38 (L : Nat → Nat)   (d : Dt) : Option (Int32 × Dt) := if (gF d 0 4) ≤ (gF d 0 5) then some ((-1), d) else gd (inb (gF d 0 5) (L (32 * 0 + 3))) (some (gA d (32 * 0 + 3) (ix (gF d 0 5)), d))
set_option maxRecDepth 20000 in
theorem b_X6_here_38 {K : Kx} {Y : Yx} {z : Sh}  (hC : CK K Y cX6_here 1 RX6 0 0) (hr : (kme K).sig.returnType = some .int) (hA : kA K = aY Y z)  (ho : (0, 0, 5) ∈ yI Y) {r : Int32} {d' : Dt} (hQ : kQ K = MQ (kb K) (QM Y z (some (.int r)) d') (ka K) (ks K) 0 0 (aY Y z))    (d : Dt) (hf : t_X6_here_38 z.1   d = some (r, d')) : V K Y 1 0 0 z d 38 [(0, .ref (yo Y 0))] [] := by
  have hL := hC.2.2.2.2.2.2.1
  unfold t_X6_here_38 at hf
  refine V_aload_n 0 hC dX6_here_38 rfl rfl ?_
  refine V_geti (o := 0) hC ho rfl fk_X6_77 dX6_here_39 ?_
  refine V_aload_n 0 hC dX6_here_42 rfl rfl ?_
  refine V_geti (o := 0) hC ho rfl fk_X6_71 dX6_here_43 ?_
  refine V_icmp_ge (tgt := 61) hC dX6_here_46 (by decide) (fun c5 => ?_) (fun c5 => ?_)
  · have hf := if_t hf c5
    refine V_iconst (v := -1) hC dX6_here_61 rfl ?_
    obtain ⟨rfl, rfl⟩ := so_inj2 hf
    exact V_iret hC hr hQ hA dX6_here_62
  · have hf := if_f hf c5
    refine V_aload_n 0 hC dX6_here_49 rfl rfl ?_
    refine V_geta (o := 0) hC ho rfl fk_X6_20 dX6_here_50 ?_
    refine V_aload_n 0 hC dX6_here_53 rfl rfl ?_
    refine V_geti (o := 0) hC ho rfl fk_X6_77 dX6_here_54 ?_
    obtain ⟨g6, hf⟩ := gd_some hf
    refine V_iald (a := (32 * 0 + 3)) hC (hL.row ho rfl) g6 dX6_here_57 ?_
    refine V_goto (tgt := 62) hC dX6_here_58 (by decide) ?_
    obtain ⟨rfl, rfl⟩ := so_inj2 hf
    exact V_iret hC hr hQ hA dX6_here_62
def t_X6_here_0 (L : Nat → Nat) (k0 : (Dt) → Option (Int32 × Dt))  (d : Dt) : Option (Int32 × Dt) := if (gF d 0 4) ≤ (gF d 0 5) then t_X6_here_38 L  d else gd (inb (gF d 0 5) (L (32 * 0 + 3))) (if (gA d (32 * 0 + 3) (ix (gF d 0 5))) = 32 then bd (sF d 0 5 ((gF d 0 5) + 1)) (fun d4 => k0 d4) else t_X6_here_38 L  d)
set_option maxRecDepth 20000 in
theorem b_X6_here_0 {K : Kx} {Y : Yx} {z : Sh}  (hC : CK K Y cX6_here 1 RX6 0 0) (hr : (kme K).sig.returnType = some .int) (hA : kA K = aY Y z)  (ho : (0, 0, 5) ∈ yI Y) {r : Int32} {d' : Dt} (hQ : kQ K = MQ (kb K) (QM Y z (some (.int r)) d') (ka K) (ks K) 0 0 (aY Y z)) {k0 : (Dt) → Option (Int32 × Dt)} (hk0 : ∀  (d : Dt), k0  d = some (r, d') → V K Y 1 0 0 z d 0 [(0, .ref (yo Y 0))] [])  (d : Dt) (hf : t_X6_here_0 z.1 k0  d = some (r, d')) : V K Y 1 0 0 z d 0 [(0, .ref (yo Y 0))] [] := by
  have hL := hC.2.2.2.2.2.2.1
  unfold t_X6_here_0 at hf
  refine V_aload_n 0 hC dX6_here_0 rfl rfl ?_
  refine V_geti (o := 0) hC ho rfl fk_X6_77 dX6_here_1 ?_
  refine V_aload_n 0 hC dX6_here_4 rfl rfl ?_
  refine V_geti (o := 0) hC ho rfl fk_X6_71 dX6_here_5 ?_
  refine V_icmp_ge (tgt := 38) hC dX6_here_8 (by decide) (fun c1 => ?_) (fun c1 => ?_)
  · have hf := if_t hf c1
    exact b_X6_here_38 hC hr hA ho hQ  d hf
  · have hf := if_f hf c1
    refine V_aload_n 0 hC dX6_here_11 rfl rfl ?_
    refine V_geta (o := 0) hC ho rfl fk_X6_20 dX6_here_12 ?_
    refine V_aload_n 0 hC dX6_here_15 rfl rfl ?_
    refine V_geti (o := 0) hC ho rfl fk_X6_77 dX6_here_16 ?_
    obtain ⟨g2, hf⟩ := gd_some hf
    refine V_iald (a := (32 * 0 + 3)) hC (hL.row ho rfl) g2 dX6_here_19 ?_
    refine V_bipush (v := 32) hC dX6_here_20 rfl ?_
    refine V_icmp_ne (tgt := 38) hC dX6_here_22 (by decide) (fun c3 => ?_) (fun c3 => ?_)
    · have hf := if_f hf c3
      exact b_X6_here_38 hC hr hA ho hQ  d hf
    · have hf := if_t hf c3
      refine V_aload_n 0 hC dX6_here_25 rfl rfl ?_
      refine V_dup hC dX6_here_26 rfl ?_
      refine V_geti (o := 0) hC ho rfl fk_X6_77 dX6_here_27 ?_
      refine V_iconst (v := 1) hC dX6_here_30 rfl ?_
      refine V_iadd hC dX6_here_31 ?_
      refine V_puti (o := 0) hC ho rfl fk_X6_77 pl_X6 rfl rfl dX6_here_32 (fun d4 ed4 => ?_)
      have hf := bd_e hf d4 ed4
      refine V_goto (tgt := 0) hC dX6_here_35 (by decide) ?_
      exact hk0 d4 hf
def t_X6_here (L : Nat → Nat) (d : Dt)  : Option (Int32 × Dt) := lp (fun k x => t_X6_here_0 L  (fun d => k d) x) FU d
set_option maxRecDepth 20000 in
theorem c_X6_here {l : Launch} {Y : Yx} (hL : LAY Y) {z : Sh} {d : Dt}  (ho : (0, 0, 5) ∈ yI Y) {r : Int32} {d' : Dt} (hf : t_X6_here z.1 d  = some (r, d')) : MM l yX6_here cX6_here 1 (some .int) 0 0 Y z [.ref (yo Y 0)] d (some (.int r)) d' := by
  refine MM.ofV (by decide +kernel) hL (Nat.le_of_ble_eq_true rfl) (fun K hl hC hr hQ hA => ?_)
  have hC : CK K Y cX6_here 1 RX6 0 0 := hC
  unfold t_X6_here at hf
  show V K Y 1 0 0 z d 0 [(0, .ref (yo Y 0))] []
  exact lp_ind (X := Dt) (P := fun x => V K Y 1 0 0 z x 0 [(0, .ref (yo Y 0))] []) (fun k x hk hx => b_X6_here_0 hC hr hA ho hQ  (k0 := fun d => k d) (fun d hx => hk d hx) x hx) FU d hf
def t_X6_want_21 (L : Nat → Nat) (p1 : Int32) (p2 : Int32) (p3 : Int32)   (d : Dt) : Option (Int32 × Dt) := if (gF d 0 8) = 0 then some (1, d) else some (0, d)
set_option maxRecDepth 20000 in
theorem b_X6_want_21 {K : Kx} {Y : Yx} {z : Sh}  (hC : CK K Y cX6_want 4 RX6 0 0) (hr : (kme K).sig.returnType = some .boolean) (hA : kA K = aY Y z) {p1 : Int32} {p2 : Int32} {p3 : Int32} (ho : (0, 0, 5) ∈ yI Y) {r : Int32} {d' : Dt} (hQ : kQ K = MQ (kb K) (QM Y z (some (.int r)) d') (ka K) (ks K) 0 0 (aY Y z))    (d : Dt) (hf : t_X6_want_21 z.1 p1 p2 p3   d = some (r, d')) : V K Y 4 0 0 z d 21 [(0, .ref (yo Y 0))] [] := by
  have hL := hC.2.2.2.2.2.2.1
  unfold t_X6_want_21 at hf
  refine V_aload_n 0 hC dX6_want_21 rfl rfl ?_
  refine V_geti (o := 0) hC ho rfl fk_X6_80 dX6_want_22 ?_
  refine V_if_ne (tgt := 32) hC dX6_want_25 (by decide) (fun c5 => ?_) (fun c5 => ?_)
  · have hf := if_f hf c5
    refine V_iconst (v := 0) hC dX6_want_32 rfl ?_
    obtain ⟨rfl, rfl⟩ := so_inj2 hf
    exact V_zret hC hr rfl hQ hA dX6_want_33
  · have hf := if_t hf c5
    refine V_iconst (v := 1) hC dX6_want_28 rfl ?_
    refine V_goto (tgt := 33) hC dX6_want_29 (by decide) ?_
    obtain ⟨rfl, rfl⟩ := so_inj2 hf
    exact V_zret hC hr rfl hQ hA dX6_want_33
def t_X6_want (L : Nat → Nat) (d : Dt) (p1 : Int32) (p2 : Int32) (p3 : Int32) : Option (Int32 × Dt) := if p1 = 0 then if (gF d 0 8) = 0 then bd (sF d 0 8 p2) (fun d3 => bd (sF d3 0 9 p3) (fun d4 => t_X6_want_21 L p1 p2 p3  d4)) else t_X6_want_21 L p1 p2 p3  d else t_X6_want_21 L p1 p2 p3  d
set_option maxRecDepth 20000 in
theorem c_X6_want {l : Launch} {Y : Yx} (hL : LAY Y) {z : Sh} {d : Dt} {p1 : Int32} {p2 : Int32} {p3 : Int32} (ho : (0, 0, 5) ∈ yI Y) {r : Int32} {d' : Dt} (hf : t_X6_want z.1 d p1 p2 p3 = some (r, d')) : MM l yX6_want cX6_want 4 (some .boolean) 0 0 Y z [.ref (yo Y 0), .int p1, .int p2, .int p3] d (some (.int r)) d' := by
  refine MM.ofV (by decide +kernel) hL (Nat.le_of_ble_eq_true rfl) (fun K hl hC hr hQ hA => ?_)
  have hC : CK K Y cX6_want 4 RX6 0 0 := hC
  unfold t_X6_want at hf
  show V K Y 4 0 0 z d 0 [(0, .ref (yo Y 0)), (1, .int p1), (2, .int p2), (3, .int p3)] []
  refine V_iload_n 1 hC dX6_want_0 rfl rfl ?_
  refine V_if_ne (tgt := 21) hC dX6_want_1 (by decide) (fun c1 => ?_) (fun c1 => ?_)
  · have hf := if_f hf c1
    exact V_sub [0] rfl (b_X6_want_21 hC hr hA ho hQ  d hf)
  · have hf := if_t hf c1
    refine V_aload_n 0 hC dX6_want_4 rfl rfl ?_
    refine V_geti (o := 0) hC ho rfl fk_X6_80 dX6_want_5 ?_
    refine V_if_ne (tgt := 21) hC dX6_want_8 (by decide) (fun c2 => ?_) (fun c2 => ?_)
    · have hf := if_f hf c2
      exact V_sub [0] rfl (b_X6_want_21 hC hr hA ho hQ  d hf)
    · have hf := if_t hf c2
      refine V_aload_n 0 hC dX6_want_11 rfl rfl ?_
      refine V_iload_n 2 hC dX6_want_12 rfl rfl ?_
      refine V_puti (o := 0) hC ho rfl fk_X6_80 pl_X6 rfl rfl dX6_want_13 (fun d3 ed3 => ?_)
      have hf := bd_e hf d3 ed3
      refine V_aload_n 0 hC dX6_want_16 rfl rfl ?_
      refine V_iload_n 3 hC dX6_want_17 rfl rfl ?_
      refine V_puti (o := 0) hC ho rfl fk_X6_23 pl_X6 rfl rfl dX6_want_18 (fun d4 ed4 => ?_)
      have hf := bd_e hf d4 ed4
      exact V_sub [0] rfl (b_X6_want_21 hC hr hA ho hQ  d4 hf)
def t_X6_takeWord_59 (L : Nat → Nat)   (d : Dt) : Option (Dt) := bd (sF d 0 7 ((gF d 0 5) - (gF d 0 6))) (fun d8 => some d8)
set_option maxRecDepth 20000 in
theorem b_X6_takeWord_59 {K : Kx} {Y : Yx} {z : Sh}  (hC : CK K Y cX6_takeWord 2 RX6 1 25) (hr : (kme K).sig.returnType = none) (hA : kA K = aY Y z)  (ho : (0, 0, 5) ∈ yI Y) {d' : Dt} (hQ : kQ K = MQ (kb K) (QM Y z (none) d') (ka K) (ks K) 0 0 (aY Y z))    (d : Dt) (hf : t_X6_takeWord_59 z.1   d = some d') : V K Y 2 0 0 z d 59 [(0, .ref (yo Y 0))] [] := by
  have hL := hC.2.2.2.2.2.2.1
  unfold t_X6_takeWord_59 at hf
  refine V_aload_n 0 hC dX6_takeWord_59 rfl rfl ?_
  refine V_aload_n 0 hC dX6_takeWord_60 rfl rfl ?_
  refine V_geti (o := 0) hC ho rfl fk_X6_77 dX6_takeWord_61 ?_
  refine V_aload_n 0 hC dX6_takeWord_64 rfl rfl ?_
  refine V_geti (o := 0) hC ho rfl fk_X6_87 dX6_takeWord_65 ?_
  refine V_isub hC dX6_takeWord_68 ?_
  refine V_puti (o := 0) hC ho rfl fk_X6_94 pl_X6 rfl rfl dX6_takeWord_69 (fun d8 ed8 => ?_)
  have hf := bd_e hf d8 ed8
  obtain rfl := so_inj hf
  exact V_vret hC hr hQ hA dX6_takeWord_72
def t_X6_takeWord_13 (L : Nat → Nat) (k13 : (Dt) → Option (Dt))  (d : Dt) : Option (Dt) := if (gF d 0 4) ≤ (gF d 0 5) then t_X6_takeWord_59 L  d else gd (inb (gF d 0 5) (L (32 * 0 + 3))) ((t_X6_in L d ((gA d (32 * 0 + 3) (ix (gF d 0 5)) : Int32).toInt64) 97 122).bind (fun v5 => if v5 = 0 then t_X6_takeWord_59 L  d else bd (sF d 0 5 ((gF d 0 5) + 1)) (fun d7 => k13 d7)))
set_option maxRecDepth 20000 in
theorem b_X6_takeWord_13 {K : Kx} {Y : Yx} {z : Sh}  (hC : CK K Y cX6_takeWord 2 RX6 1 25) (hr : (kme K).sig.returnType = none) (hA : kA K = aY Y z)  (ho : (0, 0, 5) ∈ yI Y) {d' : Dt} (hQ : kQ K = MQ (kb K) (QM Y z (none) d') (ka K) (ks K) 0 0 (aY Y z)) {k13 : (Dt) → Option (Dt)} (hk13 : ∀  (d : Dt), k13  d = some d' → V K Y 2 0 0 z d 13 [(0, .ref (yo Y 0))] [])  (d : Dt) (hf : t_X6_takeWord_13 z.1 k13  d = some d') : V K Y 2 0 0 z d 13 [(0, .ref (yo Y 0))] [] := by
  have hL := hC.2.2.2.2.2.2.1
  have hkn : 0 ≤ (kR K).cells ∧ 0 ≤ (kR K).slots := ⟨Nat.zero_le _, Nat.zero_le _⟩
  unfold t_X6_takeWord_13 at hf
  refine V_aload_n 0 hC dX6_takeWord_13 rfl rfl ?_
  refine V_geti (o := 0) hC ho rfl fk_X6_77 dX6_takeWord_14 ?_
  refine V_aload_n 0 hC dX6_takeWord_17 rfl rfl ?_
  refine V_geti (o := 0) hC ho rfl fk_X6_71 dX6_takeWord_18 ?_
  refine V_icmp_ge (tgt := 59) hC dX6_takeWord_21 (by decide) (fun c3 => ?_) (fun c3 => ?_)
  · have hf := if_t hf c3
    exact b_X6_takeWord_59 hC hr hA ho hQ  d hf
  · have hf := if_f hf c3
    refine V_aload_n 0 hC dX6_takeWord_24 rfl rfl ?_
    refine V_geta (o := 0) hC ho rfl fk_X6_20 dX6_takeWord_25 ?_
    refine V_aload_n 0 hC dX6_takeWord_28 rfl rfl ?_
    refine V_geti (o := 0) hC ho rfl fk_X6_77 dX6_takeWord_29 ?_
    obtain ⟨g4, hf⟩ := gd_some hf
    refine V_iald (a := (32 * 0 + 3)) hC (hL.row ho rfl) g4 dX6_takeWord_32 ?_
    refine V_i2l hC dX6_takeWord_33 ?_
    refine V_ldc2 hC cl_X6_90 dX6_takeWord_34 ?_
    refine V_ldc2 hC cl_X6_92 dX6_takeWord_37 ?_
    obtain ⟨v5, ev5, hf⟩ := bi_some hf
    refine V_insi (As := [.long ((gA d (32 * 0 + 3) (ix (gF d 0 5)) : Int32).toInt64), .long 97, .long 122]) (rest := []) hC (c_X6_in hL  ev5) me_X6_in lk_X6_66 rfl rfl (Nat.le_of_ble_eq_true rfl) ⟨by decide, by decide⟩ hkn dX6_takeWord_40 ?_
    refine V_if_eq (tgt := 59) hC dX6_takeWord_43 (by decide) (fun c6 => ?_) (fun c6 => ?_)
    · have hf := if_t hf c6
      exact b_X6_takeWord_59 hC hr hA ho hQ  d hf
    · have hf := if_f hf c6
      refine V_aload_n 0 hC dX6_takeWord_46 rfl rfl ?_
      refine V_dup hC dX6_takeWord_47 rfl ?_
      refine V_geti (o := 0) hC ho rfl fk_X6_77 dX6_takeWord_48 ?_
      refine V_iconst (v := 1) hC dX6_takeWord_51 rfl ?_
      refine V_iadd hC dX6_takeWord_52 ?_
      refine V_puti (o := 0) hC ho rfl fk_X6_77 pl_X6 rfl rfl dX6_takeWord_53 (fun d7 ed7 => ?_)
      have hf := bd_e hf d7 ed7
      refine V_goto (tgt := 13) hC dX6_takeWord_56 (by decide) ?_
      exact hk13 d7 hf
def t_X6_takeWord (L : Nat → Nat) (d : Dt)  : Option (Dt) := (t_X6_here L d ).bind (fun q1 => bd (sF q1.2 0 6 (gF q1.2 0 5)) (fun d2 => lp (fun k x => t_X6_takeWord_13 L  (fun d => k d) x) FU d2))
set_option maxRecDepth 20000 in
theorem c_X6_takeWord {l : Launch} {Y : Yx} (hL : LAY Y) {z : Sh} {d : Dt}  (ho : (0, 0, 5) ∈ yI Y) {d' : Dt} (hf : t_X6_takeWord z.1 d  = some d') : MM l yX6_takeWord cX6_takeWord 2 none 1 25 Y z [.ref (yo Y 0)] d (none) d' := by
  refine MM.ofV (by decide +kernel) hL (Nat.le_of_ble_eq_true rfl) (fun K hl hC hr hQ hA => ?_)
  have hC : CK K Y cX6_takeWord 2 RX6 1 25 := hC
  have hkn : 0 ≤ (kR K).cells ∧ 0 ≤ (kR K).slots := ⟨Nat.zero_le _, Nat.zero_le _⟩
  unfold t_X6_takeWord at hf
  show V K Y 2 0 0 z d 0 [(0, .ref (yo Y 0))] []
  refine V_aload_n 0 hC dX6_takeWord_0 rfl rfl ?_
  obtain ⟨q1, eq1, hf⟩ := bi_some hf
  refine V_invi (o := 0) (As := []) (rest := []) hC (c_X6_here hL ho eq1) me_X6_here lk_X6_83 ho rfl rfl rfl (Nat.le_of_ble_eq_true rfl) ⟨by decide, by decide⟩ hkn dX6_takeWord_1 ?_
  refine V_istore_n (lv' := [(1, .int q1.1), (0, .ref (yo Y 0))]) hC dX6_takeWord_4 rfl (by decide) rfl ?_
  refine V_aload_n 1 hC dX6_takeWord_5 rfl rfl ?_
  refine V_aload_n 1 hC dX6_takeWord_6 rfl rfl ?_
  refine V_geti (o := 0) hC ho rfl fk_X6_77 dX6_takeWord_7 ?_
  refine V_puti (o := 0) hC ho rfl fk_X6_87 pl_X6 rfl rfl dX6_takeWord_10 (fun d2 ed2 => ?_)
  have hf := bd_e hf d2 ed2
  exact V_sub [1] rfl (lp_ind (X := Dt) (P := fun x => V K Y 2 0 0 z x 13 [(0, .ref (yo Y 0))] []) (fun k x hk hx => b_X6_takeWord_13 hC hr hA ho hQ  (k13 := fun d => k d) (fun d hx => hk d hx) x hx) FU d2 hf)
def t_X6_isWord_100 (L : Nat → Nat) (d : Dt) (p1 : Int32) (p2 : Int32) (p3 : Int32) (p4 : Int32) (p5 : Int32) (p6 : Int32)  (x7 : Int32)  : Option (Int32) := if x7 = 0 then some 0 else if (gF d 0 7) = p1 then some 1 else some 0
set_option maxRecDepth 20000 in
theorem b_X6_isWord_100 {K : Kx} {Y : Yx} {z : Sh} {d : Dt} (hC : CK K Y cX6_isWord 9 RX6 0 0) (hr : (kme K).sig.returnType = some .boolean) (hA : kA K = aY Y z) {p1 : Int32} {p2 : Int32} {p3 : Int32} {p4 : Int32} {p5 : Int32} {p6 : Int32} (ho : (0, 0, 5) ∈ yI Y) {r : Int32} (hQ : kQ K = MQ (kb K) (QM Y z (some (.int r)) d) (ka K) (ks K) 0 0 (aY Y z))   (x7 : Int32)  (hf : t_X6_isWord_100 z.1 d p1 p2 p3 p4 p5 p6  x7  = some r) : V K Y 9 0 0 z d 100 [(0, .ref (yo Y 0)), (1, .int p1), (7, .int x7)] [] := by
  have hL := hC.2.2.2.2.2.2.1
  unfold t_X6_isWord_100 at hf
  refine V_iload 2 hC dX6_isWord_100 rfl ?_
  refine V_if_eq (tgt := 117) hC dX6_isWord_102 (by decide) (fun c9 => ?_) (fun c9 => ?_)
  · have hf := if_t hf c9
    refine V_iconst (v := 0) hC dX6_isWord_117 rfl ?_
    obtain rfl := so_inj hf
    exact V_zret hC hr rfl hQ hA dX6_isWord_118
  · have hf := if_f hf c9
    refine V_aload_n 0 hC dX6_isWord_105 rfl rfl ?_
    refine V_geti (o := 0) hC ho rfl fk_X6_94 dX6_isWord_106 ?_
    refine V_iload_n 1 hC dX6_isWord_109 rfl rfl ?_
    refine V_icmp_ne (tgt := 117) hC dX6_isWord_110 (by decide) (fun c10 => ?_) (fun c10 => ?_)
    · have hf := if_f hf c10
      refine V_iconst (v := 0) hC dX6_isWord_117 rfl ?_
      obtain rfl := so_inj hf
      exact V_zret hC hr rfl hQ hA dX6_isWord_118
    · have hf := if_t hf c10
      refine V_iconst (v := 1) hC dX6_isWord_113 rfl ?_
      refine V_goto (tgt := 118) hC dX6_isWord_114 (by decide) ?_
      obtain rfl := so_inj hf
      exact V_zret hC hr rfl hQ hA dX6_isWord_118
def t_X6_isWord_92 (L : Nat → Nat) (d : Dt) (p1 : Int32) (p2 : Int32) (p3 : Int32) (p4 : Int32) (p5 : Int32) (p6 : Int32) (k18 : Int32 → Int32 → Option (Int32)) (x8 : Int32) (s0 : Int32)  : Option (Int32) := k18 s0 (x8 + 1)
set_option maxRecDepth 20000 in
theorem b_X6_isWord_92 {K : Kx} {Y : Yx} {z : Sh} {d : Dt} (hC : CK K Y cX6_isWord 9 RX6 0 0) (hr : (kme K).sig.returnType = some .boolean) (hA : kA K = aY Y z) {p1 : Int32} {p2 : Int32} {p3 : Int32} {p4 : Int32} {p5 : Int32} {p6 : Int32} (ho : (0, 0, 5) ∈ yI Y) {r : Int32} (hQ : kQ K = MQ (kb K) (QM Y z (some (.int r)) d) (ka K) (ks K) 0 0 (aY Y z)) {k18 : Int32 → Int32 → Option (Int32)} (hk18 : ∀ (x7 : Int32) (x8 : Int32) , k18 x7 x8  = some r → V K Y 9 0 0 z d 18 [(0, .ref (yo Y 0)), (1, .int p1), (2, .int p2), (3, .int p3), (4, .int p4), (5, .int p5), (6, .int p6), (7, .int x7), (8, .int x8)] []) (x8 : Int32) (s0 : Int32)  (hf : t_X6_isWord_92 z.1 d p1 p2 p3 p4 p5 p6 k18 x8 s0  = some r) : V K Y 9 0 0 z d 92 [(0, .ref (yo Y 0)), (1, .int p1), (2, .int p2), (3, .int p3), (4, .int p4), (5, .int p5), (6, .int p6), (8, .int x8)] [.int s0] := by
  have hL := hC.2.2.2.2.2.2.1
  unfold t_X6_isWord_92 at hf
  refine V_istore (lv' := [(7, .int s0), (0, .ref (yo Y 0)), (1, .int p1), (2, .int p2), (3, .int p3), (4, .int p4), (5, .int p5), (6, .int p6), (8, .int x8)]) hC dX6_isWord_92 (by decide) rfl ?_
  refine V_iinc (v := x8 + 1) (lv' := [(8, .int (x8 + 1)), (7, .int s0), (0, .ref (yo Y 0)), (1, .int p1), (2, .int p2), (3, .int p3), (4, .int p4), (5, .int p5), (6, .int p6)]) 8 hC dX6_isWord_94 rfl rfl (by decide) rfl ?_
  refine V_goto (tgt := 18) hC dX6_isWord_97 (by decide) ?_
  exact V_sub [2, 3, 4, 5, 6, 7, 8, 1, 0] rfl (hk18 s0 (x8 + 1) hf)
def t_X6_isWord_84 (L : Nat → Nat) (d : Dt) (p1 : Int32) (p2 : Int32) (p3 : Int32) (p4 : Int32) (p5 : Int32) (p6 : Int32) (k18 : Int32 → Int32 → Option (Int32)) (x8 : Int32) (s0 : Int32) (s1 : Int32)  : Option (Int32) := if s1 = s0 then t_X6_isWord_92 L d p1 p2 p3 p4 p5 p6 k18 x8 1 else t_X6_isWord_92 L d p1 p2 p3 p4 p5 p6 k18 x8 0
set_option maxRecDepth 20000 in
theorem b_X6_isWord_84 {K : Kx} {Y : Yx} {z : Sh} {d : Dt} (hC : CK K Y cX6_isWord 9 RX6 0 0) (hr : (kme K).sig.returnType = some .boolean) (hA : kA K = aY Y z) {p1 : Int32} {p2 : Int32} {p3 : Int32} {p4 : Int32} {p5 : Int32} {p6 : Int32} (ho : (0, 0, 5) ∈ yI Y) {r : Int32} (hQ : kQ K = MQ (kb K) (QM Y z (some (.int r)) d) (ka K) (ks K) 0 0 (aY Y z)) {k18 : Int32 → Int32 → Option (Int32)} (hk18 : ∀ (x7 : Int32) (x8 : Int32) , k18 x7 x8  = some r → V K Y 9 0 0 z d 18 [(0, .ref (yo Y 0)), (1, .int p1), (2, .int p2), (3, .int p3), (4, .int p4), (5, .int p5), (6, .int p6), (7, .int x7), (8, .int x8)] []) (x8 : Int32) (s0 : Int32) (s1 : Int32)  (hf : t_X6_isWord_84 z.1 d p1 p2 p3 p4 p5 p6 k18 x8 s0 s1  = some r) : V K Y 9 0 0 z d 84 [(0, .ref (yo Y 0)), (1, .int p1), (2, .int p2), (3, .int p3), (4, .int p4), (5, .int p5), (6, .int p6), (8, .int x8)] [.int s0, .int s1] := by
  have hL := hC.2.2.2.2.2.2.1
  unfold t_X6_isWord_84 at hf
  refine V_icmp_ne (tgt := 91) hC dX6_isWord_84 (by decide) (fun c11 => ?_) (fun c11 => ?_)
  · have hf := if_f hf c11
    refine V_iconst (v := 0) hC dX6_isWord_91 rfl ?_
    exact b_X6_isWord_92 hC hr hA ho hQ hk18 x8 0 hf
  · have hf := if_t hf c11
    refine V_iconst (v := 1) hC dX6_isWord_87 rfl ?_
    refine V_goto (tgt := 92) hC dX6_isWord_88 (by decide) ?_
    exact b_X6_isWord_92 hC hr hA ho hQ hk18 x8 1 hf
def t_X6_isWord_18 (L : Nat → Nat) (d : Dt) (p1 : Int32) (p2 : Int32) (p3 : Int32) (p4 : Int32) (p5 : Int32) (p6 : Int32) (k18 : Int32 → Int32 → Option (Int32)) (x7 : Int32) (x8 : Int32)  : Option (Int32) := if p1 ≤ x8 then t_X6_isWord_100 L d p1 p2 p3 p4 p5 p6  x7 else if x7 = 0 then t_X6_isWord_100 L d p1 p2 p3 p4 p5 p6  x7 else gd (inb ((gF d 0 6) + x8) (L (32 * 0 + 3))) (if x8 = 0 then t_X6_isWord_84 L d p1 p2 p3 p4 p5 p6 k18 x8 p2 (gA d (32 * 0 + 3) (ix ((gF d 0 6) + x8))) else if x8 = 1 then t_X6_isWord_84 L d p1 p2 p3 p4 p5 p6 k18 x8 p3 (gA d (32 * 0 + 3) (ix ((gF d 0 6) + x8))) else if x8 = 2 then t_X6_isWord_84 L d p1 p2 p3 p4 p5 p6 k18 x8 p4 (gA d (32 * 0 + 3) (ix ((gF d 0 6) + x8))) else if x8 = 3 then t_X6_isWord_84 L d p1 p2 p3 p4 p5 p6 k18 x8 p5 (gA d (32 * 0 + 3) (ix ((gF d 0 6) + x8))) else t_X6_isWord_84 L d p1 p2 p3 p4 p5 p6 k18 x8 p6 (gA d (32 * 0 + 3) (ix ((gF d 0 6) + x8))))
set_option maxRecDepth 20000 in
theorem b_X6_isWord_18 {K : Kx} {Y : Yx} {z : Sh} {d : Dt} (hC : CK K Y cX6_isWord 9 RX6 0 0) (hr : (kme K).sig.returnType = some .boolean) (hA : kA K = aY Y z) {p1 : Int32} {p2 : Int32} {p3 : Int32} {p4 : Int32} {p5 : Int32} {p6 : Int32} (ho : (0, 0, 5) ∈ yI Y) {r : Int32} (hQ : kQ K = MQ (kb K) (QM Y z (some (.int r)) d) (ka K) (ks K) 0 0 (aY Y z)) {k18 : Int32 → Int32 → Option (Int32)} (hk18 : ∀ (x7 : Int32) (x8 : Int32) , k18 x7 x8  = some r → V K Y 9 0 0 z d 18 [(0, .ref (yo Y 0)), (1, .int p1), (2, .int p2), (3, .int p3), (4, .int p4), (5, .int p5), (6, .int p6), (7, .int x7), (8, .int x8)] []) (x7 : Int32) (x8 : Int32)  (hf : t_X6_isWord_18 z.1 d p1 p2 p3 p4 p5 p6 k18 x7 x8  = some r) : V K Y 9 0 0 z d 18 [(0, .ref (yo Y 0)), (1, .int p1), (2, .int p2), (3, .int p3), (4, .int p4), (5, .int p5), (6, .int p6), (7, .int x7), (8, .int x8)] [] := by
  have hL := hC.2.2.2.2.2.2.1
  unfold t_X6_isWord_18 at hf
  refine V_iload 8 hC dX6_isWord_18 rfl ?_
  refine V_iload_n 1 hC dX6_isWord_20 rfl rfl ?_
  refine V_icmp_ge (tgt := 100) hC dX6_isWord_21 (by decide) (fun c2 => ?_) (fun c2 => ?_)
  · have hf := if_t hf c2
    exact V_sub [0, 1, 7] rfl (b_X6_isWord_100 hC hr hA ho hQ  x7 hf)
  · have hf := if_f hf c2
    refine V_iload 7 hC dX6_isWord_24 rfl ?_
    refine V_if_eq (tgt := 100) hC dX6_isWord_26 (by decide) (fun c3 => ?_) (fun c3 => ?_)
    · have hf := if_t hf c3
      exact V_sub [0, 1, 7] rfl (b_X6_isWord_100 hC hr hA ho hQ  x7 hf)
    · have hf := if_f hf c3
      refine V_aload_n 0 hC dX6_isWord_29 rfl rfl ?_
      refine V_geta (o := 0) hC ho rfl fk_X6_20 dX6_isWord_30 ?_
      refine V_aload_n 0 hC dX6_isWord_33 rfl rfl ?_
      refine V_geti (o := 0) hC ho rfl fk_X6_87 dX6_isWord_34 ?_
      refine V_iload 8 hC dX6_isWord_37 rfl ?_
      refine V_iadd hC dX6_isWord_39 ?_
      obtain ⟨g4, hf⟩ := gd_some hf
      refine V_iald (a := (32 * 0 + 3)) hC (hL.row ho rfl) g4 dX6_isWord_40 ?_
      refine V_iload 8 hC dX6_isWord_41 rfl ?_
      refine V_if_ne (tgt := 50) hC dX6_isWord_43 (by decide) (fun c5 => ?_) (fun c5 => ?_)
      · have hf := if_f hf c5
        refine V_iload 8 hC dX6_isWord_50 rfl ?_
        refine V_iconst (v := 1) hC dX6_isWord_52 rfl ?_
        refine V_icmp_ne (tgt := 60) hC dX6_isWord_53 (by decide) (fun c6 => ?_) (fun c6 => ?_)
        · have hf := if_f hf c6
          refine V_iload 8 hC dX6_isWord_60 rfl ?_
          refine V_iconst (v := 2) hC dX6_isWord_62 rfl ?_
          refine V_icmp_ne (tgt := 71) hC dX6_isWord_63 (by decide) (fun c7 => ?_) (fun c7 => ?_)
          · have hf := if_f hf c7
            refine V_iload 8 hC dX6_isWord_71 rfl ?_
            refine V_iconst (v := 3) hC dX6_isWord_73 rfl ?_
            refine V_icmp_ne (tgt := 82) hC dX6_isWord_74 (by decide) (fun c8 => ?_) (fun c8 => ?_)
            · have hf := if_f hf c8
              refine V_iload 6 hC dX6_isWord_82 rfl ?_
              exact V_sub [0, 1, 2, 3, 4, 5, 6, 8] rfl (b_X6_isWord_84 hC hr hA ho hQ hk18 x8 p6 (gA d (32 * 0 + 3) (ix ((gF d 0 6) + x8))) hf)
            · have hf := if_t hf c8
              refine V_iload 5 hC dX6_isWord_77 rfl ?_
              refine V_goto (tgt := 84) hC dX6_isWord_79 (by decide) ?_
              exact V_sub [0, 1, 2, 3, 4, 5, 6, 8] rfl (b_X6_isWord_84 hC hr hA ho hQ hk18 x8 p5 (gA d (32 * 0 + 3) (ix ((gF d 0 6) + x8))) hf)
          · have hf := if_t hf c7
            refine V_iload 4 hC dX6_isWord_66 rfl ?_
            refine V_goto (tgt := 84) hC dX6_isWord_68 (by decide) ?_
            exact V_sub [0, 1, 2, 3, 4, 5, 6, 8] rfl (b_X6_isWord_84 hC hr hA ho hQ hk18 x8 p4 (gA d (32 * 0 + 3) (ix ((gF d 0 6) + x8))) hf)
        · have hf := if_t hf c6
          refine V_iload_n 3 hC dX6_isWord_56 rfl rfl ?_
          refine V_goto (tgt := 84) hC dX6_isWord_57 (by decide) ?_
          exact V_sub [0, 1, 2, 3, 4, 5, 6, 8] rfl (b_X6_isWord_84 hC hr hA ho hQ hk18 x8 p3 (gA d (32 * 0 + 3) (ix ((gF d 0 6) + x8))) hf)
      · have hf := if_t hf c5
        refine V_iload_n 2 hC dX6_isWord_46 rfl rfl ?_
        refine V_goto (tgt := 84) hC dX6_isWord_47 (by decide) ?_
        exact V_sub [0, 1, 2, 3, 4, 5, 6, 8] rfl (b_X6_isWord_84 hC hr hA ho hQ hk18 x8 p2 (gA d (32 * 0 + 3) (ix ((gF d 0 6) + x8))) hf)
def t_X6_isWord_13 (L : Nat → Nat) (d : Dt) (p1 : Int32) (p2 : Int32) (p3 : Int32) (p4 : Int32) (p5 : Int32) (p6 : Int32)  (s0 : Int32)  : Option (Int32) := lp (fun k x => t_X6_isWord_18 L d p1 p2 p3 p4 p5 p6  (fun x7 x8 => k (x7, x8)) x.1 x.2) FU (s0, 0)
set_option maxRecDepth 20000 in
theorem b_X6_isWord_13 {K : Kx} {Y : Yx} {z : Sh} {d : Dt} (hC : CK K Y cX6_isWord 9 RX6 0 0) (hr : (kme K).sig.returnType = some .boolean) (hA : kA K = aY Y z) {p1 : Int32} {p2 : Int32} {p3 : Int32} {p4 : Int32} {p5 : Int32} {p6 : Int32} (ho : (0, 0, 5) ∈ yI Y) {r : Int32} (hQ : kQ K = MQ (kb K) (QM Y z (some (.int r)) d) (ka K) (ks K) 0 0 (aY Y z))   (s0 : Int32)  (hf : t_X6_isWord_13 z.1 d p1 p2 p3 p4 p5 p6  s0  = some r) : V K Y 9 0 0 z d 13 [(0, .ref (yo Y 0)), (1, .int p1), (2, .int p2), (3, .int p3), (4, .int p4), (5, .int p5), (6, .int p6)] [.int s0] := by
  have hL := hC.2.2.2.2.2.2.1
  unfold t_X6_isWord_13 at hf
  refine V_istore (lv' := [(7, .int s0), (0, .ref (yo Y 0)), (1, .int p1), (2, .int p2), (3, .int p3), (4, .int p4), (5, .int p5), (6, .int p6)]) hC dX6_isWord_13 (by decide) rfl ?_
  refine V_iconst (v := 0) hC dX6_isWord_15 rfl ?_
  refine V_istore (lv' := [(8, .int 0), (7, .int s0), (0, .ref (yo Y 0)), (1, .int p1), (2, .int p2), (3, .int p3), (4, .int p4), (5, .int p5), (6, .int p6)]) hC dX6_isWord_16 (by decide) rfl ?_
  exact V_sub [2, 3, 4, 5, 6, 7, 8, 1, 0] rfl (lp_ind (X := Int32 × Int32) (P := fun x => V K Y 9 0 0 z d 18 [(0, .ref (yo Y 0)), (1, .int p1), (2, .int p2), (3, .int p3), (4, .int p4), (5, .int p5), (6, .int p6), (7, .int x.1), (8, .int x.2)] []) (fun k x hk hx => b_X6_isWord_18 hC hr hA ho hQ  (k18 := fun x7 x8 => k (x7, x8)) (fun x7 x8 hx => hk (x7, x8) hx) x.1 x.2 hx) FU (s0, 0) hf)
def t_X6_isWord (L : Nat → Nat) (d : Dt) (p1 : Int32) (p2 : Int32) (p3 : Int32) (p4 : Int32) (p5 : Int32) (p6 : Int32) : Option (Int32) := if (gF d 0 7) < p1 then t_X6_isWord_13 L d p1 p2 p3 p4 p5 p6  0 else t_X6_isWord_13 L d p1 p2 p3 p4 p5 p6  1
set_option maxRecDepth 20000 in
theorem c_X6_isWord {l : Launch} {Y : Yx} (hL : LAY Y) {z : Sh} {d : Dt} {p1 : Int32} {p2 : Int32} {p3 : Int32} {p4 : Int32} {p5 : Int32} {p6 : Int32} (ho : (0, 0, 5) ∈ yI Y) {r : Int32} (hf : t_X6_isWord z.1 d p1 p2 p3 p4 p5 p6 = some r) : MM l yX6_isWord cX6_isWord 9 (some .boolean) 0 0 Y z [.ref (yo Y 0), .int p1, .int p2, .int p3, .int p4, .int p5, .int p6] d (some (.int r)) d := by
  refine MM.ofV (by decide +kernel) hL (Nat.le_of_ble_eq_true rfl) (fun K hl hC hr hQ hA => ?_)
  have hC : CK K Y cX6_isWord 9 RX6 0 0 := hC
  unfold t_X6_isWord at hf
  show V K Y 9 0 0 z d 0 [(0, .ref (yo Y 0)), (1, .int p1), (2, .int p2), (3, .int p3), (4, .int p4), (5, .int p5), (6, .int p6)] []
  refine V_aload_n 0 hC dX6_isWord_0 rfl rfl ?_
  refine V_geti (o := 0) hC ho rfl fk_X6_94 dX6_isWord_1 ?_
  refine V_iload_n 1 hC dX6_isWord_4 rfl rfl ?_
  refine V_icmp_lt (tgt := 12) hC dX6_isWord_5 (by decide) (fun c1 => ?_) (fun c1 => ?_)
  · have hf := if_t hf c1
    refine V_iconst (v := 0) hC dX6_isWord_12 rfl ?_
    exact b_X6_isWord_13 hC hr hA ho hQ  0 hf
  · have hf := if_f hf c1
    refine V_iconst (v := 1) hC dX6_isWord_8 rfl ?_
    refine V_goto (tgt := 13) hC dX6_isWord_9 (by decide) ?_
    exact b_X6_isWord_13 hC hr hA ho hQ  1 hf
def t_X6_isLong_13 (L : Nat → Nat) (d : Dt) (p1 : Int32) (p2 : Int32) (p3 : Int32) (p4 : Int32)  (s0 : Int32)  : Option (Int32) := if s0 = 0 then some 0 else gd (inb (((gF d 0 6) + p1) - 3) (L (32 * 0 + 3))) (if (gA d (32 * 0 + 3) (ix (((gF d 0 6) + p1) - 3))) = p2 then gd (inb (((gF d 0 6) + p1) - 2) (L (32 * 0 + 3))) (if (gA d (32 * 0 + 3) (ix (((gF d 0 6) + p1) - 2))) = p3 then gd (inb (((gF d 0 6) + p1) - 1) (L (32 * 0 + 3))) (if (gA d (32 * 0 + 3) (ix (((gF d 0 6) + p1) - 1))) = p4 then some 1 else some 0) else some 0) else some 0)
set_option maxRecDepth 20000 in
theorem b_X6_isLong_13 {K : Kx} {Y : Yx} {z : Sh} {d : Dt} (hC : CK K Y cX6_isLong 6 RX6 0 0) (hr : (kme K).sig.returnType = some .boolean) (hA : kA K = aY Y z) {p1 : Int32} {p2 : Int32} {p3 : Int32} {p4 : Int32} (ho : (0, 0, 5) ∈ yI Y) {r : Int32} (hQ : kQ K = MQ (kb K) (QM Y z (some (.int r)) d) (ka K) (ks K) 0 0 (aY Y z))   (s0 : Int32)  (hf : t_X6_isLong_13 z.1 d p1 p2 p3 p4  s0  = some r) : V K Y 6 0 0 z d 13 [(0, .ref (yo Y 0)), (1, .int p1), (2, .int p2), (3, .int p3), (4, .int p4)] [.int s0] := by
  have hL := hC.2.2.2.2.2.2.1
  unfold t_X6_isLong_13 at hf
  refine V_istore (lv' := [(5, .int s0), (0, .ref (yo Y 0)), (1, .int p1), (2, .int p2), (3, .int p3), (4, .int p4)]) hC dX6_isLong_13 (by decide) rfl ?_
  refine V_iload 0 hC dX6_isLong_15 rfl ?_
  refine V_if_eq (tgt := 76) hC dX6_isLong_17 (by decide) (fun c2 => ?_) (fun c2 => ?_)
  · have hf := if_t hf c2
    refine V_iconst (v := 0) hC dX6_isLong_76 rfl ?_
    obtain rfl := so_inj hf
    exact V_zret hC hr rfl hQ hA dX6_isLong_77
  · have hf := if_f hf c2
    refine V_aload_n 1 hC dX6_isLong_20 rfl rfl ?_
    refine V_geta (o := 0) hC ho rfl fk_X6_20 dX6_isLong_21 ?_
    refine V_aload_n 1 hC dX6_isLong_24 rfl rfl ?_
    refine V_geti (o := 0) hC ho rfl fk_X6_87 dX6_isLong_25 ?_
    refine V_iload_n 2 hC dX6_isLong_28 rfl rfl ?_
    refine V_iadd hC dX6_isLong_29 ?_
    refine V_iconst (v := 3) hC dX6_isLong_30 rfl ?_
    refine V_isub hC dX6_isLong_31 ?_
    obtain ⟨g3, hf⟩ := gd_some hf
    refine V_iald (a := (32 * 0 + 3)) hC (hL.row ho rfl) g3 dX6_isLong_32 ?_
    refine V_iload_n 3 hC dX6_isLong_33 rfl rfl ?_
    refine V_icmp_ne (tgt := 76) hC dX6_isLong_34 (by decide) (fun c4 => ?_) (fun c4 => ?_)
    · have hf := if_f hf c4
      refine V_iconst (v := 0) hC dX6_isLong_76 rfl ?_
      obtain rfl := so_inj hf
      exact V_zret hC hr rfl hQ hA dX6_isLong_77
    · have hf := if_t hf c4
      refine V_aload_n 1 hC dX6_isLong_37 rfl rfl ?_
      refine V_geta (o := 0) hC ho rfl fk_X6_20 dX6_isLong_38 ?_
      refine V_aload_n 1 hC dX6_isLong_41 rfl rfl ?_
      refine V_geti (o := 0) hC ho rfl fk_X6_87 dX6_isLong_42 ?_
      refine V_iload_n 2 hC dX6_isLong_45 rfl rfl ?_
      refine V_iadd hC dX6_isLong_46 ?_
      refine V_iconst (v := 2) hC dX6_isLong_47 rfl ?_
      refine V_isub hC dX6_isLong_48 ?_
      obtain ⟨g5, hf⟩ := gd_some hf
      refine V_iald (a := (32 * 0 + 3)) hC (hL.row ho rfl) g5 dX6_isLong_49 ?_
      refine V_iload_n 4 hC dX6_isLong_50 rfl rfl ?_
      refine V_icmp_ne (tgt := 76) hC dX6_isLong_51 (by decide) (fun c6 => ?_) (fun c6 => ?_)
      · have hf := if_f hf c6
        refine V_iconst (v := 0) hC dX6_isLong_76 rfl ?_
        obtain rfl := so_inj hf
        exact V_zret hC hr rfl hQ hA dX6_isLong_77
      · have hf := if_t hf c6
        refine V_aload_n 1 hC dX6_isLong_54 rfl rfl ?_
        refine V_geta (o := 0) hC ho rfl fk_X6_20 dX6_isLong_55 ?_
        refine V_aload_n 1 hC dX6_isLong_58 rfl rfl ?_
        refine V_geti (o := 0) hC ho rfl fk_X6_87 dX6_isLong_59 ?_
        refine V_iload_n 2 hC dX6_isLong_62 rfl rfl ?_
        refine V_iadd hC dX6_isLong_63 ?_
        refine V_iconst (v := 1) hC dX6_isLong_64 rfl ?_
        refine V_isub hC dX6_isLong_65 ?_
        obtain ⟨g7, hf⟩ := gd_some hf
        refine V_iald (a := (32 * 0 + 3)) hC (hL.row ho rfl) g7 dX6_isLong_66 ?_
        refine V_iload 5 hC dX6_isLong_67 rfl ?_
        refine V_icmp_ne (tgt := 76) hC dX6_isLong_69 (by decide) (fun c8 => ?_) (fun c8 => ?_)
        · have hf := if_f hf c8
          refine V_iconst (v := 0) hC dX6_isLong_76 rfl ?_
          obtain rfl := so_inj hf
          exact V_zret hC hr rfl hQ hA dX6_isLong_77
        · have hf := if_t hf c8
          refine V_iconst (v := 1) hC dX6_isLong_72 rfl ?_
          refine V_goto (tgt := 77) hC dX6_isLong_73 (by decide) ?_
          obtain rfl := so_inj hf
          exact V_zret hC hr rfl hQ hA dX6_isLong_77
def t_X6_isLong (L : Nat → Nat) (d : Dt) (p1 : Int32) (p2 : Int32) (p3 : Int32) (p4 : Int32) : Option (Int32) := if (gF d 0 7) = p1 then t_X6_isLong_13 L d p1 p2 p3 p4  1 else t_X6_isLong_13 L d p1 p2 p3 p4  0
set_option maxRecDepth 20000 in
theorem c_X6_isLong {l : Launch} {Y : Yx} (hL : LAY Y) {z : Sh} {d : Dt} {p1 : Int32} {p2 : Int32} {p3 : Int32} {p4 : Int32} (ho : (0, 0, 5) ∈ yI Y) {r : Int32} (hf : t_X6_isLong z.1 d p1 p2 p3 p4 = some r) : MM l yX6_isLong cX6_isLong 6 (some .boolean) 0 0 Y z [.ref (yo Y 0), .int p1, .int p2, .int p3, .int p4] d (some (.int r)) d := by
  refine MM.ofV (by decide +kernel) hL (Nat.le_of_ble_eq_true rfl) (fun K hl hC hr hQ hA => ?_)
  have hC : CK K Y cX6_isLong 6 RX6 0 0 := hC
  unfold t_X6_isLong at hf
  show V K Y 6 0 0 z d 0 [(0, .ref (yo Y 0)), (1, .int p1), (2, .int p2), (3, .int p3), (4, .int p4)] []
  refine V_aload_n 0 hC dX6_isLong_0 rfl rfl ?_
  refine V_geti (o := 0) hC ho rfl fk_X6_94 dX6_isLong_1 ?_
  refine V_iload_n 1 hC dX6_isLong_4 rfl rfl ?_
  refine V_icmp_ne (tgt := 12) hC dX6_isLong_5 (by decide) (fun c1 => ?_) (fun c1 => ?_)
  · have hf := if_f hf c1
    refine V_iconst (v := 0) hC dX6_isLong_12 rfl ?_
    exact b_X6_isLong_13 hC hr hA ho hQ  0 hf
  · have hf := if_t hf c1
    refine V_iconst (v := 1) hC dX6_isLong_8 rfl ?_
    refine V_goto (tgt := 13) hC dX6_isLong_9 (by decide) ?_
    exact b_X6_isLong_13 hC hr hA ho hQ  1 hf
def t_X6_isBegun (L : Nat → Nat) (d : Dt) (p1 : Int32) (p2 : Int32) (p3 : Int32) (p4 : Int32) : Option (Int32) := if (gF d 0 7) ≤ 3 then some 0 else gd (inb (gF d 0 6) (L (32 * 0 + 3))) (if (gA d (32 * 0 + 3) (ix (gF d 0 6))) = p1 then gd (inb ((gF d 0 6) + 1) (L (32 * 0 + 3))) (if (gA d (32 * 0 + 3) (ix ((gF d 0 6) + 1))) = p2 then gd (inb ((gF d 0 6) + 2) (L (32 * 0 + 3))) (if (gA d (32 * 0 + 3) (ix ((gF d 0 6) + 2))) = p3 then gd (inb ((gF d 0 6) + 3) (L (32 * 0 + 3))) (if (gA d (32 * 0 + 3) (ix ((gF d 0 6) + 3))) = p4 then some 1 else some 0) else some 0) else some 0) else some 0)
set_option maxRecDepth 20000 in
theorem c_X6_isBegun {l : Launch} {Y : Yx} (hL : LAY Y) {z : Sh} {d : Dt} {p1 : Int32} {p2 : Int32} {p3 : Int32} {p4 : Int32} (ho : (0, 0, 5) ∈ yI Y) {r : Int32} (hf : t_X6_isBegun z.1 d p1 p2 p3 p4 = some r) : MM l yX6_isBegun cX6_isBegun 5 (some .boolean) 0 0 Y z [.ref (yo Y 0), .int p1, .int p2, .int p3, .int p4] d (some (.int r)) d := by
  refine MM.ofV (by decide +kernel) hL (Nat.le_of_ble_eq_true rfl) (fun K hl hC hr hQ hA => ?_)
  have hC : CK K Y cX6_isBegun 5 RX6 0 0 := hC
  unfold t_X6_isBegun at hf
  show V K Y 5 0 0 z d 0 [(0, .ref (yo Y 0)), (1, .int p1), (2, .int p2), (3, .int p3), (4, .int p4)] []
  refine V_aload_n 0 hC dX6_isBegun_0 rfl rfl ?_
  refine V_geti (o := 0) hC ho rfl fk_X6_94 dX6_isBegun_1 ?_
  refine V_iconst (v := 3) hC dX6_isBegun_4 rfl ?_
  refine V_icmp_le (tgt := 71) hC dX6_isBegun_5 (by decide) (fun c1 => ?_) (fun c1 => ?_)
  · have hf := if_t hf c1
    refine V_iconst (v := 0) hC dX6_isBegun_71 rfl ?_
    obtain rfl := so_inj hf
    exact V_zret hC hr rfl hQ hA dX6_isBegun_72
  · have hf := if_f hf c1
    refine V_aload_n 0 hC dX6_isBegun_8 rfl rfl ?_
    refine V_geta (o := 0) hC ho rfl fk_X6_20 dX6_isBegun_9 ?_
    refine V_aload_n 0 hC dX6_isBegun_12 rfl rfl ?_
    refine V_geti (o := 0) hC ho rfl fk_X6_87 dX6_isBegun_13 ?_
    obtain ⟨g2, hf⟩ := gd_some hf
    refine V_iald (a := (32 * 0 + 3)) hC (hL.row ho rfl) g2 dX6_isBegun_16 ?_
    refine V_iload_n 1 hC dX6_isBegun_17 rfl rfl ?_
    refine V_icmp_ne (tgt := 71) hC dX6_isBegun_18 (by decide) (fun c3 => ?_) (fun c3 => ?_)
    · have hf := if_f hf c3
      refine V_iconst (v := 0) hC dX6_isBegun_71 rfl ?_
      obtain rfl := so_inj hf
      exact V_zret hC hr rfl hQ hA dX6_isBegun_72
    · have hf := if_t hf c3
      refine V_aload_n 0 hC dX6_isBegun_21 rfl rfl ?_
      refine V_geta (o := 0) hC ho rfl fk_X6_20 dX6_isBegun_22 ?_
      refine V_aload_n 0 hC dX6_isBegun_25 rfl rfl ?_
      refine V_geti (o := 0) hC ho rfl fk_X6_87 dX6_isBegun_26 ?_
      refine V_iconst (v := 1) hC dX6_isBegun_29 rfl ?_
      refine V_iadd hC dX6_isBegun_30 ?_
      obtain ⟨g4, hf⟩ := gd_some hf
      refine V_iald (a := (32 * 0 + 3)) hC (hL.row ho rfl) g4 dX6_isBegun_31 ?_
      refine V_iload_n 2 hC dX6_isBegun_32 rfl rfl ?_
      refine V_icmp_ne (tgt := 71) hC dX6_isBegun_33 (by decide) (fun c5 => ?_) (fun c5 => ?_)
      · have hf := if_f hf c5
        refine V_iconst (v := 0) hC dX6_isBegun_71 rfl ?_
        obtain rfl := so_inj hf
        exact V_zret hC hr rfl hQ hA dX6_isBegun_72
      · have hf := if_t hf c5
        refine V_aload_n 0 hC dX6_isBegun_36 rfl rfl ?_
        refine V_geta (o := 0) hC ho rfl fk_X6_20 dX6_isBegun_37 ?_
        refine V_aload_n 0 hC dX6_isBegun_40 rfl rfl ?_
        refine V_geti (o := 0) hC ho rfl fk_X6_87 dX6_isBegun_41 ?_
        refine V_iconst (v := 2) hC dX6_isBegun_44 rfl ?_
        refine V_iadd hC dX6_isBegun_45 ?_
        obtain ⟨g6, hf⟩ := gd_some hf
        refine V_iald (a := (32 * 0 + 3)) hC (hL.row ho rfl) g6 dX6_isBegun_46 ?_
        refine V_iload_n 3 hC dX6_isBegun_47 rfl rfl ?_
        refine V_icmp_ne (tgt := 71) hC dX6_isBegun_48 (by decide) (fun c7 => ?_) (fun c7 => ?_)
        · have hf := if_f hf c7
          refine V_iconst (v := 0) hC dX6_isBegun_71 rfl ?_
          obtain rfl := so_inj hf
          exact V_zret hC hr rfl hQ hA dX6_isBegun_72
        · have hf := if_t hf c7
          refine V_aload_n 0 hC dX6_isBegun_51 rfl rfl ?_
          refine V_geta (o := 0) hC ho rfl fk_X6_20 dX6_isBegun_52 ?_
          refine V_aload_n 0 hC dX6_isBegun_55 rfl rfl ?_
          refine V_geti (o := 0) hC ho rfl fk_X6_87 dX6_isBegun_56 ?_
          refine V_iconst (v := 3) hC dX6_isBegun_59 rfl ?_
          refine V_iadd hC dX6_isBegun_60 ?_
          obtain ⟨g8, hf⟩ := gd_some hf
          refine V_iald (a := (32 * 0 + 3)) hC (hL.row ho rfl) g8 dX6_isBegun_61 ?_
          refine V_iload 4 hC dX6_isBegun_62 rfl ?_
          refine V_icmp_ne (tgt := 71) hC dX6_isBegun_64 (by decide) (fun c9 => ?_) (fun c9 => ?_)
          · have hf := if_f hf c9
            refine V_iconst (v := 0) hC dX6_isBegun_71 rfl ?_
            obtain rfl := so_inj hf
            exact V_zret hC hr rfl hQ hA dX6_isBegun_72
          · have hf := if_t hf c9
            refine V_iconst (v := 1) hC dX6_isBegun_67 rfl ?_
            refine V_goto (tgt := 72) hC dX6_isBegun_68 (by decide) ?_
            obtain rfl := so_inj hf
            exact V_zret hC hr rfl hQ hA dX6_isBegun_72
def t_X6_takeNumber_152 (L : Nat → Nat) (p1 : Int32) (p2 : Int32)  (x4 : Int32) (s0 : Int32) (d : Dt) : Option (Int32 × Dt) := (t_X6_want L d s0 2 (gF d 0 6)).bind (fun q16 => some (x4, q16.2))
set_option maxRecDepth 20000 in
theorem b_X6_takeNumber_152 {K : Kx} {Y : Yx} {z : Sh}  (hC : CK K Y cX6_takeNumber 6 RX6 1 25) (hr : (kme K).sig.returnType = some .int) (hA : kA K = aY Y z) {p1 : Int32} {p2 : Int32} (ho : (0, 0, 5) ∈ yI Y) {r : Int32} {d' : Dt} (hQ : kQ K = MQ (kb K) (QM Y z (some (.int r)) d') (ka K) (ks K) 0 0 (aY Y z))   (x4 : Int32) (s0 : Int32) (d : Dt) (hf : t_X6_takeNumber_152 z.1 p1 p2  x4 s0 d = some (r, d')) : V K Y 6 0 0 z d 152 [(0, .ref (yo Y 0)), (4, .int x4)] [.int s0, .ref (yo Y 0)] := by
  have hL := hC.2.2.2.2.2.2.1
  have hkn : 0 ≤ (kR K).cells ∧ 0 ≤ (kR K).slots := ⟨Nat.zero_le _, Nat.zero_le _⟩
  unfold t_X6_takeNumber_152 at hf
  refine V_iconst (v := 2) hC dX6_takeNumber_152 rfl ?_
  refine V_aload_n 0 hC dX6_takeNumber_153 rfl rfl ?_
  refine V_geti (o := 0) hC ho rfl fk_X6_87 dX6_takeNumber_154 ?_
  obtain ⟨q16, eq16, hf⟩ := bi_some hf
  refine V_invi (o := 0) (As := [.int s0, .int 2, .int (gF d 0 6)]) (rest := []) hC (c_X6_want hL ho eq16) me_X6_want lk_X6_101 ho rfl rfl rfl (Nat.le_of_ble_eq_true rfl) ⟨by decide, by decide⟩ hkn dX6_takeNumber_157 ?_
  refine V_istore (lv' := [(5, .int q16.1), (0, .ref (yo Y 0)), (4, .int x4)]) hC dX6_takeNumber_160 (by decide) rfl ?_
  refine V_iload 2 hC dX6_takeNumber_162 rfl ?_
  obtain ⟨rfl, rfl⟩ := so_inj2 hf
  exact V_iret hC hr hQ hA dX6_takeNumber_164
def t_X6_takeNumber_151 (L : Nat → Nat) (p1 : Int32) (p2 : Int32)  (x4 : Int32) (d : Dt) : Option (Int32 × Dt) := t_X6_takeNumber_152 L p1 p2  x4 0 d
set_option maxRecDepth 20000 in
theorem b_X6_takeNumber_151 {K : Kx} {Y : Yx} {z : Sh}  (hC : CK K Y cX6_takeNumber 6 RX6 1 25) (hr : (kme K).sig.returnType = some .int) (hA : kA K = aY Y z) {p1 : Int32} {p2 : Int32} (ho : (0, 0, 5) ∈ yI Y) {r : Int32} {d' : Dt} (hQ : kQ K = MQ (kb K) (QM Y z (some (.int r)) d') (ka K) (ks K) 0 0 (aY Y z))   (x4 : Int32) (d : Dt) (hf : t_X6_takeNumber_151 z.1 p1 p2  x4 d = some (r, d')) : V K Y 6 0 0 z d 151 [(0, .ref (yo Y 0)), (4, .int x4)] [.ref (yo Y 0)] := by
  have hL := hC.2.2.2.2.2.2.1
  unfold t_X6_takeNumber_151 at hf
  refine V_iconst (v := 0) hC dX6_takeNumber_151 rfl ?_
  exact b_X6_takeNumber_152 hC hr hA ho hQ  x4 0 d hf
def t_X6_takeNumber_120 (L : Nat → Nat) (p1 : Int32) (p2 : Int32)  (x4 : Int32) (d : Dt) : Option (Int32 × Dt) := if 3 ≤ ((gF d 0 5) - (gF d 0 6)) then t_X6_takeNumber_151 L p1 p2  x4 d else (t_X6_in L d (x4.toInt64) (p1.toInt64) (p2.toInt64)).bind (fun v13 => if v13 = 0 then t_X6_takeNumber_151 L p1 p2  x4 d else t_X6_takeNumber_152 L p1 p2  x4 1 d)
set_option maxRecDepth 20000 in
theorem b_X6_takeNumber_120 {K : Kx} {Y : Yx} {z : Sh}  (hC : CK K Y cX6_takeNumber 6 RX6 1 25) (hr : (kme K).sig.returnType = some .int) (hA : kA K = aY Y z) {p1 : Int32} {p2 : Int32} (ho : (0, 0, 5) ∈ yI Y) {r : Int32} {d' : Dt} (hQ : kQ K = MQ (kb K) (QM Y z (some (.int r)) d') (ka K) (ks K) 0 0 (aY Y z))   (x4 : Int32) (d : Dt) (hf : t_X6_takeNumber_120 z.1 p1 p2  x4 d = some (r, d')) : V K Y 6 0 0 z d 120 [(0, .ref (yo Y 0)), (1, .int p1), (2, .int p2), (4, .int x4)] [] := by
  have hL := hC.2.2.2.2.2.2.1
  have hkn : 0 ≤ (kR K).cells ∧ 0 ≤ (kR K).slots := ⟨Nat.zero_le _, Nat.zero_le _⟩
  unfold t_X6_takeNumber_120 at hf
  refine V_aload_n 0 hC dX6_takeNumber_120 rfl rfl ?_
  refine V_aload_n 0 hC dX6_takeNumber_121 rfl rfl ?_
  refine V_geti (o := 0) hC ho rfl fk_X6_77 dX6_takeNumber_122 ?_
  refine V_aload_n 0 hC dX6_takeNumber_125 rfl rfl ?_
  refine V_geti (o := 0) hC ho rfl fk_X6_87 dX6_takeNumber_126 ?_
  refine V_isub hC dX6_takeNumber_129 ?_
  refine V_iconst (v := 3) hC dX6_takeNumber_130 rfl ?_
  refine V_icmp_ge (tgt := 151) hC dX6_takeNumber_131 (by decide) (fun c12 => ?_) (fun c12 => ?_)
  · have hf := if_t hf c12
    exact V_sub [0, 3] rfl (b_X6_takeNumber_151 hC hr hA ho hQ  x4 d hf)
  · have hf := if_f hf c12
    refine V_iload 3 hC dX6_takeNumber_134 rfl ?_
    refine V_i2l hC dX6_takeNumber_136 ?_
    refine V_iload_n 1 hC dX6_takeNumber_137 rfl rfl ?_
    refine V_i2l hC dX6_takeNumber_138 ?_
    refine V_iload_n 2 hC dX6_takeNumber_139 rfl rfl ?_
    refine V_i2l hC dX6_takeNumber_140 ?_
    obtain ⟨v13, ev13, hf⟩ := bi_some hf
    refine V_insi (As := [.long (x4.toInt64), .long (p1.toInt64), .long (p2.toInt64)]) (rest := [.ref (yo Y 0)]) hC (c_X6_in hL  ev13) me_X6_in lk_X6_66 rfl rfl (Nat.le_of_ble_eq_true rfl) ⟨by decide, by decide⟩ hkn dX6_takeNumber_141 ?_
    refine V_if_eq (tgt := 151) hC dX6_takeNumber_144 (by decide) (fun c14 => ?_) (fun c14 => ?_)
    · have hf := if_t hf c14
      exact V_sub [0, 3] rfl (b_X6_takeNumber_151 hC hr hA ho hQ  x4 d hf)
    · have hf := if_f hf c14
      refine V_iconst (v := 1) hC dX6_takeNumber_147 rfl ?_
      refine V_goto (tgt := 152) hC dX6_takeNumber_148 (by decide) ?_
      exact V_sub [0, 3] rfl (b_X6_takeNumber_152 hC hr hA ho hQ  x4 1 d hf)
def t_X6_takeNumber_105 (L : Nat → Nat) (p1 : Int32) (p2 : Int32) (k41 : Int32 → (Dt) → Option (Int32 × Dt)) (s0 : Int32) (d : Dt) : Option (Int32 × Dt) := bd (sF d 0 5 ((gF d 0 5) + 1)) (fun d15 => k41 s0 d15)
set_option maxRecDepth 20000 in
theorem b_X6_takeNumber_105 {K : Kx} {Y : Yx} {z : Sh}  (hC : CK K Y cX6_takeNumber 6 RX6 1 25) (hr : (kme K).sig.returnType = some .int) (hA : kA K = aY Y z) {p1 : Int32} {p2 : Int32} (ho : (0, 0, 5) ∈ yI Y) {r : Int32} {d' : Dt} (hQ : kQ K = MQ (kb K) (QM Y z (some (.int r)) d') (ka K) (ks K) 0 0 (aY Y z)) {k41 : Int32 → (Dt) → Option (Int32 × Dt)} (hk41 : ∀ (x4 : Int32) (d : Dt), k41 x4 d = some (r, d') → V K Y 6 0 0 z d 41 [(0, .ref (yo Y 0)), (1, .int p1), (2, .int p2), (4, .int x4)] []) (s0 : Int32) (d : Dt) (hf : t_X6_takeNumber_105 z.1 p1 p2 k41 s0 d = some (r, d')) : V K Y 6 0 0 z d 105 [(0, .ref (yo Y 0)), (1, .int p1), (2, .int p2)] [.int s0] := by
  have hL := hC.2.2.2.2.2.2.1
  unfold t_X6_takeNumber_105 at hf
  refine V_istore (lv' := [(4, .int s0), (0, .ref (yo Y 0)), (1, .int p1), (2, .int p2)]) hC dX6_takeNumber_105 (by decide) rfl ?_
  refine V_aload_n 1 hC dX6_takeNumber_107 rfl rfl ?_
  refine V_dup hC dX6_takeNumber_108 rfl ?_
  refine V_geti (o := 0) hC ho rfl fk_X6_77 dX6_takeNumber_109 ?_
  refine V_iconst (v := 1) hC dX6_takeNumber_112 rfl ?_
  refine V_iadd hC dX6_takeNumber_113 ?_
  refine V_puti (o := 0) hC ho rfl fk_X6_77 pl_X6 rfl rfl dX6_takeNumber_114 (fun d15 ed15 => ?_)
  have hf := bd_e hf d15 ed15
  refine V_goto (tgt := 41) hC dX6_takeNumber_117 (by decide) ?_
  exact V_sub [1, 2, 3, 0] rfl (hk41 s0 d15 hf)
def t_X6_takeNumber_41 (L : Nat → Nat) (p1 : Int32) (p2 : Int32) (k41 : Int32 → (Dt) → Option (Int32 × Dt)) (x4 : Int32) (d : Dt) : Option (Int32 × Dt) := if (gF d 0 4) ≤ (gF d 0 5) then t_X6_takeNumber_120 L p1 p2  x4 d else gd (inb (gF d 0 5) (L (32 * 0 + 3))) ((t_X6_in L d ((gA d (32 * 0 + 3) (ix (gF d 0 5)) : Int32).toInt64) 48 57).bind (fun v8 => if v8 = 0 then t_X6_takeNumber_120 L p1 p2  x4 d else if x4 ≤ 9999 then gd (inb (gF d 0 5) (L (32 * 0 + 3))) (t_X6_takeNumber_105 L p1 p2 k41 (((10 * x4) + (gA d (32 * 0 + 3) (ix (gF d 0 5)))) - 48) d) else t_X6_takeNumber_105 L p1 p2 k41 x4 d))
set_option maxRecDepth 20000 in
theorem b_X6_takeNumber_41 {K : Kx} {Y : Yx} {z : Sh}  (hC : CK K Y cX6_takeNumber 6 RX6 1 25) (hr : (kme K).sig.returnType = some .int) (hA : kA K = aY Y z) {p1 : Int32} {p2 : Int32} (ho : (0, 0, 5) ∈ yI Y) {r : Int32} {d' : Dt} (hQ : kQ K = MQ (kb K) (QM Y z (some (.int r)) d') (ka K) (ks K) 0 0 (aY Y z)) {k41 : Int32 → (Dt) → Option (Int32 × Dt)} (hk41 : ∀ (x4 : Int32) (d : Dt), k41 x4 d = some (r, d') → V K Y 6 0 0 z d 41 [(0, .ref (yo Y 0)), (1, .int p1), (2, .int p2), (4, .int x4)] []) (x4 : Int32) (d : Dt) (hf : t_X6_takeNumber_41 z.1 p1 p2 k41 x4 d = some (r, d')) : V K Y 6 0 0 z d 41 [(0, .ref (yo Y 0)), (1, .int p1), (2, .int p2), (4, .int x4)] [] := by
  have hL := hC.2.2.2.2.2.2.1
  have hkn : 0 ≤ (kR K).cells ∧ 0 ≤ (kR K).slots := ⟨Nat.zero_le _, Nat.zero_le _⟩
  unfold t_X6_takeNumber_41 at hf
  refine V_aload_n 0 hC dX6_takeNumber_41 rfl rfl ?_
  refine V_geti (o := 0) hC ho rfl fk_X6_77 dX6_takeNumber_42 ?_
  refine V_aload_n 0 hC dX6_takeNumber_45 rfl rfl ?_
  refine V_geti (o := 0) hC ho rfl fk_X6_71 dX6_takeNumber_46 ?_
  refine V_icmp_ge (tgt := 120) hC dX6_takeNumber_49 (by decide) (fun c6 => ?_) (fun c6 => ?_)
  · have hf := if_t hf c6
    exact b_X6_takeNumber_120 hC hr hA ho hQ  x4 d hf
  · have hf := if_f hf c6
    refine V_aload_n 0 hC dX6_takeNumber_52 rfl rfl ?_
    refine V_geta (o := 0) hC ho rfl fk_X6_20 dX6_takeNumber_53 ?_
    refine V_aload_n 0 hC dX6_takeNumber_56 rfl rfl ?_
    refine V_geti (o := 0) hC ho rfl fk_X6_77 dX6_takeNumber_57 ?_
    obtain ⟨g7, hf⟩ := gd_some hf
    refine V_iald (a := (32 * 0 + 3)) hC (hL.row ho rfl) g7 dX6_takeNumber_60 ?_
    refine V_i2l hC dX6_takeNumber_61 ?_
    refine V_ldc2 hC cl_X6_97 dX6_takeNumber_62 ?_
    refine V_ldc2 hC cl_X6_99 dX6_takeNumber_65 ?_
    obtain ⟨v8, ev8, hf⟩ := bi_some hf
    refine V_insi (As := [.long ((gA d (32 * 0 + 3) (ix (gF d 0 5)) : Int32).toInt64), .long 48, .long 57]) (rest := []) hC (c_X6_in hL  ev8) me_X6_in lk_X6_66 rfl rfl (Nat.le_of_ble_eq_true rfl) ⟨by decide, by decide⟩ hkn dX6_takeNumber_68 ?_
    refine V_if_eq (tgt := 120) hC dX6_takeNumber_71 (by decide) (fun c9 => ?_) (fun c9 => ?_)
    · have hf := if_t hf c9
      exact b_X6_takeNumber_120 hC hr hA ho hQ  x4 d hf
    · have hf := if_f hf c9
      refine V_iload 3 hC dX6_takeNumber_74 rfl ?_
      refine V_sipush (v := 9999) hC dX6_takeNumber_76 rfl ?_
      refine V_icmp_le (tgt := 87) hC dX6_takeNumber_79 (by decide) (fun c10 => ?_) (fun c10 => ?_)
      · have hf := if_t hf c10
        refine V_bipush (v := 10) hC dX6_takeNumber_87 rfl ?_
        refine V_iload 3 hC dX6_takeNumber_89 rfl ?_
        refine V_imul hC dX6_takeNumber_91 ?_
        refine V_aload_n 0 hC dX6_takeNumber_92 rfl rfl ?_
        refine V_geta (o := 0) hC ho rfl fk_X6_20 dX6_takeNumber_93 ?_
        refine V_aload_n 0 hC dX6_takeNumber_96 rfl rfl ?_
        refine V_geti (o := 0) hC ho rfl fk_X6_77 dX6_takeNumber_97 ?_
        obtain ⟨g11, hf⟩ := gd_some hf
        refine V_iald (a := (32 * 0 + 3)) hC (hL.row ho rfl) g11 dX6_takeNumber_100 ?_
        refine V_iadd hC dX6_takeNumber_101 ?_
        refine V_bipush (v := 48) hC dX6_takeNumber_102 rfl ?_
        refine V_isub hC dX6_takeNumber_104 ?_
        exact V_sub [0, 1, 2] rfl (b_X6_takeNumber_105 hC hr hA ho hQ hk41 (((10 * x4) + (gA d (32 * 0 + 3) (ix (gF d 0 5)))) - 48) d hf)
      · have hf := if_f hf c10
        refine V_iload 3 hC dX6_takeNumber_82 rfl ?_
        refine V_goto (tgt := 105) hC dX6_takeNumber_84 (by decide) ?_
        exact V_sub [0, 1, 2] rfl (b_X6_takeNumber_105 hC hr hA ho hQ hk41 x4 d hf)
def t_X6_takeNumber (L : Nat → Nat) (d : Dt) (p1 : Int32) (p2 : Int32) : Option (Int32 × Dt) := (t_X6_here L d ).bind (fun q1 => bd (sF q1.2 0 6 (gF q1.2 0 5)) (fun d2 => (t_X6_in L d2 (q1.1.toInt64) 48 57).bind (fun v3 => (t_X6_want L d2 v3 1 (gF d2 0 5)).bind (fun q4 => if q4.1 = 0 then some (0, q4.2) else lp (fun k x => t_X6_takeNumber_41 L p1 p2  (fun x4 d => k (x4, d)) x.1 x.2) FU (0, q4.2)))))
set_option maxRecDepth 20000 in
theorem c_X6_takeNumber {l : Launch} {Y : Yx} (hL : LAY Y) {z : Sh} {d : Dt} {p1 : Int32} {p2 : Int32} (ho : (0, 0, 5) ∈ yI Y) {r : Int32} {d' : Dt} (hf : t_X6_takeNumber z.1 d p1 p2 = some (r, d')) : MM l yX6_takeNumber cX6_takeNumber 6 (some .int) 1 25 Y z [.ref (yo Y 0), .int p1, .int p2] d (some (.int r)) d' := by
  refine MM.ofV (by decide +kernel) hL (Nat.le_of_ble_eq_true rfl) (fun K hl hC hr hQ hA => ?_)
  have hC : CK K Y cX6_takeNumber 6 RX6 1 25 := hC
  have hkn : 0 ≤ (kR K).cells ∧ 0 ≤ (kR K).slots := ⟨Nat.zero_le _, Nat.zero_le _⟩
  unfold t_X6_takeNumber at hf
  show V K Y 6 0 0 z d 0 [(0, .ref (yo Y 0)), (1, .int p1), (2, .int p2)] []
  refine V_aload_n 0 hC dX6_takeNumber_0 rfl rfl ?_
  obtain ⟨q1, eq1, hf⟩ := bi_some hf
  refine V_invi (o := 0) (As := []) (rest := []) hC (c_X6_here hL ho eq1) me_X6_here lk_X6_83 ho rfl rfl rfl (Nat.le_of_ble_eq_true rfl) ⟨by decide, by decide⟩ hkn dX6_takeNumber_1 ?_
  refine V_istore_n (lv' := [(3, .int q1.1), (0, .ref (yo Y 0)), (1, .int p1), (2, .int p2)]) hC dX6_takeNumber_4 rfl (by decide) rfl ?_
  refine V_aload_n 1 hC dX6_takeNumber_5 rfl rfl ?_
  refine V_aload_n 1 hC dX6_takeNumber_6 rfl rfl ?_
  refine V_geti (o := 0) hC ho rfl fk_X6_77 dX6_takeNumber_7 ?_
  refine V_puti (o := 0) hC ho rfl fk_X6_87 pl_X6 rfl rfl dX6_takeNumber_10 (fun d2 ed2 => ?_)
  have hf := bd_e hf d2 ed2
  refine V_aload_n 1 hC dX6_takeNumber_13 rfl rfl ?_
  refine V_iload_n 0 hC dX6_takeNumber_14 rfl rfl ?_
  refine V_i2l hC dX6_takeNumber_15 ?_
  refine V_ldc2 hC cl_X6_97 dX6_takeNumber_16 ?_
  refine V_ldc2 hC cl_X6_99 dX6_takeNumber_19 ?_
  obtain ⟨v3, ev3, hf⟩ := bi_some hf
  refine V_insi (As := [.long (q1.1.toInt64), .long 48, .long 57]) (rest := [.ref (yo Y 0)]) hC (c_X6_in hL  ev3) me_X6_in lk_X6_66 rfl rfl (Nat.le_of_ble_eq_true rfl) ⟨by decide, by decide⟩ hkn dX6_takeNumber_22 ?_
  refine V_iconst (v := 1) hC dX6_takeNumber_25 rfl ?_
  refine V_aload_n 1 hC dX6_takeNumber_26 rfl rfl ?_
  refine V_geti (o := 0) hC ho rfl fk_X6_77 dX6_takeNumber_27 ?_
  obtain ⟨q4, eq4, hf⟩ := bi_some hf
  refine V_invi (o := 0) (As := [.int v3, .int 1, .int (gF d2 0 5)]) (rest := []) hC (c_X6_want hL ho eq4) me_X6_want lk_X6_101 ho rfl rfl rfl (Nat.le_of_ble_eq_true rfl) ⟨by decide, by decide⟩ hkn dX6_takeNumber_30 ?_
  refine V_if_ne (tgt := 38) hC dX6_takeNumber_33 (by decide) (fun c5 => ?_) (fun c5 => ?_)
  · have hf := if_f hf c5
    refine V_iconst (v := 0) hC dX6_takeNumber_38 rfl ?_
    refine V_istore (lv' := [(4, .int 0), (3, .int q1.1), (0, .ref (yo Y 0)), (1, .int p1), (2, .int p2)]) hC dX6_takeNumber_39 (by decide) rfl ?_
    exact V_sub [2, 3, 4, 0] rfl (lp_ind (X := Int32 × Dt) (P := fun x => V K Y 6 0 0 z x.2 41 [(0, .ref (yo Y 0)), (1, .int p1), (2, .int p2), (4, .int x.1)] []) (fun k x hk hx => b_X6_takeNumber_41 hC hr hA ho hQ  (k41 := fun x4 d => k (x4, d)) (fun x4 d hx => hk (x4, d) hx) x.1 x.2 hx) FU (0, q4.2) hf)
  · have hf := if_t hf c5
    refine V_iconst (v := 0) hC dX6_takeNumber_36 rfl ?_
    obtain ⟨rfl, rfl⟩ := so_inj2 hf
    exact V_iret hC hr hQ hA dX6_takeNumber_37
def t_X6_takeGoal (L : Nat → Nat) (d : Dt)  : Option (Int32 × Dt) := (t_X6_takeNumber L d 0 23).bind (fun q1 => if (gF q1.2 0 8) = 0 then gd (inb (gF q1.2 0 14) (L (32 * 0 + 12))) (bd (sA q1.2 (32 * 0 + 12) (ix (gF q1.2 0 14)) q1.1) (fun d4 => gd (inb (gF d4 0 14) (L (32 * 0 + 13))) (bd (sA d4 (32 * 0 + 13) (ix (gF d4 0 14)) (gF d4 0 6)) (fun d6 => bd (sF d6 0 14 ((gF d6 0 14) + 1)) (fun d7 => some (q1.1, d7)))))) else some (q1.1, q1.2))
set_option maxRecDepth 20000 in
theorem c_X6_takeGoal {l : Launch} {Y : Yx} (hL : LAY Y) {z : Sh} {d : Dt}  (ho : (0, 0, 5) ∈ yI Y) {r : Int32} {d' : Dt} (hf : t_X6_takeGoal z.1 d  = some (r, d')) : MM l yX6_takeGoal cX6_takeGoal 2 (some .int) 2 50 Y z [.ref (yo Y 0)] d (some (.int r)) d' := by
  refine MM.ofV (by decide +kernel) hL (Nat.le_of_ble_eq_true rfl) (fun K hl hC hr hQ hA => ?_)
  have hC : CK K Y cX6_takeGoal 2 RX6 2 50 := hC
  have hkn : 0 ≤ (kR K).cells ∧ 0 ≤ (kR K).slots := ⟨Nat.zero_le _, Nat.zero_le _⟩
  unfold t_X6_takeGoal at hf
  show V K Y 2 0 0 z d 0 [(0, .ref (yo Y 0))] []
  refine V_aload_n 0 hC dX6_takeGoal_0 rfl rfl ?_
  refine V_iconst (v := 0) hC dX6_takeGoal_1 rfl ?_
  refine V_bipush (v := 23) hC dX6_takeGoal_2 rfl ?_
  obtain ⟨q1, eq1, hf⟩ := bi_some hf
  refine V_invi (o := 0) (As := [.int 0, .int 23]) (rest := []) hC (c_X6_takeNumber hL ho eq1) me_X6_takeNumber lk_X6_105 ho rfl rfl rfl (Nat.le_of_ble_eq_true rfl) ⟨by decide, by decide⟩ hkn dX6_takeGoal_4 ?_
  refine V_istore_n (lv' := [(1, .int q1.1), (0, .ref (yo Y 0))]) hC dX6_takeGoal_7 rfl (by decide) rfl ?_
  refine V_aload_n 1 hC dX6_takeGoal_8 rfl rfl ?_
  refine V_geti (o := 0) hC ho rfl fk_X6_80 dX6_takeGoal_9 ?_
  refine V_if_ne (tgt := 48) hC dX6_takeGoal_12 (by decide) (fun c2 => ?_) (fun c2 => ?_)
  · have hf := if_f hf c2
    refine V_iload_n 0 hC dX6_takeGoal_48 rfl rfl ?_
    obtain ⟨rfl, rfl⟩ := so_inj2 hf
    exact V_iret hC hr hQ hA dX6_takeGoal_49
  · have hf := if_t hf c2
    refine V_aload_n 1 hC dX6_takeGoal_15 rfl rfl ?_
    refine V_geta (o := 0) hC ho rfl fk_X6_27 dX6_takeGoal_16 ?_
    refine V_aload_n 1 hC dX6_takeGoal_19 rfl rfl ?_
    refine V_geti (o := 0) hC ho rfl fk_X6_109 dX6_takeGoal_20 ?_
    refine V_iload_n 0 hC dX6_takeGoal_23 rfl rfl ?_
    obtain ⟨g3, hf⟩ := gd_some hf
    refine V_iast (a := (32 * 0 + 12)) hC (hL.row ho rfl) g3 dX6_takeGoal_24 (fun d4 ed4 => ?_)
    have hf := bd_e hf d4 ed4
    refine V_aload_n 1 hC dX6_takeGoal_25 rfl rfl ?_
    refine V_geta (o := 0) hC ho rfl fk_X6_30 dX6_takeGoal_26 ?_
    refine V_aload_n 1 hC dX6_takeGoal_29 rfl rfl ?_
    refine V_geti (o := 0) hC ho rfl fk_X6_109 dX6_takeGoal_30 ?_
    refine V_aload_n 1 hC dX6_takeGoal_33 rfl rfl ?_
    refine V_geti (o := 0) hC ho rfl fk_X6_87 dX6_takeGoal_34 ?_
    obtain ⟨g5, hf⟩ := gd_some hf
    refine V_iast (a := (32 * 0 + 13)) hC (hL.row ho rfl) g5 dX6_takeGoal_37 (fun d6 ed6 => ?_)
    have hf := bd_e hf d6 ed6
    refine V_aload_n 1 hC dX6_takeGoal_38 rfl rfl ?_
    refine V_dup hC dX6_takeGoal_39 rfl ?_
    refine V_geti (o := 0) hC ho rfl fk_X6_109 dX6_takeGoal_40 ?_
    refine V_iconst (v := 1) hC dX6_takeGoal_43 rfl ?_
    refine V_iadd hC dX6_takeGoal_44 ?_
    refine V_puti (o := 0) hC ho rfl fk_X6_109 pl_X6 rfl rfl dX6_takeGoal_45 (fun d7 ed7 => ?_)
    have hf := bd_e hf d7 ed7
    refine V_iload_n 0 hC dX6_takeGoal_48 rfl rfl ?_
    obtain ⟨rfl, rfl⟩ := so_inj2 hf
    exact V_iret hC hr hQ hA dX6_takeGoal_49
def t_X6_kindHere (L : Nat → Nat) (d : Dt)  : Option (Int32) := (t_X6_isWord L d 4 116 97 107 101 0).bind (fun v1 => if v1 = 0 then (t_X6_isWord L d 4 100 114 111 112 0).bind (fun v3 => if v3 = 0 then (t_X6_isWord L d 4 104 117 114 116 0).bind (fun v5 => if v5 = 0 then (t_X6_isWord L d 4 104 101 97 108 0).bind (fun v7 => if v7 = 0 then some (-1) else some 3) else some 2) else some 1) else some 0)
set_option maxRecDepth 20000 in
theorem c_X6_kindHere {l : Launch} {Y : Yx} (hL : LAY Y) {z : Sh} {d : Dt}  (ho : (0, 0, 5) ∈ yI Y) {r : Int32} (hf : t_X6_kindHere z.1 d  = some r) : MM l yX6_kindHere cX6_kindHere 1 (some .int) 1 28 Y z [.ref (yo Y 0)] d (some (.int r)) d := by
  refine MM.ofV (by decide +kernel) hL (Nat.le_of_ble_eq_true rfl) (fun K hl hC hr hQ hA => ?_)
  have hC : CK K Y cX6_kindHere 1 RX6 1 28 := hC
  have hkn : 0 ≤ (kR K).cells ∧ 0 ≤ (kR K).slots := ⟨Nat.zero_le _, Nat.zero_le _⟩
  unfold t_X6_kindHere at hf
  show V K Y 1 0 0 z d 0 [(0, .ref (yo Y 0))] []
  refine V_aload_n 0 hC dX6_kindHere_0 rfl rfl ?_
  refine V_iconst (v := 4) hC dX6_kindHere_1 rfl ?_
  refine V_bipush (v := 116) hC dX6_kindHere_2 rfl ?_
  refine V_bipush (v := 97) hC dX6_kindHere_4 rfl ?_
  refine V_bipush (v := 107) hC dX6_kindHere_6 rfl ?_
  refine V_bipush (v := 101) hC dX6_kindHere_8 rfl ?_
  refine V_iconst (v := 0) hC dX6_kindHere_10 rfl ?_
  obtain ⟨v1, ev1, hf⟩ := bi_some hf
  refine V_invi (o := 0) (As := [.int 4, .int 116, .int 97, .int 107, .int 101, .int 0]) (rest := []) hC (c_X6_isWord hL ho ev1) me_X6_isWord lk_X6_112 ho rfl rfl rfl (Nat.le_of_ble_eq_true rfl) ⟨by decide, by decide⟩ hkn dX6_kindHere_11 ?_
  refine V_if_eq (tgt := 21) hC dX6_kindHere_14 (by decide) (fun c2 => ?_) (fun c2 => ?_)
  · have hf := if_t hf c2
    refine V_aload_n 0 hC dX6_kindHere_21 rfl rfl ?_
    refine V_iconst (v := 4) hC dX6_kindHere_22 rfl ?_
    refine V_bipush (v := 100) hC dX6_kindHere_23 rfl ?_
    refine V_bipush (v := 114) hC dX6_kindHere_25 rfl ?_
    refine V_bipush (v := 111) hC dX6_kindHere_27 rfl ?_
    refine V_bipush (v := 112) hC dX6_kindHere_29 rfl ?_
    refine V_iconst (v := 0) hC dX6_kindHere_31 rfl ?_
    obtain ⟨v3, ev3, hf⟩ := bi_some hf
    refine V_invi (o := 0) (As := [.int 4, .int 100, .int 114, .int 111, .int 112, .int 0]) (rest := []) hC (c_X6_isWord hL ho ev3) me_X6_isWord lk_X6_112 ho rfl rfl rfl (Nat.le_of_ble_eq_true rfl) ⟨by decide, by decide⟩ hkn dX6_kindHere_32 ?_
    refine V_if_eq (tgt := 42) hC dX6_kindHere_35 (by decide) (fun c4 => ?_) (fun c4 => ?_)
    · have hf := if_t hf c4
      refine V_aload_n 0 hC dX6_kindHere_42 rfl rfl ?_
      refine V_iconst (v := 4) hC dX6_kindHere_43 rfl ?_
      refine V_bipush (v := 104) hC dX6_kindHere_44 rfl ?_
      refine V_bipush (v := 117) hC dX6_kindHere_46 rfl ?_
      refine V_bipush (v := 114) hC dX6_kindHere_48 rfl ?_
      refine V_bipush (v := 116) hC dX6_kindHere_50 rfl ?_
      refine V_iconst (v := 0) hC dX6_kindHere_52 rfl ?_
      obtain ⟨v5, ev5, hf⟩ := bi_some hf
      refine V_invi (o := 0) (As := [.int 4, .int 104, .int 117, .int 114, .int 116, .int 0]) (rest := []) hC (c_X6_isWord hL ho ev5) me_X6_isWord lk_X6_112 ho rfl rfl rfl (Nat.le_of_ble_eq_true rfl) ⟨by decide, by decide⟩ hkn dX6_kindHere_53 ?_
      refine V_if_eq (tgt := 63) hC dX6_kindHere_56 (by decide) (fun c6 => ?_) (fun c6 => ?_)
      · have hf := if_t hf c6
        refine V_aload_n 0 hC dX6_kindHere_63 rfl rfl ?_
        refine V_iconst (v := 4) hC dX6_kindHere_64 rfl ?_
        refine V_bipush (v := 104) hC dX6_kindHere_65 rfl ?_
        refine V_bipush (v := 101) hC dX6_kindHere_67 rfl ?_
        refine V_bipush (v := 97) hC dX6_kindHere_69 rfl ?_
        refine V_bipush (v := 108) hC dX6_kindHere_71 rfl ?_
        refine V_iconst (v := 0) hC dX6_kindHere_73 rfl ?_
        obtain ⟨v7, ev7, hf⟩ := bi_some hf
        refine V_invi (o := 0) (As := [.int 4, .int 104, .int 101, .int 97, .int 108, .int 0]) (rest := []) hC (c_X6_isWord hL ho ev7) me_X6_isWord lk_X6_112 ho rfl rfl rfl (Nat.le_of_ble_eq_true rfl) ⟨by decide, by decide⟩ hkn dX6_kindHere_74 ?_
        refine V_if_eq (tgt := 84) hC dX6_kindHere_77 (by decide) (fun c8 => ?_) (fun c8 => ?_)
        · have hf := if_t hf c8
          refine V_iconst (v := -1) hC dX6_kindHere_84 rfl ?_
          obtain rfl := so_inj hf
          exact V_iret hC hr hQ hA dX6_kindHere_85
        · have hf := if_f hf c8
          refine V_iconst (v := 3) hC dX6_kindHere_80 rfl ?_
          refine V_goto (tgt := 85) hC dX6_kindHere_81 (by decide) ?_
          obtain rfl := so_inj hf
          exact V_iret hC hr hQ hA dX6_kindHere_85
      · have hf := if_f hf c6
        refine V_iconst (v := 2) hC dX6_kindHere_59 rfl ?_
        refine V_goto (tgt := 85) hC dX6_kindHere_60 (by decide) ?_
        obtain rfl := so_inj hf
        exact V_iret hC hr hQ hA dX6_kindHere_85
    · have hf := if_f hf c4
      refine V_iconst (v := 1) hC dX6_kindHere_38 rfl ?_
      refine V_goto (tgt := 85) hC dX6_kindHere_39 (by decide) ?_
      obtain rfl := so_inj hf
      exact V_iret hC hr hQ hA dX6_kindHere_85
  · have hf := if_f hf c2
    refine V_iconst (v := 0) hC dX6_kindHere_17 rfl ?_
    refine V_goto (tgt := 85) hC dX6_kindHere_18 (by decide) ?_
    obtain rfl := so_inj hf
    exact V_iret hC hr hQ hA dX6_kindHere_85
def t_X6_takeEffects_131 (L : Nat → Nat) (p1 : Int32) (k9 : Int32 → (Dt) → Option (Dt)) (x2 : Int32) (d : Dt) : Option (Dt) := k9 x2 d
set_option maxRecDepth 20000 in
theorem b_X6_takeEffects_131 {K : Kx} {Y : Yx} {z : Sh}  (hC : CK K Y cX6_takeEffects 4 RX6 2 50) (hr : (kme K).sig.returnType = none) (hA : kA K = aY Y z) {p1 : Int32} (ho : (0, 0, 5) ∈ yI Y) {d' : Dt} (hQ : kQ K = MQ (kb K) (QM Y z (none) d') (ka K) (ks K) 0 0 (aY Y z)) {k9 : Int32 → (Dt) → Option (Dt)} (hk9 : ∀ (x2 : Int32) (d : Dt), k9 x2 d = some d' → V K Y 4 0 0 z d 9 [(0, .ref (yo Y 0)), (1, .int p1), (2, .int x2)] []) (x2 : Int32) (d : Dt) (hf : t_X6_takeEffects_131 z.1 p1 k9 x2 d = some d') : V K Y 4 0 0 z d 131 [(0, .ref (yo Y 0)), (1, .int p1), (2, .int x2)] [] := by
  have hL := hC.2.2.2.2.2.2.1
  unfold t_X6_takeEffects_131 at hf
  refine V_goto (tgt := 9) hC dX6_takeEffects_131 (by decide) ?_
  exact hk9 x2 d hf
def t_X6_takeEffects_102 (L : Nat → Nat) (p1 : Int32) (k9 : Int32 → (Dt) → Option (Dt)) (x2 : Int32) (x3 : Int32) (s0 : Int32) (s1 : Int32) (d : Dt) : Option (Dt) := gd (inb s1 (L (32 * 0 + 2))) (bd (sA d (32 * 0 + 2) (ix s1) s0) (fun d16 => gd (inb (32 + p1) (L (32 * 0 + 2))) (bd (sA d16 (32 * 0 + 2) (ix (32 + p1)) (x3 + 1)) (fun d18 => if (gF d18 0 8) = 0 then (t_X6_takeWord L d18 ).bind (fun d20 => (t_X6_kindHere L d20 ).bind (fun v21 => t_X6_takeEffects_131 L p1 k9 v21 d20)) else t_X6_takeEffects_131 L p1 k9 x2 d18))))
set_option maxRecDepth 20000 in
theorem b_X6_takeEffects_102 {K : Kx} {Y : Yx} {z : Sh}  (hC : CK K Y cX6_takeEffects 4 RX6 2 50) (hr : (kme K).sig.returnType = none) (hA : kA K = aY Y z) {p1 : Int32} (ho : (0, 0, 5) ∈ yI Y) {d' : Dt} (hQ : kQ K = MQ (kb K) (QM Y z (none) d') (ka K) (ks K) 0 0 (aY Y z)) {k9 : Int32 → (Dt) → Option (Dt)} (hk9 : ∀ (x2 : Int32) (d : Dt), k9 x2 d = some d' → V K Y 4 0 0 z d 9 [(0, .ref (yo Y 0)), (1, .int p1), (2, .int x2)] []) (x2 : Int32) (x3 : Int32) (s0 : Int32) (s1 : Int32) (d : Dt) (hf : t_X6_takeEffects_102 z.1 p1 k9 x2 x3 s0 s1 d = some d') : V K Y 4 0 0 z d 102 [(0, .ref (yo Y 0)), (1, .int p1), (2, .int x2), (3, .int x3)] [.int s0, .int s1, .ref (gad z (32 * 0 + 2))] := by
  have hL := hC.2.2.2.2.2.2.1
  have hkn : 0 ≤ (kR K).cells ∧ 0 ≤ (kR K).slots := ⟨Nat.zero_le _, Nat.zero_le _⟩
  unfold t_X6_takeEffects_102 at hf
  obtain ⟨g15, hf⟩ := gd_some hf
  refine V_iast (a := (32 * 0 + 2)) hC (hL.row ho rfl) g15 dX6_takeEffects_102 (fun d16 ed16 => ?_)
  have hf := bd_e hf d16 ed16
  refine V_aload_n 0 hC dX6_takeEffects_103 rfl rfl ?_
  refine V_geta (o := 0) hC ho rfl fk_X6_17 dX6_takeEffects_104 ?_
  refine V_bipush (v := 32) hC dX6_takeEffects_107 rfl ?_
  refine V_iload_n 1 hC dX6_takeEffects_109 rfl rfl ?_
  refine V_iadd hC dX6_takeEffects_110 ?_
  refine V_iload_n 3 hC dX6_takeEffects_111 rfl rfl ?_
  refine V_iconst (v := 1) hC dX6_takeEffects_112 rfl ?_
  refine V_iadd hC dX6_takeEffects_113 ?_
  obtain ⟨g17, hf⟩ := gd_some hf
  refine V_iast (a := (32 * 0 + 2)) hC (hL.row ho rfl) g17 dX6_takeEffects_114 (fun d18 ed18 => ?_)
  have hf := bd_e hf d18 ed18
  refine V_aload_n 0 hC dX6_takeEffects_115 rfl rfl ?_
  refine V_geti (o := 0) hC ho rfl fk_X6_80 dX6_takeEffects_116 ?_
  refine V_if_ne (tgt := 131) hC dX6_takeEffects_119 (by decide) (fun c19 => ?_) (fun c19 => ?_)
  · have hf := if_f hf c19
    exact V_sub [0, 1, 2] rfl (b_X6_takeEffects_131 hC hr hA ho hQ hk9 x2 d18 hf)
  · have hf := if_t hf c19
    refine V_aload_n 0 hC dX6_takeEffects_122 rfl rfl ?_
    obtain ⟨d20, ed20, hf⟩ := bi_some hf
    refine V_invv (o := 0) (As := []) (rest := []) hC (c_X6_takeWord hL ho ed20) me_X6_takeWord lk_X6_116 ho rfl rfl rfl (Nat.le_of_ble_eq_true rfl) ⟨by decide, by decide⟩ hkn dX6_takeEffects_123 ?_
    refine V_aload_n 0 hC dX6_takeEffects_126 rfl rfl ?_
    obtain ⟨v21, ev21, hf⟩ := bi_some hf
    refine V_invi (o := 0) (As := []) (rest := []) hC (c_X6_kindHere hL ho ev21) me_X6_kindHere lk_X6_119 ho rfl rfl rfl (Nat.le_of_ble_eq_true rfl) ⟨by decide, by decide⟩ hkn dX6_takeEffects_127 ?_
    refine V_istore_n (lv' := [(2, .int v21), (0, .ref (yo Y 0)), (1, .int p1), (3, .int x3)]) hC dX6_takeEffects_130 rfl (by decide) rfl ?_
    exact V_sub [1, 2, 0] rfl (b_X6_takeEffects_131 hC hr hA ho hQ hk9 v21 d20 hf)
def t_X6_takeEffects_41 (L : Nat → Nat) (p1 : Int32) (k9 : Int32 → (Dt) → Option (Dt)) (x2 : Int32) (x3 : Int32) (s0 : Int32) (d : Dt) : Option (Dt) := (t_X6_want L d s0 3 (gF d 0 6)).bind (fun q8 => if q8.1 = 0 then t_X6_takeEffects_131 L p1 k9 x2 q8.2 else gd (inb ((176 + (4 * p1)) + x3) (L (32 * 0 + 2))) (bd (sA q8.2 (32 * 0 + 2) (ix ((176 + (4 * p1)) + x3)) x2) (fun d11 => if 2 ≤ x2 then (t_X6_takeNumber L d11 1 9).bind (fun q13 => t_X6_takeEffects_102 L p1 k9 x2 x3 q13.1 ((272 + (4 * p1)) + x3) q13.2) else (t_X6_takeNumber L d11 0 7).bind (fun q14 => t_X6_takeEffects_102 L p1 k9 x2 x3 q14.1 ((272 + (4 * p1)) + x3) q14.2))))
set_option maxRecDepth 20000 in
theorem b_X6_takeEffects_41 {K : Kx} {Y : Yx} {z : Sh}  (hC : CK K Y cX6_takeEffects 4 RX6 2 50) (hr : (kme K).sig.returnType = none) (hA : kA K = aY Y z) {p1 : Int32} (ho : (0, 0, 5) ∈ yI Y) {d' : Dt} (hQ : kQ K = MQ (kb K) (QM Y z (none) d') (ka K) (ks K) 0 0 (aY Y z)) {k9 : Int32 → (Dt) → Option (Dt)} (hk9 : ∀ (x2 : Int32) (d : Dt), k9 x2 d = some d' → V K Y 4 0 0 z d 9 [(0, .ref (yo Y 0)), (1, .int p1), (2, .int x2)] []) (x2 : Int32) (x3 : Int32) (s0 : Int32) (d : Dt) (hf : t_X6_takeEffects_41 z.1 p1 k9 x2 x3 s0 d = some d') : V K Y 4 0 0 z d 41 [(0, .ref (yo Y 0)), (1, .int p1), (2, .int x2), (3, .int x3)] [.int s0, .ref (yo Y 0)] := by
  have hL := hC.2.2.2.2.2.2.1
  have hkn : 0 ≤ (kR K).cells ∧ 0 ≤ (kR K).slots := ⟨Nat.zero_le _, Nat.zero_le _⟩
  unfold t_X6_takeEffects_41 at hf
  refine V_iconst (v := 3) hC dX6_takeEffects_41 rfl ?_
  refine V_aload_n 0 hC dX6_takeEffects_42 rfl rfl ?_
  refine V_geti (o := 0) hC ho rfl fk_X6_87 dX6_takeEffects_43 ?_
  obtain ⟨q8, eq8, hf⟩ := bi_some hf
  refine V_invi (o := 0) (As := [.int s0, .int 3, .int (gF d 0 6)]) (rest := []) hC (c_X6_want hL ho eq8) me_X6_want lk_X6_101 ho rfl rfl rfl (Nat.le_of_ble_eq_true rfl) ⟨by decide, by decide⟩ hkn dX6_takeEffects_46 ?_
  refine V_if_eq (tgt := 131) hC dX6_takeEffects_49 (by decide) (fun c9 => ?_) (fun c9 => ?_)
  · have hf := if_t hf c9
    exact V_sub [0, 1, 2] rfl (b_X6_takeEffects_131 hC hr hA ho hQ hk9 x2 q8.2 hf)
  · have hf := if_f hf c9
    refine V_aload_n 0 hC dX6_takeEffects_52 rfl rfl ?_
    refine V_geta (o := 0) hC ho rfl fk_X6_17 dX6_takeEffects_53 ?_
    refine V_sipush (v := 176) hC dX6_takeEffects_56 rfl ?_
    refine V_iconst (v := 4) hC dX6_takeEffects_59 rfl ?_
    refine V_iload_n 1 hC dX6_takeEffects_60 rfl rfl ?_
    refine V_imul hC dX6_takeEffects_61 ?_
    refine V_iadd hC dX6_takeEffects_62 ?_
    refine V_iload_n 3 hC dX6_takeEffects_63 rfl rfl ?_
    refine V_iadd hC dX6_takeEffects_64 ?_
    refine V_iload_n 2 hC dX6_takeEffects_65 rfl rfl ?_
    obtain ⟨g10, hf⟩ := gd_some hf
    refine V_iast (a := (32 * 0 + 2)) hC (hL.row ho rfl) g10 dX6_takeEffects_66 (fun d11 ed11 => ?_)
    have hf := bd_e hf d11 ed11
    refine V_aload_n 0 hC dX6_takeEffects_67 rfl rfl ?_
    refine V_geta (o := 0) hC ho rfl fk_X6_17 dX6_takeEffects_68 ?_
    refine V_sipush (v := 272) hC dX6_takeEffects_71 rfl ?_
    refine V_iconst (v := 4) hC dX6_takeEffects_74 rfl ?_
    refine V_iload_n 1 hC dX6_takeEffects_75 rfl rfl ?_
    refine V_imul hC dX6_takeEffects_76 ?_
    refine V_iadd hC dX6_takeEffects_77 ?_
    refine V_iload_n 3 hC dX6_takeEffects_78 rfl rfl ?_
    refine V_iadd hC dX6_takeEffects_79 ?_
    refine V_iload_n 2 hC dX6_takeEffects_80 rfl rfl ?_
    refine V_iconst (v := 2) hC dX6_takeEffects_81 rfl ?_
    refine V_icmp_ge (tgt := 95) hC dX6_takeEffects_82 (by decide) (fun c12 => ?_) (fun c12 => ?_)
    · have hf := if_t hf c12
      refine V_aload_n 0 hC dX6_takeEffects_95 rfl rfl ?_
      refine V_iconst (v := 1) hC dX6_takeEffects_96 rfl ?_
      refine V_bipush (v := 9) hC dX6_takeEffects_97 rfl ?_
      obtain ⟨q13, eq13, hf⟩ := bi_some hf
      refine V_invi (o := 0) (As := [.int 1, .int 9]) (rest := [.int ((272 + (4 * p1)) + x3), .ref (gad z (32 * 0 + 2))]) hC (c_X6_takeNumber hL ho eq13) me_X6_takeNumber lk_X6_105 ho rfl rfl rfl (Nat.le_of_ble_eq_true rfl) ⟨by decide, by decide⟩ hkn dX6_takeEffects_99 ?_
      exact b_X6_takeEffects_102 hC hr hA ho hQ hk9 x2 x3 q13.1 ((272 + (4 * p1)) + x3) q13.2 hf
    · have hf := if_f hf c12
      refine V_aload_n 0 hC dX6_takeEffects_85 rfl rfl ?_
      refine V_iconst (v := 0) hC dX6_takeEffects_86 rfl ?_
      refine V_bipush (v := 7) hC dX6_takeEffects_87 rfl ?_
      obtain ⟨q14, eq14, hf⟩ := bi_some hf
      refine V_invi (o := 0) (As := [.int 0, .int 7]) (rest := [.int ((272 + (4 * p1)) + x3), .ref (gad z (32 * 0 + 2))]) hC (c_X6_takeNumber hL ho eq14) me_X6_takeNumber lk_X6_105 ho rfl rfl rfl (Nat.le_of_ble_eq_true rfl) ⟨by decide, by decide⟩ hkn dX6_takeEffects_89 ?_
      refine V_goto (tgt := 102) hC dX6_takeEffects_92 (by decide) ?_
      exact b_X6_takeEffects_102 hC hr hA ho hQ hk9 x2 x3 q14.1 ((272 + (4 * p1)) + x3) q14.2 hf
def t_X6_takeEffects_9 (L : Nat → Nat) (p1 : Int32) (k9 : Int32 → (Dt) → Option (Dt)) (x2 : Int32) (d : Dt) : Option (Dt) := if x2 < 0 then some d else if (gF d 0 8) = 0 then gd (inb (32 + p1) (L (32 * 0 + 2))) (bd (gA d (32 * 0 + 2) (ix (32 + p1))) (fun y6 => if 4 ≤ y6 then t_X6_takeEffects_41 L p1 k9 x2 y6 0 d else t_X6_takeEffects_41 L p1 k9 x2 y6 1 d)) else some d
set_option maxRecDepth 20000 in
theorem b_X6_takeEffects_9 {K : Kx} {Y : Yx} {z : Sh}  (hC : CK K Y cX6_takeEffects 4 RX6 2 50) (hr : (kme K).sig.returnType = none) (hA : kA K = aY Y z) {p1 : Int32} (ho : (0, 0, 5) ∈ yI Y) {d' : Dt} (hQ : kQ K = MQ (kb K) (QM Y z (none) d') (ka K) (ks K) 0 0 (aY Y z)) {k9 : Int32 → (Dt) → Option (Dt)} (hk9 : ∀ (x2 : Int32) (d : Dt), k9 x2 d = some d' → V K Y 4 0 0 z d 9 [(0, .ref (yo Y 0)), (1, .int p1), (2, .int x2)] []) (x2 : Int32) (d : Dt) (hf : t_X6_takeEffects_9 z.1 p1 k9 x2 d = some d') : V K Y 4 0 0 z d 9 [(0, .ref (yo Y 0)), (1, .int p1), (2, .int x2)] [] := by
  have hL := hC.2.2.2.2.2.2.1
  unfold t_X6_takeEffects_9 at hf
  refine V_iload_n 2 hC dX6_takeEffects_9 rfl rfl ?_
  refine V_if_lt (tgt := 134) hC dX6_takeEffects_10 (by decide) (fun c3 => ?_) (fun c3 => ?_)
  · have hf := if_t hf c3
    obtain rfl := so_inj hf
    exact V_vret hC hr hQ hA dX6_takeEffects_134
  · have hf := if_f hf c3
    refine V_aload_n 0 hC dX6_takeEffects_13 rfl rfl ?_
    refine V_geti (o := 0) hC ho rfl fk_X6_80 dX6_takeEffects_14 ?_
    refine V_if_ne (tgt := 134) hC dX6_takeEffects_17 (by decide) (fun c4 => ?_) (fun c4 => ?_)
    · have hf := if_f hf c4
      obtain rfl := so_inj hf
      exact V_vret hC hr hQ hA dX6_takeEffects_134
    · have hf := if_t hf c4
      refine V_aload_n 0 hC dX6_takeEffects_20 rfl rfl ?_
      refine V_geta (o := 0) hC ho rfl fk_X6_17 dX6_takeEffects_21 ?_
      refine V_bipush (v := 32) hC dX6_takeEffects_24 rfl ?_
      refine V_iload_n 1 hC dX6_takeEffects_26 rfl rfl ?_
      refine V_iadd hC dX6_takeEffects_27 ?_
      obtain ⟨g5, hf⟩ := gd_some hf
      refine V_iald (a := (32 * 0 + 2)) hC (hL.row ho rfl) g5 dX6_takeEffects_28 ?_
      refine V_topi (fun y6 ey6 => ?_)
      have hf := bd_e hf y6 ey6
      refine V_istore_n (lv' := [(3, .int y6), (0, .ref (yo Y 0)), (1, .int p1), (2, .int x2)]) hC dX6_takeEffects_29 rfl (by decide) rfl ?_
      refine V_aload_n 1 hC dX6_takeEffects_30 rfl rfl ?_
      refine V_iload_n 0 hC dX6_takeEffects_31 rfl rfl ?_
      refine V_iconst (v := 4) hC dX6_takeEffects_32 rfl ?_
      refine V_icmp_ge (tgt := 40) hC dX6_takeEffects_33 (by decide) (fun c7 => ?_) (fun c7 => ?_)
      · have hf := if_t hf c7
        refine V_iconst (v := 0) hC dX6_takeEffects_40 rfl ?_
        exact V_sub [1, 2, 3, 0] rfl (b_X6_takeEffects_41 hC hr hA ho hQ hk9 x2 y6 0 d hf)
      · have hf := if_f hf c7
        refine V_iconst (v := 1) hC dX6_takeEffects_36 rfl ?_
        refine V_goto (tgt := 41) hC dX6_takeEffects_37 (by decide) ?_
        exact V_sub [1, 2, 3, 0] rfl (b_X6_takeEffects_41 hC hr hA ho hQ hk9 x2 y6 1 d hf)
def t_X6_takeEffects (L : Nat → Nat) (d : Dt) (p1 : Int32) : Option (Dt) := (t_X6_takeWord L d ).bind (fun d1 => (t_X6_kindHere L d1 ).bind (fun v2 => lp (fun k x => t_X6_takeEffects_9 L p1  (fun x2 d => k (x2, d)) x.1 x.2) FU (v2, d1)))
set_option maxRecDepth 20000 in
theorem c_X6_takeEffects {l : Launch} {Y : Yx} (hL : LAY Y) {z : Sh} {d : Dt} {p1 : Int32} (ho : (0, 0, 5) ∈ yI Y) {d' : Dt} (hf : t_X6_takeEffects z.1 d p1 = some d') : MM l yX6_takeEffects cX6_takeEffects 4 none 2 50 Y z [.ref (yo Y 0), .int p1] d (none) d' := by
  refine MM.ofV (by decide +kernel) hL (Nat.le_of_ble_eq_true rfl) (fun K hl hC hr hQ hA => ?_)
  have hC : CK K Y cX6_takeEffects 4 RX6 2 50 := hC
  have hkn : 0 ≤ (kR K).cells ∧ 0 ≤ (kR K).slots := ⟨Nat.zero_le _, Nat.zero_le _⟩
  unfold t_X6_takeEffects at hf
  show V K Y 4 0 0 z d 0 [(0, .ref (yo Y 0)), (1, .int p1)] []
  refine V_aload_n 0 hC dX6_takeEffects_0 rfl rfl ?_
  obtain ⟨d1, ed1, hf⟩ := bi_some hf
  refine V_invv (o := 0) (As := []) (rest := []) hC (c_X6_takeWord hL ho ed1) me_X6_takeWord lk_X6_116 ho rfl rfl rfl (Nat.le_of_ble_eq_true rfl) ⟨by decide, by decide⟩ hkn dX6_takeEffects_1 ?_
  refine V_aload_n 0 hC dX6_takeEffects_4 rfl rfl ?_
  obtain ⟨v2, ev2, hf⟩ := bi_some hf
  refine V_invi (o := 0) (As := []) (rest := []) hC (c_X6_kindHere hL ho ev2) me_X6_kindHere lk_X6_119 ho rfl rfl rfl (Nat.le_of_ble_eq_true rfl) ⟨by decide, by decide⟩ hkn dX6_takeEffects_5 ?_
  refine V_istore_n (lv' := [(2, .int v2), (0, .ref (yo Y 0)), (1, .int p1)]) hC dX6_takeEffects_8 rfl (by decide) rfl ?_
  exact V_sub [1, 2, 0] rfl (lp_ind (X := Int32 × Dt) (P := fun x => V K Y 4 0 0 z x.2 9 [(0, .ref (yo Y 0)), (1, .int p1), (2, .int x.1)] []) (fun k x hk hx => b_X6_takeEffects_9 hC hr hA ho hQ  (k9 := fun x2 d => k (x2, d)) (fun x2 d hx => hk (x2, d) hx) x.1 x.2 hx) FU (v2, d1) hf)
def t_X6_takeChoices_241 (L : Nat → Nat) (p1 : Int32)   (d : Dt) : Option (Dt) := if (gF d 0 8) = 0 then bd (sF d 0 5 (gF d 0 6)) (fun d8 => some d8) else some d
set_option maxRecDepth 20000 in
theorem b_X6_takeChoices_241 {K : Kx} {Y : Yx} {z : Sh}  (hC : CK K Y cX6_takeChoices 4 RX6 3 71) (hr : (kme K).sig.returnType = none) (hA : kA K = aY Y z) {p1 : Int32} (ho : (0, 0, 5) ∈ yI Y) {d' : Dt} (hQ : kQ K = MQ (kb K) (QM Y z (none) d') (ka K) (ks K) 0 0 (aY Y z))    (d : Dt) (hf : t_X6_takeChoices_241 z.1 p1   d = some d') : V K Y 4 0 0 z d 241 [(0, .ref (yo Y 0))] [] := by
  have hL := hC.2.2.2.2.2.2.1
  unfold t_X6_takeChoices_241 at hf
  refine V_aload_n 0 hC dX6_takeChoices_241 rfl rfl ?_
  refine V_geti (o := 0) hC ho rfl fk_X6_80 dX6_takeChoices_242 ?_
  refine V_if_ne (tgt := 256) hC dX6_takeChoices_245 (by decide) (fun c7 => ?_) (fun c7 => ?_)
  · have hf := if_f hf c7
    obtain rfl := so_inj hf
    exact V_vret hC hr hQ hA dX6_takeChoices_256
  · have hf := if_t hf c7
    refine V_aload_n 0 hC dX6_takeChoices_248 rfl rfl ?_
    refine V_aload_n 0 hC dX6_takeChoices_249 rfl rfl ?_
    refine V_geti (o := 0) hC ho rfl fk_X6_87 dX6_takeChoices_250 ?_
    refine V_puti (o := 0) hC ho rfl fk_X6_77 pl_X6 rfl rfl dX6_takeChoices_253 (fun d8 ed8 => ?_)
    have hf := bd_e hf d8 ed8
    obtain rfl := so_inj hf
    exact V_vret hC hr hQ hA dX6_takeChoices_256
def t_X6_takeChoices_238 (L : Nat → Nat) (p1 : Int32) (k0 : (Dt) → Option (Dt))  (d : Dt) : Option (Dt) := k0 d
set_option maxRecDepth 20000 in
theorem b_X6_takeChoices_238 {K : Kx} {Y : Yx} {z : Sh}  (hC : CK K Y cX6_takeChoices 4 RX6 3 71) (hr : (kme K).sig.returnType = none) (hA : kA K = aY Y z) {p1 : Int32} (ho : (0, 0, 5) ∈ yI Y) {d' : Dt} (hQ : kQ K = MQ (kb K) (QM Y z (none) d') (ka K) (ks K) 0 0 (aY Y z)) {k0 : (Dt) → Option (Dt)} (hk0 : ∀  (d : Dt), k0  d = some d' → V K Y 4 0 0 z d 0 [(0, .ref (yo Y 0)), (1, .int p1)] [])  (d : Dt) (hf : t_X6_takeChoices_238 z.1 p1 k0  d = some d') : V K Y 4 0 0 z d 238 [(0, .ref (yo Y 0)), (1, .int p1)] [] := by
  have hL := hC.2.2.2.2.2.2.1
  unfold t_X6_takeChoices_238 at hf
  refine V_goto (tgt := 0) hC dX6_takeChoices_238 (by decide) ?_
  exact hk0 d hf
def t_X6_takeChoices_226 (L : Nat → Nat) (p1 : Int32) (k0 : (Dt) → Option (Dt)) (x2 : Int32) (d : Dt) : Option (Dt) := gd (inb (56 + p1) (L (32 * 0 + 2))) (bd (sA d (32 * 0 + 2) (ix (56 + p1)) (x2 + 1)) (fun d40 => t_X6_takeChoices_238 L p1 k0 d40))
set_option maxRecDepth 20000 in
theorem b_X6_takeChoices_226 {K : Kx} {Y : Yx} {z : Sh}  (hC : CK K Y cX6_takeChoices 4 RX6 3 71) (hr : (kme K).sig.returnType = none) (hA : kA K = aY Y z) {p1 : Int32} (ho : (0, 0, 5) ∈ yI Y) {d' : Dt} (hQ : kQ K = MQ (kb K) (QM Y z (none) d') (ka K) (ks K) 0 0 (aY Y z)) {k0 : (Dt) → Option (Dt)} (hk0 : ∀  (d : Dt), k0  d = some d' → V K Y 4 0 0 z d 0 [(0, .ref (yo Y 0)), (1, .int p1)] []) (x2 : Int32) (d : Dt) (hf : t_X6_takeChoices_226 z.1 p1 k0 x2 d = some d') : V K Y 4 0 0 z d 226 [(0, .ref (yo Y 0)), (1, .int p1), (2, .int x2)] [] := by
  have hL := hC.2.2.2.2.2.2.1
  unfold t_X6_takeChoices_226 at hf
  refine V_aload_n 0 hC dX6_takeChoices_226 rfl rfl ?_
  refine V_geta (o := 0) hC ho rfl fk_X6_17 dX6_takeChoices_227 ?_
  refine V_bipush (v := 56) hC dX6_takeChoices_230 rfl ?_
  refine V_iload_n 1 hC dX6_takeChoices_232 rfl rfl ?_
  refine V_iadd hC dX6_takeChoices_233 ?_
  refine V_iload_n 2 hC dX6_takeChoices_234 rfl rfl ?_
  refine V_iconst (v := 1) hC dX6_takeChoices_235 rfl ?_
  refine V_iadd hC dX6_takeChoices_236 ?_
  obtain ⟨g39, hf⟩ := gd_some hf
  refine V_iast (a := (32 * 0 + 2)) hC (hL.row ho rfl) g39 dX6_takeChoices_237 (fun d40 ed40 => ?_)
  have hf := bd_e hf d40 ed40
  exact V_sub [0, 1] rfl (b_X6_takeChoices_238 hC hr hA ho hQ hk0 d40 hf)
def t_X6_takeChoices_161 (L : Nat → Nat) (p1 : Int32) (k0 : (Dt) → Option (Dt)) (x2 : Int32) (x3 : Int32) (d : Dt) : Option (Dt) := if (gF d 0 8) = 0 then (t_X6_isLong L d 7 111 117 116).bind (fun v30 => if v30 = 0 then t_X6_takeChoices_226 L p1 k0 x2 d else (t_X6_isBegun L d 119 105 116 104).bind (fun v32 => if v32 = 0 then t_X6_takeChoices_226 L p1 k0 x2 d else (t_X6_takeNumber L d 0 7).bind (fun q34 => gd (inb (656 + x3) (L (32 * 0 + 2))) (bd (sA q34.2 (32 * 0 + 2) (ix (656 + x3)) q34.1) (fun d36 => if (gF d36 0 8) = 0 then (t_X6_takeWord L d36 ).bind (fun d38 => t_X6_takeChoices_226 L p1 k0 x2 d38) else t_X6_takeChoices_226 L p1 k0 x2 d36))))) else t_X6_takeChoices_226 L p1 k0 x2 d
set_option maxRecDepth 20000 in
theorem b_X6_takeChoices_161 {K : Kx} {Y : Yx} {z : Sh}  (hC : CK K Y cX6_takeChoices 4 RX6 3 71) (hr : (kme K).sig.returnType = none) (hA : kA K = aY Y z) {p1 : Int32} (ho : (0, 0, 5) ∈ yI Y) {d' : Dt} (hQ : kQ K = MQ (kb K) (QM Y z (none) d') (ka K) (ks K) 0 0 (aY Y z)) {k0 : (Dt) → Option (Dt)} (hk0 : ∀  (d : Dt), k0  d = some d' → V K Y 4 0 0 z d 0 [(0, .ref (yo Y 0)), (1, .int p1)] []) (x2 : Int32) (x3 : Int32) (d : Dt) (hf : t_X6_takeChoices_161 z.1 p1 k0 x2 x3 d = some d') : V K Y 4 0 0 z d 161 [(0, .ref (yo Y 0)), (1, .int p1), (2, .int x2), (3, .int x3)] [] := by
  have hL := hC.2.2.2.2.2.2.1
  have hkn : 0 ≤ (kR K).cells ∧ 0 ≤ (kR K).slots := ⟨Nat.zero_le _, Nat.zero_le _⟩
  unfold t_X6_takeChoices_161 at hf
  refine V_aload_n 0 hC dX6_takeChoices_161 rfl rfl ?_
  refine V_geti (o := 0) hC ho rfl fk_X6_80 dX6_takeChoices_162 ?_
  refine V_if_ne (tgt := 226) hC dX6_takeChoices_165 (by decide) (fun c29 => ?_) (fun c29 => ?_)
  · have hf := if_f hf c29
    exact V_sub [0, 1, 2] rfl (b_X6_takeChoices_226 hC hr hA ho hQ hk0 x2 d hf)
  · have hf := if_t hf c29
    refine V_aload_n 0 hC dX6_takeChoices_168 rfl rfl ?_
    refine V_bipush (v := 7) hC dX6_takeChoices_169 rfl ?_
    refine V_bipush (v := 111) hC dX6_takeChoices_171 rfl ?_
    refine V_bipush (v := 117) hC dX6_takeChoices_173 rfl ?_
    refine V_bipush (v := 116) hC dX6_takeChoices_175 rfl ?_
    obtain ⟨v30, ev30, hf⟩ := bi_some hf
    refine V_invi (o := 0) (As := [.int 7, .int 111, .int 117, .int 116]) (rest := []) hC (c_X6_isLong hL ho ev30) me_X6_isLong lk_X6_125 ho rfl rfl rfl (Nat.le_of_ble_eq_true rfl) ⟨by decide, by decide⟩ hkn dX6_takeChoices_177 ?_
    refine V_if_eq (tgt := 226) hC dX6_takeChoices_180 (by decide) (fun c31 => ?_) (fun c31 => ?_)
    · have hf := if_t hf c31
      exact V_sub [0, 1, 2] rfl (b_X6_takeChoices_226 hC hr hA ho hQ hk0 x2 d hf)
    · have hf := if_f hf c31
      refine V_aload_n 0 hC dX6_takeChoices_183 rfl rfl ?_
      refine V_bipush (v := 119) hC dX6_takeChoices_184 rfl ?_
      refine V_bipush (v := 105) hC dX6_takeChoices_186 rfl ?_
      refine V_bipush (v := 116) hC dX6_takeChoices_188 rfl ?_
      refine V_bipush (v := 104) hC dX6_takeChoices_190 rfl ?_
      obtain ⟨v32, ev32, hf⟩ := bi_some hf
      refine V_invi (o := 0) (As := [.int 119, .int 105, .int 116, .int 104]) (rest := []) hC (c_X6_isBegun hL ho ev32) me_X6_isBegun lk_X6_129 ho rfl rfl rfl (Nat.le_of_ble_eq_true rfl) ⟨by decide, by decide⟩ hkn dX6_takeChoices_192 ?_
      refine V_if_eq (tgt := 226) hC dX6_takeChoices_195 (by decide) (fun c33 => ?_) (fun c33 => ?_)
      · have hf := if_t hf c33
        exact V_sub [0, 1, 2] rfl (b_X6_takeChoices_226 hC hr hA ho hQ hk0 x2 d hf)
      · have hf := if_f hf c33
        refine V_aload_n 0 hC dX6_takeChoices_198 rfl rfl ?_
        refine V_geta (o := 0) hC ho rfl fk_X6_17 dX6_takeChoices_199 ?_
        refine V_sipush (v := 656) hC dX6_takeChoices_202 rfl ?_
        refine V_iload_n 3 hC dX6_takeChoices_205 rfl rfl ?_
        refine V_iadd hC dX6_takeChoices_206 ?_
        refine V_aload_n 0 hC dX6_takeChoices_207 rfl rfl ?_
        refine V_iconst (v := 0) hC dX6_takeChoices_208 rfl ?_
        refine V_bipush (v := 7) hC dX6_takeChoices_209 rfl ?_
        obtain ⟨q34, eq34, hf⟩ := bi_some hf
        refine V_invi (o := 0) (As := [.int 0, .int 7]) (rest := [.int (656 + x3), .ref (gad z (32 * 0 + 2))]) hC (c_X6_takeNumber hL ho eq34) me_X6_takeNumber lk_X6_105 ho rfl rfl rfl (Nat.le_of_ble_eq_true rfl) ⟨by decide, by decide⟩ hkn dX6_takeChoices_211 ?_
        obtain ⟨g35, hf⟩ := gd_some hf
        refine V_iast (a := (32 * 0 + 2)) hC (hL.row ho rfl) g35 dX6_takeChoices_214 (fun d36 ed36 => ?_)
        have hf := bd_e hf d36 ed36
        refine V_aload_n 0 hC dX6_takeChoices_215 rfl rfl ?_
        refine V_geti (o := 0) hC ho rfl fk_X6_80 dX6_takeChoices_216 ?_
        refine V_if_ne (tgt := 226) hC dX6_takeChoices_219 (by decide) (fun c37 => ?_) (fun c37 => ?_)
        · have hf := if_f hf c37
          exact V_sub [0, 1, 2] rfl (b_X6_takeChoices_226 hC hr hA ho hQ hk0 x2 d36 hf)
        · have hf := if_t hf c37
          refine V_aload_n 0 hC dX6_takeChoices_222 rfl rfl ?_
          obtain ⟨d38, ed38, hf⟩ := bi_some hf
          refine V_invv (o := 0) (As := []) (rest := []) hC (c_X6_takeWord hL ho ed38) me_X6_takeWord lk_X6_116 ho rfl rfl rfl (Nat.le_of_ble_eq_true rfl) ⟨by decide, by decide⟩ hkn dX6_takeChoices_223 ?_
          exact V_sub [0, 1, 2] rfl (b_X6_takeChoices_226 hC hr hA ho hQ hk0 x2 d38 hf)
def t_X6_takeChoices_109 (L : Nat → Nat) (p1 : Int32) (k0 : (Dt) → Option (Dt)) (x2 : Int32) (x3 : Int32) (d : Dt) : Option (Dt) := if (gF d 0 8) = 0 then (t_X6_isWord L d 4 119 105 116 104 0).bind (fun v22 => if v22 = 0 then t_X6_takeChoices_161 L p1 k0 x2 x3 d else (t_X6_takeNumber L d 0 7).bind (fun q24 => gd (inb (512 + x3) (L (32 * 0 + 2))) (bd (sA q24.2 (32 * 0 + 2) (ix (512 + x3)) q24.1) (fun d26 => if (gF d26 0 8) = 0 then (t_X6_takeWord L d26 ).bind (fun d28 => t_X6_takeChoices_161 L p1 k0 x2 x3 d28) else t_X6_takeChoices_161 L p1 k0 x2 x3 d26)))) else t_X6_takeChoices_161 L p1 k0 x2 x3 d
set_option maxRecDepth 20000 in
theorem b_X6_takeChoices_109 {K : Kx} {Y : Yx} {z : Sh}  (hC : CK K Y cX6_takeChoices 4 RX6 3 71) (hr : (kme K).sig.returnType = none) (hA : kA K = aY Y z) {p1 : Int32} (ho : (0, 0, 5) ∈ yI Y) {d' : Dt} (hQ : kQ K = MQ (kb K) (QM Y z (none) d') (ka K) (ks K) 0 0 (aY Y z)) {k0 : (Dt) → Option (Dt)} (hk0 : ∀  (d : Dt), k0  d = some d' → V K Y 4 0 0 z d 0 [(0, .ref (yo Y 0)), (1, .int p1)] []) (x2 : Int32) (x3 : Int32) (d : Dt) (hf : t_X6_takeChoices_109 z.1 p1 k0 x2 x3 d = some d') : V K Y 4 0 0 z d 109 [(0, .ref (yo Y 0)), (1, .int p1), (2, .int x2), (3, .int x3)] [] := by
  have hL := hC.2.2.2.2.2.2.1
  have hkn : 0 ≤ (kR K).cells ∧ 0 ≤ (kR K).slots := ⟨Nat.zero_le _, Nat.zero_le _⟩
  unfold t_X6_takeChoices_109 at hf
  refine V_aload_n 0 hC dX6_takeChoices_109 rfl rfl ?_
  refine V_geti (o := 0) hC ho rfl fk_X6_80 dX6_takeChoices_110 ?_
  refine V_if_ne (tgt := 161) hC dX6_takeChoices_113 (by decide) (fun c21 => ?_) (fun c21 => ?_)
  · have hf := if_f hf c21
    exact b_X6_takeChoices_161 hC hr hA ho hQ hk0 x2 x3 d hf
  · have hf := if_t hf c21
    refine V_aload_n 0 hC dX6_takeChoices_116 rfl rfl ?_
    refine V_iconst (v := 4) hC dX6_takeChoices_117 rfl ?_
    refine V_bipush (v := 119) hC dX6_takeChoices_118 rfl ?_
    refine V_bipush (v := 105) hC dX6_takeChoices_120 rfl ?_
    refine V_bipush (v := 116) hC dX6_takeChoices_122 rfl ?_
    refine V_bipush (v := 104) hC dX6_takeChoices_124 rfl ?_
    refine V_iconst (v := 0) hC dX6_takeChoices_126 rfl ?_
    obtain ⟨v22, ev22, hf⟩ := bi_some hf
    refine V_invi (o := 0) (As := [.int 4, .int 119, .int 105, .int 116, .int 104, .int 0]) (rest := []) hC (c_X6_isWord hL ho ev22) me_X6_isWord lk_X6_112 ho rfl rfl rfl (Nat.le_of_ble_eq_true rfl) ⟨by decide, by decide⟩ hkn dX6_takeChoices_127 ?_
    refine V_if_eq (tgt := 161) hC dX6_takeChoices_130 (by decide) (fun c23 => ?_) (fun c23 => ?_)
    · have hf := if_t hf c23
      exact b_X6_takeChoices_161 hC hr hA ho hQ hk0 x2 x3 d hf
    · have hf := if_f hf c23
      refine V_aload_n 0 hC dX6_takeChoices_133 rfl rfl ?_
      refine V_geta (o := 0) hC ho rfl fk_X6_17 dX6_takeChoices_134 ?_
      refine V_sipush (v := 512) hC dX6_takeChoices_137 rfl ?_
      refine V_iload_n 3 hC dX6_takeChoices_140 rfl rfl ?_
      refine V_iadd hC dX6_takeChoices_141 ?_
      refine V_aload_n 0 hC dX6_takeChoices_142 rfl rfl ?_
      refine V_iconst (v := 0) hC dX6_takeChoices_143 rfl ?_
      refine V_bipush (v := 7) hC dX6_takeChoices_144 rfl ?_
      obtain ⟨q24, eq24, hf⟩ := bi_some hf
      refine V_invi (o := 0) (As := [.int 0, .int 7]) (rest := [.int (512 + x3), .ref (gad z (32 * 0 + 2))]) hC (c_X6_takeNumber hL ho eq24) me_X6_takeNumber lk_X6_105 ho rfl rfl rfl (Nat.le_of_ble_eq_true rfl) ⟨by decide, by decide⟩ hkn dX6_takeChoices_146 ?_
      obtain ⟨g25, hf⟩ := gd_some hf
      refine V_iast (a := (32 * 0 + 2)) hC (hL.row ho rfl) g25 dX6_takeChoices_149 (fun d26 ed26 => ?_)
      have hf := bd_e hf d26 ed26
      refine V_aload_n 0 hC dX6_takeChoices_150 rfl rfl ?_
      refine V_geti (o := 0) hC ho rfl fk_X6_80 dX6_takeChoices_151 ?_
      refine V_if_ne (tgt := 161) hC dX6_takeChoices_154 (by decide) (fun c27 => ?_) (fun c27 => ?_)
      · have hf := if_f hf c27
        exact b_X6_takeChoices_161 hC hr hA ho hQ hk0 x2 x3 d26 hf
      · have hf := if_t hf c27
        refine V_aload_n 0 hC dX6_takeChoices_157 rfl rfl ?_
        obtain ⟨d28, ed28, hf⟩ := bi_some hf
        refine V_invv (o := 0) (As := []) (rest := []) hC (c_X6_takeWord hL ho ed28) me_X6_takeWord lk_X6_116 ho rfl rfl rfl (Nat.le_of_ble_eq_true rfl) ⟨by decide, by decide⟩ hkn dX6_takeChoices_158 ?_
        exact b_X6_takeChoices_161 hC hr hA ho hQ hk0 x2 x3 d28 hf
def t_X6_takeChoices_44 (L : Nat → Nat) (p1 : Int32) (k0 : (Dt) → Option (Dt)) (x2 : Int32) (s0 : Int32) (d : Dt) : Option (Dt) := (t_X6_want L d s0 3 (gF d 0 6)).bind (fun q9 => if q9.1 = 0 then t_X6_takeChoices_238 L p1 k0 q9.2 else bd ((6 * p1) + x2) (fun y11 => (t_X6_takeGoal L q9.2 ).bind (fun q12 => gd (inb (368 + y11) (L (32 * 0 + 2))) (bd (sA q12.2 (32 * 0 + 2) (ix (368 + y11)) q12.1) (fun d14 => gd (inb (512 + y11) (L (32 * 0 + 2))) (bd (sA d14 (32 * 0 + 2) (ix (512 + y11)) (-1)) (fun d16 => gd (inb (656 + y11) (L (32 * 0 + 2))) (bd (sA d16 (32 * 0 + 2) (ix (656 + y11)) (-1)) (fun d18 => if (gF d18 0 8) = 0 then (t_X6_takeWord L d18 ).bind (fun d20 => t_X6_takeChoices_109 L p1 k0 x2 y11 d20) else t_X6_takeChoices_109 L p1 k0 x2 y11 d18)))))))))
set_option maxRecDepth 20000 in
theorem b_X6_takeChoices_44 {K : Kx} {Y : Yx} {z : Sh}  (hC : CK K Y cX6_takeChoices 4 RX6 3 71) (hr : (kme K).sig.returnType = none) (hA : kA K = aY Y z) {p1 : Int32} (ho : (0, 0, 5) ∈ yI Y) {d' : Dt} (hQ : kQ K = MQ (kb K) (QM Y z (none) d') (ka K) (ks K) 0 0 (aY Y z)) {k0 : (Dt) → Option (Dt)} (hk0 : ∀  (d : Dt), k0  d = some d' → V K Y 4 0 0 z d 0 [(0, .ref (yo Y 0)), (1, .int p1)] []) (x2 : Int32) (s0 : Int32) (d : Dt) (hf : t_X6_takeChoices_44 z.1 p1 k0 x2 s0 d = some d') : V K Y 4 0 0 z d 44 [(0, .ref (yo Y 0)), (1, .int p1), (2, .int x2)] [.int s0, .ref (yo Y 0)] := by
  have hL := hC.2.2.2.2.2.2.1
  have hkn : 0 ≤ (kR K).cells ∧ 0 ≤ (kR K).slots := ⟨Nat.zero_le _, Nat.zero_le _⟩
  unfold t_X6_takeChoices_44 at hf
  refine V_iconst (v := 3) hC dX6_takeChoices_44 rfl ?_
  refine V_aload_n 0 hC dX6_takeChoices_45 rfl rfl ?_
  refine V_geti (o := 0) hC ho rfl fk_X6_87 dX6_takeChoices_46 ?_
  obtain ⟨q9, eq9, hf⟩ := bi_some hf
  refine V_invi (o := 0) (As := [.int s0, .int 3, .int (gF d 0 6)]) (rest := []) hC (c_X6_want hL ho eq9) me_X6_want lk_X6_101 ho rfl rfl rfl (Nat.le_of_ble_eq_true rfl) ⟨by decide, by decide⟩ hkn dX6_takeChoices_49 ?_
  refine V_if_eq (tgt := 238) hC dX6_takeChoices_52 (by decide) (fun c10 => ?_) (fun c10 => ?_)
  · have hf := if_t hf c10
    exact V_sub [0, 1] rfl (b_X6_takeChoices_238 hC hr hA ho hQ hk0 q9.2 hf)
  · have hf := if_f hf c10
    refine V_bipush (v := 6) hC dX6_takeChoices_55 rfl ?_
    refine V_iload_n 1 hC dX6_takeChoices_57 rfl rfl ?_
    refine V_imul hC dX6_takeChoices_58 ?_
    refine V_iload_n 2 hC dX6_takeChoices_59 rfl rfl ?_
    refine V_iadd hC dX6_takeChoices_60 ?_
    refine V_topi (fun y11 ey11 => ?_)
    have hf := bd_e hf y11 ey11
    refine V_istore_n (lv' := [(3, .int y11), (0, .ref (yo Y 0)), (1, .int p1), (2, .int x2)]) hC dX6_takeChoices_61 rfl (by decide) rfl ?_
    refine V_aload_n 1 hC dX6_takeChoices_62 rfl rfl ?_
    refine V_geta (o := 0) hC ho rfl fk_X6_17 dX6_takeChoices_63 ?_
    refine V_sipush (v := 368) hC dX6_takeChoices_66 rfl ?_
    refine V_iload_n 0 hC dX6_takeChoices_69 rfl rfl ?_
    refine V_iadd hC dX6_takeChoices_70 ?_
    refine V_aload_n 1 hC dX6_takeChoices_71 rfl rfl ?_
    obtain ⟨q12, eq12, hf⟩ := bi_some hf
    refine V_invi (o := 0) (As := []) (rest := [.int (368 + y11), .ref (gad z (32 * 0 + 2))]) hC (c_X6_takeGoal hL ho eq12) me_X6_takeGoal lk_X6_122 ho rfl rfl rfl (Nat.le_of_ble_eq_true rfl) ⟨by decide, by decide⟩ hkn dX6_takeChoices_72 ?_
    obtain ⟨g13, hf⟩ := gd_some hf
    refine V_iast (a := (32 * 0 + 2)) hC (hL.row ho rfl) g13 dX6_takeChoices_75 (fun d14 ed14 => ?_)
    have hf := bd_e hf d14 ed14
    refine V_aload_n 1 hC dX6_takeChoices_76 rfl rfl ?_
    refine V_geta (o := 0) hC ho rfl fk_X6_17 dX6_takeChoices_77 ?_
    refine V_sipush (v := 512) hC dX6_takeChoices_80 rfl ?_
    refine V_iload_n 0 hC dX6_takeChoices_83 rfl rfl ?_
    refine V_iadd hC dX6_takeChoices_84 ?_
    refine V_iconst (v := -1) hC dX6_takeChoices_85 rfl ?_
    obtain ⟨g15, hf⟩ := gd_some hf
    refine V_iast (a := (32 * 0 + 2)) hC (hL.row ho rfl) g15 dX6_takeChoices_86 (fun d16 ed16 => ?_)
    have hf := bd_e hf d16 ed16
    refine V_aload_n 1 hC dX6_takeChoices_87 rfl rfl ?_
    refine V_geta (o := 0) hC ho rfl fk_X6_17 dX6_takeChoices_88 ?_
    refine V_sipush (v := 656) hC dX6_takeChoices_91 rfl ?_
    refine V_iload_n 0 hC dX6_takeChoices_94 rfl rfl ?_
    refine V_iadd hC dX6_takeChoices_95 ?_
    refine V_iconst (v := -1) hC dX6_takeChoices_96 rfl ?_
    obtain ⟨g17, hf⟩ := gd_some hf
    refine V_iast (a := (32 * 0 + 2)) hC (hL.row ho rfl) g17 dX6_takeChoices_97 (fun d18 ed18 => ?_)
    have hf := bd_e hf d18 ed18
    refine V_aload_n 1 hC dX6_takeChoices_98 rfl rfl ?_
    refine V_geti (o := 0) hC ho rfl fk_X6_80 dX6_takeChoices_99 ?_
    refine V_if_ne (tgt := 109) hC dX6_takeChoices_102 (by decide) (fun c19 => ?_) (fun c19 => ?_)
    · have hf := if_f hf c19
      exact V_sub [1, 2, 3, 0] rfl (b_X6_takeChoices_109 hC hr hA ho hQ hk0 x2 y11 d18 hf)
    · have hf := if_t hf c19
      refine V_aload_n 1 hC dX6_takeChoices_105 rfl rfl ?_
      obtain ⟨d20, ed20, hf⟩ := bi_some hf
      refine V_invv (o := 0) (As := []) (rest := []) hC (c_X6_takeWord hL ho ed20) me_X6_takeWord lk_X6_116 ho rfl rfl rfl (Nat.le_of_ble_eq_true rfl) ⟨by decide, by decide⟩ hkn dX6_takeChoices_106 ?_
      exact V_sub [1, 2, 3, 0] rfl (b_X6_takeChoices_109 hC hr hA ho hQ hk0 x2 y11 d20 hf)
def t_X6_takeChoices_0 (L : Nat → Nat) (p1 : Int32) (k0 : (Dt) → Option (Dt))  (d : Dt) : Option (Dt) := if (gF d 0 8) = 0 then (t_X6_isWord L d 2 103 111 0 0 0).bind (fun v2 => if v2 = 0 then t_X6_takeChoices_241 L p1  d else gd (inb (56 + p1) (L (32 * 0 + 2))) (bd (gA d (32 * 0 + 2) (ix (56 + p1))) (fun y5 => if 6 ≤ y5 then t_X6_takeChoices_44 L p1 k0 y5 0 d else t_X6_takeChoices_44 L p1 k0 y5 1 d))) else t_X6_takeChoices_241 L p1  d
set_option maxRecDepth 20000 in
theorem b_X6_takeChoices_0 {K : Kx} {Y : Yx} {z : Sh}  (hC : CK K Y cX6_takeChoices 4 RX6 3 71) (hr : (kme K).sig.returnType = none) (hA : kA K = aY Y z) {p1 : Int32} (ho : (0, 0, 5) ∈ yI Y) {d' : Dt} (hQ : kQ K = MQ (kb K) (QM Y z (none) d') (ka K) (ks K) 0 0 (aY Y z)) {k0 : (Dt) → Option (Dt)} (hk0 : ∀  (d : Dt), k0  d = some d' → V K Y 4 0 0 z d 0 [(0, .ref (yo Y 0)), (1, .int p1)] [])  (d : Dt) (hf : t_X6_takeChoices_0 z.1 p1 k0  d = some d') : V K Y 4 0 0 z d 0 [(0, .ref (yo Y 0)), (1, .int p1)] [] := by
  have hL := hC.2.2.2.2.2.2.1
  have hkn : 0 ≤ (kR K).cells ∧ 0 ≤ (kR K).slots := ⟨Nat.zero_le _, Nat.zero_le _⟩
  unfold t_X6_takeChoices_0 at hf
  refine V_aload_n 0 hC dX6_takeChoices_0 rfl rfl ?_
  refine V_geti (o := 0) hC ho rfl fk_X6_80 dX6_takeChoices_1 ?_
  refine V_if_ne (tgt := 241) hC dX6_takeChoices_4 (by decide) (fun c1 => ?_) (fun c1 => ?_)
  · have hf := if_f hf c1
    exact V_sub [0] rfl (b_X6_takeChoices_241 hC hr hA ho hQ  d hf)
  · have hf := if_t hf c1
    refine V_aload_n 0 hC dX6_takeChoices_7 rfl rfl ?_
    refine V_iconst (v := 2) hC dX6_takeChoices_8 rfl ?_
    refine V_bipush (v := 103) hC dX6_takeChoices_9 rfl ?_
    refine V_bipush (v := 111) hC dX6_takeChoices_11 rfl ?_
    refine V_iconst (v := 0) hC dX6_takeChoices_13 rfl ?_
    refine V_iconst (v := 0) hC dX6_takeChoices_14 rfl ?_
    refine V_iconst (v := 0) hC dX6_takeChoices_15 rfl ?_
    obtain ⟨v2, ev2, hf⟩ := bi_some hf
    refine V_invi (o := 0) (As := [.int 2, .int 103, .int 111, .int 0, .int 0, .int 0]) (rest := []) hC (c_X6_isWord hL ho ev2) me_X6_isWord lk_X6_112 ho rfl rfl rfl (Nat.le_of_ble_eq_true rfl) ⟨by decide, by decide⟩ hkn dX6_takeChoices_16 ?_
    refine V_if_eq (tgt := 241) hC dX6_takeChoices_19 (by decide) (fun c3 => ?_) (fun c3 => ?_)
    · have hf := if_t hf c3
      exact V_sub [0] rfl (b_X6_takeChoices_241 hC hr hA ho hQ  d hf)
    · have hf := if_f hf c3
      refine V_aload_n 0 hC dX6_takeChoices_22 rfl rfl ?_
      refine V_geta (o := 0) hC ho rfl fk_X6_17 dX6_takeChoices_23 ?_
      refine V_bipush (v := 56) hC dX6_takeChoices_26 rfl ?_
      refine V_iload_n 1 hC dX6_takeChoices_28 rfl rfl ?_
      refine V_iadd hC dX6_takeChoices_29 ?_
      obtain ⟨g4, hf⟩ := gd_some hf
      refine V_iald (a := (32 * 0 + 2)) hC (hL.row ho rfl) g4 dX6_takeChoices_30 ?_
      refine V_topi (fun y5 ey5 => ?_)
      have hf := bd_e hf y5 ey5
      refine V_istore_n (lv' := [(2, .int y5), (0, .ref (yo Y 0)), (1, .int p1)]) hC dX6_takeChoices_31 rfl (by decide) rfl ?_
      refine V_aload_n 1 hC dX6_takeChoices_32 rfl rfl ?_
      refine V_iload_n 0 hC dX6_takeChoices_33 rfl rfl ?_
      refine V_bipush (v := 6) hC dX6_takeChoices_34 rfl ?_
      refine V_icmp_ge (tgt := 43) hC dX6_takeChoices_36 (by decide) (fun c6 => ?_) (fun c6 => ?_)
      · have hf := if_t hf c6
        refine V_iconst (v := 0) hC dX6_takeChoices_43 rfl ?_
        exact V_sub [1, 2, 0] rfl (b_X6_takeChoices_44 hC hr hA ho hQ hk0 y5 0 d hf)
      · have hf := if_f hf c6
        refine V_iconst (v := 1) hC dX6_takeChoices_39 rfl ?_
        refine V_goto (tgt := 44) hC dX6_takeChoices_40 (by decide) ?_
        exact V_sub [1, 2, 0] rfl (b_X6_takeChoices_44 hC hr hA ho hQ hk0 y5 1 d hf)
def t_X6_takeChoices (L : Nat → Nat) (d : Dt) (p1 : Int32) : Option (Dt) := lp (fun k x => t_X6_takeChoices_0 L p1  (fun d => k d) x) FU d
set_option maxRecDepth 20000 in
theorem c_X6_takeChoices {l : Launch} {Y : Yx} (hL : LAY Y) {z : Sh} {d : Dt} {p1 : Int32} (ho : (0, 0, 5) ∈ yI Y) {d' : Dt} (hf : t_X6_takeChoices z.1 d p1 = some d') : MM l yX6_takeChoices cX6_takeChoices 4 none 3 71 Y z [.ref (yo Y 0), .int p1] d (none) d' := by
  refine MM.ofV (by decide +kernel) hL (Nat.le_of_ble_eq_true rfl) (fun K hl hC hr hQ hA => ?_)
  have hC : CK K Y cX6_takeChoices 4 RX6 3 71 := hC
  unfold t_X6_takeChoices at hf
  show V K Y 4 0 0 z d 0 [(0, .ref (yo Y 0)), (1, .int p1)] []
  exact lp_ind (X := Dt) (P := fun x => V K Y 4 0 0 z x 0 [(0, .ref (yo Y 0)), (1, .int p1)] []) (fun k x hk hx => b_X6_takeChoices_0 hC hr hA ho hQ  (k0 := fun d => k d) (fun d hx => hk d hx) x hx) FU d hf
def t_X6_takePart_219 (L : Nat → Nat)  (x1 : Int32) (d : Dt) : Option (Dt) := (t_X6_takeChoices L d x1).bind (fun d29 => some d29)
set_option maxRecDepth 20000 in
theorem b_X6_takePart_219 {K : Kx} {Y : Yx} {z : Sh}  (hC : CK K Y cX6_takePart 2 RX6 4 94) (hr : (kme K).sig.returnType = none) (hA : kA K = aY Y z)  (ho : (0, 0, 5) ∈ yI Y) {d' : Dt} (hQ : kQ K = MQ (kb K) (QM Y z (none) d') (ka K) (ks K) 0 0 (aY Y z))   (x1 : Int32) (d : Dt) (hf : t_X6_takePart_219 z.1  x1 d = some d') : V K Y 2 0 0 z d 219 [(0, .ref (yo Y 0)), (1, .int x1)] [] := by
  have hL := hC.2.2.2.2.2.2.1
  have hkn : 0 ≤ (kR K).cells ∧ 0 ≤ (kR K).slots := ⟨Nat.zero_le _, Nat.zero_le _⟩
  unfold t_X6_takePart_219 at hf
  refine V_aload_n 0 hC dX6_takePart_219 rfl rfl ?_
  refine V_iload_n 1 hC dX6_takePart_220 rfl rfl ?_
  obtain ⟨d29, ed29, hf⟩ := bi_some hf
  refine V_invv (o := 0) (As := [.int x1]) (rest := []) hC (c_X6_takeChoices hL ho ed29) me_X6_takeChoices lk_X6_136 ho rfl rfl rfl (Nat.le_of_ble_eq_true rfl) ⟨by decide, by decide⟩ hkn dX6_takePart_221 ?_
  obtain rfl := so_inj hf
  exact V_vret hC hr hQ hA dX6_takePart_224
def t_X6_takePart_215 (L : Nat → Nat)  (s0 : Int32) (s1 : Int32) (d : Dt) : Option (Dt) := gd (inb s1 (L (32 * 0 + 2))) (bd (sA d (32 * 0 + 2) (ix s1) s0) (fun d35 => some d35))
set_option maxRecDepth 20000 in
theorem b_X6_takePart_215 {K : Kx} {Y : Yx} {z : Sh}  (hC : CK K Y cX6_takePart 2 RX6 4 94) (hr : (kme K).sig.returnType = none) (hA : kA K = aY Y z)  (ho : (0, 0, 5) ∈ yI Y) {d' : Dt} (hQ : kQ K = MQ (kb K) (QM Y z (none) d') (ka K) (ks K) 0 0 (aY Y z))   (s0 : Int32) (s1 : Int32) (d : Dt) (hf : t_X6_takePart_215 z.1  s0 s1 d = some d') : V K Y 2 0 0 z d 215 [] [.int s0, .int s1, .ref (gad z (32 * 0 + 2))] := by
  have hL := hC.2.2.2.2.2.2.1
  unfold t_X6_takePart_215 at hf
  obtain ⟨g34, hf⟩ := gd_some hf
  refine V_iast (a := (32 * 0 + 2)) hC (hL.row ho rfl) g34 dX6_takePart_215 (fun d35 ed35 => ?_)
  have hf := bd_e hf d35 ed35
  refine V_goto (tgt := 224) hC dX6_takePart_216 (by decide) ?_
  obtain rfl := so_inj hf
  exact V_vret hC hr hQ hA dX6_takePart_224
def t_X6_takePart_190 (L : Nat → Nat)  (x1 : Int32) (s0 : Int32) (s1 : Int32) (d : Dt) : Option (Dt) := gd (inb s1 (L (32 * 0 + 2))) (bd (sA d (32 * 0 + 2) (ix s1) s0) (fun d31 => if (gF d31 0 8) = 0 then (t_X6_takeGoal L d31 ).bind (fun q33 => t_X6_takePart_215 L  q33.1 (128 + x1) q33.2) else t_X6_takePart_215 L  0 (128 + x1) d31))
set_option maxRecDepth 20000 in
theorem b_X6_takePart_190 {K : Kx} {Y : Yx} {z : Sh}  (hC : CK K Y cX6_takePart 2 RX6 4 94) (hr : (kme K).sig.returnType = none) (hA : kA K = aY Y z)  (ho : (0, 0, 5) ∈ yI Y) {d' : Dt} (hQ : kQ K = MQ (kb K) (QM Y z (none) d') (ka K) (ks K) 0 0 (aY Y z))   (x1 : Int32) (s0 : Int32) (s1 : Int32) (d : Dt) (hf : t_X6_takePart_190 z.1  x1 s0 s1 d = some d') : V K Y 2 0 0 z d 190 [(0, .ref (yo Y 0)), (1, .int x1)] [.int s0, .int s1, .ref (gad z (32 * 0 + 2))] := by
  have hL := hC.2.2.2.2.2.2.1
  have hkn : 0 ≤ (kR K).cells ∧ 0 ≤ (kR K).slots := ⟨Nat.zero_le _, Nat.zero_le _⟩
  unfold t_X6_takePart_190 at hf
  obtain ⟨g30, hf⟩ := gd_some hf
  refine V_iast (a := (32 * 0 + 2)) hC (hL.row ho rfl) g30 dX6_takePart_190 (fun d31 ed31 => ?_)
  have hf := bd_e hf d31 ed31
  refine V_aload_n 0 hC dX6_takePart_191 rfl rfl ?_
  refine V_geta (o := 0) hC ho rfl fk_X6_17 dX6_takePart_192 ?_
  refine V_sipush (v := 128) hC dX6_takePart_195 rfl ?_
  refine V_iload_n 1 hC dX6_takePart_198 rfl rfl ?_
  refine V_iadd hC dX6_takePart_199 ?_
  refine V_aload_n 0 hC dX6_takePart_200 rfl rfl ?_
  refine V_geti (o := 0) hC ho rfl fk_X6_80 dX6_takePart_201 ?_
  refine V_if_ne (tgt := 214) hC dX6_takePart_204 (by decide) (fun c32 => ?_) (fun c32 => ?_)
  · have hf := if_f hf c32
    refine V_iconst (v := 0) hC dX6_takePart_214 rfl ?_
    exact V_sub [] rfl (b_X6_takePart_215 hC hr hA ho hQ  0 (128 + x1) d31 hf)
  · have hf := if_t hf c32
    refine V_aload_n 0 hC dX6_takePart_207 rfl rfl ?_
    obtain ⟨q33, eq33, hf⟩ := bi_some hf
    refine V_invi (o := 0) (As := []) (rest := [.int (128 + x1), .ref (gad z (32 * 0 + 2))]) hC (c_X6_takeGoal hL ho eq33) me_X6_takeGoal lk_X6_122 ho rfl rfl rfl (Nat.le_of_ble_eq_true rfl) ⟨by decide, by decide⟩ hkn dX6_takePart_208 ?_
    refine V_goto (tgt := 215) hC dX6_takePart_211 (by decide) ?_
    exact V_sub [] rfl (b_X6_takePart_215 hC hr hA ho hQ  q33.1 (128 + x1) q33.2 hf)
def t_X6_takePart_117 (L : Nat → Nat)  (x1 : Int32) (d : Dt) : Option (Dt) := if (gF d 0 8) = 0 then (t_X6_isWord L d 4 114 111 108 108 0).bind (fun v20 => if v20 = 0 then t_X6_takePart_219 L  x1 d else gd (inb (8 + x1) (L (32 * 0 + 2))) (bd (sA d (32 * 0 + 2) (ix (8 + x1)) 3) (fun d23 => (t_X6_takeNumber L d23 2 6).bind (fun q24 => gd (inb (80 + x1) (L (32 * 0 + 2))) (bd (sA q24.2 (32 * 0 + 2) (ix (80 + x1)) q24.1) (fun d26 => if (gF d26 0 8) = 0 then (t_X6_takeGoal L d26 ).bind (fun q28 => t_X6_takePart_190 L  x1 q28.1 (104 + x1) q28.2) else t_X6_takePart_190 L  x1 0 (104 + x1) d26)))))) else t_X6_takePart_219 L  x1 d
set_option maxRecDepth 20000 in
theorem b_X6_takePart_117 {K : Kx} {Y : Yx} {z : Sh}  (hC : CK K Y cX6_takePart 2 RX6 4 94) (hr : (kme K).sig.returnType = none) (hA : kA K = aY Y z)  (ho : (0, 0, 5) ∈ yI Y) {d' : Dt} (hQ : kQ K = MQ (kb K) (QM Y z (none) d') (ka K) (ks K) 0 0 (aY Y z))   (x1 : Int32) (d : Dt) (hf : t_X6_takePart_117 z.1  x1 d = some d') : V K Y 2 0 0 z d 117 [(0, .ref (yo Y 0)), (1, .int x1)] [] := by
  have hL := hC.2.2.2.2.2.2.1
  have hkn : 0 ≤ (kR K).cells ∧ 0 ≤ (kR K).slots := ⟨Nat.zero_le _, Nat.zero_le _⟩
  unfold t_X6_takePart_117 at hf
  refine V_aload_n 0 hC dX6_takePart_117 rfl rfl ?_
  refine V_geti (o := 0) hC ho rfl fk_X6_80 dX6_takePart_118 ?_
  refine V_if_ne (tgt := 219) hC dX6_takePart_121 (by decide) (fun c19 => ?_) (fun c19 => ?_)
  · have hf := if_f hf c19
    exact b_X6_takePart_219 hC hr hA ho hQ  x1 d hf
  · have hf := if_t hf c19
    refine V_aload_n 0 hC dX6_takePart_124 rfl rfl ?_
    refine V_iconst (v := 4) hC dX6_takePart_125 rfl ?_
    refine V_bipush (v := 114) hC dX6_takePart_126 rfl ?_
    refine V_bipush (v := 111) hC dX6_takePart_128 rfl ?_
    refine V_bipush (v := 108) hC dX6_takePart_130 rfl ?_
    refine V_bipush (v := 108) hC dX6_takePart_132 rfl ?_
    refine V_iconst (v := 0) hC dX6_takePart_134 rfl ?_
    obtain ⟨v20, ev20, hf⟩ := bi_some hf
    refine V_invi (o := 0) (As := [.int 4, .int 114, .int 111, .int 108, .int 108, .int 0]) (rest := []) hC (c_X6_isWord hL ho ev20) me_X6_isWord lk_X6_112 ho rfl rfl rfl (Nat.le_of_ble_eq_true rfl) ⟨by decide, by decide⟩ hkn dX6_takePart_135 ?_
    refine V_if_eq (tgt := 219) hC dX6_takePart_138 (by decide) (fun c21 => ?_) (fun c21 => ?_)
    · have hf := if_t hf c21
      exact b_X6_takePart_219 hC hr hA ho hQ  x1 d hf
    · have hf := if_f hf c21
      refine V_aload_n 0 hC dX6_takePart_141 rfl rfl ?_
      refine V_geta (o := 0) hC ho rfl fk_X6_17 dX6_takePart_142 ?_
      refine V_bipush (v := 8) hC dX6_takePart_145 rfl ?_
      refine V_iload_n 1 hC dX6_takePart_147 rfl rfl ?_
      refine V_iadd hC dX6_takePart_148 ?_
      refine V_iconst (v := 3) hC dX6_takePart_149 rfl ?_
      obtain ⟨g22, hf⟩ := gd_some hf
      refine V_iast (a := (32 * 0 + 2)) hC (hL.row ho rfl) g22 dX6_takePart_150 (fun d23 ed23 => ?_)
      have hf := bd_e hf d23 ed23
      refine V_aload_n 0 hC dX6_takePart_151 rfl rfl ?_
      refine V_geta (o := 0) hC ho rfl fk_X6_17 dX6_takePart_152 ?_
      refine V_bipush (v := 80) hC dX6_takePart_155 rfl ?_
      refine V_iload_n 1 hC dX6_takePart_157 rfl rfl ?_
      refine V_iadd hC dX6_takePart_158 ?_
      refine V_aload_n 0 hC dX6_takePart_159 rfl rfl ?_
      refine V_iconst (v := 2) hC dX6_takePart_160 rfl ?_
      refine V_bipush (v := 6) hC dX6_takePart_161 rfl ?_
      obtain ⟨q24, eq24, hf⟩ := bi_some hf
      refine V_invi (o := 0) (As := [.int 2, .int 6]) (rest := [.int (80 + x1), .ref (gad z (32 * 0 + 2))]) hC (c_X6_takeNumber hL ho eq24) me_X6_takeNumber lk_X6_105 ho rfl rfl rfl (Nat.le_of_ble_eq_true rfl) ⟨by decide, by decide⟩ hkn dX6_takePart_163 ?_
      obtain ⟨g25, hf⟩ := gd_some hf
      refine V_iast (a := (32 * 0 + 2)) hC (hL.row ho rfl) g25 dX6_takePart_166 (fun d26 ed26 => ?_)
      have hf := bd_e hf d26 ed26
      refine V_aload_n 0 hC dX6_takePart_167 rfl rfl ?_
      refine V_geta (o := 0) hC ho rfl fk_X6_17 dX6_takePart_168 ?_
      refine V_bipush (v := 104) hC dX6_takePart_171 rfl ?_
      refine V_iload_n 1 hC dX6_takePart_173 rfl rfl ?_
      refine V_iadd hC dX6_takePart_174 ?_
      refine V_aload_n 0 hC dX6_takePart_175 rfl rfl ?_
      refine V_geti (o := 0) hC ho rfl fk_X6_80 dX6_takePart_176 ?_
      refine V_if_ne (tgt := 189) hC dX6_takePart_179 (by decide) (fun c27 => ?_) (fun c27 => ?_)
      · have hf := if_f hf c27
        refine V_iconst (v := 0) hC dX6_takePart_189 rfl ?_
        exact b_X6_takePart_190 hC hr hA ho hQ  x1 0 (104 + x1) d26 hf
      · have hf := if_t hf c27
        refine V_aload_n 0 hC dX6_takePart_182 rfl rfl ?_
        obtain ⟨q28, eq28, hf⟩ := bi_some hf
        refine V_invi (o := 0) (As := []) (rest := [.int (104 + x1), .ref (gad z (32 * 0 + 2))]) hC (c_X6_takeGoal hL ho eq28) me_X6_takeGoal lk_X6_122 ho rfl rfl rfl (Nat.le_of_ble_eq_true rfl) ⟨by decide, by decide⟩ hkn dX6_takePart_183 ?_
        refine V_goto (tgt := 190) hC dX6_takePart_186 (by decide) ?_
        exact b_X6_takePart_190 hC hr hA ho hQ  x1 q28.1 (104 + x1) q28.2 hf
def t_X6_takePart_81 (L : Nat → Nat)  (x1 : Int32) (d : Dt) : Option (Dt) := if (gF d 0 8) = 0 then (t_X6_isWord L d 3 100 105 101 0 0).bind (fun v15 => if v15 = 0 then t_X6_takePart_117 L  x1 d else gd (inb (8 + x1) (L (32 * 0 + 2))) (bd (sA d (32 * 0 + 2) (ix (8 + x1)) 2) (fun d18 => some d18))) else t_X6_takePart_117 L  x1 d
set_option maxRecDepth 20000 in
theorem b_X6_takePart_81 {K : Kx} {Y : Yx} {z : Sh}  (hC : CK K Y cX6_takePart 2 RX6 4 94) (hr : (kme K).sig.returnType = none) (hA : kA K = aY Y z)  (ho : (0, 0, 5) ∈ yI Y) {d' : Dt} (hQ : kQ K = MQ (kb K) (QM Y z (none) d') (ka K) (ks K) 0 0 (aY Y z))   (x1 : Int32) (d : Dt) (hf : t_X6_takePart_81 z.1  x1 d = some d') : V K Y 2 0 0 z d 81 [(0, .ref (yo Y 0)), (1, .int x1)] [] := by
  have hL := hC.2.2.2.2.2.2.1
  have hkn : 0 ≤ (kR K).cells ∧ 0 ≤ (kR K).slots := ⟨Nat.zero_le _, Nat.zero_le _⟩
  unfold t_X6_takePart_81 at hf
  refine V_aload_n 0 hC dX6_takePart_81 rfl rfl ?_
  refine V_geti (o := 0) hC ho rfl fk_X6_80 dX6_takePart_82 ?_
  refine V_if_ne (tgt := 117) hC dX6_takePart_85 (by decide) (fun c14 => ?_) (fun c14 => ?_)
  · have hf := if_f hf c14
    exact b_X6_takePart_117 hC hr hA ho hQ  x1 d hf
  · have hf := if_t hf c14
    refine V_aload_n 0 hC dX6_takePart_88 rfl rfl ?_
    refine V_iconst (v := 3) hC dX6_takePart_89 rfl ?_
    refine V_bipush (v := 100) hC dX6_takePart_90 rfl ?_
    refine V_bipush (v := 105) hC dX6_takePart_92 rfl ?_
    refine V_bipush (v := 101) hC dX6_takePart_94 rfl ?_
    refine V_iconst (v := 0) hC dX6_takePart_96 rfl ?_
    refine V_iconst (v := 0) hC dX6_takePart_97 rfl ?_
    obtain ⟨v15, ev15, hf⟩ := bi_some hf
    refine V_invi (o := 0) (As := [.int 3, .int 100, .int 105, .int 101, .int 0, .int 0]) (rest := []) hC (c_X6_isWord hL ho ev15) me_X6_isWord lk_X6_112 ho rfl rfl rfl (Nat.le_of_ble_eq_true rfl) ⟨by decide, by decide⟩ hkn dX6_takePart_98 ?_
    refine V_if_eq (tgt := 117) hC dX6_takePart_101 (by decide) (fun c16 => ?_) (fun c16 => ?_)
    · have hf := if_t hf c16
      exact b_X6_takePart_117 hC hr hA ho hQ  x1 d hf
    · have hf := if_f hf c16
      refine V_aload_n 0 hC dX6_takePart_104 rfl rfl ?_
      refine V_geta (o := 0) hC ho rfl fk_X6_17 dX6_takePart_105 ?_
      refine V_bipush (v := 8) hC dX6_takePart_108 rfl ?_
      refine V_iload_n 1 hC dX6_takePart_110 rfl rfl ?_
      refine V_iadd hC dX6_takePart_111 ?_
      refine V_iconst (v := 2) hC dX6_takePart_112 rfl ?_
      obtain ⟨g17, hf⟩ := gd_some hf
      refine V_iast (a := (32 * 0 + 2)) hC (hL.row ho rfl) g17 dX6_takePart_113 (fun d18 ed18 => ?_)
      have hf := bd_e hf d18 ed18
      refine V_goto (tgt := 224) hC dX6_takePart_114 (by decide) ?_
      obtain rfl := so_inj hf
      exact V_vret hC hr hQ hA dX6_takePart_224
def t_X6_takePart_19 (L : Nat → Nat)  (x1 : Int32) (s0 : Int32) (d : Dt) : Option (Dt) := (t_X6_want L d s0 3 (gF d 0 6)).bind (fun q4 => if q4.1 = 0 then some q4.2 else gd (inb 0 (L (32 * 0 + 2))) (bd (sA q4.2 (32 * 0 + 2) (ix 0) (x1 + 1)) (fun d7 => (t_X6_takeEffects L d7 x1).bind (fun d8 => if (gF d8 0 8) = 0 then (t_X6_isWord L d8 3 119 105 110 0 0).bind (fun v10 => if v10 = 0 then t_X6_takePart_81 L  x1 d8 else gd (inb (8 + x1) (L (32 * 0 + 2))) (bd (sA d8 (32 * 0 + 2) (ix (8 + x1)) 1) (fun d13 => some d13))) else t_X6_takePart_81 L  x1 d8))))
set_option maxRecDepth 20000 in
theorem b_X6_takePart_19 {K : Kx} {Y : Yx} {z : Sh}  (hC : CK K Y cX6_takePart 2 RX6 4 94) (hr : (kme K).sig.returnType = none) (hA : kA K = aY Y z)  (ho : (0, 0, 5) ∈ yI Y) {d' : Dt} (hQ : kQ K = MQ (kb K) (QM Y z (none) d') (ka K) (ks K) 0 0 (aY Y z))   (x1 : Int32) (s0 : Int32) (d : Dt) (hf : t_X6_takePart_19 z.1  x1 s0 d = some d') : V K Y 2 0 0 z d 19 [(0, .ref (yo Y 0)), (1, .int x1)] [.int s0, .ref (yo Y 0)] := by
  have hL := hC.2.2.2.2.2.2.1
  have hkn : 0 ≤ (kR K).cells ∧ 0 ≤ (kR K).slots := ⟨Nat.zero_le _, Nat.zero_le _⟩
  unfold t_X6_takePart_19 at hf
  refine V_iconst (v := 3) hC dX6_takePart_19 rfl ?_
  refine V_aload_n 0 hC dX6_takePart_20 rfl rfl ?_
  refine V_geti (o := 0) hC ho rfl fk_X6_87 dX6_takePart_21 ?_
  obtain ⟨q4, eq4, hf⟩ := bi_some hf
  refine V_invi (o := 0) (As := [.int s0, .int 3, .int (gF d 0 6)]) (rest := []) hC (c_X6_want hL ho eq4) me_X6_want lk_X6_101 ho rfl rfl rfl (Nat.le_of_ble_eq_true rfl) ⟨by decide, by decide⟩ hkn dX6_takePart_24 ?_
  refine V_if_ne (tgt := 31) hC dX6_takePart_27 (by decide) (fun c5 => ?_) (fun c5 => ?_)
  · have hf := if_f hf c5
    refine V_aload_n 0 hC dX6_takePart_31 rfl rfl ?_
    refine V_geta (o := 0) hC ho rfl fk_X6_17 dX6_takePart_32 ?_
    refine V_iconst (v := 0) hC dX6_takePart_35 rfl ?_
    refine V_iload_n 1 hC dX6_takePart_36 rfl rfl ?_
    refine V_iconst (v := 1) hC dX6_takePart_37 rfl ?_
    refine V_iadd hC dX6_takePart_38 ?_
    obtain ⟨g6, hf⟩ := gd_some hf
    refine V_iast (a := (32 * 0 + 2)) hC (hL.row ho rfl) g6 dX6_takePart_39 (fun d7 ed7 => ?_)
    have hf := bd_e hf d7 ed7
    refine V_aload_n 0 hC dX6_takePart_40 rfl rfl ?_
    refine V_iload_n 1 hC dX6_takePart_41 rfl rfl ?_
    obtain ⟨d8, ed8, hf⟩ := bi_some hf
    refine V_invv (o := 0) (As := [.int x1]) (rest := []) hC (c_X6_takeEffects hL ho ed8) me_X6_takeEffects lk_X6_132 ho rfl rfl rfl (Nat.le_of_ble_eq_true rfl) ⟨by decide, by decide⟩ hkn dX6_takePart_42 ?_
    refine V_aload_n 0 hC dX6_takePart_45 rfl rfl ?_
    refine V_geti (o := 0) hC ho rfl fk_X6_80 dX6_takePart_46 ?_
    refine V_if_ne (tgt := 81) hC dX6_takePart_49 (by decide) (fun c9 => ?_) (fun c9 => ?_)
    · have hf := if_f hf c9
      exact b_X6_takePart_81 hC hr hA ho hQ  x1 d8 hf
    · have hf := if_t hf c9
      refine V_aload_n 0 hC dX6_takePart_52 rfl rfl ?_
      refine V_iconst (v := 3) hC dX6_takePart_53 rfl ?_
      refine V_bipush (v := 119) hC dX6_takePart_54 rfl ?_
      refine V_bipush (v := 105) hC dX6_takePart_56 rfl ?_
      refine V_bipush (v := 110) hC dX6_takePart_58 rfl ?_
      refine V_iconst (v := 0) hC dX6_takePart_60 rfl ?_
      refine V_iconst (v := 0) hC dX6_takePart_61 rfl ?_
      obtain ⟨v10, ev10, hf⟩ := bi_some hf
      refine V_invi (o := 0) (As := [.int 3, .int 119, .int 105, .int 110, .int 0, .int 0]) (rest := []) hC (c_X6_isWord hL ho ev10) me_X6_isWord lk_X6_112 ho rfl rfl rfl (Nat.le_of_ble_eq_true rfl) ⟨by decide, by decide⟩ hkn dX6_takePart_62 ?_
      refine V_if_eq (tgt := 81) hC dX6_takePart_65 (by decide) (fun c11 => ?_) (fun c11 => ?_)
      · have hf := if_t hf c11
        exact b_X6_takePart_81 hC hr hA ho hQ  x1 d8 hf
      · have hf := if_f hf c11
        refine V_aload_n 0 hC dX6_takePart_68 rfl rfl ?_
        refine V_geta (o := 0) hC ho rfl fk_X6_17 dX6_takePart_69 ?_
        refine V_bipush (v := 8) hC dX6_takePart_72 rfl ?_
        refine V_iload_n 1 hC dX6_takePart_74 rfl rfl ?_
        refine V_iadd hC dX6_takePart_75 ?_
        refine V_iconst (v := 1) hC dX6_takePart_76 rfl ?_
        obtain ⟨g12, hf⟩ := gd_some hf
        refine V_iast (a := (32 * 0 + 2)) hC (hL.row ho rfl) g12 dX6_takePart_77 (fun d13 ed13 => ?_)
        have hf := bd_e hf d13 ed13
        refine V_goto (tgt := 224) hC dX6_takePart_78 (by decide) ?_
        obtain rfl := so_inj hf
        exact V_vret hC hr hQ hA dX6_takePart_224
  · have hf := if_t hf c5
    obtain rfl := so_inj hf
    exact V_vret hC hr hQ hA dX6_takePart_30
def t_X6_takePart (L : Nat → Nat) (d : Dt)  : Option (Dt) := gd (inb 0 (L (32 * 0 + 2))) (bd (gA d (32 * 0 + 2) (ix 0)) (fun y2 => if 24 ≤ y2 then t_X6_takePart_19 L  y2 0 d else t_X6_takePart_19 L  y2 1 d))
set_option maxRecDepth 20000 in
theorem c_X6_takePart {l : Launch} {Y : Yx} (hL : LAY Y) {z : Sh} {d : Dt}  (ho : (0, 0, 5) ∈ yI Y) {d' : Dt} (hf : t_X6_takePart z.1 d  = some d') : MM l yX6_takePart cX6_takePart 2 none 4 94 Y z [.ref (yo Y 0)] d (none) d' := by
  refine MM.ofV (by decide +kernel) hL (Nat.le_of_ble_eq_true rfl) (fun K hl hC hr hQ hA => ?_)
  have hC : CK K Y cX6_takePart 2 RX6 4 94 := hC
  unfold t_X6_takePart at hf
  show V K Y 2 0 0 z d 0 [(0, .ref (yo Y 0))] []
  refine V_aload_n 0 hC dX6_takePart_0 rfl rfl ?_
  refine V_geta (o := 0) hC ho rfl fk_X6_17 dX6_takePart_1 ?_
  refine V_iconst (v := 0) hC dX6_takePart_4 rfl ?_
  obtain ⟨g1, hf⟩ := gd_some hf
  refine V_iald (a := (32 * 0 + 2)) hC (hL.row ho rfl) g1 dX6_takePart_5 ?_
  refine V_topi (fun y2 ey2 => ?_)
  have hf := bd_e hf y2 ey2
  refine V_istore_n (lv' := [(1, .int y2), (0, .ref (yo Y 0))]) hC dX6_takePart_6 rfl (by decide) rfl ?_
  refine V_aload_n 1 hC dX6_takePart_7 rfl rfl ?_
  refine V_iload_n 0 hC dX6_takePart_8 rfl rfl ?_
  refine V_bipush (v := 24) hC dX6_takePart_9 rfl ?_
  refine V_icmp_ge (tgt := 18) hC dX6_takePart_11 (by decide) (fun c3 => ?_) (fun c3 => ?_)
  · have hf := if_t hf c3
    refine V_iconst (v := 0) hC dX6_takePart_18 rfl ?_
    exact V_sub [1, 0] rfl (b_X6_takePart_19 hC hr hA ho hQ  y2 0 d hf)
  · have hf := if_f hf c3
    refine V_iconst (v := 1) hC dX6_takePart_14 rfl ?_
    refine V_goto (tgt := 19) hC dX6_takePart_15 (by decide) ?_
    exact V_sub [1, 0] rfl (b_X6_takePart_19 hC hr hA ho hQ  y2 1 d hf)
def t_X6_takeClause_139 (L : Nat → Nat)  (s0 : Int32) (d : Dt) : Option (Dt) := (t_X6_want L d s0 1 (gF d 0 5)).bind (fun q21 => if q21.1 = 0 then some q21.2 else bd (sF q21.2 0 5 ((gF q21.2 0 5) + 1)) (fun d23 => some d23))
set_option maxRecDepth 20000 in
theorem b_X6_takeClause_139 {K : Kx} {Y : Yx} {z : Sh}  (hC : CK K Y cX6_takeClause 1 RX6 5 115) (hr : (kme K).sig.returnType = none) (hA : kA K = aY Y z)  (ho : (0, 0, 5) ∈ yI Y) {d' : Dt} (hQ : kQ K = MQ (kb K) (QM Y z (none) d') (ka K) (ks K) 0 0 (aY Y z))   (s0 : Int32) (d : Dt) (hf : t_X6_takeClause_139 z.1  s0 d = some d') : V K Y 1 0 0 z d 139 [(0, .ref (yo Y 0))] [.int s0, .ref (yo Y 0)] := by
  have hL := hC.2.2.2.2.2.2.1
  have hkn : 0 ≤ (kR K).cells ∧ 0 ≤ (kR K).slots := ⟨Nat.zero_le _, Nat.zero_le _⟩
  unfold t_X6_takeClause_139 at hf
  refine V_iconst (v := 1) hC dX6_takeClause_139 rfl ?_
  refine V_aload_n 0 hC dX6_takeClause_140 rfl rfl ?_
  refine V_geti (o := 0) hC ho rfl fk_X6_77 dX6_takeClause_141 ?_
  obtain ⟨q21, eq21, hf⟩ := bi_some hf
  refine V_invi (o := 0) (As := [.int s0, .int 1, .int (gF d 0 5)]) (rest := []) hC (c_X6_want hL ho eq21) me_X6_want lk_X6_101 ho rfl rfl rfl (Nat.le_of_ble_eq_true rfl) ⟨by decide, by decide⟩ hkn dX6_takeClause_144 ?_
  refine V_if_eq (tgt := 160) hC dX6_takeClause_147 (by decide) (fun c22 => ?_) (fun c22 => ?_)
  · have hf := if_t hf c22
    obtain rfl := so_inj hf
    exact V_vret hC hr hQ hA dX6_takeClause_160
  · have hf := if_f hf c22
    refine V_aload_n 0 hC dX6_takeClause_150 rfl rfl ?_
    refine V_dup hC dX6_takeClause_151 rfl ?_
    refine V_geti (o := 0) hC ho rfl fk_X6_77 dX6_takeClause_152 ?_
    refine V_iconst (v := 1) hC dX6_takeClause_155 rfl ?_
    refine V_iadd hC dX6_takeClause_156 ?_
    refine V_puti (o := 0) hC ho rfl fk_X6_77 pl_X6 rfl rfl dX6_takeClause_157 (fun d23 ed23 => ?_)
    have hf := bd_e hf d23 ed23
    obtain rfl := so_inj hf
    exact V_vret hC hr hQ hA dX6_takeClause_160
def t_X6_takeClause_117 (L : Nat → Nat)   (d : Dt) : Option (Dt) := if (gF d 0 8) = 0 then (t_X6_here L d ).bind (fun q13 => if q13.1 = 59 then t_X6_takeClause_139 L  1 q13.2 else t_X6_takeClause_139 L  0 q13.2) else some d
set_option maxRecDepth 20000 in
theorem b_X6_takeClause_117 {K : Kx} {Y : Yx} {z : Sh}  (hC : CK K Y cX6_takeClause 1 RX6 5 115) (hr : (kme K).sig.returnType = none) (hA : kA K = aY Y z)  (ho : (0, 0, 5) ∈ yI Y) {d' : Dt} (hQ : kQ K = MQ (kb K) (QM Y z (none) d') (ka K) (ks K) 0 0 (aY Y z))    (d : Dt) (hf : t_X6_takeClause_117 z.1   d = some d') : V K Y 1 0 0 z d 117 [(0, .ref (yo Y 0))] [] := by
  have hL := hC.2.2.2.2.2.2.1
  have hkn : 0 ≤ (kR K).cells ∧ 0 ≤ (kR K).slots := ⟨Nat.zero_le _, Nat.zero_le _⟩
  unfold t_X6_takeClause_117 at hf
  refine V_aload_n 0 hC dX6_takeClause_117 rfl rfl ?_
  refine V_geti (o := 0) hC ho rfl fk_X6_80 dX6_takeClause_118 ?_
  refine V_if_ne (tgt := 160) hC dX6_takeClause_121 (by decide) (fun c12 => ?_) (fun c12 => ?_)
  · have hf := if_f hf c12
    obtain rfl := so_inj hf
    exact V_vret hC hr hQ hA dX6_takeClause_160
  · have hf := if_t hf c12
    refine V_aload_n 0 hC dX6_takeClause_124 rfl rfl ?_
    refine V_aload_n 0 hC dX6_takeClause_125 rfl rfl ?_
    obtain ⟨q13, eq13, hf⟩ := bi_some hf
    refine V_invi (o := 0) (As := []) (rest := [.ref (yo Y 0)]) hC (c_X6_here hL ho eq13) me_X6_here lk_X6_83 ho rfl rfl rfl (Nat.le_of_ble_eq_true rfl) ⟨by decide, by decide⟩ hkn dX6_takeClause_126 ?_
    refine V_bipush (v := 59) hC dX6_takeClause_129 rfl ?_
    refine V_icmp_ne (tgt := 138) hC dX6_takeClause_131 (by decide) (fun c14 => ?_) (fun c14 => ?_)
    · have hf := if_f hf c14
      refine V_iconst (v := 0) hC dX6_takeClause_138 rfl ?_
      exact b_X6_takeClause_139 hC hr hA ho hQ  0 q13.2 hf
    · have hf := if_t hf c14
      refine V_iconst (v := 1) hC dX6_takeClause_134 rfl ?_
      refine V_goto (tgt := 139) hC dX6_takeClause_135 (by decide) ?_
      exact b_X6_takeClause_139 hC hr hA ho hQ  1 q13.2 hf
def t_X6_takeClause_88 (L : Nat → Nat)  (s0 : Int32) (d : Dt) : Option (Dt) := (t_X6_want L d s0 3 (gF d 0 6)).bind (fun q15 => if q15.1 = 0 then t_X6_takeClause_117 L  q15.2 else bd (sF q15.2 0 10 1) (fun d17 => (t_X6_takeNumber L d17 1 9).bind (fun q18 => gd (inb 1 (L (32 * 0 + 2))) (bd (sA q18.2 (32 * 0 + 2) (ix 1) q18.1) (fun d20 => t_X6_takeClause_117 L  d20)))))
set_option maxRecDepth 20000 in
theorem b_X6_takeClause_88 {K : Kx} {Y : Yx} {z : Sh}  (hC : CK K Y cX6_takeClause 1 RX6 5 115) (hr : (kme K).sig.returnType = none) (hA : kA K = aY Y z)  (ho : (0, 0, 5) ∈ yI Y) {d' : Dt} (hQ : kQ K = MQ (kb K) (QM Y z (none) d') (ka K) (ks K) 0 0 (aY Y z))   (s0 : Int32) (d : Dt) (hf : t_X6_takeClause_88 z.1  s0 d = some d') : V K Y 1 0 0 z d 88 [(0, .ref (yo Y 0))] [.int s0, .ref (yo Y 0)] := by
  have hL := hC.2.2.2.2.2.2.1
  have hkn : 0 ≤ (kR K).cells ∧ 0 ≤ (kR K).slots := ⟨Nat.zero_le _, Nat.zero_le _⟩
  unfold t_X6_takeClause_88 at hf
  refine V_iconst (v := 3) hC dX6_takeClause_88 rfl ?_
  refine V_aload_n 0 hC dX6_takeClause_89 rfl rfl ?_
  refine V_geti (o := 0) hC ho rfl fk_X6_87 dX6_takeClause_90 ?_
  obtain ⟨q15, eq15, hf⟩ := bi_some hf
  refine V_invi (o := 0) (As := [.int s0, .int 3, .int (gF d 0 6)]) (rest := []) hC (c_X6_want hL ho eq15) me_X6_want lk_X6_101 ho rfl rfl rfl (Nat.le_of_ble_eq_true rfl) ⟨by decide, by decide⟩ hkn dX6_takeClause_93 ?_
  refine V_if_eq (tgt := 117) hC dX6_takeClause_96 (by decide) (fun c16 => ?_) (fun c16 => ?_)
  · have hf := if_t hf c16
    exact b_X6_takeClause_117 hC hr hA ho hQ  q15.2 hf
  · have hf := if_f hf c16
    refine V_aload_n 0 hC dX6_takeClause_99 rfl rfl ?_
    refine V_iconst (v := 1) hC dX6_takeClause_100 rfl ?_
    refine V_putz (o := 0) hC ho rfl fk_X6_142 pl_X6 rfl rfl rfl dX6_takeClause_101 (fun d17 ed17 => ?_)
    have hf := bd_e hf d17 ed17
    refine V_aload_n 0 hC dX6_takeClause_104 rfl rfl ?_
    refine V_geta (o := 0) hC ho rfl fk_X6_17 dX6_takeClause_105 ?_
    refine V_iconst (v := 1) hC dX6_takeClause_108 rfl ?_
    refine V_aload_n 0 hC dX6_takeClause_109 rfl rfl ?_
    refine V_iconst (v := 1) hC dX6_takeClause_110 rfl ?_
    refine V_bipush (v := 9) hC dX6_takeClause_111 rfl ?_
    obtain ⟨q18, eq18, hf⟩ := bi_some hf
    refine V_invi (o := 0) (As := [.int 1, .int 9]) (rest := [.int 1, .ref (gad z (32 * 0 + 2))]) hC (c_X6_takeNumber hL ho eq18) me_X6_takeNumber lk_X6_105 ho rfl rfl rfl (Nat.le_of_ble_eq_true rfl) ⟨by decide, by decide⟩ hkn dX6_takeClause_113 ?_
    obtain ⟨g19, hf⟩ := gd_some hf
    refine V_iast (a := (32 * 0 + 2)) hC (hL.row ho rfl) g19 dX6_takeClause_116 (fun d20 ed20 => ?_)
    have hf := bd_e hf d20 ed20
    exact b_X6_takeClause_117 hC hr hA ho hQ  d20 hf
def t_X6_takeClause_64 (L : Nat → Nat)  (s0 : Int32) (d : Dt) : Option (Dt) := (t_X6_want L d s0 1 (gF d 0 6)).bind (fun q9 => if q9.1 = 0 then t_X6_takeClause_117 L  q9.2 else if (gF q9.2 0 10) = 0 then t_X6_takeClause_88 L  1 q9.2 else t_X6_takeClause_88 L  0 q9.2)
set_option maxRecDepth 20000 in
theorem b_X6_takeClause_64 {K : Kx} {Y : Yx} {z : Sh}  (hC : CK K Y cX6_takeClause 1 RX6 5 115) (hr : (kme K).sig.returnType = none) (hA : kA K = aY Y z)  (ho : (0, 0, 5) ∈ yI Y) {d' : Dt} (hQ : kQ K = MQ (kb K) (QM Y z (none) d') (ka K) (ks K) 0 0 (aY Y z))   (s0 : Int32) (d : Dt) (hf : t_X6_takeClause_64 z.1  s0 d = some d') : V K Y 1 0 0 z d 64 [(0, .ref (yo Y 0))] [.int s0, .ref (yo Y 0)] := by
  have hL := hC.2.2.2.2.2.2.1
  have hkn : 0 ≤ (kR K).cells ∧ 0 ≤ (kR K).slots := ⟨Nat.zero_le _, Nat.zero_le _⟩
  unfold t_X6_takeClause_64 at hf
  refine V_iconst (v := 1) hC dX6_takeClause_64 rfl ?_
  refine V_aload_n 0 hC dX6_takeClause_65 rfl rfl ?_
  refine V_geti (o := 0) hC ho rfl fk_X6_87 dX6_takeClause_66 ?_
  obtain ⟨q9, eq9, hf⟩ := bi_some hf
  refine V_invi (o := 0) (As := [.int s0, .int 1, .int (gF d 0 6)]) (rest := []) hC (c_X6_want hL ho eq9) me_X6_want lk_X6_101 ho rfl rfl rfl (Nat.le_of_ble_eq_true rfl) ⟨by decide, by decide⟩ hkn dX6_takeClause_69 ?_
  refine V_if_eq (tgt := 117) hC dX6_takeClause_72 (by decide) (fun c10 => ?_) (fun c10 => ?_)
  · have hf := if_t hf c10
    exact b_X6_takeClause_117 hC hr hA ho hQ  q9.2 hf
  · have hf := if_f hf c10
    refine V_aload_n 0 hC dX6_takeClause_75 rfl rfl ?_
    refine V_aload_n 0 hC dX6_takeClause_76 rfl rfl ?_
    refine V_geti (o := 0) hC ho rfl fk_X6_142 dX6_takeClause_77 ?_
    refine V_if_ne (tgt := 87) hC dX6_takeClause_80 (by decide) (fun c11 => ?_) (fun c11 => ?_)
    · have hf := if_f hf c11
      refine V_iconst (v := 0) hC dX6_takeClause_87 rfl ?_
      exact b_X6_takeClause_88 hC hr hA ho hQ  0 q9.2 hf
    · have hf := if_t hf c11
      refine V_iconst (v := 1) hC dX6_takeClause_83 rfl ?_
      refine V_goto (tgt := 88) hC dX6_takeClause_84 (by decide) ?_
      exact b_X6_takeClause_88 hC hr hA ho hQ  1 q9.2 hf
def t_X6_takeClause_63 (L : Nat → Nat)   (d : Dt) : Option (Dt) := t_X6_takeClause_64 L  0 d
set_option maxRecDepth 20000 in
theorem b_X6_takeClause_63 {K : Kx} {Y : Yx} {z : Sh}  (hC : CK K Y cX6_takeClause 1 RX6 5 115) (hr : (kme K).sig.returnType = none) (hA : kA K = aY Y z)  (ho : (0, 0, 5) ∈ yI Y) {d' : Dt} (hQ : kQ K = MQ (kb K) (QM Y z (none) d') (ka K) (ks K) 0 0 (aY Y z))    (d : Dt) (hf : t_X6_takeClause_63 z.1   d = some d') : V K Y 1 0 0 z d 63 [(0, .ref (yo Y 0))] [.ref (yo Y 0)] := by
  have hL := hC.2.2.2.2.2.2.1
  unfold t_X6_takeClause_63 at hf
  refine V_iconst (v := 0) hC dX6_takeClause_63 rfl ?_
  exact b_X6_takeClause_64 hC hr hA ho hQ  0 d hf
def t_X6_takeClause (L : Nat → Nat) (d : Dt)  : Option (Dt) := (t_X6_takeWord L d ).bind (fun d1 => (t_X6_isWord L d1 4 112 97 114 116 0).bind (fun v2 => if v2 = 0 then (t_X6_isLong L d1 6 108 116 104).bind (fun v4 => if v4 = 0 then t_X6_takeClause_63 L  d1 else (t_X6_isBegun L d1 104 101 97 108).bind (fun v6 => if v6 = 0 then t_X6_takeClause_63 L  d1 else t_X6_takeClause_64 L  1 d1)) else (t_X6_takePart L d1 ).bind (fun d8 => t_X6_takeClause_117 L  d8)))
set_option maxRecDepth 20000 in
theorem c_X6_takeClause {l : Launch} {Y : Yx} (hL : LAY Y) {z : Sh} {d : Dt}  (ho : (0, 0, 5) ∈ yI Y) {d' : Dt} (hf : t_X6_takeClause z.1 d  = some d') : MM l yX6_takeClause cX6_takeClause 1 none 5 115 Y z [.ref (yo Y 0)] d (none) d' := by
  refine MM.ofV (by decide +kernel) hL (Nat.le_of_ble_eq_true rfl) (fun K hl hC hr hQ hA => ?_)
  have hC : CK K Y cX6_takeClause 1 RX6 5 115 := hC
  have hkn : 0 ≤ (kR K).cells ∧ 0 ≤ (kR K).slots := ⟨Nat.zero_le _, Nat.zero_le _⟩
  unfold t_X6_takeClause at hf
  show V K Y 1 0 0 z d 0 [(0, .ref (yo Y 0))] []
  refine V_aload_n 0 hC dX6_takeClause_0 rfl rfl ?_
  obtain ⟨d1, ed1, hf⟩ := bi_some hf
  refine V_invv (o := 0) (As := []) (rest := []) hC (c_X6_takeWord hL ho ed1) me_X6_takeWord lk_X6_116 ho rfl rfl rfl (Nat.le_of_ble_eq_true rfl) ⟨by decide, by decide⟩ hkn dX6_takeClause_1 ?_
  refine V_aload_n 0 hC dX6_takeClause_4 rfl rfl ?_
  refine V_iconst (v := 4) hC dX6_takeClause_5 rfl ?_
  refine V_bipush (v := 112) hC dX6_takeClause_6 rfl ?_
  refine V_bipush (v := 97) hC dX6_takeClause_8 rfl ?_
  refine V_bipush (v := 114) hC dX6_takeClause_10 rfl ?_
  refine V_bipush (v := 116) hC dX6_takeClause_12 rfl ?_
  refine V_iconst (v := 0) hC dX6_takeClause_14 rfl ?_
  obtain ⟨v2, ev2, hf⟩ := bi_some hf
  refine V_invi (o := 0) (As := [.int 4, .int 112, .int 97, .int 114, .int 116, .int 0]) (rest := []) hC (c_X6_isWord hL ho ev2) me_X6_isWord lk_X6_112 ho rfl rfl rfl (Nat.le_of_ble_eq_true rfl) ⟨by decide, by decide⟩ hkn dX6_takeClause_15 ?_
  refine V_if_eq (tgt := 28) hC dX6_takeClause_18 (by decide) (fun c3 => ?_) (fun c3 => ?_)
  · have hf := if_t hf c3
    refine V_aload_n 0 hC dX6_takeClause_28 rfl rfl ?_
    refine V_aload_n 0 hC dX6_takeClause_29 rfl rfl ?_
    refine V_bipush (v := 6) hC dX6_takeClause_30 rfl ?_
    refine V_bipush (v := 108) hC dX6_takeClause_32 rfl ?_
    refine V_bipush (v := 116) hC dX6_takeClause_34 rfl ?_
    refine V_bipush (v := 104) hC dX6_takeClause_36 rfl ?_
    obtain ⟨v4, ev4, hf⟩ := bi_some hf
    refine V_invi (o := 0) (As := [.int 6, .int 108, .int 116, .int 104]) (rest := [.ref (yo Y 0)]) hC (c_X6_isLong hL ho ev4) me_X6_isLong lk_X6_125 ho rfl rfl rfl (Nat.le_of_ble_eq_true rfl) ⟨by decide, by decide⟩ hkn dX6_takeClause_38 ?_
    refine V_if_eq (tgt := 63) hC dX6_takeClause_41 (by decide) (fun c5 => ?_) (fun c5 => ?_)
    · have hf := if_t hf c5
      exact b_X6_takeClause_63 hC hr hA ho hQ  d1 hf
    · have hf := if_f hf c5
      refine V_aload_n 0 hC dX6_takeClause_44 rfl rfl ?_
      refine V_bipush (v := 104) hC dX6_takeClause_45 rfl ?_
      refine V_bipush (v := 101) hC dX6_takeClause_47 rfl ?_
      refine V_bipush (v := 97) hC dX6_takeClause_49 rfl ?_
      refine V_bipush (v := 108) hC dX6_takeClause_51 rfl ?_
      obtain ⟨v6, ev6, hf⟩ := bi_some hf
      refine V_invi (o := 0) (As := [.int 104, .int 101, .int 97, .int 108]) (rest := [.ref (yo Y 0)]) hC (c_X6_isBegun hL ho ev6) me_X6_isBegun lk_X6_129 ho rfl rfl rfl (Nat.le_of_ble_eq_true rfl) ⟨by decide, by decide⟩ hkn dX6_takeClause_53 ?_
      refine V_if_eq (tgt := 63) hC dX6_takeClause_56 (by decide) (fun c7 => ?_) (fun c7 => ?_)
      · have hf := if_t hf c7
        exact b_X6_takeClause_63 hC hr hA ho hQ  d1 hf
      · have hf := if_f hf c7
        refine V_iconst (v := 1) hC dX6_takeClause_59 rfl ?_
        refine V_goto (tgt := 64) hC dX6_takeClause_60 (by decide) ?_
        exact b_X6_takeClause_64 hC hr hA ho hQ  1 d1 hf
  · have hf := if_f hf c3
    refine V_aload_n 0 hC dX6_takeClause_21 rfl rfl ?_
    obtain ⟨d8, ed8, hf⟩ := bi_some hf
    refine V_invv (o := 0) (As := []) (rest := []) hC (c_X6_takePart hL ho ed8) me_X6_takePart lk_X6_139 ho rfl rfl rfl (Nat.le_of_ble_eq_true rfl) ⟨by decide, by decide⟩ hkn dX6_takeClause_22 ?_
    refine V_goto (tgt := 117) hC dX6_takeClause_25 (by decide) ?_
    exact b_X6_takeClause_117 hC hr hA ho hQ  d8 hf
def t_X6_book_198 (L : Nat → Nat) (k198 : Int32 → (Dt) → Option (Int32 × Dt)) (x1 : Int32) (d : Dt) : Option (Int32 × Dt) := if 1376 ≤ x1 then bd (sF d 0 23 0) (fun d33 => gd (inb 0 (L (32 * 0 + 0))) (some (gA d33 (32 * 0 + 0) (ix 0), d33))) else gd (inb x1 (L (32 * 0 + 2))) (gd (inb x1 (L (32 * 0 + 0))) (bd (sA d (32 * 0 + 0) (ix x1) (gA d (32 * 0 + 2) (ix x1))) (fun d37 => k198 (x1 + 1) d37)))
set_option maxRecDepth 20000 in
theorem b_X6_book_198 {K : Kx} {Y : Yx} {z : Sh}  (hC : CK K Y cX6_book 3 RX6 6 135) (hr : (kme K).sig.returnType = some .int) (hA : kA K = aY Y z)  (ho : (0, 0, 5) ∈ yI Y) {r : Int32} {d' : Dt} (hQ : kQ K = MQ (kb K) (QM Y z (some (.int r)) d') (ka K) (ks K) 0 0 (aY Y z)) {k198 : Int32 → (Dt) → Option (Int32 × Dt)} (hk198 : ∀ (x1 : Int32) (d : Dt), k198 x1 d = some (r, d') → V K Y 3 0 0 z d 198 [(0, .ref (yo Y 0)), (1, .int x1)] []) (x1 : Int32) (d : Dt) (hf : t_X6_book_198 z.1 k198 x1 d = some (r, d')) : V K Y 3 0 0 z d 198 [(0, .ref (yo Y 0)), (1, .int x1)] [] := by
  have hL := hC.2.2.2.2.2.2.1
  unfold t_X6_book_198 at hf
  refine V_iload_n 1 hC dX6_book_198 rfl rfl ?_
  refine V_sipush (v := 1376) hC dX6_book_199 rfl ?_
  refine V_icmp_ge (tgt := 223) hC dX6_book_202 (by decide) (fun c32 => ?_) (fun c32 => ?_)
  · have hf := if_t hf c32
    refine V_aload_n 0 hC dX6_book_223 rfl rfl ?_
    refine V_iconst (v := 0) hC dX6_book_224 rfl ?_
    refine V_puti (o := 0) hC ho rfl fk_X6_149 pl_X6 rfl rfl dX6_book_225 (fun d33 ed33 => ?_)
    have hf := bd_e hf d33 ed33
    refine V_aload_n 0 hC dX6_book_228 rfl rfl ?_
    refine V_geta (o := 0) hC ho rfl fk_X6_7 dX6_book_229 ?_
    refine V_iconst (v := 0) hC dX6_book_232 rfl ?_
    obtain ⟨g34, hf⟩ := gd_some hf
    refine V_iald (a := (32 * 0 + 0)) hC (hL.row ho rfl) g34 dX6_book_233 ?_
    obtain ⟨rfl, rfl⟩ := so_inj2 hf
    exact V_iret hC hr hQ hA dX6_book_234
  · have hf := if_f hf c32
    refine V_aload_n 0 hC dX6_book_205 rfl rfl ?_
    refine V_geta (o := 0) hC ho rfl fk_X6_7 dX6_book_206 ?_
    refine V_iload_n 1 hC dX6_book_209 rfl rfl ?_
    refine V_aload_n 0 hC dX6_book_210 rfl rfl ?_
    refine V_geta (o := 0) hC ho rfl fk_X6_17 dX6_book_211 ?_
    refine V_iload_n 1 hC dX6_book_214 rfl rfl ?_
    obtain ⟨g35, hf⟩ := gd_some hf
    refine V_iald (a := (32 * 0 + 2)) hC (hL.row ho rfl) g35 dX6_book_215 ?_
    obtain ⟨g36, hf⟩ := gd_some hf
    refine V_iast (a := (32 * 0 + 0)) hC (hL.row ho rfl) g36 dX6_book_216 (fun d37 ed37 => ?_)
    have hf := bd_e hf d37 ed37
    refine V_iinc (v := x1 + 1) (lv' := [(1, .int (x1 + 1)), (0, .ref (yo Y 0))]) 1 hC dX6_book_217 rfl rfl (by decide) rfl ?_
    refine V_goto (tgt := 198) hC dX6_book_220 (by decide) ?_
    exact V_sub [1, 0] rfl (hk198 (x1 + 1) d37 hf)
def t_X6_book_171 (L : Nat → Nat) (k171 : Int32 → (Dt) → Option (Int32 × Dt)) (x1 : Int32) (d : Dt) : Option (Int32 × Dt) := if 24 ≤ x1 then lp (fun k x => t_X6_book_198 L  (fun x1 d => k (x1, d)) x.1 x.2) FU (0, d) else gd (inb (152 + x1) (L (32 * 0 + 2))) (bd (sA d (32 * 0 + 2) (ix (152 + x1)) (x1 + 1)) (fun d31 => k171 (x1 + 1) d31))
set_option maxRecDepth 20000 in
theorem b_X6_book_171 {K : Kx} {Y : Yx} {z : Sh}  (hC : CK K Y cX6_book 3 RX6 6 135) (hr : (kme K).sig.returnType = some .int) (hA : kA K = aY Y z)  (ho : (0, 0, 5) ∈ yI Y) {r : Int32} {d' : Dt} (hQ : kQ K = MQ (kb K) (QM Y z (some (.int r)) d') (ka K) (ks K) 0 0 (aY Y z)) {k171 : Int32 → (Dt) → Option (Int32 × Dt)} (hk171 : ∀ (x1 : Int32) (d : Dt), k171 x1 d = some (r, d') → V K Y 3 0 0 z d 171 [(0, .ref (yo Y 0)), (1, .int x1)] []) (x1 : Int32) (d : Dt) (hf : t_X6_book_171 z.1 k171 x1 d = some (r, d')) : V K Y 3 0 0 z d 171 [(0, .ref (yo Y 0)), (1, .int x1)] [] := by
  have hL := hC.2.2.2.2.2.2.1
  unfold t_X6_book_171 at hf
  refine V_iload_n 1 hC dX6_book_171 rfl rfl ?_
  refine V_bipush (v := 24) hC dX6_book_172 rfl ?_
  refine V_icmp_ge (tgt := 196) hC dX6_book_174 (by decide) (fun c29 => ?_) (fun c29 => ?_)
  · have hf := if_t hf c29
    refine V_iconst (v := 0) hC dX6_book_196 rfl ?_
    refine V_istore_n (lv' := [(1, .int 0), (0, .ref (yo Y 0))]) hC dX6_book_197 rfl (by decide) rfl ?_
    exact V_sub [1, 0] rfl (lp_ind (X := Int32 × Dt) (P := fun x => V K Y 3 0 0 z x.2 198 [(0, .ref (yo Y 0)), (1, .int x.1)] []) (fun k x hk hx => b_X6_book_198 hC hr hA ho hQ  (k198 := fun x1 d => k (x1, d)) (fun x1 d hx => hk (x1, d) hx) x.1 x.2 hx) FU (0, d) hf)
  · have hf := if_f hf c29
    refine V_aload_n 0 hC dX6_book_177 rfl rfl ?_
    refine V_geta (o := 0) hC ho rfl fk_X6_17 dX6_book_178 ?_
    refine V_sipush (v := 152) hC dX6_book_181 rfl ?_
    refine V_iload_n 1 hC dX6_book_184 rfl rfl ?_
    refine V_iadd hC dX6_book_185 ?_
    refine V_iload_n 1 hC dX6_book_186 rfl rfl ?_
    refine V_iconst (v := 1) hC dX6_book_187 rfl ?_
    refine V_iadd hC dX6_book_188 ?_
    obtain ⟨g30, hf⟩ := gd_some hf
    refine V_iast (a := (32 * 0 + 2)) hC (hL.row ho rfl) g30 dX6_book_189 (fun d31 ed31 => ?_)
    have hf := bd_e hf d31 ed31
    refine V_iinc (v := x1 + 1) (lv' := [(1, .int (x1 + 1)), (0, .ref (yo Y 0))]) 1 hC dX6_book_190 rfl rfl (by decide) rfl ?_
    refine V_goto (tgt := 171) hC dX6_book_193 (by decide) ?_
    exact V_sub [1, 0] rfl (hk171 (x1 + 1) d31 hf)
def t_X6_book_149 (L : Nat → Nat)   (d : Dt) : Option (Int32 × Dt) := bd (sF d 0 4 0) (fun d25 => if (gF d25 0 8) ≤ 0 then lp (fun k x => t_X6_book_171 L  (fun x1 d => k (x1, d)) x.1 x.2) FU (0, d25) else some ((-10) - (gF d25 0 8), d25))
set_option maxRecDepth 20000 in
theorem b_X6_book_149 {K : Kx} {Y : Yx} {z : Sh}  (hC : CK K Y cX6_book 3 RX6 6 135) (hr : (kme K).sig.returnType = some .int) (hA : kA K = aY Y z)  (ho : (0, 0, 5) ∈ yI Y) {r : Int32} {d' : Dt} (hQ : kQ K = MQ (kb K) (QM Y z (some (.int r)) d') (ka K) (ks K) 0 0 (aY Y z))    (d : Dt) (hf : t_X6_book_149 z.1   d = some (r, d')) : V K Y 3 0 0 z d 149 [(0, .ref (yo Y 0))] [] := by
  have hL := hC.2.2.2.2.2.2.1
  unfold t_X6_book_149 at hf
  refine V_aload_n 0 hC dX6_book_149 rfl rfl ?_
  refine V_iconst (v := 0) hC dX6_book_150 rfl ?_
  refine V_puti (o := 0) hC ho rfl fk_X6_71 pl_X6 rfl rfl dX6_book_151 (fun d25 ed25 => ?_)
  have hf := bd_e hf d25 ed25
  refine V_aload_n 0 hC dX6_book_154 rfl rfl ?_
  refine V_geti (o := 0) hC ho rfl fk_X6_80 dX6_book_155 ?_
  refine V_if_le (tgt := 169) hC dX6_book_158 (by decide) (fun c26 => ?_) (fun c26 => ?_)
  · have hf := if_t hf c26
    refine V_iconst (v := 0) hC dX6_book_169 rfl ?_
    refine V_istore_n (lv' := [(1, .int 0), (0, .ref (yo Y 0))]) hC dX6_book_170 rfl (by decide) rfl ?_
    exact V_sub [1, 0] rfl (lp_ind (X := Int32 × Dt) (P := fun x => V K Y 3 0 0 z x.2 171 [(0, .ref (yo Y 0)), (1, .int x.1)] []) (fun k x hk hx => b_X6_book_171 hC hr hA ho hQ  (k171 := fun x1 d => k (x1, d)) (fun x1 d hx => hk (x1, d) hx) x.1 x.2 hx) FU (0, d25) hf)
  · have hf := if_f hf c26
    refine V_bipush (v := -10) hC dX6_book_161 rfl ?_
    refine V_aload_n 0 hC dX6_book_163 rfl rfl ?_
    refine V_geti (o := 0) hC ho rfl fk_X6_80 dX6_book_164 ?_
    refine V_isub hC dX6_book_167 ?_
    obtain ⟨rfl, rfl⟩ := so_inj2 hf
    exact V_iret hC hr hQ hA dX6_book_168
def t_X6_book_132 (L : Nat → Nat) (k96 : Int32 → (Dt) → Option (Int32 × Dt)) (x1 : Int32) (s0 : Int32) (d : Dt) : Option (Int32 × Dt) := gd (inb x1 (L (32 * 0 + 13))) ((t_X6_want L d s0 4 (gA d (32 * 0 + 13) (ix x1))).bind (fun q28 => k96 (x1 + 1) q28.2))
set_option maxRecDepth 20000 in
theorem b_X6_book_132 {K : Kx} {Y : Yx} {z : Sh}  (hC : CK K Y cX6_book 3 RX6 6 135) (hr : (kme K).sig.returnType = some .int) (hA : kA K = aY Y z)  (ho : (0, 0, 5) ∈ yI Y) {r : Int32} {d' : Dt} (hQ : kQ K = MQ (kb K) (QM Y z (some (.int r)) d') (ka K) (ks K) 0 0 (aY Y z)) {k96 : Int32 → (Dt) → Option (Int32 × Dt)} (hk96 : ∀ (x1 : Int32) (d : Dt), k96 x1 d = some (r, d') → V K Y 3 0 0 z d 96 [(0, .ref (yo Y 0)), (1, .int x1)] []) (x1 : Int32) (s0 : Int32) (d : Dt) (hf : t_X6_book_132 z.1 k96 x1 s0 d = some (r, d')) : V K Y 3 0 0 z d 132 [(0, .ref (yo Y 0)), (1, .int x1)] [.int s0, .ref (yo Y 0)] := by
  have hL := hC.2.2.2.2.2.2.1
  have hkn : 0 ≤ (kR K).cells ∧ 0 ≤ (kR K).slots := ⟨Nat.zero_le _, Nat.zero_le _⟩
  unfold t_X6_book_132 at hf
  refine V_iconst (v := 4) hC dX6_book_132 rfl ?_
  refine V_aload_n 0 hC dX6_book_133 rfl rfl ?_
  refine V_geta (o := 0) hC ho rfl fk_X6_30 dX6_book_134 ?_
  refine V_iload_n 1 hC dX6_book_137 rfl rfl ?_
  obtain ⟨g27, hf⟩ := gd_some hf
  refine V_iald (a := (32 * 0 + 13)) hC (hL.row ho rfl) g27 dX6_book_138 ?_
  obtain ⟨q28, eq28, hf⟩ := bi_some hf
  refine V_invi (o := 0) (As := [.int s0, .int 4, .int (gA d (32 * 0 + 13) (ix x1))]) (rest := []) hC (c_X6_want hL ho eq28) me_X6_want lk_X6_101 ho rfl rfl rfl (Nat.le_of_ble_eq_true rfl) ⟨by decide, by decide⟩ hkn dX6_book_139 ?_
  refine V_istore_n (lv' := [(2, .int q28.1), (0, .ref (yo Y 0)), (1, .int x1)]) hC dX6_book_142 rfl (by decide) rfl ?_
  refine V_iinc (v := x1 + 1) (lv' := [(1, .int (x1 + 1)), (2, .int q28.1), (0, .ref (yo Y 0))]) 2 hC dX6_book_143 rfl rfl (by decide) rfl ?_
  refine V_goto (tgt := 96) hC dX6_book_146 (by decide) ?_
  exact V_sub [2, 0] rfl (hk96 (x1 + 1) q28.2 hf)
def t_X6_book_96 (L : Nat → Nat) (k96 : Int32 → (Dt) → Option (Int32 × Dt)) (x1 : Int32) (d : Dt) : Option (Int32 × Dt) := if (gF d 0 14) ≤ x1 then t_X6_book_149 L  d else if (gF d 0 8) = 0 then gd (inb x1 (L (32 * 0 + 12))) (gd (inb 0 (L (32 * 0 + 2))) (if (gA d (32 * 0 + 2) (ix 0)) ≤ (gA d (32 * 0 + 12) (ix x1)) then t_X6_book_132 L k96 x1 0 d else t_X6_book_132 L k96 x1 1 d)) else t_X6_book_149 L  d
set_option maxRecDepth 20000 in
theorem b_X6_book_96 {K : Kx} {Y : Yx} {z : Sh}  (hC : CK K Y cX6_book 3 RX6 6 135) (hr : (kme K).sig.returnType = some .int) (hA : kA K = aY Y z)  (ho : (0, 0, 5) ∈ yI Y) {r : Int32} {d' : Dt} (hQ : kQ K = MQ (kb K) (QM Y z (some (.int r)) d') (ka K) (ks K) 0 0 (aY Y z)) {k96 : Int32 → (Dt) → Option (Int32 × Dt)} (hk96 : ∀ (x1 : Int32) (d : Dt), k96 x1 d = some (r, d') → V K Y 3 0 0 z d 96 [(0, .ref (yo Y 0)), (1, .int x1)] []) (x1 : Int32) (d : Dt) (hf : t_X6_book_96 z.1 k96 x1 d = some (r, d')) : V K Y 3 0 0 z d 96 [(0, .ref (yo Y 0)), (1, .int x1)] [] := by
  have hL := hC.2.2.2.2.2.2.1
  unfold t_X6_book_96 at hf
  refine V_iload_n 1 hC dX6_book_96 rfl rfl ?_
  refine V_aload_n 0 hC dX6_book_97 rfl rfl ?_
  refine V_geti (o := 0) hC ho rfl fk_X6_109 dX6_book_98 ?_
  refine V_icmp_ge (tgt := 149) hC dX6_book_101 (by decide) (fun c20 => ?_) (fun c20 => ?_)
  · have hf := if_t hf c20
    exact V_sub [0] rfl (b_X6_book_149 hC hr hA ho hQ  d hf)
  · have hf := if_f hf c20
    refine V_aload_n 0 hC dX6_book_104 rfl rfl ?_
    refine V_geti (o := 0) hC ho rfl fk_X6_80 dX6_book_105 ?_
    refine V_if_ne (tgt := 149) hC dX6_book_108 (by decide) (fun c21 => ?_) (fun c21 => ?_)
    · have hf := if_f hf c21
      exact V_sub [0] rfl (b_X6_book_149 hC hr hA ho hQ  d hf)
    · have hf := if_t hf c21
      refine V_aload_n 0 hC dX6_book_111 rfl rfl ?_
      refine V_aload_n 0 hC dX6_book_112 rfl rfl ?_
      refine V_geta (o := 0) hC ho rfl fk_X6_27 dX6_book_113 ?_
      refine V_iload_n 1 hC dX6_book_116 rfl rfl ?_
      obtain ⟨g22, hf⟩ := gd_some hf
      refine V_iald (a := (32 * 0 + 12)) hC (hL.row ho rfl) g22 dX6_book_117 ?_
      refine V_aload_n 0 hC dX6_book_118 rfl rfl ?_
      refine V_geta (o := 0) hC ho rfl fk_X6_17 dX6_book_119 ?_
      refine V_iconst (v := 0) hC dX6_book_122 rfl ?_
      obtain ⟨g23, hf⟩ := gd_some hf
      refine V_iald (a := (32 * 0 + 2)) hC (hL.row ho rfl) g23 dX6_book_123 ?_
      refine V_icmp_ge (tgt := 131) hC dX6_book_124 (by decide) (fun c24 => ?_) (fun c24 => ?_)
      · have hf := if_t hf c24
        refine V_iconst (v := 0) hC dX6_book_131 rfl ?_
        exact b_X6_book_132 hC hr hA ho hQ hk96 x1 0 d hf
      · have hf := if_f hf c24
        refine V_iconst (v := 1) hC dX6_book_127 rfl ?_
        refine V_goto (tgt := 132) hC dX6_book_128 (by decide) ?_
        exact b_X6_book_132 hC hr hA ho hQ hk96 x1 1 d hf
def t_X6_book_94 (L : Nat → Nat)   (d : Dt) : Option (Int32 × Dt) := lp (fun k x => t_X6_book_96 L  (fun x1 d => k (x1, d)) x.1 x.2) FU (0, d)
set_option maxRecDepth 20000 in
theorem b_X6_book_94 {K : Kx} {Y : Yx} {z : Sh}  (hC : CK K Y cX6_book 3 RX6 6 135) (hr : (kme K).sig.returnType = some .int) (hA : kA K = aY Y z)  (ho : (0, 0, 5) ∈ yI Y) {r : Int32} {d' : Dt} (hQ : kQ K = MQ (kb K) (QM Y z (some (.int r)) d') (ka K) (ks K) 0 0 (aY Y z))    (d : Dt) (hf : t_X6_book_94 z.1   d = some (r, d')) : V K Y 3 0 0 z d 94 [(0, .ref (yo Y 0))] [] := by
  have hL := hC.2.2.2.2.2.2.1
  unfold t_X6_book_94 at hf
  refine V_iconst (v := 0) hC dX6_book_94 rfl ?_
  refine V_istore_n (lv' := [(1, .int 0), (0, .ref (yo Y 0))]) hC dX6_book_95 rfl (by decide) rfl ?_
  exact V_sub [1, 0] rfl (lp_ind (X := Int32 × Dt) (P := fun x => V K Y 3 0 0 z x.2 96 [(0, .ref (yo Y 0)), (1, .int x.1)] []) (fun k x hk hx => b_X6_book_96 hC hr hA ho hQ  (k96 := fun x1 d => k (x1, d)) (fun x1 d hx => hk (x1, d) hx) x.1 x.2 hx) FU (0, d) hf)
def t_X6_book_73 (L : Nat → Nat) (k73 : (Dt) → Option (Int32 × Dt))  (d : Dt) : Option (Int32 × Dt) := if (gF d 0 8) = 0 then (t_X6_here L d ).bind (fun q17 => if q17.1 < 0 then t_X6_book_94 L  q17.2 else (t_X6_takeClause L q17.2 ).bind (fun d19 => k73 d19)) else t_X6_book_94 L  d
set_option maxRecDepth 20000 in
theorem b_X6_book_73 {K : Kx} {Y : Yx} {z : Sh}  (hC : CK K Y cX6_book 3 RX6 6 135) (hr : (kme K).sig.returnType = some .int) (hA : kA K = aY Y z)  (ho : (0, 0, 5) ∈ yI Y) {r : Int32} {d' : Dt} (hQ : kQ K = MQ (kb K) (QM Y z (some (.int r)) d') (ka K) (ks K) 0 0 (aY Y z)) {k73 : (Dt) → Option (Int32 × Dt)} (hk73 : ∀  (d : Dt), k73  d = some (r, d') → V K Y 3 0 0 z d 73 [(0, .ref (yo Y 0))] [])  (d : Dt) (hf : t_X6_book_73 z.1 k73  d = some (r, d')) : V K Y 3 0 0 z d 73 [(0, .ref (yo Y 0))] [] := by
  have hL := hC.2.2.2.2.2.2.1
  have hkn : 0 ≤ (kR K).cells ∧ 0 ≤ (kR K).slots := ⟨Nat.zero_le _, Nat.zero_le _⟩
  unfold t_X6_book_73 at hf
  refine V_aload_n 0 hC dX6_book_73 rfl rfl ?_
  refine V_geti (o := 0) hC ho rfl fk_X6_80 dX6_book_74 ?_
  refine V_if_ne (tgt := 94) hC dX6_book_77 (by decide) (fun c16 => ?_) (fun c16 => ?_)
  · have hf := if_f hf c16
    exact b_X6_book_94 hC hr hA ho hQ  d hf
  · have hf := if_t hf c16
    refine V_aload_n 0 hC dX6_book_80 rfl rfl ?_
    obtain ⟨q17, eq17, hf⟩ := bi_some hf
    refine V_invi (o := 0) (As := []) (rest := []) hC (c_X6_here hL ho eq17) me_X6_here lk_X6_83 ho rfl rfl rfl (Nat.le_of_ble_eq_true rfl) ⟨by decide, by decide⟩ hkn dX6_book_81 ?_
    refine V_if_lt (tgt := 94) hC dX6_book_84 (by decide) (fun c18 => ?_) (fun c18 => ?_)
    · have hf := if_t hf c18
      exact b_X6_book_94 hC hr hA ho hQ  q17.2 hf
    · have hf := if_f hf c18
      refine V_aload_n 0 hC dX6_book_87 rfl rfl ?_
      obtain ⟨d19, ed19, hf⟩ := bi_some hf
      refine V_invv (o := 0) (As := []) (rest := []) hC (c_X6_takeClause hL ho ed19) me_X6_takeClause lk_X6_146 ho rfl rfl rfl (Nat.le_of_ble_eq_true rfl) ⟨by decide, by decide⟩ hkn dX6_book_88 ?_
      refine V_goto (tgt := 73) hC dX6_book_91 (by decide) ?_
      exact hk73 d19 hf
def t_X6_book_27 (L : Nat → Nat) (k27 : Int32 → (Dt) → Option (Int32 × Dt)) (x1 : Int32) (d : Dt) : Option (Int32 × Dt) := if 1376 ≤ x1 then gd (inb 1 (L (32 * 0 + 2))) (bd (sA d (32 * 0 + 2) (ix 1) 5) (fun d8 => gd (inb 2 (L (32 * 0 + 0))) (gd (inb 2 (L (32 * 0 + 2))) (bd (sA d8 (32 * 0 + 2) (ix 2) (gA d8 (32 * 0 + 0) (ix 2))) (fun d11 => gd (inb 3 (L (32 * 0 + 2))) (bd (sA d11 (32 * 0 + 2) (ix 3) (-1)) (fun d13 => lp (fun k x => t_X6_book_73 L  (fun d => k d) x) FU d13))))))) else gd (inb x1 (L (32 * 0 + 2))) (bd (sA d (32 * 0 + 2) (ix x1) 0) (fun d15 => k27 (x1 + 1) d15))
set_option maxRecDepth 20000 in
theorem b_X6_book_27 {K : Kx} {Y : Yx} {z : Sh}  (hC : CK K Y cX6_book 3 RX6 6 135) (hr : (kme K).sig.returnType = some .int) (hA : kA K = aY Y z)  (ho : (0, 0, 5) ∈ yI Y) {r : Int32} {d' : Dt} (hQ : kQ K = MQ (kb K) (QM Y z (some (.int r)) d') (ka K) (ks K) 0 0 (aY Y z)) {k27 : Int32 → (Dt) → Option (Int32 × Dt)} (hk27 : ∀ (x1 : Int32) (d : Dt), k27 x1 d = some (r, d') → V K Y 3 0 0 z d 27 [(0, .ref (yo Y 0)), (1, .int x1)] []) (x1 : Int32) (d : Dt) (hf : t_X6_book_27 z.1 k27 x1 d = some (r, d')) : V K Y 3 0 0 z d 27 [(0, .ref (yo Y 0)), (1, .int x1)] [] := by
  have hL := hC.2.2.2.2.2.2.1
  unfold t_X6_book_27 at hf
  refine V_iload_n 1 hC dX6_book_27 rfl rfl ?_
  refine V_sipush (v := 1376) hC dX6_book_28 rfl ?_
  refine V_icmp_ge (tgt := 47) hC dX6_book_31 (by decide) (fun c6 => ?_) (fun c6 => ?_)
  · have hf := if_t hf c6
    refine V_aload_n 0 hC dX6_book_47 rfl rfl ?_
    refine V_geta (o := 0) hC ho rfl fk_X6_17 dX6_book_48 ?_
    refine V_iconst (v := 1) hC dX6_book_51 rfl ?_
    refine V_iconst (v := 5) hC dX6_book_52 rfl ?_
    obtain ⟨g7, hf⟩ := gd_some hf
    refine V_iast (a := (32 * 0 + 2)) hC (hL.row ho rfl) g7 dX6_book_53 (fun d8 ed8 => ?_)
    have hf := bd_e hf d8 ed8
    refine V_aload_n 0 hC dX6_book_54 rfl rfl ?_
    refine V_geta (o := 0) hC ho rfl fk_X6_17 dX6_book_55 ?_
    refine V_iconst (v := 2) hC dX6_book_58 rfl ?_
    refine V_aload_n 0 hC dX6_book_59 rfl rfl ?_
    refine V_geta (o := 0) hC ho rfl fk_X6_7 dX6_book_60 ?_
    refine V_iconst (v := 2) hC dX6_book_63 rfl ?_
    obtain ⟨g9, hf⟩ := gd_some hf
    refine V_iald (a := (32 * 0 + 0)) hC (hL.row ho rfl) g9 dX6_book_64 ?_
    obtain ⟨g10, hf⟩ := gd_some hf
    refine V_iast (a := (32 * 0 + 2)) hC (hL.row ho rfl) g10 dX6_book_65 (fun d11 ed11 => ?_)
    have hf := bd_e hf d11 ed11
    refine V_aload_n 0 hC dX6_book_66 rfl rfl ?_
    refine V_geta (o := 0) hC ho rfl fk_X6_17 dX6_book_67 ?_
    refine V_iconst (v := 3) hC dX6_book_70 rfl ?_
    refine V_iconst (v := -1) hC dX6_book_71 rfl ?_
    obtain ⟨g12, hf⟩ := gd_some hf
    refine V_iast (a := (32 * 0 + 2)) hC (hL.row ho rfl) g12 dX6_book_72 (fun d13 ed13 => ?_)
    have hf := bd_e hf d13 ed13
    exact V_sub [0] rfl (lp_ind (X := Dt) (P := fun x => V K Y 3 0 0 z x 73 [(0, .ref (yo Y 0))] []) (fun k x hk hx => b_X6_book_73 hC hr hA ho hQ  (k73 := fun d => k d) (fun d hx => hk d hx) x hx) FU d13 hf)
  · have hf := if_f hf c6
    refine V_aload_n 0 hC dX6_book_34 rfl rfl ?_
    refine V_geta (o := 0) hC ho rfl fk_X6_17 dX6_book_35 ?_
    refine V_iload_n 1 hC dX6_book_38 rfl rfl ?_
    refine V_iconst (v := 0) hC dX6_book_39 rfl ?_
    obtain ⟨g14, hf⟩ := gd_some hf
    refine V_iast (a := (32 * 0 + 2)) hC (hL.row ho rfl) g14 dX6_book_40 (fun d15 ed15 => ?_)
    have hf := bd_e hf d15 ed15
    refine V_iinc (v := x1 + 1) (lv' := [(1, .int (x1 + 1)), (0, .ref (yo Y 0))]) 1 hC dX6_book_41 rfl rfl (by decide) rfl ?_
    refine V_goto (tgt := 27) hC dX6_book_44 (by decide) ?_
    exact V_sub [1, 0] rfl (hk27 (x1 + 1) d15 hf)
def t_X6_book (L : Nat → Nat) (d : Dt)  : Option (Int32 × Dt) := bd (sF d 0 5 0) (fun d1 => bd (sF d1 0 8 0) (fun d2 => bd (sF d2 0 9 (-1)) (fun d3 => bd (sF d3 0 10 0) (fun d4 => bd (sF d4 0 14 0) (fun d5 => lp (fun k x => t_X6_book_27 L  (fun x1 d => k (x1, d)) x.1 x.2) FU (0, d5))))))
set_option maxRecDepth 20000 in
theorem c_X6_book {l : Launch} {Y : Yx} (hL : LAY Y) {z : Sh} {d : Dt}  (ho : (0, 0, 5) ∈ yI Y) {r : Int32} {d' : Dt} (hf : t_X6_book z.1 d  = some (r, d')) : MM l yX6_book cX6_book 3 (some .int) 6 135 Y z [.ref (yo Y 0)] d (some (.int r)) d' := by
  refine MM.ofV (by decide +kernel) hL (Nat.le_of_ble_eq_true rfl) (fun K hl hC hr hQ hA => ?_)
  have hC : CK K Y cX6_book 3 RX6 6 135 := hC
  unfold t_X6_book at hf
  show V K Y 3 0 0 z d 0 [(0, .ref (yo Y 0))] []
  refine V_aload_n 0 hC dX6_book_0 rfl rfl ?_
  refine V_iconst (v := 0) hC dX6_book_1 rfl ?_
  refine V_puti (o := 0) hC ho rfl fk_X6_77 pl_X6 rfl rfl dX6_book_2 (fun d1 ed1 => ?_)
  have hf := bd_e hf d1 ed1
  refine V_aload_n 0 hC dX6_book_5 rfl rfl ?_
  refine V_iconst (v := 0) hC dX6_book_6 rfl ?_
  refine V_puti (o := 0) hC ho rfl fk_X6_80 pl_X6 rfl rfl dX6_book_7 (fun d2 ed2 => ?_)
  have hf := bd_e hf d2 ed2
  refine V_aload_n 0 hC dX6_book_10 rfl rfl ?_
  refine V_iconst (v := -1) hC dX6_book_11 rfl ?_
  refine V_puti (o := 0) hC ho rfl fk_X6_23 pl_X6 rfl rfl dX6_book_12 (fun d3 ed3 => ?_)
  have hf := bd_e hf d3 ed3
  refine V_aload_n 0 hC dX6_book_15 rfl rfl ?_
  refine V_iconst (v := 0) hC dX6_book_16 rfl ?_
  refine V_putz (o := 0) hC ho rfl fk_X6_142 pl_X6 rfl rfl rfl dX6_book_17 (fun d4 ed4 => ?_)
  have hf := bd_e hf d4 ed4
  refine V_aload_n 0 hC dX6_book_20 rfl rfl ?_
  refine V_iconst (v := 0) hC dX6_book_21 rfl ?_
  refine V_puti (o := 0) hC ho rfl fk_X6_109 pl_X6 rfl rfl dX6_book_22 (fun d5 ed5 => ?_)
  have hf := bd_e hf d5 ed5
  refine V_iconst (v := 0) hC dX6_book_25 rfl ?_
  refine V_istore_n (lv' := [(1, .int 0), (0, .ref (yo Y 0))]) hC dX6_book_26 rfl (by decide) rfl ?_
  exact V_sub [1, 0] rfl (lp_ind (X := Int32 × Dt) (P := fun x => V K Y 3 0 0 z x.2 27 [(0, .ref (yo Y 0)), (1, .int x.1)] []) (fun k x hk hx => b_X6_book_27 hC hr hA ho hQ  (k27 := fun x1 d => k (x1, d)) (fun x1 d hx => hk (x1, d) hx) x.1 x.2 hx) FU (0, d5) hf)
def t_X6_fault (L : Nat → Nat) (d : Dt)  : Option (Int32) := some (gF d 0 9)
set_option maxRecDepth 20000 in
theorem c_X6_fault {l : Launch} {Y : Yx} (hL : LAY Y) {z : Sh} {d : Dt}  (ho : (0, 0, 5) ∈ yI Y) {r : Int32} (hf : t_X6_fault z.1 d  = some r) : MM l yX6_fault cX6_fault 1 (some .int) 0 0 Y z [.ref (yo Y 0)] d (some (.int r)) d := by
  refine MM.ofV (by decide +kernel) hL (Nat.le_of_ble_eq_true rfl) (fun K hl hC hr hQ hA => ?_)
  have hC : CK K Y cX6_fault 1 RX6 0 0 := hC
  unfold t_X6_fault at hf
  show V K Y 1 0 0 z d 0 [(0, .ref (yo Y 0))] []
  refine V_aload_n 0 hC dX6_fault_0 rfl rfl ?_
  refine V_geti (o := 0) hC ho rfl fk_X6_23 dX6_fault_1 ?_
  obtain rfl := so_inj hf
  exact V_iret hC hr hQ hA dX6_fault_4
def t_X6_noPart (L : Nat → Nat) (d : Dt) (p1 : Int32) : Option (Int32) := gd (inb 0 (L (32 * 0 + 0))) ((t_X6_in L d (p1.toInt64) 0 (((gA d (32 * 0 + 0) (ix 0)) - 1 : Int32).toInt64)).bind (fun v2 => if v2 = 0 then some 1 else some 0))
set_option maxRecDepth 20000 in
theorem c_X6_noPart {l : Launch} {Y : Yx} (hL : LAY Y) {z : Sh} {d : Dt} {p1 : Int32} (ho : (0, 0, 5) ∈ yI Y) {r : Int32} (hf : t_X6_noPart z.1 d p1 = some r) : MM l yX6_noPart cX6_noPart 2 (some .boolean) 1 25 Y z [.ref (yo Y 0), .int p1] d (some (.int r)) d := by
  refine MM.ofV (by decide +kernel) hL (Nat.le_of_ble_eq_true rfl) (fun K hl hC hr hQ hA => ?_)
  have hC : CK K Y cX6_noPart 2 RX6 1 25 := hC
  have hkn : 0 ≤ (kR K).cells ∧ 0 ≤ (kR K).slots := ⟨Nat.zero_le _, Nat.zero_le _⟩
  unfold t_X6_noPart at hf
  show V K Y 2 0 0 z d 0 [(0, .ref (yo Y 0)), (1, .int p1)] []
  refine V_iload_n 1 hC dX6_noPart_0 rfl rfl ?_
  refine V_i2l hC dX6_noPart_1 ?_
  refine V_lconst (v := 0) hC dX6_noPart_2 rfl ?_
  refine V_aload_n 0 hC dX6_noPart_3 rfl rfl ?_
  refine V_geta (o := 0) hC ho rfl fk_X6_7 dX6_noPart_4 ?_
  refine V_iconst (v := 0) hC dX6_noPart_7 rfl ?_
  obtain ⟨g1, hf⟩ := gd_some hf
  refine V_iald (a := (32 * 0 + 0)) hC (hL.row ho rfl) g1 dX6_noPart_8 ?_
  refine V_iconst (v := 1) hC dX6_noPart_9 rfl ?_
  refine V_isub hC dX6_noPart_10 ?_
  refine V_i2l hC dX6_noPart_11 ?_
  obtain ⟨v2, ev2, hf⟩ := bi_some hf
  refine V_insi (As := [.long (p1.toInt64), .long 0, .long (((gA d (32 * 0 + 0) (ix 0)) - 1 : Int32).toInt64)]) (rest := []) hC (c_X6_in hL  ev2) me_X6_in lk_X6_66 rfl rfl (Nat.le_of_ble_eq_true rfl) ⟨by decide, by decide⟩ hkn dX6_noPart_12 ?_
  refine V_if_ne (tgt := 22) hC dX6_noPart_15 (by decide) (fun c3 => ?_) (fun c3 => ?_)
  · have hf := if_f hf c3
    refine V_iconst (v := 0) hC dX6_noPart_22 rfl ?_
    obtain rfl := so_inj hf
    exact V_zret hC hr rfl hQ hA dX6_noPart_23
  · have hf := if_t hf c3
    refine V_iconst (v := 1) hC dX6_noPart_18 rfl ?_
    refine V_goto (tgt := 23) hC dX6_noPart_19 (by decide) ?_
    obtain rfl := so_inj hf
    exact V_zret hC hr rfl hQ hA dX6_noPart_23
def t_X6_linesOf (L : Nat → Nat) (d : Dt) (p1 : Int32) : Option (Int32) := gd (inb (32 + p1) (L (32 * 0 + 0))) (gd (inb (56 + p1) (L (32 * 0 + 0))) (gd (inb (8 + p1) (L (32 * 0 + 0))) (if (gA d (32 * 0 + 0) (ix (8 + p1))) = 3 then some (((2 + (gA d (32 * 0 + 0) (ix (32 + p1)))) + (2 * (gA d (32 * 0 + 0) (ix (56 + p1))))) + 2) else some (((2 + (gA d (32 * 0 + 0) (ix (32 + p1)))) + (2 * (gA d (32 * 0 + 0) (ix (56 + p1))))) + 0))))
set_option maxRecDepth 20000 in
theorem c_X6_linesOf {l : Launch} {Y : Yx} (hL : LAY Y) {z : Sh} {d : Dt} {p1 : Int32} (ho : (0, 0, 5) ∈ yI Y) {r : Int32} (hf : t_X6_linesOf z.1 d p1 = some r) : MM l yX6_linesOf cX6_linesOf 2 (some .int) 0 0 Y z [.ref (yo Y 0), .int p1] d (some (.int r)) d := by
  refine MM.ofV (by decide +kernel) hL (Nat.le_of_ble_eq_true rfl) (fun K hl hC hr hQ hA => ?_)
  have hC : CK K Y cX6_linesOf 2 RX6 0 0 := hC
  unfold t_X6_linesOf at hf
  show V K Y 2 0 0 z d 0 [(0, .ref (yo Y 0)), (1, .int p1)] []
  refine V_iconst (v := 2) hC dX6_linesOf_0 rfl ?_
  refine V_aload_n 0 hC dX6_linesOf_1 rfl rfl ?_
  refine V_geta (o := 0) hC ho rfl fk_X6_7 dX6_linesOf_2 ?_
  refine V_bipush (v := 32) hC dX6_linesOf_5 rfl ?_
  refine V_iload_n 1 hC dX6_linesOf_7 rfl rfl ?_
  refine V_iadd hC dX6_linesOf_8 ?_
  obtain ⟨g1, hf⟩ := gd_some hf
  refine V_iald (a := (32 * 0 + 0)) hC (hL.row ho rfl) g1 dX6_linesOf_9 ?_
  refine V_iadd hC dX6_linesOf_10 ?_
  refine V_iconst (v := 2) hC dX6_linesOf_11 rfl ?_
  refine V_aload_n 0 hC dX6_linesOf_12 rfl rfl ?_
  refine V_geta (o := 0) hC ho rfl fk_X6_7 dX6_linesOf_13 ?_
  refine V_bipush (v := 56) hC dX6_linesOf_16 rfl ?_
  refine V_iload_n 1 hC dX6_linesOf_18 rfl rfl ?_
  refine V_iadd hC dX6_linesOf_19 ?_
  obtain ⟨g2, hf⟩ := gd_some hf
  refine V_iald (a := (32 * 0 + 0)) hC (hL.row ho rfl) g2 dX6_linesOf_20 ?_
  refine V_imul hC dX6_linesOf_21 ?_
  refine V_iadd hC dX6_linesOf_22 ?_
  refine V_aload_n 0 hC dX6_linesOf_23 rfl rfl ?_
  refine V_geta (o := 0) hC ho rfl fk_X6_7 dX6_linesOf_24 ?_
  refine V_bipush (v := 8) hC dX6_linesOf_27 rfl ?_
  refine V_iload_n 1 hC dX6_linesOf_29 rfl rfl ?_
  refine V_iadd hC dX6_linesOf_30 ?_
  obtain ⟨g3, hf⟩ := gd_some hf
  refine V_iald (a := (32 * 0 + 0)) hC (hL.row ho rfl) g3 dX6_linesOf_31 ?_
  refine V_iconst (v := 3) hC dX6_linesOf_32 rfl ?_
  refine V_icmp_ne (tgt := 40) hC dX6_linesOf_33 (by decide) (fun c4 => ?_) (fun c4 => ?_)
  · have hf := if_f hf c4
    refine V_iconst (v := 0) hC dX6_linesOf_40 rfl ?_
    refine V_iadd hC dX6_linesOf_41 ?_
    obtain rfl := so_inj hf
    exact V_iret hC hr hQ hA dX6_linesOf_42
  · have hf := if_t hf c4
    refine V_iconst (v := 2) hC dX6_linesOf_36 rfl ?_
    refine V_goto (tgt := 41) hC dX6_linesOf_37 (by decide) ?_
    refine V_iadd hC dX6_linesOf_41 ?_
    obtain rfl := so_inj hf
    exact V_iret hC hr hQ hA dX6_linesOf_42
