/-! ===== ChoiceBookModel: lifted and met ===== -/
theorem lk_X6_316 : Cond.methodLink RX6 316 yX6_leadsTo ∈ gt := gt_t 1303 (by decide +kernel) rfl
theorem me_X6_leadsTo : MEV RX6 yX6_leadsTo cX6_leadsTo 5 (some .boolean) 2 := ⟨⟨gt_t 1306 (by decide +kernel) rfl, gt_t 6 (by decide +kernel) rfl, by decide +kernel⟩, gt_t 1305 (by decide +kernel) rfl, gt_s (q := (yX6_leadsTo, 30)) 81 (by decide +kernel)⟩
theorem lk_X6_319 : Cond.methodLink RX6 319 yX6_leads ∈ gt := gt_t 1320 (by decide +kernel) rfl
theorem me_X6_leads : MEV RX6 yX6_leads cX6_leads 5 (some .boolean) 2 := ⟨⟨gt_t 1323 (by decide +kernel) rfl, gt_t 6 (by decide +kernel) rfl, by decide +kernel⟩, gt_t 1322 (by decide +kernel) rfl, gt_s (q := (yX6_leads, 30)) 83 (by decide +kernel)⟩
theorem cl_X6_322 : Cond.constantLong RX6 322 (24) ∈ gt := gt_t 1315 (by decide +kernel) rfl
theorem lk_X6_324 : Cond.methodLink RX6 324 yX6_nearBy ∈ gt := gt_t 1316 (by decide +kernel) rfl
theorem me_X6_nearBy : MEV RX6 yX6_nearBy cX6_nearBy 6 (some .int) 1 := ⟨⟨gt_t 1319 (by decide +kernel) rfl, gt_t 6 (by decide +kernel) rfl, by decide +kernel⟩, gt_t 1318 (by decide +kernel) rfl, gt_s (q := (yX6_nearBy, 30)) 82 (by decide +kernel)⟩
theorem cl_X6_327 : Cond.constantLong RX6 327 (99) ∈ gt := gt_t 1328 (by decide +kernel) rfl
theorem cl_X6_329 : Cond.constantLong RX6 329 (10) ∈ gt := gt_t 1336 (by decide +kernel) rfl
theorem lk_X6_331 : Cond.methodLink RX6 331 yX6_isPage ∈ gt := gt_t 1333 (by decide +kernel) rfl
theorem me_X6_isPage : MES yX6_isPage cX6_isPage 1 (some .boolean) 1 := ⟨⟨gt_t 1335 (by decide +kernel) rfl, gt_t 6 (by decide +kernel) rfl, by decide +kernel⟩, gt_t 1334 (by decide +kernel) rfl⟩
theorem lk_X6_334 : Cond.methodLink RX6 334 yX6_pageOf ∈ gt := gt_t 1337 (by decide +kernel) rfl
theorem me_X6_pageOf : MEV RX6 yX6_pageOf cX6_pageOf 8 (some .int) 2 := ⟨⟨gt_t 1340 (by decide +kernel) rfl, gt_t 6 (by decide +kernel) rfl, by decide +kernel⟩, gt_t 1339 (by decide +kernel) rfl, gt_s (q := (yX6_pageOf, 30)) 84 (by decide +kernel)⟩
theorem lk_X6_337 : Cond.methodLink RX6 337 yX6_manyOpen ∈ gt := gt_t 1357 (by decide +kernel) rfl
theorem me_X6_manyOpen : MEV RX6 yX6_manyOpen cX6_manyOpen 4 (some .int) 1 := ⟨⟨gt_t 1360 (by decide +kernel) rfl, gt_t 6 (by decide +kernel) rfl, by decide +kernel⟩, gt_t 1359 (by decide +kernel) rfl, gt_s (q := (yX6_manyOpen, 30)) 86 (by decide +kernel)⟩
theorem lk_X6_340 : Cond.methodLink RX6 340 yX6_nthOpen ∈ gt := gt_t 1361 (by decide +kernel) rfl
theorem me_X6_nthOpen : MEV RX6 yX6_nthOpen cX6_nthOpen 5 (some .int) 2 := ⟨⟨gt_t 1364 (by decide +kernel) rfl, gt_t 6 (by decide +kernel) rfl, by decide +kernel⟩, gt_t 1363 (by decide +kernel) rfl, gt_s (q := (yX6_nthOpen, 30)) 87 (by decide +kernel)⟩
theorem lk_X6_343 : Cond.methodLink RX6 343 yX6_readsBlindly ∈ gt := gt_t 1353 (by decide +kernel) rfl
theorem me_X6_readsBlindly : MEV RX6 yX6_readsBlindly cX6_readsBlindly 5 (some .boolean) 0 := ⟨⟨gt_t 1356 (by decide +kernel) rfl, gt_t 6 (by decide +kernel) rfl, by decide +kernel⟩, gt_t 1355 (by decide +kernel) rfl, gt_s (q := (yX6_readsBlindly, 30)) 85 (by decide +kernel)⟩
theorem lk_X6_346 : Cond.methodLink RX6 346 yX6_copy ∈ gt := gt_t 1369 (by decide +kernel) rfl
theorem me_X6_copy : MEV RX6 yX6_copy cX6_copy 4 none 2 := ⟨⟨gt_t 1372 (by decide +kernel) rfl, gt_t 6 (by decide +kernel) rfl, by decide +kernel⟩, gt_t 1371 (by decide +kernel) rfl, gt_s (q := (yX6_copy, 30)) 88 (by decide +kernel)⟩
def t_X6_without (L : Nat → Nat) (d : Dt) (p1 : Int32) (p2 : Int32) : Option (Int32 × Dt) := (t_X6_in L d (p1.toInt64) 0 7).bind (fun v1 => if v1 = 0 then some ((-1000001), d) else (t_X6_in L d (p2.toInt64) 0 60).bind (fun v3 => if v3 = 0 then some ((-1000002), d) else gd (inb 0 (L (32 * 0 + 0))) (if (gA d (32 * 0 + 0) (ix 0)) = 0 then some ((-1000003), d) else bd (sF d 0 16 p1) (fun d7 => (t_X6_spreadFromBeginning L d7 ).bind (fun d8 => (t_X6_findOdds L d8 p2).bind (fun d9 => gd (inb 1 (L (32 * 0 + 0))) ((t_X6_stateAt L d9 0 0 (gA d9 (32 * 0 + 0) (ix 1))).bind (fun q11 => (t_X6_oddsAt L q11.2 q11.1).bind (fun v12 => bd (sF q11.2 0 16 (-1)) (fun d13 => some (v12, d13)))))))))))
set_option maxRecDepth 20000 in
theorem c_X6_without {l : Launch} {Y : Yx} (hL : LAY Y) {z : Sh} {d : Dt} {p1 : Int32} {p2 : Int32} (ho : (0, 0, 5) ∈ yI Y) {r : Int32} {d' : Dt} (hf : t_X6_without z.1 d p1 p2 = some (r, d')) : MM l yX6_without cX6_without 4 (some .int) 7 162 Y z [.ref (yo Y 0), .int p1, .int p2] d (some (.int r)) d' := by
  refine MM.ofV (by decide +kernel) hL (Nat.le_of_ble_eq_true rfl) (fun K hl hC hr hQ hA => ?_)
  have hC : CK K Y cX6_without 4 RX6 7 162 := hC
  have hkn : 0 ≤ (kR K).cells ∧ 0 ≤ (kR K).slots := ⟨Nat.zero_le _, Nat.zero_le _⟩
  unfold t_X6_without at hf
  show V K Y 4 0 0 z d 0 [(0, .ref (yo Y 0)), (1, .int p1), (2, .int p2)] []
  refine V_iload_n 1 hC dX6_without_0 rfl rfl ?_
  refine V_i2l hC dX6_without_1 ?_
  refine V_lconst (v := 0) hC dX6_without_2 rfl ?_
  refine V_ldc2 hC cl_X6_161 dX6_without_3 ?_
  obtain ⟨v1, ev1, hf⟩ := bi_some hf
  refine V_insi (As := [.long (p1.toInt64), .long 0, .long 7]) (rest := []) hC (c_X6_in hL  ev1) me_X6_in lk_X6_66 rfl rfl (Nat.le_of_ble_eq_true rfl) ⟨by decide, by decide⟩ hkn dX6_without_6 ?_
  refine V_if_ne (tgt := 15) hC dX6_without_9 (by decide) (fun c2 => ?_) (fun c2 => ?_)
  · have hf := if_f hf c2
    refine V_iload_n 2 hC dX6_without_15 rfl rfl ?_
    refine V_i2l hC dX6_without_16 ?_
    refine V_lconst (v := 0) hC dX6_without_17 rfl ?_
    refine V_ldc2 hC cl_X6_283 dX6_without_18 ?_
    obtain ⟨v3, ev3, hf⟩ := bi_some hf
    refine V_insi (As := [.long (p2.toInt64), .long 0, .long 60]) (rest := []) hC (c_X6_in hL  ev3) me_X6_in lk_X6_66 rfl rfl (Nat.le_of_ble_eq_true rfl) ⟨by decide, by decide⟩ hkn dX6_without_21 ?_
    refine V_if_ne (tgt := 30) hC dX6_without_24 (by decide) (fun c4 => ?_) (fun c4 => ?_)
    · have hf := if_f hf c4
      refine V_aload_n 0 hC dX6_without_30 rfl rfl ?_
      refine V_geta (o := 0) hC ho rfl fk_X6_7 dX6_without_31 ?_
      refine V_iconst (v := 0) hC dX6_without_34 rfl ?_
      obtain ⟨g5, hf⟩ := gd_some hf
      refine V_iald (a := (32 * 0 + 0)) hC (hL.row ho rfl) g5 dX6_without_35 ?_
      refine V_if_ne (tgt := 42) hC dX6_without_36 (by decide) (fun c6 => ?_) (fun c6 => ?_)
      · have hf := if_f hf c6
        refine V_aload_n 0 hC dX6_without_42 rfl rfl ?_
        refine V_iload_n 1 hC dX6_without_43 rfl rfl ?_
        refine V_puti (o := 0) hC ho rfl fk_X6_36 pl_X6 rfl rfl dX6_without_44 (fun d7 ed7 => ?_)
        have hf := bd_e hf d7 ed7
        refine V_aload_n 0 hC dX6_without_47 rfl rfl ?_
        obtain ⟨d8, ed8, hf⟩ := bi_some hf
        refine V_invv (o := 0) (As := []) (rest := []) hC (c_X6_spreadFromBeginning hL ho ed8) me_X6_spreadFromBeginning lk_X6_170 ho rfl rfl rfl (Nat.le_of_ble_eq_true rfl) ⟨by decide, by decide⟩ hkn dX6_without_48 ?_
        refine V_aload_n 0 hC dX6_without_51 rfl rfl ?_
        refine V_iload_n 2 hC dX6_without_52 rfl rfl ?_
        obtain ⟨d9, ed9, hf⟩ := bi_some hf
        refine V_invv (o := 0) (As := [.int p2]) (rest := []) hC (c_X6_findOdds hL ho ed9) me_X6_findOdds lk_X6_291 ho rfl rfl rfl (Nat.le_of_ble_eq_true rfl) ⟨by decide, by decide⟩ hkn dX6_without_53 ?_
        refine V_aload_n 0 hC dX6_without_56 rfl rfl ?_
        refine V_aload_n 0 hC dX6_without_57 rfl rfl ?_
        refine V_iconst (v := 0) hC dX6_without_58 rfl ?_
        refine V_iconst (v := 0) hC dX6_without_59 rfl ?_
        refine V_aload_n 0 hC dX6_without_60 rfl rfl ?_
        refine V_geta (o := 0) hC ho rfl fk_X6_7 dX6_without_61 ?_
        refine V_iconst (v := 1) hC dX6_without_64 rfl ?_
        obtain ⟨g10, hf⟩ := gd_some hf
        refine V_iald (a := (32 * 0 + 0)) hC (hL.row ho rfl) g10 dX6_without_65 ?_
        obtain ⟨q11, eq11, hf⟩ := bi_some hf
        refine V_invi (o := 0) (As := [.int 0, .int 0, .int (gA d9 (32 * 0 + 0) (ix 1))]) (rest := [.ref (yo Y 0)]) hC (c_X6_stateAt hL ho eq11) me_X6_stateAt lk_X6_209 ho rfl rfl rfl (Nat.le_of_ble_eq_true rfl) ⟨by decide, by decide⟩ hkn dX6_without_66 ?_
        obtain ⟨v12, ev12, hf⟩ := bi_some hf
        refine V_invi (o := 0) (As := [.int q11.1]) (rest := []) hC (c_X6_oddsAt hL ho ev12) me_X6_oddsAt lk_X6_277 ho rfl rfl rfl (Nat.le_of_ble_eq_true rfl) ⟨by decide, by decide⟩ hkn dX6_without_69 ?_
        refine V_istore_n (lv' := [(3, .int v12), (0, .ref (yo Y 0)), (1, .int p1), (2, .int p2)]) hC dX6_without_72 rfl (by decide) rfl ?_
        refine V_aload_n 1 hC dX6_without_73 rfl rfl ?_
        refine V_iconst (v := -1) hC dX6_without_74 rfl ?_
        refine V_puti (o := 0) hC ho rfl fk_X6_36 pl_X6 rfl rfl dX6_without_75 (fun d13 ed13 => ?_)
        have hf := bd_e hf d13 ed13
        refine V_iload_n 0 hC dX6_without_78 rfl rfl ?_
        obtain ⟨rfl, rfl⟩ := so_inj2 hf
        exact V_iret hC hr hQ hA dX6_without_79
      · have hf := if_t hf c6
        refine V_ldc hC ck_X6_166 dX6_without_39 ?_
        obtain ⟨rfl, rfl⟩ := so_inj2 hf
        exact V_iret hC hr hQ hA dX6_without_41
    · have hf := if_t hf c4
      refine V_ldc hC ck_X6_70 dX6_without_27 ?_
      obtain ⟨rfl, rfl⟩ := so_inj2 hf
      exact V_iret hC hr hQ hA dX6_without_29
  · have hf := if_t hf c2
    refine V_ldc hC ck_X6_156 dX6_without_12 ?_
    obtain ⟨rfl, rfl⟩ := so_inj2 hf
    exact V_iret hC hr hQ hA dX6_without_14
def t_X6_log (L : Nat → Nat) (d : Dt) (p1 : Int32) : Option (Int32 × Dt) := (t_X6_noPart L d p1).bind (fun v1 => if v1 = 0 then if (gF d 0 23) = 60 then some ((-1000004), d) else gd (inb (gF d 0 23) (L (32 * 0 + 24))) (bd (sA d (32 * 0 + 24) (ix (gF d 0 23)) p1) (fun d5 => bd (sF d5 0 23 ((gF d5 0 23) + 1)) (fun d6 => some (gF d6 0 23, d6)))) else some ((-1000001), d))
set_option maxRecDepth 20000 in
theorem c_X6_log {l : Launch} {Y : Yx} (hL : LAY Y) {z : Sh} {d : Dt} {p1 : Int32} (ho : (0, 0, 5) ∈ yI Y) {r : Int32} {d' : Dt} (hf : t_X6_log z.1 d p1 = some (r, d')) : MM l yX6_log cX6_log 2 (some .int) 2 46 Y z [.ref (yo Y 0), .int p1] d (some (.int r)) d' := by
  refine MM.ofV (by decide +kernel) hL (Nat.le_of_ble_eq_true rfl) (fun K hl hC hr hQ hA => ?_)
  have hC : CK K Y cX6_log 2 RX6 2 46 := hC
  have hkn : 0 ≤ (kR K).cells ∧ 0 ≤ (kR K).slots := ⟨Nat.zero_le _, Nat.zero_le _⟩
  unfold t_X6_log at hf
  show V K Y 2 0 0 z d 0 [(0, .ref (yo Y 0)), (1, .int p1)] []
  refine V_aload_n 0 hC dX6_log_0 rfl rfl ?_
  refine V_iload_n 1 hC dX6_log_1 rfl rfl ?_
  obtain ⟨v1, ev1, hf⟩ := bi_some hf
  refine V_invi (o := 0) (As := [.int p1]) (rest := []) hC (c_X6_noPart hL ho ev1) me_X6_noPart lk_X6_152 ho rfl rfl rfl (Nat.le_of_ble_eq_true rfl) ⟨by decide, by decide⟩ hkn dX6_log_2 ?_
  refine V_if_eq (tgt := 11) hC dX6_log_5 (by decide) (fun c2 => ?_) (fun c2 => ?_)
  · have hf := if_t hf c2
    refine V_aload_n 0 hC dX6_log_11 rfl rfl ?_
    refine V_geti (o := 0) hC ho rfl fk_X6_149 dX6_log_12 ?_
    refine V_bipush (v := 60) hC dX6_log_15 rfl ?_
    refine V_icmp_ne (tgt := 23) hC dX6_log_17 (by decide) (fun c3 => ?_) (fun c3 => ?_)
    · have hf := if_f hf c3
      refine V_aload_n 0 hC dX6_log_23 rfl rfl ?_
      refine V_geta (o := 0) hC ho rfl fk_X6_46 dX6_log_24 ?_
      refine V_aload_n 0 hC dX6_log_27 rfl rfl ?_
      refine V_geti (o := 0) hC ho rfl fk_X6_149 dX6_log_28 ?_
      refine V_iload_n 1 hC dX6_log_31 rfl rfl ?_
      obtain ⟨g4, hf⟩ := gd_some hf
      refine V_iast (a := (32 * 0 + 24)) hC (hL.row ho rfl) g4 dX6_log_32 (fun d5 ed5 => ?_)
      have hf := bd_e hf d5 ed5
      refine V_aload_n 0 hC dX6_log_33 rfl rfl ?_
      refine V_dup hC dX6_log_34 rfl ?_
      refine V_geti (o := 0) hC ho rfl fk_X6_149 dX6_log_35 ?_
      refine V_iconst (v := 1) hC dX6_log_38 rfl ?_
      refine V_iadd hC dX6_log_39 ?_
      refine V_puti (o := 0) hC ho rfl fk_X6_149 pl_X6 rfl rfl dX6_log_40 (fun d6 ed6 => ?_)
      have hf := bd_e hf d6 ed6
      refine V_aload_n 0 hC dX6_log_43 rfl rfl ?_
      refine V_geti (o := 0) hC ho rfl fk_X6_149 dX6_log_44 ?_
      obtain ⟨rfl, rfl⟩ := so_inj2 hf
      exact V_iret hC hr hQ hA dX6_log_47
    · have hf := if_t hf c3
      refine V_ldc hC ck_X6_74 dX6_log_20 ?_
      obtain ⟨rfl, rfl⟩ := so_inj2 hf
      exact V_iret hC hr hQ hA dX6_log_22
  · have hf := if_f hf c2
    refine V_ldc hC ck_X6_156 dX6_log_8 ?_
    obtain ⟨rfl, rfl⟩ := so_inj2 hf
    exact V_iret hC hr hQ hA dX6_log_10
def t_X6_clear (L : Nat → Nat) (d : Dt)  : Option (Int32 × Dt) := bd (gF d 0 23) (fun y1 => bd (sF d 0 23 0) (fun d2 => some (y1, d2)))
set_option maxRecDepth 20000 in
theorem c_X6_clear {l : Launch} {Y : Yx} (hL : LAY Y) {z : Sh} {d : Dt}  (ho : (0, 0, 5) ∈ yI Y) {r : Int32} {d' : Dt} (hf : t_X6_clear z.1 d  = some (r, d')) : MM l yX6_clear cX6_clear 2 (some .int) 0 0 Y z [.ref (yo Y 0)] d (some (.int r)) d' := by
  refine MM.ofV (by decide +kernel) hL (Nat.le_of_ble_eq_true rfl) (fun K hl hC hr hQ hA => ?_)
  have hC : CK K Y cX6_clear 2 RX6 0 0 := hC
  unfold t_X6_clear at hf
  show V K Y 2 0 0 z d 0 [(0, .ref (yo Y 0))] []
  refine V_aload_n 0 hC dX6_clear_0 rfl rfl ?_
  refine V_geti (o := 0) hC ho rfl fk_X6_149 dX6_clear_1 ?_
  refine V_topi (fun y1 ey1 => ?_)
  have hf := bd_e hf y1 ey1
  refine V_istore_n (lv' := [(1, .int y1), (0, .ref (yo Y 0))]) hC dX6_clear_4 rfl (by decide) rfl ?_
  refine V_aload_n 1 hC dX6_clear_5 rfl rfl ?_
  refine V_iconst (v := 0) hC dX6_clear_6 rfl ?_
  refine V_puti (o := 0) hC ho rfl fk_X6_149 pl_X6 rfl rfl dX6_clear_7 (fun d2 ed2 => ?_)
  have hf := bd_e hf d2 ed2
  refine V_iload_n 0 hC dX6_clear_10 rfl rfl ?_
  obtain ⟨rfl, rfl⟩ := so_inj2 hf
  exact V_iret hC hr hQ hA dX6_clear_11
def t_X6_leadsTo_45 (L : Nat → Nat) (d : Dt) (p1 : Int32) (p2 : Int32) (k5 : Int32 → Int32 → Option (Int32)) (x4 : Int32) (s0 : Int32)  : Option (Int32) := k5 s0 (x4 + 1)
set_option maxRecDepth 20000 in
theorem b_X6_leadsTo_45 {K : Kx} {Y : Yx} {z : Sh} {d : Dt} (hC : CK K Y cX6_leadsTo 5 RX6 3 69) (hr : (kme K).sig.returnType = some .boolean) (hA : kA K = aY Y z) {p1 : Int32} {p2 : Int32} (ho : (0, 0, 5) ∈ yI Y) {r : Int32} (hQ : kQ K = MQ (kb K) (QM Y z (some (.int r)) d) (ka K) (ks K) 0 0 (aY Y z)) {k5 : Int32 → Int32 → Option (Int32)} (hk5 : ∀ (x3 : Int32) (x4 : Int32) , k5 x3 x4  = some r → V K Y 5 0 0 z d 5 [(0, .ref (yo Y 0)), (1, .int p1), (2, .int p2), (3, .int x3), (4, .int x4)] []) (x4 : Int32) (s0 : Int32)  (hf : t_X6_leadsTo_45 z.1 d p1 p2 k5 x4 s0  = some r) : V K Y 5 0 0 z d 45 [(0, .ref (yo Y 0)), (1, .int p1), (2, .int p2), (4, .int x4)] [.int s0] := by
  have hL := hC.2.2.2.2.2.2.1
  unfold t_X6_leadsTo_45 at hf
  refine V_istore_n (lv' := [(3, .int s0), (0, .ref (yo Y 0)), (1, .int p1), (2, .int p2), (4, .int x4)]) hC dX6_leadsTo_45 rfl (by decide) rfl ?_
  refine V_iinc (v := x4 + 1) (lv' := [(4, .int (x4 + 1)), (3, .int s0), (0, .ref (yo Y 0)), (1, .int p1), (2, .int p2)]) 4 hC dX6_leadsTo_46 rfl rfl (by decide) rfl ?_
  refine V_goto (tgt := 5) hC dX6_leadsTo_49 (by decide) ?_
  exact V_sub [2, 3, 4, 1, 0] rfl (hk5 s0 (x4 + 1) hf)
def t_X6_leadsTo_44 (L : Nat → Nat) (d : Dt) (p1 : Int32) (p2 : Int32) (k5 : Int32 → Int32 → Option (Int32)) (x4 : Int32)  : Option (Int32) := t_X6_leadsTo_45 L d p1 p2 k5 x4 0
set_option maxRecDepth 20000 in
theorem b_X6_leadsTo_44 {K : Kx} {Y : Yx} {z : Sh} {d : Dt} (hC : CK K Y cX6_leadsTo 5 RX6 3 69) (hr : (kme K).sig.returnType = some .boolean) (hA : kA K = aY Y z) {p1 : Int32} {p2 : Int32} (ho : (0, 0, 5) ∈ yI Y) {r : Int32} (hQ : kQ K = MQ (kb K) (QM Y z (some (.int r)) d) (ka K) (ks K) 0 0 (aY Y z)) {k5 : Int32 → Int32 → Option (Int32)} (hk5 : ∀ (x3 : Int32) (x4 : Int32) , k5 x3 x4  = some r → V K Y 5 0 0 z d 5 [(0, .ref (yo Y 0)), (1, .int p1), (2, .int p2), (3, .int x3), (4, .int x4)] []) (x4 : Int32)  (hf : t_X6_leadsTo_44 z.1 d p1 p2 k5 x4  = some r) : V K Y 5 0 0 z d 44 [(0, .ref (yo Y 0)), (1, .int p1), (2, .int p2), (4, .int x4)] [] := by
  have hL := hC.2.2.2.2.2.2.1
  unfold t_X6_leadsTo_44 at hf
  refine V_iconst (v := 0) hC dX6_leadsTo_44 rfl ?_
  exact b_X6_leadsTo_45 hC hr hA ho hQ hk5 x4 0 hf
def t_X6_leadsTo_40 (L : Nat → Nat) (d : Dt) (p1 : Int32) (p2 : Int32) (k5 : Int32 → Int32 → Option (Int32)) (x4 : Int32)  : Option (Int32) := t_X6_leadsTo_45 L d p1 p2 k5 x4 1
set_option maxRecDepth 20000 in
theorem b_X6_leadsTo_40 {K : Kx} {Y : Yx} {z : Sh} {d : Dt} (hC : CK K Y cX6_leadsTo 5 RX6 3 69) (hr : (kme K).sig.returnType = some .boolean) (hA : kA K = aY Y z) {p1 : Int32} {p2 : Int32} (ho : (0, 0, 5) ∈ yI Y) {r : Int32} (hQ : kQ K = MQ (kb K) (QM Y z (some (.int r)) d) (ka K) (ks K) 0 0 (aY Y z)) {k5 : Int32 → Int32 → Option (Int32)} (hk5 : ∀ (x3 : Int32) (x4 : Int32) , k5 x3 x4  = some r → V K Y 5 0 0 z d 5 [(0, .ref (yo Y 0)), (1, .int p1), (2, .int p2), (3, .int x3), (4, .int x4)] []) (x4 : Int32)  (hf : t_X6_leadsTo_40 z.1 d p1 p2 k5 x4  = some r) : V K Y 5 0 0 z d 40 [(0, .ref (yo Y 0)), (1, .int p1), (2, .int p2), (4, .int x4)] [] := by
  have hL := hC.2.2.2.2.2.2.1
  unfold t_X6_leadsTo_40 at hf
  refine V_iconst (v := 1) hC dX6_leadsTo_40 rfl ?_
  refine V_goto (tgt := 45) hC dX6_leadsTo_41 (by decide) ?_
  exact b_X6_leadsTo_45 hC hr hA ho hQ hk5 x4 1 hf
def t_X6_leadsTo_5 (L : Nat → Nat) (d : Dt) (p1 : Int32) (p2 : Int32) (k5 : Int32 → Int32 → Option (Int32)) (x3 : Int32) (x4 : Int32)  : Option (Int32) := (t_X6_waysOf L d p1).bind (fun v1 => if v1 ≤ x4 then gd (isB x3) (some x3) else if x3 = 0 then (t_X6_isWay L d p1 x4).bind (fun v5 => if v5 = 0 then t_X6_leadsTo_44 L d p1 p2 k5 x4 else (t_X6_goalOf L d p1 x4).bind (fun v7 => if v7 = p2 then t_X6_leadsTo_40 L d p1 p2 k5 x4 else t_X6_leadsTo_44 L d p1 p2 k5 x4)) else t_X6_leadsTo_40 L d p1 p2 k5 x4)
set_option maxRecDepth 20000 in
theorem b_X6_leadsTo_5 {K : Kx} {Y : Yx} {z : Sh} {d : Dt} (hC : CK K Y cX6_leadsTo 5 RX6 3 69) (hr : (kme K).sig.returnType = some .boolean) (hA : kA K = aY Y z) {p1 : Int32} {p2 : Int32} (ho : (0, 0, 5) ∈ yI Y) {r : Int32} (hQ : kQ K = MQ (kb K) (QM Y z (some (.int r)) d) (ka K) (ks K) 0 0 (aY Y z)) {k5 : Int32 → Int32 → Option (Int32)} (hk5 : ∀ (x3 : Int32) (x4 : Int32) , k5 x3 x4  = some r → V K Y 5 0 0 z d 5 [(0, .ref (yo Y 0)), (1, .int p1), (2, .int p2), (3, .int x3), (4, .int x4)] []) (x3 : Int32) (x4 : Int32)  (hf : t_X6_leadsTo_5 z.1 d p1 p2 k5 x3 x4  = some r) : V K Y 5 0 0 z d 5 [(0, .ref (yo Y 0)), (1, .int p1), (2, .int p2), (3, .int x3), (4, .int x4)] [] := by
  have hL := hC.2.2.2.2.2.2.1
  have hkn : 0 ≤ (kR K).cells ∧ 0 ≤ (kR K).slots := ⟨Nat.zero_le _, Nat.zero_le _⟩
  unfold t_X6_leadsTo_5 at hf
  refine V_iload 4 hC dX6_leadsTo_5 rfl ?_
  refine V_aload_n 0 hC dX6_leadsTo_7 rfl rfl ?_
  refine V_iload_n 1 hC dX6_leadsTo_8 rfl rfl ?_
  obtain ⟨v1, ev1, hf⟩ := bi_some hf
  refine V_invi (o := 0) (As := [.int p1]) (rest := [.int x4]) hC (c_X6_waysOf hL ho ev1) me_X6_waysOf lk_X6_212 ho rfl rfl rfl (Nat.le_of_ble_eq_true rfl) ⟨by decide, by decide⟩ hkn dX6_leadsTo_9 ?_
  refine V_icmp_ge (tgt := 52) hC dX6_leadsTo_12 (by decide) (fun c2 => ?_) (fun c2 => ?_)
  · have hf := if_t hf c2
    refine V_iload_n 3 hC dX6_leadsTo_52 rfl rfl ?_
    obtain ⟨g3, hf⟩ := gd_some hf
    obtain rfl := so_inj hf
    exact V_zret hC hr (nar_b g3) hQ hA dX6_leadsTo_53
  · have hf := if_f hf c2
    refine V_iload_n 3 hC dX6_leadsTo_15 rfl rfl ?_
    refine V_if_ne (tgt := 40) hC dX6_leadsTo_16 (by decide) (fun c4 => ?_) (fun c4 => ?_)
    · have hf := if_f hf c4
      exact V_sub [0, 1, 2, 4] rfl (b_X6_leadsTo_40 hC hr hA ho hQ hk5 x4 hf)
    · have hf := if_t hf c4
      refine V_aload_n 0 hC dX6_leadsTo_19 rfl rfl ?_
      refine V_iload_n 1 hC dX6_leadsTo_20 rfl rfl ?_
      refine V_iload 4 hC dX6_leadsTo_21 rfl ?_
      obtain ⟨v5, ev5, hf⟩ := bi_some hf
      refine V_invi (o := 0) (As := [.int p1, .int x4]) (rest := []) hC (c_X6_isWay hL ho ev5) me_X6_isWay lk_X6_215 ho rfl rfl rfl (Nat.le_of_ble_eq_true rfl) ⟨by decide, by decide⟩ hkn dX6_leadsTo_23 ?_
      refine V_if_eq (tgt := 44) hC dX6_leadsTo_26 (by decide) (fun c6 => ?_) (fun c6 => ?_)
      · have hf := if_t hf c6
        exact V_sub [0, 1, 2, 4] rfl (b_X6_leadsTo_44 hC hr hA ho hQ hk5 x4 hf)
      · have hf := if_f hf c6
        refine V_aload_n 0 hC dX6_leadsTo_29 rfl rfl ?_
        refine V_iload_n 1 hC dX6_leadsTo_30 rfl rfl ?_
        refine V_iload 4 hC dX6_leadsTo_31 rfl ?_
        obtain ⟨v7, ev7, hf⟩ := bi_some hf
        refine V_invi (o := 0) (As := [.int p1, .int x4]) (rest := []) hC (c_X6_goalOf hL ho ev7) me_X6_goalOf lk_X6_203 ho rfl rfl rfl (Nat.le_of_ble_eq_true rfl) ⟨by decide, by decide⟩ hkn dX6_leadsTo_33 ?_
        refine V_iload_n 2 hC dX6_leadsTo_36 rfl rfl ?_
        refine V_icmp_ne (tgt := 44) hC dX6_leadsTo_37 (by decide) (fun c8 => ?_) (fun c8 => ?_)
        · have hf := if_f hf c8
          exact V_sub [0, 1, 2, 4] rfl (b_X6_leadsTo_44 hC hr hA ho hQ hk5 x4 hf)
        · have hf := if_t hf c8
          exact V_sub [0, 1, 2, 4] rfl (b_X6_leadsTo_40 hC hr hA ho hQ hk5 x4 hf)
def t_X6_leadsTo (L : Nat → Nat) (d : Dt) (p1 : Int32) (p2 : Int32) : Option (Int32) := lp (fun k x => t_X6_leadsTo_5 L d p1 p2  (fun x3 x4 => k (x3, x4)) x.1 x.2) FU (0, 0)
set_option maxRecDepth 20000 in
theorem c_X6_leadsTo {l : Launch} {Y : Yx} (hL : LAY Y) {z : Sh} {d : Dt} {p1 : Int32} {p2 : Int32} (ho : (0, 0, 5) ∈ yI Y) {r : Int32} (hf : t_X6_leadsTo z.1 d p1 p2 = some r) : MM l yX6_leadsTo cX6_leadsTo 5 (some .boolean) 3 69 Y z [.ref (yo Y 0), .int p1, .int p2] d (some (.int r)) d := by
  refine MM.ofV (by decide +kernel) hL (Nat.le_of_ble_eq_true rfl) (fun K hl hC hr hQ hA => ?_)
  have hC : CK K Y cX6_leadsTo 5 RX6 3 69 := hC
  unfold t_X6_leadsTo at hf
  show V K Y 5 0 0 z d 0 [(0, .ref (yo Y 0)), (1, .int p1), (2, .int p2)] []
  refine V_iconst (v := 0) hC dX6_leadsTo_0 rfl ?_
  refine V_istore_n (lv' := [(3, .int 0), (0, .ref (yo Y 0)), (1, .int p1), (2, .int p2)]) hC dX6_leadsTo_1 rfl (by decide) rfl ?_
  refine V_iconst (v := 0) hC dX6_leadsTo_2 rfl ?_
  refine V_istore (lv' := [(4, .int 0), (3, .int 0), (0, .ref (yo Y 0)), (1, .int p1), (2, .int p2)]) hC dX6_leadsTo_3 (by decide) rfl ?_
  exact V_sub [2, 3, 4, 1, 0] rfl (lp_ind (X := Int32 × Int32) (P := fun x => V K Y 5 0 0 z d 5 [(0, .ref (yo Y 0)), (1, .int p1), (2, .int p2), (3, .int x.1), (4, .int x.2)] []) (fun k x hk hx => b_X6_leadsTo_5 hC hr hA ho hQ  (k5 := fun x3 x4 => k (x3, x4)) (fun x3 x4 hx => hk (x3, x4) hx) x.1 x.2 hx) FU (0, 0) hf)
def t_X6_judge_97 (L : Nat → Nat) (k5 : Int32 → Int32 → (Dt) → Option (Int32 × Dt)) (x2 : Int32) (s0 : Int32) (d : Dt) : Option (Int32 × Dt) := k5 s0 (x2 + 1) d
set_option maxRecDepth 20000 in
theorem b_X6_judge_97 {K : Kx} {Y : Yx} {z : Sh}  (hC : CK K Y cX6_judge 4 RX6 5 113) (hr : (kme K).sig.returnType = some .int) (hA : kA K = aY Y z)  (ho : (0, 0, 5) ∈ yI Y) {r : Int32} {d' : Dt} (hQ : kQ K = MQ (kb K) (QM Y z (some (.int r)) d') (ka K) (ks K) 0 0 (aY Y z)) {k5 : Int32 → Int32 → (Dt) → Option (Int32 × Dt)} (hk5 : ∀ (x1 : Int32) (x2 : Int32) (d : Dt), k5 x1 x2 d = some (r, d') → V K Y 4 0 0 z d 5 [(0, .ref (yo Y 0)), (1, .int x1), (2, .int x2)] []) (x2 : Int32) (s0 : Int32) (d : Dt) (hf : t_X6_judge_97 z.1 k5 x2 s0 d = some (r, d')) : V K Y 4 0 0 z d 97 [(0, .ref (yo Y 0)), (2, .int x2)] [.int s0] := by
  have hL := hC.2.2.2.2.2.2.1
  unfold t_X6_judge_97 at hf
  refine V_istore_n (lv' := [(1, .int s0), (0, .ref (yo Y 0)), (2, .int x2)]) hC dX6_judge_97 rfl (by decide) rfl ?_
  refine V_iinc (v := x2 + 1) (lv' := [(2, .int (x2 + 1)), (1, .int s0), (0, .ref (yo Y 0))]) 2 hC dX6_judge_98 rfl rfl (by decide) rfl ?_
  refine V_goto (tgt := 5) hC dX6_judge_101 (by decide) ?_
  exact V_sub [2, 1, 0] rfl (hk5 s0 (x2 + 1) d hf)
def t_X6_judge_65 (L : Nat → Nat) (k5 : Int32 → Int32 → (Dt) → Option (Int32 × Dt)) (x1 : Int32) (x2 : Int32) (x3 : Int32) (d : Dt) : Option (Int32 × Dt) := if x2 = 0 then gd (inb 1 (L (32 * 0 + 0))) ((t_X6_stateAt L d 0 0 (gA d (32 * 0 + 0) (ix 1))).bind (fun q19 => t_X6_judge_97 L k5 x2 q19.1 q19.2)) else (t_X6_thingsOf L d x1).bind (fun v15 => (t_X6_healthOf L d x1).bind (fun v16 => (t_X6_stateAt L d x3 v15 v16).bind (fun q17 => t_X6_judge_97 L k5 x2 q17.1 q17.2)))
set_option maxRecDepth 20000 in
theorem b_X6_judge_65 {K : Kx} {Y : Yx} {z : Sh}  (hC : CK K Y cX6_judge 4 RX6 5 113) (hr : (kme K).sig.returnType = some .int) (hA : kA K = aY Y z)  (ho : (0, 0, 5) ∈ yI Y) {r : Int32} {d' : Dt} (hQ : kQ K = MQ (kb K) (QM Y z (some (.int r)) d') (ka K) (ks K) 0 0 (aY Y z)) {k5 : Int32 → Int32 → (Dt) → Option (Int32 × Dt)} (hk5 : ∀ (x1 : Int32) (x2 : Int32) (d : Dt), k5 x1 x2 d = some (r, d') → V K Y 4 0 0 z d 5 [(0, .ref (yo Y 0)), (1, .int x1), (2, .int x2)] []) (x1 : Int32) (x2 : Int32) (x3 : Int32) (d : Dt) (hf : t_X6_judge_65 z.1 k5 x1 x2 x3 d = some (r, d')) : V K Y 4 0 0 z d 65 [(0, .ref (yo Y 0)), (1, .int x1), (2, .int x2), (3, .int x3)] [] := by
  have hL := hC.2.2.2.2.2.2.1
  have hkn : 0 ≤ (kR K).cells ∧ 0 ≤ (kR K).slots := ⟨Nat.zero_le _, Nat.zero_le _⟩
  unfold t_X6_judge_65 at hf
  refine V_iload_n 2 hC dX6_judge_65 rfl rfl ?_
  refine V_if_ne (tgt := 84) hC dX6_judge_66 (by decide) (fun c14 => ?_) (fun c14 => ?_)
  · have hf := if_f hf c14
    refine V_aload_n 0 hC dX6_judge_84 rfl rfl ?_
    refine V_iload_n 3 hC dX6_judge_85 rfl rfl ?_
    refine V_iload_n 1 hC dX6_judge_86 rfl rfl ?_
    obtain ⟨v15, ev15, hf⟩ := bi_some hf
    refine V_insi (As := [.int x1]) (rest := [.int x3, .ref (yo Y 0)]) hC (c_X6_thingsOf hL  ev15) me_X6_thingsOf lk_X6_197 rfl rfl (Nat.le_of_ble_eq_true rfl) ⟨by decide, by decide⟩ hkn dX6_judge_87 ?_
    refine V_iload_n 1 hC dX6_judge_90 rfl rfl ?_
    obtain ⟨v16, ev16, hf⟩ := bi_some hf
    refine V_insi (As := [.int x1]) (rest := [.int v15, .int x3, .ref (yo Y 0)]) hC (c_X6_healthOf hL  ev16) me_X6_healthOf lk_X6_206 rfl rfl (Nat.le_of_ble_eq_true rfl) ⟨by decide, by decide⟩ hkn dX6_judge_91 ?_
    obtain ⟨q17, eq17, hf⟩ := bi_some hf
    refine V_invi (o := 0) (As := [.int x3, .int v15, .int v16]) (rest := []) hC (c_X6_stateAt hL ho eq17) me_X6_stateAt lk_X6_209 ho rfl rfl rfl (Nat.le_of_ble_eq_true rfl) ⟨by decide, by decide⟩ hkn dX6_judge_94 ?_
    exact V_sub [0, 2] rfl (b_X6_judge_97 hC hr hA ho hQ hk5 x2 q17.1 q17.2 hf)
  · have hf := if_t hf c14
    refine V_aload_n 0 hC dX6_judge_69 rfl rfl ?_
    refine V_iconst (v := 0) hC dX6_judge_70 rfl ?_
    refine V_iconst (v := 0) hC dX6_judge_71 rfl ?_
    refine V_aload_n 0 hC dX6_judge_72 rfl rfl ?_
    refine V_geta (o := 0) hC ho rfl fk_X6_7 dX6_judge_73 ?_
    refine V_iconst (v := 1) hC dX6_judge_76 rfl ?_
    obtain ⟨g18, hf⟩ := gd_some hf
    refine V_iald (a := (32 * 0 + 0)) hC (hL.row ho rfl) g18 dX6_judge_77 ?_
    obtain ⟨q19, eq19, hf⟩ := bi_some hf
    refine V_invi (o := 0) (As := [.int 0, .int 0, .int (gA d (32 * 0 + 0) (ix 1))]) (rest := []) hC (c_X6_stateAt hL ho eq19) me_X6_stateAt lk_X6_209 ho rfl rfl rfl (Nat.le_of_ble_eq_true rfl) ⟨by decide, by decide⟩ hkn dX6_judge_78 ?_
    refine V_goto (tgt := 97) hC dX6_judge_81 (by decide) ?_
    exact V_sub [0, 2] rfl (b_X6_judge_97 hC hr hA ho hQ hk5 x2 q19.1 q19.2 hf)
def t_X6_judge_5 (L : Nat → Nat) (k5 : Int32 → Int32 → (Dt) → Option (Int32 × Dt)) (x1 : Int32) (x2 : Int32) (d : Dt) : Option (Int32 × Dt) := if (gF d 0 23) ≤ x2 then some ((-1), d) else gd (inb x2 (L (32 * 0 + 24))) (bd (gA d (32 * 0 + 24) (ix x2)) (fun y4 => if x2 = 0 then if y4 = 0 then gd (inb 0 (L (32 * 0 + 0))) (if (gA d (32 * 0 + 0) (ix 0)) = 0 then some (x2, d) else t_X6_judge_65 L k5 x1 x2 y4 d) else some (x2, d) else if x1 = (-2) then some (x2, d) else (t_X6_standsAt L d x1).bind (fun v7 => if v7 = 0 then (t_X6_leadsTo L d x1 y4).bind (fun v9 => if v9 = 0 then some (x2, d) else t_X6_judge_65 L k5 x1 x2 y4 d) else some (x2, d))))
set_option maxRecDepth 20000 in
theorem b_X6_judge_5 {K : Kx} {Y : Yx} {z : Sh}  (hC : CK K Y cX6_judge 4 RX6 5 113) (hr : (kme K).sig.returnType = some .int) (hA : kA K = aY Y z)  (ho : (0, 0, 5) ∈ yI Y) {r : Int32} {d' : Dt} (hQ : kQ K = MQ (kb K) (QM Y z (some (.int r)) d') (ka K) (ks K) 0 0 (aY Y z)) {k5 : Int32 → Int32 → (Dt) → Option (Int32 × Dt)} (hk5 : ∀ (x1 : Int32) (x2 : Int32) (d : Dt), k5 x1 x2 d = some (r, d') → V K Y 4 0 0 z d 5 [(0, .ref (yo Y 0)), (1, .int x1), (2, .int x2)] []) (x1 : Int32) (x2 : Int32) (d : Dt) (hf : t_X6_judge_5 z.1 k5 x1 x2 d = some (r, d')) : V K Y 4 0 0 z d 5 [(0, .ref (yo Y 0)), (1, .int x1), (2, .int x2)] [] := by
  have hL := hC.2.2.2.2.2.2.1
  have hkn : 0 ≤ (kR K).cells ∧ 0 ≤ (kR K).slots := ⟨Nat.zero_le _, Nat.zero_le _⟩
  unfold t_X6_judge_5 at hf
  refine V_iload_n 2 hC dX6_judge_5 rfl rfl ?_
  refine V_aload_n 0 hC dX6_judge_6 rfl rfl ?_
  refine V_geti (o := 0) hC ho rfl fk_X6_149 dX6_judge_7 ?_
  refine V_icmp_ge (tgt := 104) hC dX6_judge_10 (by decide) (fun c2 => ?_) (fun c2 => ?_)
  · have hf := if_t hf c2
    refine V_iconst (v := -1) hC dX6_judge_104 rfl ?_
    obtain ⟨rfl, rfl⟩ := so_inj2 hf
    exact V_iret hC hr hQ hA dX6_judge_105
  · have hf := if_f hf c2
    refine V_aload_n 0 hC dX6_judge_13 rfl rfl ?_
    refine V_geta (o := 0) hC ho rfl fk_X6_46 dX6_judge_14 ?_
    refine V_iload_n 2 hC dX6_judge_17 rfl rfl ?_
    obtain ⟨g3, hf⟩ := gd_some hf
    refine V_iald (a := (32 * 0 + 24)) hC (hL.row ho rfl) g3 dX6_judge_18 ?_
    refine V_topi (fun y4 ey4 => ?_)
    have hf := bd_e hf y4 ey4
    refine V_istore_n (lv' := [(3, .int y4), (0, .ref (yo Y 0)), (1, .int x1), (2, .int x2)]) hC dX6_judge_19 rfl (by decide) rfl ?_
    refine V_iload_n 3 hC dX6_judge_20 rfl rfl ?_
    refine V_if_ne (tgt := 40) hC dX6_judge_21 (by decide) (fun c5 => ?_) (fun c5 => ?_)
    · have hf := if_f hf c5
      refine V_iload_n 2 hC dX6_judge_40 rfl rfl ?_
      refine V_bipush (v := -2) hC dX6_judge_41 rfl ?_
      refine V_icmp_eq (tgt := 63) hC dX6_judge_43 (by decide) (fun c6 => ?_) (fun c6 => ?_)
      · have hf := if_t hf c6
        refine V_iload_n 3 hC dX6_judge_63 rfl rfl ?_
        obtain ⟨rfl, rfl⟩ := so_inj2 hf
        exact V_iret hC hr hQ hA dX6_judge_64
      · have hf := if_f hf c6
        refine V_aload_n 1 hC dX6_judge_46 rfl rfl ?_
        refine V_iload_n 2 hC dX6_judge_47 rfl rfl ?_
        obtain ⟨v7, ev7, hf⟩ := bi_some hf
        refine V_invi (o := 0) (As := [.int x1]) (rest := []) hC (c_X6_standsAt hL ho ev7) me_X6_standsAt lk_X6_228 ho rfl rfl rfl (Nat.le_of_ble_eq_true rfl) ⟨by decide, by decide⟩ hkn dX6_judge_48 ?_
        refine V_if_ne (tgt := 63) hC dX6_judge_51 (by decide) (fun c8 => ?_) (fun c8 => ?_)
        · have hf := if_f hf c8
          refine V_iload_n 3 hC dX6_judge_63 rfl rfl ?_
          obtain ⟨rfl, rfl⟩ := so_inj2 hf
          exact V_iret hC hr hQ hA dX6_judge_64
        · have hf := if_t hf c8
          refine V_aload_n 1 hC dX6_judge_54 rfl rfl ?_
          refine V_iload_n 2 hC dX6_judge_55 rfl rfl ?_
          refine V_iload_n 0 hC dX6_judge_56 rfl rfl ?_
          obtain ⟨v9, ev9, hf⟩ := bi_some hf
          refine V_invi (o := 0) (As := [.int x1, .int y4]) (rest := []) hC (c_X6_leadsTo hL ho ev9) me_X6_leadsTo lk_X6_316 ho rfl rfl rfl (Nat.le_of_ble_eq_true rfl) ⟨by decide, by decide⟩ hkn dX6_judge_57 ?_
          refine V_if_ne (tgt := 65) hC dX6_judge_60 (by decide) (fun c10 => ?_) (fun c10 => ?_)
          · have hf := if_f hf c10
            exact V_sub [1, 2, 3, 0] rfl (b_X6_judge_65 hC hr hA ho hQ hk5 x1 x2 y4 d hf)
          · have hf := if_t hf c10
            refine V_iload_n 3 hC dX6_judge_63 rfl rfl ?_
            obtain ⟨rfl, rfl⟩ := so_inj2 hf
            exact V_iret hC hr hQ hA dX6_judge_64
    · have hf := if_t hf c5
      refine V_iload_n 0 hC dX6_judge_24 rfl rfl ?_
      refine V_if_ne (tgt := 63) hC dX6_judge_25 (by decide) (fun c11 => ?_) (fun c11 => ?_)
      · have hf := if_f hf c11
        refine V_iload_n 3 hC dX6_judge_63 rfl rfl ?_
        obtain ⟨rfl, rfl⟩ := so_inj2 hf
        exact V_iret hC hr hQ hA dX6_judge_64
      · have hf := if_t hf c11
        refine V_aload_n 1 hC dX6_judge_28 rfl rfl ?_
        refine V_geta (o := 0) hC ho rfl fk_X6_7 dX6_judge_29 ?_
        refine V_iconst (v := 0) hC dX6_judge_32 rfl ?_
        obtain ⟨g12, hf⟩ := gd_some hf
        refine V_iald (a := (32 * 0 + 0)) hC (hL.row ho rfl) g12 dX6_judge_33 ?_
        refine V_if_ne (tgt := 65) hC dX6_judge_34 (by decide) (fun c13 => ?_) (fun c13 => ?_)
        · have hf := if_f hf c13
          exact V_sub [1, 2, 3, 0] rfl (b_X6_judge_65 hC hr hA ho hQ hk5 x1 x2 y4 d hf)
        · have hf := if_t hf c13
          refine V_goto (tgt := 63) hC dX6_judge_37 (by decide) ?_
          refine V_iload_n 3 hC dX6_judge_63 rfl rfl ?_
          obtain ⟨rfl, rfl⟩ := so_inj2 hf
          exact V_iret hC hr hQ hA dX6_judge_64
def t_X6_judge (L : Nat → Nat) (d : Dt)  : Option (Int32 × Dt) := bd (-2) (fun y1 => lp (fun k x => t_X6_judge_5 L  (fun x1 x2 d => k (x1, x2, d)) x.1 x.2.1 x.2.2) FU (y1, 0, d))
set_option maxRecDepth 20000 in
theorem c_X6_judge {l : Launch} {Y : Yx} (hL : LAY Y) {z : Sh} {d : Dt}  (ho : (0, 0, 5) ∈ yI Y) {r : Int32} {d' : Dt} (hf : t_X6_judge z.1 d  = some (r, d')) : MM l yX6_judge cX6_judge 4 (some .int) 5 113 Y z [.ref (yo Y 0)] d (some (.int r)) d' := by
  refine MM.ofV (by decide +kernel) hL (Nat.le_of_ble_eq_true rfl) (fun K hl hC hr hQ hA => ?_)
  have hC : CK K Y cX6_judge 4 RX6 5 113 := hC
  unfold t_X6_judge at hf
  show V K Y 4 0 0 z d 0 [(0, .ref (yo Y 0))] []
  refine V_bipush (v := -2) hC dX6_judge_0 rfl ?_
  refine V_topi (fun y1 ey1 => ?_)
  have hf := bd_e hf y1 ey1
  refine V_istore_n (lv' := [(1, .int y1), (0, .ref (yo Y 0))]) hC dX6_judge_2 rfl (by decide) rfl ?_
  refine V_iconst (v := 0) hC dX6_judge_3 rfl ?_
  refine V_istore_n (lv' := [(2, .int 0), (1, .int y1), (0, .ref (yo Y 0))]) hC dX6_judge_4 rfl (by decide) rfl ?_
  exact V_sub [2, 1, 0] rfl (lp_ind (X := Int32 × Int32 × Dt) (P := fun x => V K Y 4 0 0 z x.2.2 5 [(0, .ref (yo Y 0)), (1, .int x.1), (2, .int x.2.1)] []) (fun k x hk hx => b_X6_judge_5 hC hr hA ho hQ  (k5 := fun x1 x2 d => k (x1, x2, d)) (fun x1 x2 d hx => hk (x1, x2, d) hx) x.1 x.2.1 x.2.2 hx) FU (y1, 0, d) hf)
def t_X6_number (L : Nat → Nat) (d : Dt) (p1 : Int32) : Option (Int32) := (t_X6_noPart L d p1).bind (fun v1 => if v1 = 0 then gd (inb (152 + p1) (L (32 * 0 + 0))) (some (gA d (32 * 0 + 0) (ix (152 + p1)))) else some (-1000001))
set_option maxRecDepth 20000 in
theorem c_X6_number {l : Launch} {Y : Yx} (hL : LAY Y) {z : Sh} {d : Dt} {p1 : Int32} (ho : (0, 0, 5) ∈ yI Y) {r : Int32} (hf : t_X6_number z.1 d p1 = some r) : MM l yX6_number cX6_number 2 (some .int) 2 46 Y z [.ref (yo Y 0), .int p1] d (some (.int r)) d := by
  refine MM.ofV (by decide +kernel) hL (Nat.le_of_ble_eq_true rfl) (fun K hl hC hr hQ hA => ?_)
  have hC : CK K Y cX6_number 2 RX6 2 46 := hC
  have hkn : 0 ≤ (kR K).cells ∧ 0 ≤ (kR K).slots := ⟨Nat.zero_le _, Nat.zero_le _⟩
  unfold t_X6_number at hf
  show V K Y 2 0 0 z d 0 [(0, .ref (yo Y 0)), (1, .int p1)] []
  refine V_aload_n 0 hC dX6_number_0 rfl rfl ?_
  refine V_iload_n 1 hC dX6_number_1 rfl rfl ?_
  obtain ⟨v1, ev1, hf⟩ := bi_some hf
  refine V_invi (o := 0) (As := [.int p1]) (rest := []) hC (c_X6_noPart hL ho ev1) me_X6_noPart lk_X6_152 ho rfl rfl rfl (Nat.le_of_ble_eq_true rfl) ⟨by decide, by decide⟩ hkn dX6_number_2 ?_
  refine V_if_eq (tgt := 13) hC dX6_number_5 (by decide) (fun c2 => ?_) (fun c2 => ?_)
  · have hf := if_t hf c2
    refine V_aload_n 0 hC dX6_number_13 rfl rfl ?_
    refine V_geta (o := 0) hC ho rfl fk_X6_7 dX6_number_14 ?_
    refine V_sipush (v := 152) hC dX6_number_17 rfl ?_
    refine V_iload_n 1 hC dX6_number_20 rfl rfl ?_
    refine V_iadd hC dX6_number_21 ?_
    obtain ⟨g3, hf⟩ := gd_some hf
    refine V_iald (a := (32 * 0 + 0)) hC (hL.row ho rfl) g3 dX6_number_22 ?_
    obtain rfl := so_inj hf
    exact V_iret hC hr hQ hA dX6_number_23
  · have hf := if_f hf c2
    refine V_ldc hC ck_X6_156 dX6_number_8 ?_
    refine V_goto (tgt := 23) hC dX6_number_10 (by decide) ?_
    obtain rfl := so_inj hf
    exact V_iret hC hr hQ hA dX6_number_23
def t_X6_leads_92 (L : Nat → Nat) (d : Dt) (p1 : Int32) (p2 : Int32) (k49 : Int32 → Int32 → Option (Int32)) (x4 : Int32) (s0 : Int32)  : Option (Int32) := k49 s0 (x4 + 1)
set_option maxRecDepth 20000 in
theorem b_X6_leads_92 {K : Kx} {Y : Yx} {z : Sh} {d : Dt} (hC : CK K Y cX6_leads 5 RX6 0 0) (hr : (kme K).sig.returnType = some .boolean) (hA : kA K = aY Y z) {p1 : Int32} {p2 : Int32} (ho : (0, 0, 5) ∈ yI Y) {r : Int32} (hQ : kQ K = MQ (kb K) (QM Y z (some (.int r)) d) (ka K) (ks K) 0 0 (aY Y z)) {k49 : Int32 → Int32 → Option (Int32)} (hk49 : ∀ (x3 : Int32) (x4 : Int32) , k49 x3 x4  = some r → V K Y 5 0 0 z d 49 [(0, .ref (yo Y 0)), (1, .int p1), (2, .int p2), (3, .int x3), (4, .int x4)] []) (x4 : Int32) (s0 : Int32)  (hf : t_X6_leads_92 z.1 d p1 p2 k49 x4 s0  = some r) : V K Y 5 0 0 z d 92 [(0, .ref (yo Y 0)), (1, .int p1), (2, .int p2), (4, .int x4)] [.int s0] := by
  have hL := hC.2.2.2.2.2.2.1
  unfold t_X6_leads_92 at hf
  refine V_istore_n (lv' := [(3, .int s0), (0, .ref (yo Y 0)), (1, .int p1), (2, .int p2), (4, .int x4)]) hC dX6_leads_92 rfl (by decide) rfl ?_
  refine V_iinc (v := x4 + 1) (lv' := [(4, .int (x4 + 1)), (3, .int s0), (0, .ref (yo Y 0)), (1, .int p1), (2, .int p2)]) 4 hC dX6_leads_93 rfl rfl (by decide) rfl ?_
  refine V_goto (tgt := 49) hC dX6_leads_96 (by decide) ?_
  exact V_sub [2, 3, 4, 1, 0] rfl (hk49 s0 (x4 + 1) hf)
def t_X6_leads_87 (L : Nat → Nat) (d : Dt) (p1 : Int32) (p2 : Int32) (k49 : Int32 → Int32 → Option (Int32)) (x4 : Int32)  : Option (Int32) := t_X6_leads_92 L d p1 p2 k49 x4 1
set_option maxRecDepth 20000 in
theorem b_X6_leads_87 {K : Kx} {Y : Yx} {z : Sh} {d : Dt} (hC : CK K Y cX6_leads 5 RX6 0 0) (hr : (kme K).sig.returnType = some .boolean) (hA : kA K = aY Y z) {p1 : Int32} {p2 : Int32} (ho : (0, 0, 5) ∈ yI Y) {r : Int32} (hQ : kQ K = MQ (kb K) (QM Y z (some (.int r)) d) (ka K) (ks K) 0 0 (aY Y z)) {k49 : Int32 → Int32 → Option (Int32)} (hk49 : ∀ (x3 : Int32) (x4 : Int32) , k49 x3 x4  = some r → V K Y 5 0 0 z d 49 [(0, .ref (yo Y 0)), (1, .int p1), (2, .int p2), (3, .int x3), (4, .int x4)] []) (x4 : Int32)  (hf : t_X6_leads_87 z.1 d p1 p2 k49 x4  = some r) : V K Y 5 0 0 z d 87 [(0, .ref (yo Y 0)), (1, .int p1), (2, .int p2), (4, .int x4)] [] := by
  have hL := hC.2.2.2.2.2.2.1
  unfold t_X6_leads_87 at hf
  refine V_iconst (v := 1) hC dX6_leads_87 rfl ?_
  refine V_goto (tgt := 92) hC dX6_leads_88 (by decide) ?_
  exact b_X6_leads_92 hC hr hA ho hQ hk49 x4 1 hf
def t_X6_leads_49 (L : Nat → Nat) (d : Dt) (p1 : Int32) (p2 : Int32) (k49 : Int32 → Int32 → Option (Int32)) (x3 : Int32) (x4 : Int32)  : Option (Int32) := gd (inb (56 + p1) (L (32 * 0 + 0))) (if (gA d (32 * 0 + 0) (ix (56 + p1))) ≤ x4 then gd (isB x3) (some x3) else if x3 = 0 then gd (inb ((368 + (6 * p1)) + x4) (L (32 * 0 + 0))) (if (gA d (32 * 0 + 0) (ix ((368 + (6 * p1)) + x4))) = p2 then t_X6_leads_87 L d p1 p2 k49 x4 else t_X6_leads_92 L d p1 p2 k49 x4 0) else t_X6_leads_87 L d p1 p2 k49 x4)
set_option maxRecDepth 20000 in
theorem b_X6_leads_49 {K : Kx} {Y : Yx} {z : Sh} {d : Dt} (hC : CK K Y cX6_leads 5 RX6 0 0) (hr : (kme K).sig.returnType = some .boolean) (hA : kA K = aY Y z) {p1 : Int32} {p2 : Int32} (ho : (0, 0, 5) ∈ yI Y) {r : Int32} (hQ : kQ K = MQ (kb K) (QM Y z (some (.int r)) d) (ka K) (ks K) 0 0 (aY Y z)) {k49 : Int32 → Int32 → Option (Int32)} (hk49 : ∀ (x3 : Int32) (x4 : Int32) , k49 x3 x4  = some r → V K Y 5 0 0 z d 49 [(0, .ref (yo Y 0)), (1, .int p1), (2, .int p2), (3, .int x3), (4, .int x4)] []) (x3 : Int32) (x4 : Int32)  (hf : t_X6_leads_49 z.1 d p1 p2 k49 x3 x4  = some r) : V K Y 5 0 0 z d 49 [(0, .ref (yo Y 0)), (1, .int p1), (2, .int p2), (3, .int x3), (4, .int x4)] [] := by
  have hL := hC.2.2.2.2.2.2.1
  unfold t_X6_leads_49 at hf
  refine V_iload 4 hC dX6_leads_49 rfl ?_
  refine V_aload_n 0 hC dX6_leads_51 rfl rfl ?_
  refine V_geta (o := 0) hC ho rfl fk_X6_7 dX6_leads_52 ?_
  refine V_bipush (v := 56) hC dX6_leads_55 rfl ?_
  refine V_iload_n 1 hC dX6_leads_57 rfl rfl ?_
  refine V_iadd hC dX6_leads_58 ?_
  obtain ⟨g7, hf⟩ := gd_some hf
  refine V_iald (a := (32 * 0 + 0)) hC (hL.row ho rfl) g7 dX6_leads_59 ?_
  refine V_icmp_ge (tgt := 99) hC dX6_leads_60 (by decide) (fun c8 => ?_) (fun c8 => ?_)
  · have hf := if_t hf c8
    refine V_iload_n 3 hC dX6_leads_99 rfl rfl ?_
    obtain ⟨g9, hf⟩ := gd_some hf
    obtain rfl := so_inj hf
    exact V_zret hC hr (nar_b g9) hQ hA dX6_leads_100
  · have hf := if_f hf c8
    refine V_iload_n 3 hC dX6_leads_63 rfl rfl ?_
    refine V_if_ne (tgt := 87) hC dX6_leads_64 (by decide) (fun c10 => ?_) (fun c10 => ?_)
    · have hf := if_f hf c10
      exact V_sub [0, 1, 2, 4] rfl (b_X6_leads_87 hC hr hA ho hQ hk49 x4 hf)
    · have hf := if_t hf c10
      refine V_aload_n 0 hC dX6_leads_67 rfl rfl ?_
      refine V_geta (o := 0) hC ho rfl fk_X6_7 dX6_leads_68 ?_
      refine V_sipush (v := 368) hC dX6_leads_71 rfl ?_
      refine V_bipush (v := 6) hC dX6_leads_74 rfl ?_
      refine V_iload_n 1 hC dX6_leads_76 rfl rfl ?_
      refine V_imul hC dX6_leads_77 ?_
      refine V_iadd hC dX6_leads_78 ?_
      refine V_iload 4 hC dX6_leads_79 rfl ?_
      refine V_iadd hC dX6_leads_81 ?_
      obtain ⟨g11, hf⟩ := gd_some hf
      refine V_iald (a := (32 * 0 + 0)) hC (hL.row ho rfl) g11 dX6_leads_82 ?_
      refine V_iload_n 2 hC dX6_leads_83 rfl rfl ?_
      refine V_icmp_ne (tgt := 91) hC dX6_leads_84 (by decide) (fun c12 => ?_) (fun c12 => ?_)
      · have hf := if_f hf c12
        refine V_iconst (v := 0) hC dX6_leads_91 rfl ?_
        exact V_sub [0, 1, 2, 4] rfl (b_X6_leads_92 hC hr hA ho hQ hk49 x4 0 hf)
      · have hf := if_t hf c12
        exact V_sub [0, 1, 2, 4] rfl (b_X6_leads_87 hC hr hA ho hQ hk49 x4 hf)
def t_X6_leads_45 (L : Nat → Nat) (d : Dt) (p1 : Int32) (p2 : Int32)  (s0 : Int32)  : Option (Int32) := lp (fun k x => t_X6_leads_49 L d p1 p2  (fun x3 x4 => k (x3, x4)) x.1 x.2) FU (s0, 0)
set_option maxRecDepth 20000 in
theorem b_X6_leads_45 {K : Kx} {Y : Yx} {z : Sh} {d : Dt} (hC : CK K Y cX6_leads 5 RX6 0 0) (hr : (kme K).sig.returnType = some .boolean) (hA : kA K = aY Y z) {p1 : Int32} {p2 : Int32} (ho : (0, 0, 5) ∈ yI Y) {r : Int32} (hQ : kQ K = MQ (kb K) (QM Y z (some (.int r)) d) (ka K) (ks K) 0 0 (aY Y z))   (s0 : Int32)  (hf : t_X6_leads_45 z.1 d p1 p2  s0  = some r) : V K Y 5 0 0 z d 45 [(0, .ref (yo Y 0)), (1, .int p1), (2, .int p2)] [.int s0] := by
  have hL := hC.2.2.2.2.2.2.1
  unfold t_X6_leads_45 at hf
  refine V_istore_n (lv' := [(3, .int s0), (0, .ref (yo Y 0)), (1, .int p1), (2, .int p2)]) hC dX6_leads_45 rfl (by decide) rfl ?_
  refine V_iconst (v := 0) hC dX6_leads_46 rfl ?_
  refine V_istore (lv' := [(4, .int 0), (3, .int s0), (0, .ref (yo Y 0)), (1, .int p1), (2, .int p2)]) hC dX6_leads_47 (by decide) rfl ?_
  exact V_sub [2, 3, 4, 1, 0] rfl (lp_ind (X := Int32 × Int32) (P := fun x => V K Y 5 0 0 z d 49 [(0, .ref (yo Y 0)), (1, .int p1), (2, .int p2), (3, .int x.1), (4, .int x.2)] []) (fun k x hk hx => b_X6_leads_49 hC hr hA ho hQ  (k49 := fun x3 x4 => k (x3, x4)) (fun x3 x4 hx => hk (x3, x4) hx) x.1 x.2 hx) FU (s0, 0) hf)
def t_X6_leads_44 (L : Nat → Nat) (d : Dt) (p1 : Int32) (p2 : Int32)    : Option (Int32) := t_X6_leads_45 L d p1 p2  0
set_option maxRecDepth 20000 in
theorem b_X6_leads_44 {K : Kx} {Y : Yx} {z : Sh} {d : Dt} (hC : CK K Y cX6_leads 5 RX6 0 0) (hr : (kme K).sig.returnType = some .boolean) (hA : kA K = aY Y z) {p1 : Int32} {p2 : Int32} (ho : (0, 0, 5) ∈ yI Y) {r : Int32} (hQ : kQ K = MQ (kb K) (QM Y z (some (.int r)) d) (ka K) (ks K) 0 0 (aY Y z))     (hf : t_X6_leads_44 z.1 d p1 p2    = some r) : V K Y 5 0 0 z d 44 [(0, .ref (yo Y 0)), (1, .int p1), (2, .int p2)] [] := by
  have hL := hC.2.2.2.2.2.2.1
  unfold t_X6_leads_44 at hf
  refine V_iconst (v := 0) hC dX6_leads_44 rfl ?_
  exact b_X6_leads_45 hC hr hA ho hQ  0 hf
def t_X6_leads_40 (L : Nat → Nat) (d : Dt) (p1 : Int32) (p2 : Int32)    : Option (Int32) := t_X6_leads_45 L d p1 p2  1
set_option maxRecDepth 20000 in
theorem b_X6_leads_40 {K : Kx} {Y : Yx} {z : Sh} {d : Dt} (hC : CK K Y cX6_leads 5 RX6 0 0) (hr : (kme K).sig.returnType = some .boolean) (hA : kA K = aY Y z) {p1 : Int32} {p2 : Int32} (ho : (0, 0, 5) ∈ yI Y) {r : Int32} (hQ : kQ K = MQ (kb K) (QM Y z (some (.int r)) d) (ka K) (ks K) 0 0 (aY Y z))     (hf : t_X6_leads_40 z.1 d p1 p2    = some r) : V K Y 5 0 0 z d 40 [(0, .ref (yo Y 0)), (1, .int p1), (2, .int p2)] [] := by
  have hL := hC.2.2.2.2.2.2.1
  unfold t_X6_leads_40 at hf
  refine V_iconst (v := 1) hC dX6_leads_40 rfl ?_
  refine V_goto (tgt := 45) hC dX6_leads_41 (by decide) ?_
  exact b_X6_leads_45 hC hr hA ho hQ  1 hf
def t_X6_leads (L : Nat → Nat) (d : Dt) (p1 : Int32) (p2 : Int32) : Option (Int32) := gd (inb (8 + p1) (L (32 * 0 + 0))) (if (gA d (32 * 0 + 0) (ix (8 + p1))) = 3 then gd (inb (104 + p1) (L (32 * 0 + 0))) (if (gA d (32 * 0 + 0) (ix (104 + p1))) = p2 then t_X6_leads_40 L d p1 p2   else gd (inb (128 + p1) (L (32 * 0 + 0))) (if (gA d (32 * 0 + 0) (ix (128 + p1))) = p2 then t_X6_leads_40 L d p1 p2   else t_X6_leads_44 L d p1 p2  )) else t_X6_leads_44 L d p1 p2  )
set_option maxRecDepth 20000 in
theorem c_X6_leads {l : Launch} {Y : Yx} (hL : LAY Y) {z : Sh} {d : Dt} {p1 : Int32} {p2 : Int32} (ho : (0, 0, 5) ∈ yI Y) {r : Int32} (hf : t_X6_leads z.1 d p1 p2 = some r) : MM l yX6_leads cX6_leads 5 (some .boolean) 0 0 Y z [.ref (yo Y 0), .int p1, .int p2] d (some (.int r)) d := by
  refine MM.ofV (by decide +kernel) hL (Nat.le_of_ble_eq_true rfl) (fun K hl hC hr hQ hA => ?_)
  have hC : CK K Y cX6_leads 5 RX6 0 0 := hC
  unfold t_X6_leads at hf
  show V K Y 5 0 0 z d 0 [(0, .ref (yo Y 0)), (1, .int p1), (2, .int p2)] []
  refine V_aload_n 0 hC dX6_leads_0 rfl rfl ?_
  refine V_geta (o := 0) hC ho rfl fk_X6_7 dX6_leads_1 ?_
  refine V_bipush (v := 8) hC dX6_leads_4 rfl ?_
  refine V_iload_n 1 hC dX6_leads_6 rfl rfl ?_
  refine V_iadd hC dX6_leads_7 ?_
  obtain ⟨g1, hf⟩ := gd_some hf
  refine V_iald (a := (32 * 0 + 0)) hC (hL.row ho rfl) g1 dX6_leads_8 ?_
  refine V_iconst (v := 3) hC dX6_leads_9 rfl ?_
  refine V_icmp_ne (tgt := 44) hC dX6_leads_10 (by decide) (fun c2 => ?_) (fun c2 => ?_)
  · have hf := if_f hf c2
    exact b_X6_leads_44 hC hr hA ho hQ   hf
  · have hf := if_t hf c2
    refine V_aload_n 0 hC dX6_leads_13 rfl rfl ?_
    refine V_geta (o := 0) hC ho rfl fk_X6_7 dX6_leads_14 ?_
    refine V_bipush (v := 104) hC dX6_leads_17 rfl ?_
    refine V_iload_n 1 hC dX6_leads_19 rfl rfl ?_
    refine V_iadd hC dX6_leads_20 ?_
    obtain ⟨g3, hf⟩ := gd_some hf
    refine V_iald (a := (32 * 0 + 0)) hC (hL.row ho rfl) g3 dX6_leads_21 ?_
    refine V_iload_n 2 hC dX6_leads_22 rfl rfl ?_
    refine V_icmp_eq (tgt := 40) hC dX6_leads_23 (by decide) (fun c4 => ?_) (fun c4 => ?_)
    · have hf := if_t hf c4
      exact b_X6_leads_40 hC hr hA ho hQ   hf
    · have hf := if_f hf c4
      refine V_aload_n 0 hC dX6_leads_26 rfl rfl ?_
      refine V_geta (o := 0) hC ho rfl fk_X6_7 dX6_leads_27 ?_
      refine V_sipush (v := 128) hC dX6_leads_30 rfl ?_
      refine V_iload_n 1 hC dX6_leads_33 rfl rfl ?_
      refine V_iadd hC dX6_leads_34 ?_
      obtain ⟨g5, hf⟩ := gd_some hf
      refine V_iald (a := (32 * 0 + 0)) hC (hL.row ho rfl) g5 dX6_leads_35 ?_
      refine V_iload_n 2 hC dX6_leads_36 rfl rfl ?_
      refine V_icmp_ne (tgt := 44) hC dX6_leads_37 (by decide) (fun c6 => ?_) (fun c6 => ?_)
      · have hf := if_f hf c6
        exact b_X6_leads_44 hC hr hA ho hQ   hf
      · have hf := if_t hf c6
        exact b_X6_leads_40 hC hr hA ho hQ   hf
def t_X6_nearBy_93 (L : Nat → Nat) (d : Dt) (p1 : Int32) (k4 : Int32 → Int32 → Option (Int32)) (k19 : Int32 → Int32 → Int32 → Option (Int32)) (x3 : Int32) (x4 : Int32) (s0 : Int32) (s1 : Int32)  : Option (Int32) := (t_X6_one L d s0).bind (fun v15 => bd (s1 + v15) (fun y16 => k19 y16 x3 (x4 + 1)))
set_option maxRecDepth 20000 in
theorem b_X6_nearBy_93 {K : Kx} {Y : Yx} {z : Sh} {d : Dt} (hC : CK K Y cX6_nearBy 6 RX6 1 24) (hr : (kme K).sig.returnType = some .int) (hA : kA K = aY Y z) {p1 : Int32} (ho : (0, 0, 5) ∈ yI Y) {r : Int32} (hQ : kQ K = MQ (kb K) (QM Y z (some (.int r)) d) (ka K) (ks K) 0 0 (aY Y z)) {k4 : Int32 → Int32 → Option (Int32)} {k19 : Int32 → Int32 → Int32 → Option (Int32)} (hk4 : ∀ (x2 : Int32) (x3 : Int32) , k4 x2 x3  = some r → V K Y 6 0 0 z d 4 [(0, .ref (yo Y 0)), (1, .int p1), (2, .int x2), (3, .int x3)] []) (hk19 : ∀ (x2 : Int32) (x3 : Int32) (x4 : Int32) , k19 x2 x3 x4  = some r → V K Y 6 0 0 z d 19 [(0, .ref (yo Y 0)), (1, .int p1), (2, .int x2), (3, .int x3), (4, .int x4)] []) (x3 : Int32) (x4 : Int32) (s0 : Int32) (s1 : Int32)  (hf : t_X6_nearBy_93 z.1 d p1 k4 k19 x3 x4 s0 s1  = some r) : V K Y 6 0 0 z d 93 [(0, .ref (yo Y 0)), (1, .int p1), (3, .int x3), (4, .int x4)] [.int s0, .int s1] := by
  have hL := hC.2.2.2.2.2.2.1
  have hkn : 0 ≤ (kR K).cells ∧ 0 ≤ (kR K).slots := ⟨Nat.zero_le _, Nat.zero_le _⟩
  unfold t_X6_nearBy_93 at hf
  obtain ⟨v15, ev15, hf⟩ := bi_some hf
  refine V_insi (As := [.int s0]) (rest := [.int s1]) hC (c_X6_one hL  ev15) me_X6_one lk_X6_218 rfl rfl (Nat.le_of_ble_eq_true rfl) ⟨by decide, by decide⟩ hkn dX6_nearBy_93 ?_
  refine V_iadd hC dX6_nearBy_96 ?_
  refine V_topi (fun y16 ey16 => ?_)
  have hf := bd_e hf y16 ey16
  refine V_istore_n (lv' := [(2, .int y16), (0, .ref (yo Y 0)), (1, .int p1), (3, .int x3), (4, .int x4)]) hC dX6_nearBy_97 rfl (by decide) rfl ?_
  refine V_iinc (v := x4 + 1) (lv' := [(4, .int (x4 + 1)), (2, .int y16), (0, .ref (yo Y 0)), (1, .int p1), (3, .int x3)]) 4 hC dX6_nearBy_98 rfl rfl (by decide) rfl ?_
  refine V_goto (tgt := 19) hC dX6_nearBy_101 (by decide) ?_
  exact V_sub [2, 3, 1, 4, 0] rfl (hk19 y16 x3 (x4 + 1) hf)
def t_X6_nearBy_92 (L : Nat → Nat) (d : Dt) (p1 : Int32) (k4 : Int32 → Int32 → Option (Int32)) (k19 : Int32 → Int32 → Int32 → Option (Int32)) (x3 : Int32) (x4 : Int32) (s0 : Int32)  : Option (Int32) := t_X6_nearBy_93 L d p1 k4 k19 x3 x4 0 s0
set_option maxRecDepth 20000 in
theorem b_X6_nearBy_92 {K : Kx} {Y : Yx} {z : Sh} {d : Dt} (hC : CK K Y cX6_nearBy 6 RX6 1 24) (hr : (kme K).sig.returnType = some .int) (hA : kA K = aY Y z) {p1 : Int32} (ho : (0, 0, 5) ∈ yI Y) {r : Int32} (hQ : kQ K = MQ (kb K) (QM Y z (some (.int r)) d) (ka K) (ks K) 0 0 (aY Y z)) {k4 : Int32 → Int32 → Option (Int32)} {k19 : Int32 → Int32 → Int32 → Option (Int32)} (hk4 : ∀ (x2 : Int32) (x3 : Int32) , k4 x2 x3  = some r → V K Y 6 0 0 z d 4 [(0, .ref (yo Y 0)), (1, .int p1), (2, .int x2), (3, .int x3)] []) (hk19 : ∀ (x2 : Int32) (x3 : Int32) (x4 : Int32) , k19 x2 x3 x4  = some r → V K Y 6 0 0 z d 19 [(0, .ref (yo Y 0)), (1, .int p1), (2, .int x2), (3, .int x3), (4, .int x4)] []) (x3 : Int32) (x4 : Int32) (s0 : Int32)  (hf : t_X6_nearBy_92 z.1 d p1 k4 k19 x3 x4 s0  = some r) : V K Y 6 0 0 z d 92 [(0, .ref (yo Y 0)), (1, .int p1), (3, .int x3), (4, .int x4)] [.int s0] := by
  have hL := hC.2.2.2.2.2.2.1
  unfold t_X6_nearBy_92 at hf
  refine V_iconst (v := 0) hC dX6_nearBy_92 rfl ?_
  exact b_X6_nearBy_93 hC hr hA ho hQ hk4 hk19 x3 x4 0 s0 hf
def t_X6_nearBy_75 (L : Nat → Nat) (d : Dt) (p1 : Int32) (k4 : Int32 → Int32 → Option (Int32)) (k19 : Int32 → Int32 → Int32 → Option (Int32)) (x3 : Int32) (x4 : Int32) (x5 : Int32) (s0 : Int32)  : Option (Int32) := if p1 ≤ x5 then t_X6_nearBy_92 L d p1 k4 k19 x3 x4 s0 else if p1 ≤ (-x5) then t_X6_nearBy_92 L d p1 k4 k19 x3 x4 s0 else t_X6_nearBy_93 L d p1 k4 k19 x3 x4 1 s0
set_option maxRecDepth 20000 in
theorem b_X6_nearBy_75 {K : Kx} {Y : Yx} {z : Sh} {d : Dt} (hC : CK K Y cX6_nearBy 6 RX6 1 24) (hr : (kme K).sig.returnType = some .int) (hA : kA K = aY Y z) {p1 : Int32} (ho : (0, 0, 5) ∈ yI Y) {r : Int32} (hQ : kQ K = MQ (kb K) (QM Y z (some (.int r)) d) (ka K) (ks K) 0 0 (aY Y z)) {k4 : Int32 → Int32 → Option (Int32)} {k19 : Int32 → Int32 → Int32 → Option (Int32)} (hk4 : ∀ (x2 : Int32) (x3 : Int32) , k4 x2 x3  = some r → V K Y 6 0 0 z d 4 [(0, .ref (yo Y 0)), (1, .int p1), (2, .int x2), (3, .int x3)] []) (hk19 : ∀ (x2 : Int32) (x3 : Int32) (x4 : Int32) , k19 x2 x3 x4  = some r → V K Y 6 0 0 z d 19 [(0, .ref (yo Y 0)), (1, .int p1), (2, .int x2), (3, .int x3), (4, .int x4)] []) (x3 : Int32) (x4 : Int32) (x5 : Int32) (s0 : Int32)  (hf : t_X6_nearBy_75 z.1 d p1 k4 k19 x3 x4 x5 s0  = some r) : V K Y 6 0 0 z d 75 [(0, .ref (yo Y 0)), (1, .int p1), (3, .int x3), (4, .int x4), (5, .int x5)] [.int s0] := by
  have hL := hC.2.2.2.2.2.2.1
  unfold t_X6_nearBy_75 at hf
  refine V_iload 4 hC dX6_nearBy_75 rfl ?_
  refine V_iload_n 1 hC dX6_nearBy_77 rfl rfl ?_
  refine V_icmp_ge (tgt := 92) hC dX6_nearBy_78 (by decide) (fun c13 => ?_) (fun c13 => ?_)
  · have hf := if_t hf c13
    exact V_sub [0, 1, 2, 3] rfl (b_X6_nearBy_92 hC hr hA ho hQ hk4 hk19 x3 x4 s0 hf)
  · have hf := if_f hf c13
    refine V_iload 4 hC dX6_nearBy_81 rfl ?_
    refine V_ineg hC dX6_nearBy_83 ?_
    refine V_iload_n 1 hC dX6_nearBy_84 rfl rfl ?_
    refine V_icmp_ge (tgt := 92) hC dX6_nearBy_85 (by decide) (fun c14 => ?_) (fun c14 => ?_)
    · have hf := if_t hf c14
      exact V_sub [0, 1, 2, 3] rfl (b_X6_nearBy_92 hC hr hA ho hQ hk4 hk19 x3 x4 s0 hf)
    · have hf := if_f hf c14
      refine V_iconst (v := 1) hC dX6_nearBy_88 rfl ?_
      refine V_goto (tgt := 93) hC dX6_nearBy_89 (by decide) ?_
      exact V_sub [0, 1, 2, 3] rfl (b_X6_nearBy_93 hC hr hA ho hQ hk4 hk19 x3 x4 1 s0 hf)
def t_X6_nearBy_19 (L : Nat → Nat) (d : Dt) (p1 : Int32) (k4 : Int32 → Int32 → Option (Int32)) (k19 : Int32 → Int32 → Int32 → Option (Int32)) (x2 : Int32) (x3 : Int32) (x4 : Int32)  : Option (Int32) := gd (inb 0 (L (32 * 0 + 0))) (if (gA d (32 * 0 + 0) (ix 0)) ≤ x4 then k4 x2 (x3 + 1) else gd (inb (152 + x3) (L (32 * 0 + 0))) (gd (inb (152 + x4) (L (32 * 0 + 0))) (bd ((gA d (32 * 0 + 0) (ix (152 + x3))) - (gA d (32 * 0 + 0) (ix (152 + x4)))) (fun y8 => (t_X6_leads L d x3 x4).bind (fun v9 => if v9 = 0 then (t_X6_leads L d x4 x3).bind (fun v11 => if v11 = 0 then t_X6_nearBy_92 L d p1 k4 k19 x3 x4 x2 else t_X6_nearBy_75 L d p1 k4 k19 x3 x4 y8 x2) else t_X6_nearBy_75 L d p1 k4 k19 x3 x4 y8 x2)))))
set_option maxRecDepth 20000 in
theorem b_X6_nearBy_19 {K : Kx} {Y : Yx} {z : Sh} {d : Dt} (hC : CK K Y cX6_nearBy 6 RX6 1 24) (hr : (kme K).sig.returnType = some .int) (hA : kA K = aY Y z) {p1 : Int32} (ho : (0, 0, 5) ∈ yI Y) {r : Int32} (hQ : kQ K = MQ (kb K) (QM Y z (some (.int r)) d) (ka K) (ks K) 0 0 (aY Y z)) {k4 : Int32 → Int32 → Option (Int32)} {k19 : Int32 → Int32 → Int32 → Option (Int32)} (hk4 : ∀ (x2 : Int32) (x3 : Int32) , k4 x2 x3  = some r → V K Y 6 0 0 z d 4 [(0, .ref (yo Y 0)), (1, .int p1), (2, .int x2), (3, .int x3)] []) (hk19 : ∀ (x2 : Int32) (x3 : Int32) (x4 : Int32) , k19 x2 x3 x4  = some r → V K Y 6 0 0 z d 19 [(0, .ref (yo Y 0)), (1, .int p1), (2, .int x2), (3, .int x3), (4, .int x4)] []) (x2 : Int32) (x3 : Int32) (x4 : Int32)  (hf : t_X6_nearBy_19 z.1 d p1 k4 k19 x2 x3 x4  = some r) : V K Y 6 0 0 z d 19 [(0, .ref (yo Y 0)), (1, .int p1), (2, .int x2), (3, .int x3), (4, .int x4)] [] := by
  have hL := hC.2.2.2.2.2.2.1
  have hkn : 0 ≤ (kR K).cells ∧ 0 ≤ (kR K).slots := ⟨Nat.zero_le _, Nat.zero_le _⟩
  unfold t_X6_nearBy_19 at hf
  refine V_iload 4 hC dX6_nearBy_19 rfl ?_
  refine V_aload_n 0 hC dX6_nearBy_21 rfl rfl ?_
  refine V_geta (o := 0) hC ho rfl fk_X6_7 dX6_nearBy_22 ?_
  refine V_iconst (v := 0) hC dX6_nearBy_25 rfl ?_
  obtain ⟨g4, hf⟩ := gd_some hf
  refine V_iald (a := (32 * 0 + 0)) hC (hL.row ho rfl) g4 dX6_nearBy_26 ?_
  refine V_icmp_ge (tgt := 104) hC dX6_nearBy_27 (by decide) (fun c5 => ?_) (fun c5 => ?_)
  · have hf := if_t hf c5
    refine V_iinc (v := x3 + 1) (lv' := [(3, .int (x3 + 1)), (0, .ref (yo Y 0)), (1, .int p1), (2, .int x2), (4, .int x4)]) 3 hC dX6_nearBy_104 rfl rfl (by decide) rfl ?_
    refine V_goto (tgt := 4) hC dX6_nearBy_107 (by decide) ?_
    exact V_sub [1, 2, 3, 0] rfl (hk4 x2 (x3 + 1) hf)
  · have hf := if_f hf c5
    refine V_aload_n 0 hC dX6_nearBy_30 rfl rfl ?_
    refine V_geta (o := 0) hC ho rfl fk_X6_7 dX6_nearBy_31 ?_
    refine V_sipush (v := 152) hC dX6_nearBy_34 rfl ?_
    refine V_iload_n 3 hC dX6_nearBy_37 rfl rfl ?_
    refine V_iadd hC dX6_nearBy_38 ?_
    obtain ⟨g6, hf⟩ := gd_some hf
    refine V_iald (a := (32 * 0 + 0)) hC (hL.row ho rfl) g6 dX6_nearBy_39 ?_
    refine V_aload_n 0 hC dX6_nearBy_40 rfl rfl ?_
    refine V_geta (o := 0) hC ho rfl fk_X6_7 dX6_nearBy_41 ?_
    refine V_sipush (v := 152) hC dX6_nearBy_44 rfl ?_
    refine V_iload 4 hC dX6_nearBy_47 rfl ?_
    refine V_iadd hC dX6_nearBy_49 ?_
    obtain ⟨g7, hf⟩ := gd_some hf
    refine V_iald (a := (32 * 0 + 0)) hC (hL.row ho rfl) g7 dX6_nearBy_50 ?_
    refine V_isub hC dX6_nearBy_51 ?_
    refine V_topi (fun y8 ey8 => ?_)
    have hf := bd_e hf y8 ey8
    refine V_istore (lv' := [(5, .int y8), (0, .ref (yo Y 0)), (1, .int p1), (2, .int x2), (3, .int x3), (4, .int x4)]) hC dX6_nearBy_52 (by decide) rfl ?_
    refine V_iload_n 3 hC dX6_nearBy_54 rfl rfl ?_
    refine V_aload_n 1 hC dX6_nearBy_55 rfl rfl ?_
    refine V_iload_n 4 hC dX6_nearBy_56 rfl rfl ?_
    refine V_iload 5 hC dX6_nearBy_57 rfl ?_
    obtain ⟨v9, ev9, hf⟩ := bi_some hf
    refine V_invi (o := 0) (As := [.int x3, .int x4]) (rest := [.int x2]) hC (c_X6_leads hL ho ev9) me_X6_leads lk_X6_319 ho rfl rfl rfl (Nat.le_of_ble_eq_true rfl) ⟨by decide, by decide⟩ hkn dX6_nearBy_59 ?_
    refine V_if_ne (tgt := 75) hC dX6_nearBy_62 (by decide) (fun c10 => ?_) (fun c10 => ?_)
    · have hf := if_f hf c10
      exact V_sub [1, 2, 4, 5, 0] rfl (b_X6_nearBy_75 hC hr hA ho hQ hk4 hk19 x3 x4 y8 x2 hf)
    · have hf := if_t hf c10
      refine V_aload_n 1 hC dX6_nearBy_65 rfl rfl ?_
      refine V_iload 5 hC dX6_nearBy_66 rfl ?_
      refine V_iload_n 4 hC dX6_nearBy_68 rfl rfl ?_
      obtain ⟨v11, ev11, hf⟩ := bi_some hf
      refine V_invi (o := 0) (As := [.int x4, .int x3]) (rest := [.int x2]) hC (c_X6_leads hL ho ev11) me_X6_leads lk_X6_319 ho rfl rfl rfl (Nat.le_of_ble_eq_true rfl) ⟨by decide, by decide⟩ hkn dX6_nearBy_69 ?_
      refine V_if_eq (tgt := 92) hC dX6_nearBy_72 (by decide) (fun c12 => ?_) (fun c12 => ?_)
      · have hf := if_t hf c12
        exact V_sub [1, 2, 4, 5] rfl (b_X6_nearBy_92 hC hr hA ho hQ hk4 hk19 x3 x4 x2 hf)
      · have hf := if_f hf c12
        exact V_sub [1, 2, 4, 5, 0] rfl (b_X6_nearBy_75 hC hr hA ho hQ hk4 hk19 x3 x4 y8 x2 hf)
def t_X6_nearBy_4 (L : Nat → Nat) (d : Dt) (p1 : Int32) (k4 : Int32 → Int32 → Option (Int32)) (x2 : Int32) (x3 : Int32)  : Option (Int32) := gd (inb 0 (L (32 * 0 + 0))) (if (gA d (32 * 0 + 0) (ix 0)) ≤ x3 then some x2 else bd (x3 + 1) (fun y3 => lp (fun k x => t_X6_nearBy_19 L d p1 k4 (fun x2 x3 x4 => k (x2, x3, x4)) x.1 x.2.1 x.2.2) FU (x2, x3, y3)))
set_option maxRecDepth 20000 in
theorem b_X6_nearBy_4 {K : Kx} {Y : Yx} {z : Sh} {d : Dt} (hC : CK K Y cX6_nearBy 6 RX6 1 24) (hr : (kme K).sig.returnType = some .int) (hA : kA K = aY Y z) {p1 : Int32} (ho : (0, 0, 5) ∈ yI Y) {r : Int32} (hQ : kQ K = MQ (kb K) (QM Y z (some (.int r)) d) (ka K) (ks K) 0 0 (aY Y z)) {k4 : Int32 → Int32 → Option (Int32)} (hk4 : ∀ (x2 : Int32) (x3 : Int32) , k4 x2 x3  = some r → V K Y 6 0 0 z d 4 [(0, .ref (yo Y 0)), (1, .int p1), (2, .int x2), (3, .int x3)] []) (x2 : Int32) (x3 : Int32)  (hf : t_X6_nearBy_4 z.1 d p1 k4 x2 x3  = some r) : V K Y 6 0 0 z d 4 [(0, .ref (yo Y 0)), (1, .int p1), (2, .int x2), (3, .int x3)] [] := by
  have hL := hC.2.2.2.2.2.2.1
  unfold t_X6_nearBy_4 at hf
  refine V_iload_n 3 hC dX6_nearBy_4 rfl rfl ?_
  refine V_aload_n 0 hC dX6_nearBy_5 rfl rfl ?_
  refine V_geta (o := 0) hC ho rfl fk_X6_7 dX6_nearBy_6 ?_
  refine V_iconst (v := 0) hC dX6_nearBy_9 rfl ?_
  obtain ⟨g1, hf⟩ := gd_some hf
  refine V_iald (a := (32 * 0 + 0)) hC (hL.row ho rfl) g1 dX6_nearBy_10 ?_
  refine V_icmp_ge (tgt := 110) hC dX6_nearBy_11 (by decide) (fun c2 => ?_) (fun c2 => ?_)
  · have hf := if_t hf c2
    refine V_iload_n 2 hC dX6_nearBy_110 rfl rfl ?_
    obtain rfl := so_inj hf
    exact V_iret hC hr hQ hA dX6_nearBy_111
  · have hf := if_f hf c2
    refine V_iload_n 3 hC dX6_nearBy_14 rfl rfl ?_
    refine V_iconst (v := 1) hC dX6_nearBy_15 rfl ?_
    refine V_iadd hC dX6_nearBy_16 ?_
    refine V_topi (fun y3 ey3 => ?_)
    have hf := bd_e hf y3 ey3
    refine V_istore (lv' := [(4, .int y3), (0, .ref (yo Y 0)), (1, .int p1), (2, .int x2), (3, .int x3)]) hC dX6_nearBy_17 (by decide) rfl ?_
    exact V_sub [1, 2, 3, 4, 0] rfl (lp_ind (X := Int32 × Int32 × Int32) (P := fun x => V K Y 6 0 0 z d 19 [(0, .ref (yo Y 0)), (1, .int p1), (2, .int x.1), (3, .int x.2.1), (4, .int x.2.2)] []) (fun k x hk hx => b_X6_nearBy_19 hC hr hA ho hQ hk4 (k19 := fun x2 x3 x4 => k (x2, x3, x4)) (fun x2 x3 x4 hx => hk (x2, x3, x4) hx) x.1 x.2.1 x.2.2 hx) FU (x2, x3, y3) hf)
def t_X6_nearBy (L : Nat → Nat) (d : Dt) (p1 : Int32) : Option (Int32) := lp (fun k x => t_X6_nearBy_4 L d p1  (fun x2 x3 => k (x2, x3)) x.1 x.2) FU (0, 0)
set_option maxRecDepth 20000 in
theorem c_X6_nearBy {l : Launch} {Y : Yx} (hL : LAY Y) {z : Sh} {d : Dt} {p1 : Int32} (ho : (0, 0, 5) ∈ yI Y) {r : Int32} (hf : t_X6_nearBy z.1 d p1 = some r) : MM l yX6_nearBy cX6_nearBy 6 (some .int) 1 24 Y z [.ref (yo Y 0), .int p1] d (some (.int r)) d := by
  refine MM.ofV (by decide +kernel) hL (Nat.le_of_ble_eq_true rfl) (fun K hl hC hr hQ hA => ?_)
  have hC : CK K Y cX6_nearBy 6 RX6 1 24 := hC
  unfold t_X6_nearBy at hf
  show V K Y 6 0 0 z d 0 [(0, .ref (yo Y 0)), (1, .int p1)] []
  refine V_iconst (v := 0) hC dX6_nearBy_0 rfl ?_
  refine V_istore_n (lv' := [(2, .int 0), (0, .ref (yo Y 0)), (1, .int p1)]) hC dX6_nearBy_1 rfl (by decide) rfl ?_
  refine V_iconst (v := 0) hC dX6_nearBy_2 rfl ?_
  refine V_istore_n (lv' := [(3, .int 0), (2, .int 0), (0, .ref (yo Y 0)), (1, .int p1)]) hC dX6_nearBy_3 rfl (by decide) rfl ?_
  exact V_sub [2, 3, 1, 0] rfl (lp_ind (X := Int32 × Int32) (P := fun x => V K Y 6 0 0 z d 4 [(0, .ref (yo Y 0)), (1, .int p1), (2, .int x.1), (3, .int x.2)] []) (fun k x hk hx => b_X6_nearBy_4 hC hr hA ho hQ  (k4 := fun x2 x3 => k (x2, x3)) (fun x2 x3 hx => hk (x2, x3) hx) x.1 x.2 hx) FU (0, 0) hf)
def t_X6_near (L : Nat → Nat) (d : Dt) (p1 : Int32) : Option (Int32) := (t_X6_in L d (p1.toInt64) 1 24).bind (fun v1 => if v1 = 0 then some (-1000002) else (t_X6_nearBy L d p1).bind (fun v3 => some v3))
set_option maxRecDepth 20000 in
theorem c_X6_near {l : Launch} {Y : Yx} (hL : LAY Y) {z : Sh} {d : Dt} {p1 : Int32} (ho : (0, 0, 5) ∈ yI Y) {r : Int32} (hf : t_X6_near z.1 d p1 = some r) : MM l yX6_near cX6_near 2 (some .int) 2 49 Y z [.ref (yo Y 0), .int p1] d (some (.int r)) d := by
  refine MM.ofV (by decide +kernel) hL (Nat.le_of_ble_eq_true rfl) (fun K hl hC hr hQ hA => ?_)
  have hC : CK K Y cX6_near 2 RX6 2 49 := hC
  have hkn : 0 ≤ (kR K).cells ∧ 0 ≤ (kR K).slots := ⟨Nat.zero_le _, Nat.zero_le _⟩
  unfold t_X6_near at hf
  show V K Y 2 0 0 z d 0 [(0, .ref (yo Y 0)), (1, .int p1)] []
  refine V_iload_n 1 hC dX6_near_0 rfl rfl ?_
  refine V_i2l hC dX6_near_1 ?_
  refine V_lconst (v := 1) hC dX6_near_2 rfl ?_
  refine V_ldc2 hC cl_X6_322 dX6_near_3 ?_
  obtain ⟨v1, ev1, hf⟩ := bi_some hf
  refine V_insi (As := [.long (p1.toInt64), .long 1, .long 24]) (rest := []) hC (c_X6_in hL  ev1) me_X6_in lk_X6_66 rfl rfl (Nat.le_of_ble_eq_true rfl) ⟨by decide, by decide⟩ hkn dX6_near_6 ?_
  refine V_if_eq (tgt := 20) hC dX6_near_9 (by decide) (fun c2 => ?_) (fun c2 => ?_)
  · have hf := if_t hf c2
    refine V_ldc hC ck_X6_70 dX6_near_20 ?_
    obtain rfl := so_inj hf
    exact V_iret hC hr hQ hA dX6_near_22
  · have hf := if_f hf c2
    refine V_aload_n 0 hC dX6_near_12 rfl rfl ?_
    refine V_iload_n 1 hC dX6_near_13 rfl rfl ?_
    obtain ⟨v3, ev3, hf⟩ := bi_some hf
    refine V_invi (o := 0) (As := [.int p1]) (rest := []) hC (c_X6_nearBy hL ho ev3) me_X6_nearBy lk_X6_324 ho rfl rfl rfl (Nat.le_of_ble_eq_true rfl) ⟨by decide, by decide⟩ hkn dX6_near_14 ?_
    refine V_goto (tgt := 22) hC dX6_near_17 (by decide) ?_
    obtain rfl := so_inj hf
    exact V_iret hC hr hQ hA dX6_near_22
def t_X6_shuffle_225 (L : Nat → Nat) (p1 : Int32) (p2 : Int32) (k225 : Int32 → Int32 → (Dt) → Option (Int32 × Dt)) (x3 : Int32) (x4 : Int32) (d : Dt) : Option (Int32 × Dt) := if 24 ≤ x4 then some (x3, d) else gd (inb x4 (L (32 * 0 + 29))) (gd (inb (152 + x4) (L (32 * 0 + 0))) (bd (sA d (32 * 0 + 0) (ix (152 + x4)) (gA d (32 * 0 + 29) (ix x4))) (fun d16 => k225 x3 (x4 + 1) d16)))
set_option maxRecDepth 20000 in
theorem b_X6_shuffle_225 {K : Kx} {Y : Yx} {z : Sh}  (hC : CK K Y cX6_shuffle 8 RX6 2 49) (hr : (kme K).sig.returnType = some .int) (hA : kA K = aY Y z) {p1 : Int32} {p2 : Int32} (ho : (0, 0, 5) ∈ yI Y) {r : Int32} {d' : Dt} (hQ : kQ K = MQ (kb K) (QM Y z (some (.int r)) d') (ka K) (ks K) 0 0 (aY Y z)) {k225 : Int32 → Int32 → (Dt) → Option (Int32 × Dt)} (hk225 : ∀ (x3 : Int32) (x4 : Int32) (d : Dt), k225 x3 x4 d = some (r, d') → V K Y 8 0 0 z d 225 [(0, .ref (yo Y 0)), (3, .int x3), (4, .int x4)] []) (x3 : Int32) (x4 : Int32) (d : Dt) (hf : t_X6_shuffle_225 z.1 p1 p2 k225 x3 x4 d = some (r, d')) : V K Y 8 0 0 z d 225 [(0, .ref (yo Y 0)), (3, .int x3), (4, .int x4)] [] := by
  have hL := hC.2.2.2.2.2.2.1
  unfold t_X6_shuffle_225 at hf
  refine V_iload 2 hC dX6_shuffle_225 rfl ?_
  refine V_bipush (v := 24) hC dX6_shuffle_227 rfl ?_
  refine V_icmp_ge (tgt := 256) hC dX6_shuffle_229 (by decide) (fun c13 => ?_) (fun c13 => ?_)
  · have hf := if_t hf c13
    refine V_iload_n 1 hC dX6_shuffle_256 rfl rfl ?_
    obtain ⟨rfl, rfl⟩ := so_inj2 hf
    exact V_iret hC hr hQ hA dX6_shuffle_257
  · have hf := if_f hf c13
    refine V_aload_n 0 hC dX6_shuffle_232 rfl rfl ?_
    refine V_geta (o := 0) hC ho rfl fk_X6_7 dX6_shuffle_233 ?_
    refine V_sipush (v := 152) hC dX6_shuffle_236 rfl ?_
    refine V_iload 2 hC dX6_shuffle_239 rfl ?_
    refine V_iadd hC dX6_shuffle_241 ?_
    refine V_aload_n 0 hC dX6_shuffle_242 rfl rfl ?_
    refine V_geta (o := 0) hC ho rfl fk_X6_61 dX6_shuffle_243 ?_
    refine V_iload 2 hC dX6_shuffle_246 rfl ?_
    obtain ⟨g14, hf⟩ := gd_some hf
    refine V_iald (a := (32 * 0 + 29)) hC (hL.row ho rfl) g14 dX6_shuffle_248 ?_
    obtain ⟨g15, hf⟩ := gd_some hf
    refine V_iast (a := (32 * 0 + 0)) hC (hL.row ho rfl) g15 dX6_shuffle_249 (fun d16 ed16 => ?_)
    have hf := bd_e hf d16 ed16
    refine V_iinc (v := x4 + 1) (lv' := [(4, .int (x4 + 1)), (0, .ref (yo Y 0)), (3, .int x3)]) 2 hC dX6_shuffle_250 rfl rfl (by decide) rfl ?_
    refine V_goto (tgt := 225) hC dX6_shuffle_253 (by decide) ?_
    exact V_sub [1, 2, 0] rfl (hk225 x3 (x4 + 1) d16 hf)
def t_X6_shuffle_215 (L : Nat → Nat) (p1 : Int32) (p2 : Int32) (k70 : Int32 → Int32 → (Dt) → Option (Int32 × Dt)) (x4 : Int32) (s0 : Int32) (d : Dt) : Option (Int32 × Dt) := k70 s0 (x4 + 1) d
set_option maxRecDepth 20000 in
theorem b_X6_shuffle_215 {K : Kx} {Y : Yx} {z : Sh}  (hC : CK K Y cX6_shuffle 8 RX6 2 49) (hr : (kme K).sig.returnType = some .int) (hA : kA K = aY Y z) {p1 : Int32} {p2 : Int32} (ho : (0, 0, 5) ∈ yI Y) {r : Int32} {d' : Dt} (hQ : kQ K = MQ (kb K) (QM Y z (some (.int r)) d') (ka K) (ks K) 0 0 (aY Y z)) {k70 : Int32 → Int32 → (Dt) → Option (Int32 × Dt)} (hk70 : ∀ (x3 : Int32) (x4 : Int32) (d : Dt), k70 x3 x4 d = some (r, d') → V K Y 8 0 0 z d 70 [(0, .ref (yo Y 0)), (1, .int p1), (2, .int p2), (3, .int x3), (4, .int x4)] []) (x4 : Int32) (s0 : Int32) (d : Dt) (hf : t_X6_shuffle_215 z.1 p1 p2 k70 x4 s0 d = some (r, d')) : V K Y 8 0 0 z d 215 [(0, .ref (yo Y 0)), (1, .int p1), (2, .int p2), (4, .int x4)] [.int s0] := by
  have hL := hC.2.2.2.2.2.2.1
  unfold t_X6_shuffle_215 at hf
  refine V_istore_n (lv' := [(3, .int s0), (0, .ref (yo Y 0)), (1, .int p1), (2, .int p2), (4, .int x4)]) hC dX6_shuffle_215 rfl (by decide) rfl ?_
  refine V_iinc (v := x4 + 1) (lv' := [(4, .int (x4 + 1)), (3, .int s0), (0, .ref (yo Y 0)), (1, .int p1), (2, .int p2)]) 4 hC dX6_shuffle_216 rfl rfl (by decide) rfl ?_
  refine V_goto (tgt := 70) hC dX6_shuffle_219 (by decide) ?_
  exact V_sub [2, 3, 4, 1, 0] rfl (hk70 s0 (x4 + 1) d hf)
def t_X6_shuffle_203 (L : Nat → Nat) (p1 : Int32) (p2 : Int32) (k70 : Int32 → Int32 → (Dt) → Option (Int32 × Dt)) (x3 : Int32) (x4 : Int32) (x5 : Int32) (d : Dt) : Option (Int32 × Dt) := if x3 ≤ x5 then t_X6_shuffle_215 L p1 p2 k70 x4 x3 d else t_X6_shuffle_215 L p1 p2 k70 x4 x5 d
set_option maxRecDepth 20000 in
theorem b_X6_shuffle_203 {K : Kx} {Y : Yx} {z : Sh}  (hC : CK K Y cX6_shuffle 8 RX6 2 49) (hr : (kme K).sig.returnType = some .int) (hA : kA K = aY Y z) {p1 : Int32} {p2 : Int32} (ho : (0, 0, 5) ∈ yI Y) {r : Int32} {d' : Dt} (hQ : kQ K = MQ (kb K) (QM Y z (some (.int r)) d') (ka K) (ks K) 0 0 (aY Y z)) {k70 : Int32 → Int32 → (Dt) → Option (Int32 × Dt)} (hk70 : ∀ (x3 : Int32) (x4 : Int32) (d : Dt), k70 x3 x4 d = some (r, d') → V K Y 8 0 0 z d 70 [(0, .ref (yo Y 0)), (1, .int p1), (2, .int p2), (3, .int x3), (4, .int x4)] []) (x3 : Int32) (x4 : Int32) (x5 : Int32) (d : Dt) (hf : t_X6_shuffle_203 z.1 p1 p2 k70 x3 x4 x5 d = some (r, d')) : V K Y 8 0 0 z d 203 [(0, .ref (yo Y 0)), (1, .int p1), (2, .int p2), (3, .int x3), (4, .int x4), (5, .int x5)] [] := by
  have hL := hC.2.2.2.2.2.2.1
  unfold t_X6_shuffle_203 at hf
  refine V_iload 5 hC dX6_shuffle_203 rfl ?_
  refine V_iload_n 3 hC dX6_shuffle_205 rfl rfl ?_
  refine V_icmp_ge (tgt := 214) hC dX6_shuffle_206 (by decide) (fun c33 => ?_) (fun c33 => ?_)
  · have hf := if_t hf c33
    refine V_iload_n 3 hC dX6_shuffle_214 rfl rfl ?_
    exact V_sub [0, 1, 2, 4] rfl (b_X6_shuffle_215 hC hr hA ho hQ hk70 x4 x3 d hf)
  · have hf := if_f hf c33
    refine V_iload 5 hC dX6_shuffle_209 rfl ?_
    refine V_goto (tgt := 215) hC dX6_shuffle_211 (by decide) ?_
    exact V_sub [0, 1, 2, 4] rfl (b_X6_shuffle_215 hC hr hA ho hQ hk70 x4 x5 d hf)
def t_X6_shuffle_166 (L : Nat → Nat) (p1 : Int32) (p2 : Int32) (k70 : Int32 → Int32 → (Dt) → Option (Int32 × Dt)) (k166 : Int32 → Int32 → Int32 → Int32 → (Dt) → Option (Int32 × Dt)) (x3 : Int32) (x4 : Int32) (x5 : Int32) (x6 : Int32) (d : Dt) : Option (Int32 × Dt) := if 24 ≤ x6 then t_X6_shuffle_203 L p1 p2 k70 x3 x4 x5 d else if x3 ≤ x5 then t_X6_shuffle_203 L p1 p2 k70 x3 x4 x5 d else gd (inb (152 + x6) (L (32 * 0 + 0))) (gd (inb x6 (L (32 * 0 + 29))) (bd (sA d (32 * 0 + 29) (ix x6) (gA d (32 * 0 + 0) (ix (152 + x6)))) (fun d32 => k166 x3 x4 x5 (x6 + 1) d32)))
set_option maxRecDepth 20000 in
theorem b_X6_shuffle_166 {K : Kx} {Y : Yx} {z : Sh}  (hC : CK K Y cX6_shuffle 8 RX6 2 49) (hr : (kme K).sig.returnType = some .int) (hA : kA K = aY Y z) {p1 : Int32} {p2 : Int32} (ho : (0, 0, 5) ∈ yI Y) {r : Int32} {d' : Dt} (hQ : kQ K = MQ (kb K) (QM Y z (some (.int r)) d') (ka K) (ks K) 0 0 (aY Y z)) {k70 : Int32 → Int32 → (Dt) → Option (Int32 × Dt)} {k166 : Int32 → Int32 → Int32 → Int32 → (Dt) → Option (Int32 × Dt)} (hk70 : ∀ (x3 : Int32) (x4 : Int32) (d : Dt), k70 x3 x4 d = some (r, d') → V K Y 8 0 0 z d 70 [(0, .ref (yo Y 0)), (1, .int p1), (2, .int p2), (3, .int x3), (4, .int x4)] []) (hk166 : ∀ (x3 : Int32) (x4 : Int32) (x5 : Int32) (x6 : Int32) (d : Dt), k166 x3 x4 x5 x6 d = some (r, d') → V K Y 8 0 0 z d 166 [(0, .ref (yo Y 0)), (1, .int p1), (2, .int p2), (3, .int x3), (4, .int x4), (5, .int x5), (6, .int x6)] []) (x3 : Int32) (x4 : Int32) (x5 : Int32) (x6 : Int32) (d : Dt) (hf : t_X6_shuffle_166 z.1 p1 p2 k70 k166 x3 x4 x5 x6 d = some (r, d')) : V K Y 8 0 0 z d 166 [(0, .ref (yo Y 0)), (1, .int p1), (2, .int p2), (3, .int x3), (4, .int x4), (5, .int x5), (6, .int x6)] [] := by
  have hL := hC.2.2.2.2.2.2.1
  unfold t_X6_shuffle_166 at hf
  refine V_iload 6 hC dX6_shuffle_166 rfl ?_
  refine V_bipush (v := 24) hC dX6_shuffle_168 rfl ?_
  refine V_icmp_ge (tgt := 203) hC dX6_shuffle_170 (by decide) (fun c28 => ?_) (fun c28 => ?_)
  · have hf := if_t hf c28
    exact V_sub [0, 1, 2, 3, 4, 5] rfl (b_X6_shuffle_203 hC hr hA ho hQ hk70 x3 x4 x5 d hf)
  · have hf := if_f hf c28
    refine V_iload 5 hC dX6_shuffle_173 rfl ?_
    refine V_iload_n 3 hC dX6_shuffle_175 rfl rfl ?_
    refine V_icmp_ge (tgt := 203) hC dX6_shuffle_176 (by decide) (fun c29 => ?_) (fun c29 => ?_)
    · have hf := if_t hf c29
      exact V_sub [0, 1, 2, 3, 4, 5] rfl (b_X6_shuffle_203 hC hr hA ho hQ hk70 x3 x4 x5 d hf)
    · have hf := if_f hf c29
      refine V_aload_n 0 hC dX6_shuffle_179 rfl rfl ?_
      refine V_geta (o := 0) hC ho rfl fk_X6_61 dX6_shuffle_180 ?_
      refine V_iload 6 hC dX6_shuffle_183 rfl ?_
      refine V_aload_n 0 hC dX6_shuffle_185 rfl rfl ?_
      refine V_geta (o := 0) hC ho rfl fk_X6_7 dX6_shuffle_186 ?_
      refine V_sipush (v := 152) hC dX6_shuffle_189 rfl ?_
      refine V_iload 6 hC dX6_shuffle_192 rfl ?_
      refine V_iadd hC dX6_shuffle_194 ?_
      obtain ⟨g30, hf⟩ := gd_some hf
      refine V_iald (a := (32 * 0 + 0)) hC (hL.row ho rfl) g30 dX6_shuffle_195 ?_
      obtain ⟨g31, hf⟩ := gd_some hf
      refine V_iast (a := (32 * 0 + 29)) hC (hL.row ho rfl) g31 dX6_shuffle_196 (fun d32 ed32 => ?_)
      have hf := bd_e hf d32 ed32
      refine V_iinc (v := x6 + 1) (lv' := [(6, .int (x6 + 1)), (0, .ref (yo Y 0)), (1, .int p1), (2, .int p2), (3, .int x3), (4, .int x4), (5, .int x5)]) 6 hC dX6_shuffle_197 rfl rfl (by decide) rfl ?_
      refine V_goto (tgt := 166) hC dX6_shuffle_200 (by decide) ?_
      exact V_sub [1, 2, 3, 4, 5, 6, 0] rfl (hk166 x3 x4 x5 (x6 + 1) d32 hf)
def t_X6_shuffle_86 (L : Nat → Nat) (p1 : Int32) (p2 : Int32) (k70 : Int32 → Int32 → (Dt) → Option (Int32 × Dt)) (k86 : Int32 → Int32 → Int32 → (Dt) → Option (Int32 × Dt)) (x3 : Int32) (x4 : Int32) (x5 : Int32) (d : Dt) : Option (Int32 × Dt) := if x5 ≤ 1 then (t_X6_nearBy L d p1).bind (fun v18 => lp (fun k x => t_X6_shuffle_166 L p1 p2 k70 (fun x3 x4 x5 x6 d => k (x3, x4, x5, x6, d)) x.1 x.2.1 x.2.2.1 x.2.2.2.1 x.2.2.2.2) FU (x3, x4, v18, 0, d)) else (t_X6_draw L d x5).bind (fun q19 => bd (1 + q19.1) (fun y20 => gd (inb (152 + x5) (L (32 * 0 + 0))) (bd (gA q19.2 (32 * 0 + 0) (ix (152 + x5))) (fun y22 => gd (inb (152 + y20) (L (32 * 0 + 0))) (gd (inb (152 + x5) (L (32 * 0 + 0))) (bd (sA q19.2 (32 * 0 + 0) (ix (152 + x5)) (gA q19.2 (32 * 0 + 0) (ix (152 + y20)))) (fun d25 => gd (inb (152 + y20) (L (32 * 0 + 0))) (bd (sA d25 (32 * 0 + 0) (ix (152 + y20)) y22) (fun d27 => k86 x3 x4 (x5 + (-1)) d27)))))))))
set_option maxRecDepth 20000 in
theorem b_X6_shuffle_86 {K : Kx} {Y : Yx} {z : Sh}  (hC : CK K Y cX6_shuffle 8 RX6 2 49) (hr : (kme K).sig.returnType = some .int) (hA : kA K = aY Y z) {p1 : Int32} {p2 : Int32} (ho : (0, 0, 5) ∈ yI Y) {r : Int32} {d' : Dt} (hQ : kQ K = MQ (kb K) (QM Y z (some (.int r)) d') (ka K) (ks K) 0 0 (aY Y z)) {k70 : Int32 → Int32 → (Dt) → Option (Int32 × Dt)} {k86 : Int32 → Int32 → Int32 → (Dt) → Option (Int32 × Dt)} (hk70 : ∀ (x3 : Int32) (x4 : Int32) (d : Dt), k70 x3 x4 d = some (r, d') → V K Y 8 0 0 z d 70 [(0, .ref (yo Y 0)), (1, .int p1), (2, .int p2), (3, .int x3), (4, .int x4)] []) (hk86 : ∀ (x3 : Int32) (x4 : Int32) (x5 : Int32) (d : Dt), k86 x3 x4 x5 d = some (r, d') → V K Y 8 0 0 z d 86 [(0, .ref (yo Y 0)), (1, .int p1), (2, .int p2), (3, .int x3), (4, .int x4), (5, .int x5)] []) (x3 : Int32) (x4 : Int32) (x5 : Int32) (d : Dt) (hf : t_X6_shuffle_86 z.1 p1 p2 k70 k86 x3 x4 x5 d = some (r, d')) : V K Y 8 0 0 z d 86 [(0, .ref (yo Y 0)), (1, .int p1), (2, .int p2), (3, .int x3), (4, .int x4), (5, .int x5)] [] := by
  have hL := hC.2.2.2.2.2.2.1
  have hkn : 0 ≤ (kR K).cells ∧ 0 ≤ (kR K).slots := ⟨Nat.zero_le _, Nat.zero_le _⟩
  unfold t_X6_shuffle_86 at hf
  refine V_iload 5 hC dX6_shuffle_86 rfl ?_
  refine V_iconst (v := 1) hC dX6_shuffle_88 rfl ?_
  refine V_icmp_le (tgt := 156) hC dX6_shuffle_89 (by decide) (fun c17 => ?_) (fun c17 => ?_)
  · have hf := if_t hf c17
    refine V_aload_n 0 hC dX6_shuffle_156 rfl rfl ?_
    refine V_iload_n 1 hC dX6_shuffle_157 rfl rfl ?_
    obtain ⟨v18, ev18, hf⟩ := bi_some hf
    refine V_invi (o := 0) (As := [.int p1]) (rest := []) hC (c_X6_nearBy hL ho ev18) me_X6_nearBy lk_X6_324 ho rfl rfl rfl (Nat.le_of_ble_eq_true rfl) ⟨by decide, by decide⟩ hkn dX6_shuffle_158 ?_
    refine V_istore (lv' := [(5, .int v18), (0, .ref (yo Y 0)), (1, .int p1), (2, .int p2), (3, .int x3), (4, .int x4)]) hC dX6_shuffle_161 (by decide) rfl ?_
    refine V_iconst (v := 0) hC dX6_shuffle_163 rfl ?_
    refine V_istore (lv' := [(6, .int 0), (5, .int v18), (0, .ref (yo Y 0)), (1, .int p1), (2, .int p2), (3, .int x3), (4, .int x4)]) hC dX6_shuffle_164 (by decide) rfl ?_
    exact V_sub [2, 3, 4, 5, 6, 1, 0] rfl (lp_ind (X := Int32 × Int32 × Int32 × Int32 × Dt) (P := fun x => V K Y 8 0 0 z x.2.2.2.2 166 [(0, .ref (yo Y 0)), (1, .int p1), (2, .int p2), (3, .int x.1), (4, .int x.2.1), (5, .int x.2.2.1), (6, .int x.2.2.2.1)] []) (fun k x hk hx => b_X6_shuffle_166 hC hr hA ho hQ hk70 (k166 := fun x3 x4 x5 x6 d => k (x3, x4, x5, x6, d)) (fun x3 x4 x5 x6 d hx => hk (x3, x4, x5, x6, d) hx) x.1 x.2.1 x.2.2.1 x.2.2.2.1 x.2.2.2.2 hx) FU (x3, x4, v18, 0, d) hf)
  · have hf := if_f hf c17
    refine V_iconst (v := 1) hC dX6_shuffle_92 rfl ?_
    refine V_aload_n 0 hC dX6_shuffle_93 rfl rfl ?_
    refine V_iload 5 hC dX6_shuffle_94 rfl ?_
    obtain ⟨q19, eq19, hf⟩ := bi_some hf
    refine V_invi (o := 0) (As := [.int x5]) (rest := [.int 1]) hC (c_X6_draw hL ho eq19) me_X6_draw lk_X6_265 ho rfl rfl rfl (Nat.le_of_ble_eq_true rfl) ⟨by decide, by decide⟩ hkn dX6_shuffle_96 ?_
    refine V_iadd hC dX6_shuffle_99 ?_
    refine V_topi (fun y20 ey20 => ?_)
    have hf := bd_e hf y20 ey20
    refine V_istore (lv' := [(6, .int y20), (0, .ref (yo Y 0)), (1, .int p1), (2, .int p2), (3, .int x3), (4, .int x4), (5, .int x5)]) hC dX6_shuffle_100 (by decide) rfl ?_
    refine V_aload_n 1 hC dX6_shuffle_102 rfl rfl ?_
    refine V_geta (o := 0) hC ho rfl fk_X6_7 dX6_shuffle_103 ?_
    refine V_sipush (v := 152) hC dX6_shuffle_106 rfl ?_
    refine V_iload 6 hC dX6_shuffle_109 rfl ?_
    refine V_iadd hC dX6_shuffle_111 ?_
    obtain ⟨g21, hf⟩ := gd_some hf
    refine V_iald (a := (32 * 0 + 0)) hC (hL.row ho rfl) g21 dX6_shuffle_112 ?_
    refine V_topi (fun y22 ey22 => ?_)
    have hf := bd_e hf y22 ey22
    refine V_istore (lv' := [(7, .int y22), (6, .int y20), (0, .ref (yo Y 0)), (1, .int p1), (2, .int p2), (3, .int x3), (4, .int x4), (5, .int x5)]) hC dX6_shuffle_113 (by decide) rfl ?_
    refine V_aload_n 2 hC dX6_shuffle_115 rfl rfl ?_
    refine V_geta (o := 0) hC ho rfl fk_X6_7 dX6_shuffle_116 ?_
    refine V_sipush (v := 152) hC dX6_shuffle_119 rfl ?_
    refine V_iload 7 hC dX6_shuffle_122 rfl ?_
    refine V_iadd hC dX6_shuffle_124 ?_
    refine V_aload_n 2 hC dX6_shuffle_125 rfl rfl ?_
    refine V_geta (o := 0) hC ho rfl fk_X6_7 dX6_shuffle_126 ?_
    refine V_sipush (v := 152) hC dX6_shuffle_129 rfl ?_
    refine V_iload 1 hC dX6_shuffle_132 rfl ?_
    refine V_iadd hC dX6_shuffle_134 ?_
    obtain ⟨g23, hf⟩ := gd_some hf
    refine V_iald (a := (32 * 0 + 0)) hC (hL.row ho rfl) g23 dX6_shuffle_135 ?_
    obtain ⟨g24, hf⟩ := gd_some hf
    refine V_iast (a := (32 * 0 + 0)) hC (hL.row ho rfl) g24 dX6_shuffle_136 (fun d25 ed25 => ?_)
    have hf := bd_e hf d25 ed25
    refine V_aload_n 2 hC dX6_shuffle_137 rfl rfl ?_
    refine V_geta (o := 0) hC ho rfl fk_X6_7 dX6_shuffle_138 ?_
    refine V_sipush (v := 152) hC dX6_shuffle_141 rfl ?_
    refine V_iload 1 hC dX6_shuffle_144 rfl ?_
    refine V_iadd hC dX6_shuffle_146 ?_
    refine V_iload 0 hC dX6_shuffle_147 rfl ?_
    obtain ⟨g26, hf⟩ := gd_some hf
    refine V_iast (a := (32 * 0 + 0)) hC (hL.row ho rfl) g26 dX6_shuffle_149 (fun d27 ed27 => ?_)
    have hf := bd_e hf d27 ed27
    refine V_iinc (v := x5 + (-1)) (lv' := [(5, .int (x5 + (-1))), (7, .int y22), (6, .int y20), (0, .ref (yo Y 0)), (1, .int p1), (2, .int p2), (3, .int x3), (4, .int x4)]) 7 hC dX6_shuffle_150 rfl rfl (by decide) rfl ?_
    refine V_goto (tgt := 86) hC dX6_shuffle_153 (by decide) ?_
    exact V_sub [3, 4, 5, 6, 7, 0] rfl (hk86 x3 x4 (x5 + (-1)) d27 hf)
def t_X6_shuffle_70 (L : Nat → Nat) (p1 : Int32) (p2 : Int32) (k70 : Int32 → Int32 → (Dt) → Option (Int32 × Dt)) (x3 : Int32) (x4 : Int32) (d : Dt) : Option (Int32 × Dt) := if p2 ≤ x4 then lp (fun k x => t_X6_shuffle_225 L p1 p2  (fun x3 x4 d => k (x3, x4, d)) x.1 x.2.1 x.2.2) FU (x3, 0, d) else gd (inb 0 (L (32 * 0 + 0))) (bd ((gA d (32 * 0 + 0) (ix 0)) - 1) (fun y12 => lp (fun k x => t_X6_shuffle_86 L p1 p2 k70 (fun x3 x4 x5 d => k (x3, x4, x5, d)) x.1 x.2.1 x.2.2.1 x.2.2.2) FU (x3, x4, y12, d)))
set_option maxRecDepth 20000 in
theorem b_X6_shuffle_70 {K : Kx} {Y : Yx} {z : Sh}  (hC : CK K Y cX6_shuffle 8 RX6 2 49) (hr : (kme K).sig.returnType = some .int) (hA : kA K = aY Y z) {p1 : Int32} {p2 : Int32} (ho : (0, 0, 5) ∈ yI Y) {r : Int32} {d' : Dt} (hQ : kQ K = MQ (kb K) (QM Y z (some (.int r)) d') (ka K) (ks K) 0 0 (aY Y z)) {k70 : Int32 → Int32 → (Dt) → Option (Int32 × Dt)} (hk70 : ∀ (x3 : Int32) (x4 : Int32) (d : Dt), k70 x3 x4 d = some (r, d') → V K Y 8 0 0 z d 70 [(0, .ref (yo Y 0)), (1, .int p1), (2, .int p2), (3, .int x3), (4, .int x4)] []) (x3 : Int32) (x4 : Int32) (d : Dt) (hf : t_X6_shuffle_70 z.1 p1 p2 k70 x3 x4 d = some (r, d')) : V K Y 8 0 0 z d 70 [(0, .ref (yo Y 0)), (1, .int p1), (2, .int p2), (3, .int x3), (4, .int x4)] [] := by
  have hL := hC.2.2.2.2.2.2.1
  unfold t_X6_shuffle_70 at hf
  refine V_iload 4 hC dX6_shuffle_70 rfl ?_
  refine V_iload_n 2 hC dX6_shuffle_72 rfl rfl ?_
  refine V_icmp_ge (tgt := 222) hC dX6_shuffle_73 (by decide) (fun c10 => ?_) (fun c10 => ?_)
  · have hf := if_t hf c10
    refine V_iconst (v := 0) hC dX6_shuffle_222 rfl ?_
    refine V_istore (lv' := [(4, .int 0), (0, .ref (yo Y 0)), (1, .int p1), (2, .int p2), (3, .int x3)]) hC dX6_shuffle_223 (by decide) rfl ?_
    exact V_sub [1, 4, 0] rfl (lp_ind (X := Int32 × Int32 × Dt) (P := fun x => V K Y 8 0 0 z x.2.2 225 [(0, .ref (yo Y 0)), (3, .int x.1), (4, .int x.2.1)] []) (fun k x hk hx => b_X6_shuffle_225 hC hr hA ho hQ  (k225 := fun x3 x4 d => k (x3, x4, d)) (fun x3 x4 d hx => hk (x3, x4, d) hx) x.1 x.2.1 x.2.2 hx) FU (x3, 0, d) hf)
  · have hf := if_f hf c10
    refine V_aload_n 0 hC dX6_shuffle_76 rfl rfl ?_
    refine V_geta (o := 0) hC ho rfl fk_X6_7 dX6_shuffle_77 ?_
    refine V_iconst (v := 0) hC dX6_shuffle_80 rfl ?_
    obtain ⟨g11, hf⟩ := gd_some hf
    refine V_iald (a := (32 * 0 + 0)) hC (hL.row ho rfl) g11 dX6_shuffle_81 ?_
    refine V_iconst (v := 1) hC dX6_shuffle_82 rfl ?_
    refine V_isub hC dX6_shuffle_83 ?_
    refine V_topi (fun y12 ey12 => ?_)
    have hf := bd_e hf y12 ey12
    refine V_istore (lv' := [(5, .int y12), (0, .ref (yo Y 0)), (1, .int p1), (2, .int p2), (3, .int x3), (4, .int x4)]) hC dX6_shuffle_84 (by decide) rfl ?_
    exact V_sub [1, 2, 3, 4, 5, 0] rfl (lp_ind (X := Int32 × Int32 × Int32 × Dt) (P := fun x => V K Y 8 0 0 z x.2.2.2 86 [(0, .ref (yo Y 0)), (1, .int p1), (2, .int p2), (3, .int x.1), (4, .int x.2.1), (5, .int x.2.2.1)] []) (fun k x hk hx => b_X6_shuffle_86 hC hr hA ho hQ hk70 (k86 := fun x3 x4 x5 d => k (x3, x4, x5, d)) (fun x3 x4 x5 d hx => hk (x3, x4, x5, d) hx) x.1 x.2.1 x.2.2.1 x.2.2.2 hx) FU (x3, x4, y12, d) hf)
def t_X6_shuffle_36 (L : Nat → Nat) (p1 : Int32) (p2 : Int32) (k36 : Int32 → Int32 → (Dt) → Option (Int32 × Dt)) (x3 : Int32) (x4 : Int32) (d : Dt) : Option (Int32 × Dt) := if 24 ≤ x4 then lp (fun k x => t_X6_shuffle_70 L p1 p2  (fun x3 x4 d => k (x3, x4, d)) x.1 x.2.1 x.2.2) FU (x3, 0, d) else gd (inb (152 + x4) (L (32 * 0 + 0))) (gd (inb x4 (L (32 * 0 + 29))) (bd (sA d (32 * 0 + 29) (ix x4) (gA d (32 * 0 + 0) (ix (152 + x4)))) (fun d9 => k36 x3 (x4 + 1) d9)))
set_option maxRecDepth 20000 in
theorem b_X6_shuffle_36 {K : Kx} {Y : Yx} {z : Sh}  (hC : CK K Y cX6_shuffle 8 RX6 2 49) (hr : (kme K).sig.returnType = some .int) (hA : kA K = aY Y z) {p1 : Int32} {p2 : Int32} (ho : (0, 0, 5) ∈ yI Y) {r : Int32} {d' : Dt} (hQ : kQ K = MQ (kb K) (QM Y z (some (.int r)) d') (ka K) (ks K) 0 0 (aY Y z)) {k36 : Int32 → Int32 → (Dt) → Option (Int32 × Dt)} (hk36 : ∀ (x3 : Int32) (x4 : Int32) (d : Dt), k36 x3 x4 d = some (r, d') → V K Y 8 0 0 z d 36 [(0, .ref (yo Y 0)), (1, .int p1), (2, .int p2), (3, .int x3), (4, .int x4)] []) (x3 : Int32) (x4 : Int32) (d : Dt) (hf : t_X6_shuffle_36 z.1 p1 p2 k36 x3 x4 d = some (r, d')) : V K Y 8 0 0 z d 36 [(0, .ref (yo Y 0)), (1, .int p1), (2, .int p2), (3, .int x3), (4, .int x4)] [] := by
  have hL := hC.2.2.2.2.2.2.1
  unfold t_X6_shuffle_36 at hf
  refine V_iload 4 hC dX6_shuffle_36 rfl ?_
  refine V_bipush (v := 24) hC dX6_shuffle_38 rfl ?_
  refine V_icmp_ge (tgt := 67) hC dX6_shuffle_40 (by decide) (fun c6 => ?_) (fun c6 => ?_)
  · have hf := if_t hf c6
    refine V_iconst (v := 0) hC dX6_shuffle_67 rfl ?_
    refine V_istore (lv' := [(4, .int 0), (0, .ref (yo Y 0)), (1, .int p1), (2, .int p2), (3, .int x3)]) hC dX6_shuffle_68 (by decide) rfl ?_
    exact V_sub [1, 2, 3, 4, 0] rfl (lp_ind (X := Int32 × Int32 × Dt) (P := fun x => V K Y 8 0 0 z x.2.2 70 [(0, .ref (yo Y 0)), (1, .int p1), (2, .int p2), (3, .int x.1), (4, .int x.2.1)] []) (fun k x hk hx => b_X6_shuffle_70 hC hr hA ho hQ  (k70 := fun x3 x4 d => k (x3, x4, d)) (fun x3 x4 d hx => hk (x3, x4, d) hx) x.1 x.2.1 x.2.2 hx) FU (x3, 0, d) hf)
  · have hf := if_f hf c6
    refine V_aload_n 0 hC dX6_shuffle_43 rfl rfl ?_
    refine V_geta (o := 0) hC ho rfl fk_X6_61 dX6_shuffle_44 ?_
    refine V_iload 4 hC dX6_shuffle_47 rfl ?_
    refine V_aload_n 0 hC dX6_shuffle_49 rfl rfl ?_
    refine V_geta (o := 0) hC ho rfl fk_X6_7 dX6_shuffle_50 ?_
    refine V_sipush (v := 152) hC dX6_shuffle_53 rfl ?_
    refine V_iload 4 hC dX6_shuffle_56 rfl ?_
    refine V_iadd hC dX6_shuffle_58 ?_
    obtain ⟨g7, hf⟩ := gd_some hf
    refine V_iald (a := (32 * 0 + 0)) hC (hL.row ho rfl) g7 dX6_shuffle_59 ?_
    obtain ⟨g8, hf⟩ := gd_some hf
    refine V_iast (a := (32 * 0 + 29)) hC (hL.row ho rfl) g8 dX6_shuffle_60 (fun d9 ed9 => ?_)
    have hf := bd_e hf d9 ed9
    refine V_iinc (v := x4 + 1) (lv' := [(4, .int (x4 + 1)), (0, .ref (yo Y 0)), (1, .int p1), (2, .int p2), (3, .int x3)]) 4 hC dX6_shuffle_61 rfl rfl (by decide) rfl ?_
    refine V_goto (tgt := 36) hC dX6_shuffle_64 (by decide) ?_
    exact V_sub [1, 2, 3, 4, 0] rfl (hk36 x3 (x4 + 1) d9 hf)
def t_X6_shuffle (L : Nat → Nat) (d : Dt) (p1 : Int32) (p2 : Int32) : Option (Int32 × Dt) := (t_X6_in L d (p1.toInt64) 1 24).bind (fun v1 => if v1 = 0 then some ((-1000002), d) else (t_X6_in L d (p2.toInt64) 1 99).bind (fun v3 => if v3 = 0 then some ((-1000002), d) else (t_X6_nearBy L d p1).bind (fun v5 => lp (fun k x => t_X6_shuffle_36 L p1 p2  (fun x3 x4 d => k (x3, x4, d)) x.1 x.2.1 x.2.2) FU (v5, 0, d))))
set_option maxRecDepth 20000 in
theorem c_X6_shuffle {l : Launch} {Y : Yx} (hL : LAY Y) {z : Sh} {d : Dt} {p1 : Int32} {p2 : Int32} (ho : (0, 0, 5) ∈ yI Y) {r : Int32} {d' : Dt} (hf : t_X6_shuffle z.1 d p1 p2 = some (r, d')) : MM l yX6_shuffle cX6_shuffle 8 (some .int) 2 49 Y z [.ref (yo Y 0), .int p1, .int p2] d (some (.int r)) d' := by
  refine MM.ofV (by decide +kernel) hL (Nat.le_of_ble_eq_true rfl) (fun K hl hC hr hQ hA => ?_)
  have hC : CK K Y cX6_shuffle 8 RX6 2 49 := hC
  have hkn : 0 ≤ (kR K).cells ∧ 0 ≤ (kR K).slots := ⟨Nat.zero_le _, Nat.zero_le _⟩
  unfold t_X6_shuffle at hf
  show V K Y 8 0 0 z d 0 [(0, .ref (yo Y 0)), (1, .int p1), (2, .int p2)] []
  refine V_iload_n 1 hC dX6_shuffle_0 rfl rfl ?_
  refine V_i2l hC dX6_shuffle_1 ?_
  refine V_lconst (v := 1) hC dX6_shuffle_2 rfl ?_
  refine V_ldc2 hC cl_X6_322 dX6_shuffle_3 ?_
  obtain ⟨v1, ev1, hf⟩ := bi_some hf
  refine V_insi (As := [.long (p1.toInt64), .long 1, .long 24]) (rest := []) hC (c_X6_in hL  ev1) me_X6_in lk_X6_66 rfl rfl (Nat.le_of_ble_eq_true rfl) ⟨by decide, by decide⟩ hkn dX6_shuffle_6 ?_
  refine V_if_eq (tgt := 24) hC dX6_shuffle_9 (by decide) (fun c2 => ?_) (fun c2 => ?_)
  · have hf := if_t hf c2
    refine V_ldc hC ck_X6_70 dX6_shuffle_24 ?_
    obtain ⟨rfl, rfl⟩ := so_inj2 hf
    exact V_iret hC hr hQ hA dX6_shuffle_26
  · have hf := if_f hf c2
    refine V_iload_n 2 hC dX6_shuffle_12 rfl rfl ?_
    refine V_i2l hC dX6_shuffle_13 ?_
    refine V_lconst (v := 1) hC dX6_shuffle_14 rfl ?_
    refine V_ldc2 hC cl_X6_327 dX6_shuffle_15 ?_
    obtain ⟨v3, ev3, hf⟩ := bi_some hf
    refine V_insi (As := [.long (p2.toInt64), .long 1, .long 99]) (rest := []) hC (c_X6_in hL  ev3) me_X6_in lk_X6_66 rfl rfl (Nat.le_of_ble_eq_true rfl) ⟨by decide, by decide⟩ hkn dX6_shuffle_18 ?_
    refine V_if_ne (tgt := 27) hC dX6_shuffle_21 (by decide) (fun c4 => ?_) (fun c4 => ?_)
    · have hf := if_f hf c4
      refine V_aload_n 0 hC dX6_shuffle_27 rfl rfl ?_
      refine V_iload_n 1 hC dX6_shuffle_28 rfl rfl ?_
      obtain ⟨v5, ev5, hf⟩ := bi_some hf
      refine V_invi (o := 0) (As := [.int p1]) (rest := []) hC (c_X6_nearBy hL ho ev5) me_X6_nearBy lk_X6_324 ho rfl rfl rfl (Nat.le_of_ble_eq_true rfl) ⟨by decide, by decide⟩ hkn dX6_shuffle_29 ?_
      refine V_istore_n (lv' := [(3, .int v5), (0, .ref (yo Y 0)), (1, .int p1), (2, .int p2)]) hC dX6_shuffle_32 rfl (by decide) rfl ?_
      refine V_iconst (v := 0) hC dX6_shuffle_33 rfl ?_
      refine V_istore (lv' := [(4, .int 0), (3, .int v5), (0, .ref (yo Y 0)), (1, .int p1), (2, .int p2)]) hC dX6_shuffle_34 (by decide) rfl ?_
      exact V_sub [2, 3, 4, 1, 0] rfl (lp_ind (X := Int32 × Int32 × Dt) (P := fun x => V K Y 8 0 0 z x.2.2 36 [(0, .ref (yo Y 0)), (1, .int p1), (2, .int p2), (3, .int x.1), (4, .int x.2.1)] []) (fun k x hk hx => b_X6_shuffle_36 hC hr hA ho hQ  (k36 := fun x3 x4 d => k (x3, x4, d)) (fun x3 x4 d hx => hk (x3, x4, d) hx) x.1 x.2.1 x.2.2 hx) FU (v5, 0, d) hf)
    · have hf := if_t hf c4
      refine V_ldc hC ck_X6_70 dX6_shuffle_24 ?_
      obtain ⟨rfl, rfl⟩ := so_inj2 hf
      exact V_iret hC hr hQ hA dX6_shuffle_26
def t_X6_pageOf_88 (L : Nat → Nat) (d : Dt) (p1 : Int32) (p2 : Int32) (k8 : Int32 → Int32 → Int32 → Option (Int32)) (k26 : Int32 → Int32 → Int32 → Int32 → Option (Int32)) (x3 : Int32) (x4 : Int32) (x5 : Int32) (x6 : Int32)  : Option (Int32) := k26 x3 x4 x5 (x6 + 1)
set_option maxRecDepth 20000 in
theorem b_X6_pageOf_88 {K : Kx} {Y : Yx} {z : Sh} {d : Dt} (hC : CK K Y cX6_pageOf 8 RX6 1 21) (hr : (kme K).sig.returnType = some .int) (hA : kA K = aY Y z) {p1 : Int32} {p2 : Int32} (ho : (0, 0, 5) ∈ yI Y) {r : Int32} (hQ : kQ K = MQ (kb K) (QM Y z (some (.int r)) d) (ka K) (ks K) 0 0 (aY Y z)) {k8 : Int32 → Int32 → Int32 → Option (Int32)} {k26 : Int32 → Int32 → Int32 → Int32 → Option (Int32)} (hk8 : ∀ (x3 : Int32) (x4 : Int32) (x5 : Int32) , k8 x3 x4 x5  = some r → V K Y 8 0 0 z d 8 [(0, .ref (yo Y 0)), (1, .int p1), (2, .int p2), (3, .int x3), (4, .int x4), (5, .int x5)] []) (hk26 : ∀ (x3 : Int32) (x4 : Int32) (x5 : Int32) (x6 : Int32) , k26 x3 x4 x5 x6  = some r → V K Y 8 0 0 z d 26 [(0, .ref (yo Y 0)), (1, .int p1), (2, .int p2), (3, .int x3), (4, .int x4), (5, .int x5), (6, .int x6)] []) (x3 : Int32) (x4 : Int32) (x5 : Int32) (x6 : Int32)  (hf : t_X6_pageOf_88 z.1 d p1 p2 k8 k26 x3 x4 x5 x6  = some r) : V K Y 8 0 0 z d 88 [(0, .ref (yo Y 0)), (1, .int p1), (2, .int p2), (3, .int x3), (4, .int x4), (5, .int x5), (6, .int x6)] [] := by
  have hL := hC.2.2.2.2.2.2.1
  unfold t_X6_pageOf_88 at hf
  refine V_iinc (v := x6 + 1) (lv' := [(6, .int (x6 + 1)), (0, .ref (yo Y 0)), (1, .int p1), (2, .int p2), (3, .int x3), (4, .int x4), (5, .int x5)]) 6 hC dX6_pageOf_88 rfl rfl (by decide) rfl ?_
  refine V_goto (tgt := 26) hC dX6_pageOf_91 (by decide) ?_
  exact V_sub [1, 2, 3, 4, 5, 6, 0] rfl (hk26 x3 x4 x5 (x6 + 1) hf)
def t_X6_pageOf_81 (L : Nat → Nat) (d : Dt) (p1 : Int32) (p2 : Int32) (k8 : Int32 → Int32 → Int32 → Option (Int32)) (k26 : Int32 → Int32 → Int32 → Int32 → Option (Int32)) (x3 : Int32) (x4 : Int32) (x5 : Int32) (x6 : Int32) (x7 : Int32)  : Option (Int32) := bd (x4 + x7) (fun y10 => t_X6_pageOf_88 L d p1 p2 k8 k26 x3 y10 x5 x6)
set_option maxRecDepth 20000 in
theorem b_X6_pageOf_81 {K : Kx} {Y : Yx} {z : Sh} {d : Dt} (hC : CK K Y cX6_pageOf 8 RX6 1 21) (hr : (kme K).sig.returnType = some .int) (hA : kA K = aY Y z) {p1 : Int32} {p2 : Int32} (ho : (0, 0, 5) ∈ yI Y) {r : Int32} (hQ : kQ K = MQ (kb K) (QM Y z (some (.int r)) d) (ka K) (ks K) 0 0 (aY Y z)) {k8 : Int32 → Int32 → Int32 → Option (Int32)} {k26 : Int32 → Int32 → Int32 → Int32 → Option (Int32)} (hk8 : ∀ (x3 : Int32) (x4 : Int32) (x5 : Int32) , k8 x3 x4 x5  = some r → V K Y 8 0 0 z d 8 [(0, .ref (yo Y 0)), (1, .int p1), (2, .int p2), (3, .int x3), (4, .int x4), (5, .int x5)] []) (hk26 : ∀ (x3 : Int32) (x4 : Int32) (x5 : Int32) (x6 : Int32) , k26 x3 x4 x5 x6  = some r → V K Y 8 0 0 z d 26 [(0, .ref (yo Y 0)), (1, .int p1), (2, .int p2), (3, .int x3), (4, .int x4), (5, .int x5), (6, .int x6)] []) (x3 : Int32) (x4 : Int32) (x5 : Int32) (x6 : Int32) (x7 : Int32)  (hf : t_X6_pageOf_81 z.1 d p1 p2 k8 k26 x3 x4 x5 x6 x7  = some r) : V K Y 8 0 0 z d 81 [(0, .ref (yo Y 0)), (1, .int p1), (2, .int p2), (3, .int x3), (4, .int x4), (5, .int x5), (6, .int x6), (7, .int x7)] [] := by
  have hL := hC.2.2.2.2.2.2.1
  unfold t_X6_pageOf_81 at hf
  refine V_iload 4 hC dX6_pageOf_81 rfl ?_
  refine V_iload 7 hC dX6_pageOf_83 rfl ?_
  refine V_iadd hC dX6_pageOf_85 ?_
  refine V_topi (fun y10 ey10 => ?_)
  have hf := bd_e hf y10 ey10
  refine V_istore (lv' := [(4, .int y10), (0, .ref (yo Y 0)), (1, .int p1), (2, .int p2), (3, .int x3), (5, .int x5), (6, .int x6), (7, .int x7)]) hC dX6_pageOf_86 (by decide) rfl ?_
  exact V_sub [1, 2, 3, 4, 0, 5, 6] rfl (b_X6_pageOf_88 hC hr hA ho hQ hk8 hk26 x3 y10 x5 x6 hf)
def t_X6_pageOf_26 (L : Nat → Nat) (d : Dt) (p1 : Int32) (p2 : Int32) (k8 : Int32 → Int32 → Int32 → Option (Int32)) (k26 : Int32 → Int32 → Int32 → Int32 → Option (Int32)) (x3 : Int32) (x4 : Int32) (x5 : Int32) (x6 : Int32)  : Option (Int32) := gd (inb 0 (L (32 * 0 + 0))) (if (gA d (32 * 0 + 0) (ix 0)) ≤ x6 then k8 x3 x4 (x5 + 1) else gd (inb (152 + x6) (L (32 * 0 + 0))) (if (gA d (32 * 0 + 0) (ix (152 + x6))) = x5 then (t_X6_linesOf L d x6).bind (fun v7 => if x4 ≤ 0 then t_X6_pageOf_81 L d p1 p2 k8 k26 x3 x4 x5 x6 v7 else if (x4 + v7) ≤ p2 then t_X6_pageOf_81 L d p1 p2 k8 k26 x3 x4 x5 x6 v7 else t_X6_pageOf_81 L d p1 p2 k8 k26 (x3 + 1) 0 x5 x6 v7) else t_X6_pageOf_88 L d p1 p2 k8 k26 x3 x4 x5 x6))
set_option maxRecDepth 20000 in
theorem b_X6_pageOf_26 {K : Kx} {Y : Yx} {z : Sh} {d : Dt} (hC : CK K Y cX6_pageOf 8 RX6 1 21) (hr : (kme K).sig.returnType = some .int) (hA : kA K = aY Y z) {p1 : Int32} {p2 : Int32} (ho : (0, 0, 5) ∈ yI Y) {r : Int32} (hQ : kQ K = MQ (kb K) (QM Y z (some (.int r)) d) (ka K) (ks K) 0 0 (aY Y z)) {k8 : Int32 → Int32 → Int32 → Option (Int32)} {k26 : Int32 → Int32 → Int32 → Int32 → Option (Int32)} (hk8 : ∀ (x3 : Int32) (x4 : Int32) (x5 : Int32) , k8 x3 x4 x5  = some r → V K Y 8 0 0 z d 8 [(0, .ref (yo Y 0)), (1, .int p1), (2, .int p2), (3, .int x3), (4, .int x4), (5, .int x5)] []) (hk26 : ∀ (x3 : Int32) (x4 : Int32) (x5 : Int32) (x6 : Int32) , k26 x3 x4 x5 x6  = some r → V K Y 8 0 0 z d 26 [(0, .ref (yo Y 0)), (1, .int p1), (2, .int p2), (3, .int x3), (4, .int x4), (5, .int x5), (6, .int x6)] []) (x3 : Int32) (x4 : Int32) (x5 : Int32) (x6 : Int32)  (hf : t_X6_pageOf_26 z.1 d p1 p2 k8 k26 x3 x4 x5 x6  = some r) : V K Y 8 0 0 z d 26 [(0, .ref (yo Y 0)), (1, .int p1), (2, .int p2), (3, .int x3), (4, .int x4), (5, .int x5), (6, .int x6)] [] := by
  have hL := hC.2.2.2.2.2.2.1
  have hkn : 0 ≤ (kR K).cells ∧ 0 ≤ (kR K).slots := ⟨Nat.zero_le _, Nat.zero_le _⟩
  unfold t_X6_pageOf_26 at hf
  refine V_iload 6 hC dX6_pageOf_26 rfl ?_
  refine V_aload_n 0 hC dX6_pageOf_28 rfl rfl ?_
  refine V_geta (o := 0) hC ho rfl fk_X6_7 dX6_pageOf_29 ?_
  refine V_iconst (v := 0) hC dX6_pageOf_32 rfl ?_
  obtain ⟨g3, hf⟩ := gd_some hf
  refine V_iald (a := (32 * 0 + 0)) hC (hL.row ho rfl) g3 dX6_pageOf_33 ?_
  refine V_icmp_ge (tgt := 94) hC dX6_pageOf_34 (by decide) (fun c4 => ?_) (fun c4 => ?_)
  · have hf := if_t hf c4
    refine V_iinc (v := x5 + 1) (lv' := [(5, .int (x5 + 1)), (0, .ref (yo Y 0)), (1, .int p1), (2, .int p2), (3, .int x3), (4, .int x4), (6, .int x6)]) 5 hC dX6_pageOf_94 rfl rfl (by decide) rfl ?_
    refine V_goto (tgt := 8) hC dX6_pageOf_97 (by decide) ?_
    exact V_sub [1, 2, 3, 4, 5, 0] rfl (hk8 x3 x4 (x5 + 1) hf)
  · have hf := if_f hf c4
    refine V_aload_n 0 hC dX6_pageOf_37 rfl rfl ?_
    refine V_geta (o := 0) hC ho rfl fk_X6_7 dX6_pageOf_38 ?_
    refine V_sipush (v := 152) hC dX6_pageOf_41 rfl ?_
    refine V_iload 6 hC dX6_pageOf_44 rfl ?_
    refine V_iadd hC dX6_pageOf_46 ?_
    obtain ⟨g5, hf⟩ := gd_some hf
    refine V_iald (a := (32 * 0 + 0)) hC (hL.row ho rfl) g5 dX6_pageOf_47 ?_
    refine V_iload 5 hC dX6_pageOf_48 rfl ?_
    refine V_icmp_ne (tgt := 88) hC dX6_pageOf_50 (by decide) (fun c6 => ?_) (fun c6 => ?_)
    · have hf := if_f hf c6
      exact b_X6_pageOf_88 hC hr hA ho hQ hk8 hk26 x3 x4 x5 x6 hf
    · have hf := if_t hf c6
      refine V_aload_n 0 hC dX6_pageOf_53 rfl rfl ?_
      refine V_iload 6 hC dX6_pageOf_54 rfl ?_
      obtain ⟨v7, ev7, hf⟩ := bi_some hf
      refine V_invi (o := 0) (As := [.int x6]) (rest := []) hC (c_X6_linesOf hL ho ev7) me_X6_linesOf lk_X6_157 ho rfl rfl rfl (Nat.le_of_ble_eq_true rfl) ⟨by decide, by decide⟩ hkn dX6_pageOf_56 ?_
      refine V_istore (lv' := [(7, .int v7), (0, .ref (yo Y 0)), (1, .int p1), (2, .int p2), (3, .int x3), (4, .int x4), (5, .int x5), (6, .int x6)]) hC dX6_pageOf_59 (by decide) rfl ?_
      refine V_iload 5 hC dX6_pageOf_61 rfl ?_
      refine V_if_le (tgt := 81) hC dX6_pageOf_63 (by decide) (fun c8 => ?_) (fun c8 => ?_)
      · have hf := if_t hf c8
        exact V_sub [1, 2, 3, 4, 5, 6, 7, 0] rfl (b_X6_pageOf_81 hC hr hA ho hQ hk8 hk26 x3 x4 x5 x6 v7 hf)
      · have hf := if_f hf c8
        refine V_iload 5 hC dX6_pageOf_66 rfl ?_
        refine V_iload 0 hC dX6_pageOf_68 rfl ?_
        refine V_iadd hC dX6_pageOf_70 ?_
        refine V_iload_n 3 hC dX6_pageOf_71 rfl rfl ?_
        refine V_icmp_le (tgt := 81) hC dX6_pageOf_72 (by decide) (fun c9 => ?_) (fun c9 => ?_)
        · have hf := if_t hf c9
          exact V_sub [1, 2, 3, 4, 5, 6, 7, 0] rfl (b_X6_pageOf_81 hC hr hA ho hQ hk8 hk26 x3 x4 x5 x6 v7 hf)
        · have hf := if_f hf c9
          refine V_iinc (v := x3 + 1) (lv' := [(3, .int (x3 + 1)), (7, .int v7), (0, .ref (yo Y 0)), (1, .int p1), (2, .int p2), (4, .int x4), (5, .int x5), (6, .int x6)]) 4 hC dX6_pageOf_75 rfl rfl (by decide) rfl ?_
          refine V_iconst (v := 0) hC dX6_pageOf_78 rfl ?_
          refine V_istore (lv' := [(4, .int 0), (3, .int (x3 + 1)), (7, .int v7), (0, .ref (yo Y 0)), (1, .int p1), (2, .int p2), (5, .int x5), (6, .int x6)]) hC dX6_pageOf_79 (by decide) rfl ?_
          exact V_sub [3, 4, 5, 1, 0, 6, 7, 2] rfl (b_X6_pageOf_81 hC hr hA ho hQ hk8 hk26 (x3 + 1) 0 x5 x6 v7 hf)
def t_X6_pageOf_8 (L : Nat → Nat) (d : Dt) (p1 : Int32) (p2 : Int32) (k8 : Int32 → Int32 → Int32 → Option (Int32)) (x3 : Int32) (x4 : Int32) (x5 : Int32)  : Option (Int32) := gd (inb (152 + p1) (L (32 * 0 + 0))) (if (gA d (32 * 0 + 0) (ix (152 + p1))) < x5 then some x3 else lp (fun k x => t_X6_pageOf_26 L d p1 p2 k8 (fun x3 x4 x5 x6 => k (x3, x4, x5, x6)) x.1 x.2.1 x.2.2.1 x.2.2.2) FU (x3, x4, x5, 0))
set_option maxRecDepth 20000 in
theorem b_X6_pageOf_8 {K : Kx} {Y : Yx} {z : Sh} {d : Dt} (hC : CK K Y cX6_pageOf 8 RX6 1 21) (hr : (kme K).sig.returnType = some .int) (hA : kA K = aY Y z) {p1 : Int32} {p2 : Int32} (ho : (0, 0, 5) ∈ yI Y) {r : Int32} (hQ : kQ K = MQ (kb K) (QM Y z (some (.int r)) d) (ka K) (ks K) 0 0 (aY Y z)) {k8 : Int32 → Int32 → Int32 → Option (Int32)} (hk8 : ∀ (x3 : Int32) (x4 : Int32) (x5 : Int32) , k8 x3 x4 x5  = some r → V K Y 8 0 0 z d 8 [(0, .ref (yo Y 0)), (1, .int p1), (2, .int p2), (3, .int x3), (4, .int x4), (5, .int x5)] []) (x3 : Int32) (x4 : Int32) (x5 : Int32)  (hf : t_X6_pageOf_8 z.1 d p1 p2 k8 x3 x4 x5  = some r) : V K Y 8 0 0 z d 8 [(0, .ref (yo Y 0)), (1, .int p1), (2, .int p2), (3, .int x3), (4, .int x4), (5, .int x5)] [] := by
  have hL := hC.2.2.2.2.2.2.1
  unfold t_X6_pageOf_8 at hf
  refine V_iload 5 hC dX6_pageOf_8 rfl ?_
  refine V_aload_n 0 hC dX6_pageOf_10 rfl rfl ?_
  refine V_geta (o := 0) hC ho rfl fk_X6_7 dX6_pageOf_11 ?_
  refine V_sipush (v := 152) hC dX6_pageOf_14 rfl ?_
  refine V_iload_n 1 hC dX6_pageOf_17 rfl rfl ?_
  refine V_iadd hC dX6_pageOf_18 ?_
  obtain ⟨g1, hf⟩ := gd_some hf
  refine V_iald (a := (32 * 0 + 0)) hC (hL.row ho rfl) g1 dX6_pageOf_19 ?_
  refine V_icmp_gt (tgt := 100) hC dX6_pageOf_20 (by decide) (fun c2 => ?_) (fun c2 => ?_)
  · have hf := if_t hf c2
    refine V_iload_n 3 hC dX6_pageOf_100 rfl rfl ?_
    obtain rfl := so_inj hf
    exact V_iret hC hr hQ hA dX6_pageOf_101
  · have hf := if_f hf c2
    refine V_iconst (v := 0) hC dX6_pageOf_23 rfl ?_
    refine V_istore (lv' := [(6, .int 0), (0, .ref (yo Y 0)), (1, .int p1), (2, .int p2), (3, .int x3), (4, .int x4), (5, .int x5)]) hC dX6_pageOf_24 (by decide) rfl ?_
    exact V_sub [1, 2, 3, 4, 5, 6, 0] rfl (lp_ind (X := Int32 × Int32 × Int32 × Int32) (P := fun x => V K Y 8 0 0 z d 26 [(0, .ref (yo Y 0)), (1, .int p1), (2, .int p2), (3, .int x.1), (4, .int x.2.1), (5, .int x.2.2.1), (6, .int x.2.2.2)] []) (fun k x hk hx => b_X6_pageOf_26 hC hr hA ho hQ hk8 (k26 := fun x3 x4 x5 x6 => k (x3, x4, x5, x6)) (fun x3 x4 x5 x6 hx => hk (x3, x4, x5, x6) hx) x.1 x.2.1 x.2.2.1 x.2.2.2 hx) FU (x3, x4, x5, 0) hf)
def t_X6_pageOf (L : Nat → Nat) (d : Dt) (p1 : Int32) (p2 : Int32) : Option (Int32) := lp (fun k x => t_X6_pageOf_8 L d p1 p2  (fun x3 x4 x5 => k (x3, x4, x5)) x.1 x.2.1 x.2.2) FU (0, 0, 1)
set_option maxRecDepth 20000 in
theorem c_X6_pageOf {l : Launch} {Y : Yx} (hL : LAY Y) {z : Sh} {d : Dt} {p1 : Int32} {p2 : Int32} (ho : (0, 0, 5) ∈ yI Y) {r : Int32} (hf : t_X6_pageOf z.1 d p1 p2 = some r) : MM l yX6_pageOf cX6_pageOf 8 (some .int) 1 21 Y z [.ref (yo Y 0), .int p1, .int p2] d (some (.int r)) d := by
  refine MM.ofV (by decide +kernel) hL (Nat.le_of_ble_eq_true rfl) (fun K hl hC hr hQ hA => ?_)
  have hC : CK K Y cX6_pageOf 8 RX6 1 21 := hC
  unfold t_X6_pageOf at hf
  show V K Y 8 0 0 z d 0 [(0, .ref (yo Y 0)), (1, .int p1), (2, .int p2)] []
  refine V_iconst (v := 0) hC dX6_pageOf_0 rfl ?_
  refine V_istore_n (lv' := [(3, .int 0), (0, .ref (yo Y 0)), (1, .int p1), (2, .int p2)]) hC dX6_pageOf_1 rfl (by decide) rfl ?_
  refine V_iconst (v := 0) hC dX6_pageOf_2 rfl ?_
  refine V_istore (lv' := [(4, .int 0), (3, .int 0), (0, .ref (yo Y 0)), (1, .int p1), (2, .int p2)]) hC dX6_pageOf_3 (by decide) rfl ?_
  refine V_iconst (v := 1) hC dX6_pageOf_5 rfl ?_
  refine V_istore (lv' := [(5, .int 1), (4, .int 0), (3, .int 0), (0, .ref (yo Y 0)), (1, .int p1), (2, .int p2)]) hC dX6_pageOf_6 (by decide) rfl ?_
  exact V_sub [3, 4, 5, 2, 1, 0] rfl (lp_ind (X := Int32 × Int32 × Int32) (P := fun x => V K Y 8 0 0 z d 8 [(0, .ref (yo Y 0)), (1, .int p1), (2, .int p2), (3, .int x.1), (4, .int x.2.1), (5, .int x.2.2)] []) (fun k x hk hx => b_X6_pageOf_8 hC hr hA ho hQ  (k8 := fun x3 x4 x5 => k (x3, x4, x5)) (fun x3 x4 x5 hx => hk (x3, x4, x5) hx) x.1 x.2.1 x.2.2 hx) FU (0, 0, 1) hf)
def t_X6_isPage (L : Nat → Nat) (d : Dt) (p0 : Int32) : Option (Int32) := (t_X6_in L d (p0.toInt64) 10 60).bind (fun v1 => gd (isB v1) (some v1))
set_option maxRecDepth 20000 in
theorem c_X6_isPage {l : Launch} {Y : Yx} (hL : LAY Y) {z : Sh} {d : Dt} {p0 : Int32}  {r : Int32} (hf : t_X6_isPage z.1 d p0 = some r) : MM l yX6_isPage cX6_isPage 1 (some .boolean) 1 25 Y z [.int p0] d (some (.int r)) d := by
  refine MM.ofV (by decide +kernel) hL (Nat.le_of_ble_eq_true rfl) (fun K hl hC hr hQ hA => ?_)
  have hC : CK K Y cX6_isPage 1 RX6 1 25 := hC
  have hkn : 0 ≤ (kR K).cells ∧ 0 ≤ (kR K).slots := ⟨Nat.zero_le _, Nat.zero_le _⟩
  unfold t_X6_isPage at hf
  show V K Y 1 0 0 z d 0 [(0, .int p0)] []
  refine V_iload_n 0 hC dX6_isPage_0 rfl rfl ?_
  refine V_i2l hC dX6_isPage_1 ?_
  refine V_ldc2 hC cl_X6_329 dX6_isPage_2 ?_
  refine V_ldc2 hC cl_X6_283 dX6_isPage_5 ?_
  obtain ⟨v1, ev1, hf⟩ := bi_some hf
  refine V_insi (As := [.long (p0.toInt64), .long 10, .long 60]) (rest := []) hC (c_X6_in hL  ev1) me_X6_in lk_X6_66 rfl rfl (Nat.le_of_ble_eq_true rfl) ⟨by decide, by decide⟩ hkn dX6_isPage_8 ?_
  obtain ⟨g2, hf⟩ := gd_some hf
  obtain rfl := so_inj hf
  exact V_zret hC hr (nar_b g2) hQ hA dX6_isPage_11
def t_X6_page (L : Nat → Nat) (d : Dt) (p1 : Int32) (p2 : Int32) : Option (Int32) := (t_X6_noPart L d p1).bind (fun v1 => if v1 = 0 then (t_X6_isPage L d p2).bind (fun v3 => if v3 = 0 then some (-1000002) else (t_X6_pageOf L d p1 p2).bind (fun v5 => some v5)) else some (-1000001))
set_option maxRecDepth 20000 in
theorem c_X6_page {l : Launch} {Y : Yx} (hL : LAY Y) {z : Sh} {d : Dt} {p1 : Int32} {p2 : Int32} (ho : (0, 0, 5) ∈ yI Y) {r : Int32} (hf : t_X6_page z.1 d p1 p2 = some r) : MM l yX6_page cX6_page 3 (some .int) 2 48 Y z [.ref (yo Y 0), .int p1, .int p2] d (some (.int r)) d := by
  refine MM.ofV (by decide +kernel) hL (Nat.le_of_ble_eq_true rfl) (fun K hl hC hr hQ hA => ?_)
  have hC : CK K Y cX6_page 3 RX6 2 48 := hC
  have hkn : 0 ≤ (kR K).cells ∧ 0 ≤ (kR K).slots := ⟨Nat.zero_le _, Nat.zero_le _⟩
  unfold t_X6_page at hf
  show V K Y 3 0 0 z d 0 [(0, .ref (yo Y 0)), (1, .int p1), (2, .int p2)] []
  refine V_aload_n 0 hC dX6_page_0 rfl rfl ?_
  refine V_iload_n 1 hC dX6_page_1 rfl rfl ?_
  obtain ⟨v1, ev1, hf⟩ := bi_some hf
  refine V_invi (o := 0) (As := [.int p1]) (rest := []) hC (c_X6_noPart hL ho ev1) me_X6_noPart lk_X6_152 ho rfl rfl rfl (Nat.le_of_ble_eq_true rfl) ⟨by decide, by decide⟩ hkn dX6_page_2 ?_
  refine V_if_eq (tgt := 11) hC dX6_page_5 (by decide) (fun c2 => ?_) (fun c2 => ?_)
  · have hf := if_t hf c2
    refine V_iload_n 2 hC dX6_page_11 rfl rfl ?_
    obtain ⟨v3, ev3, hf⟩ := bi_some hf
    refine V_insi (As := [.int p2]) (rest := []) hC (c_X6_isPage hL  ev3) me_X6_isPage lk_X6_331 rfl rfl (Nat.le_of_ble_eq_true rfl) ⟨by decide, by decide⟩ hkn dX6_page_12 ?_
    refine V_if_eq (tgt := 27) hC dX6_page_15 (by decide) (fun c4 => ?_) (fun c4 => ?_)
    · have hf := if_t hf c4
      refine V_ldc hC ck_X6_70 dX6_page_27 ?_
      obtain rfl := so_inj hf
      exact V_iret hC hr hQ hA dX6_page_29
    · have hf := if_f hf c4
      refine V_aload_n 0 hC dX6_page_18 rfl rfl ?_
      refine V_iload_n 1 hC dX6_page_19 rfl rfl ?_
      refine V_iload_n 2 hC dX6_page_20 rfl rfl ?_
      obtain ⟨v5, ev5, hf⟩ := bi_some hf
      refine V_invi (o := 0) (As := [.int p1, .int p2]) (rest := []) hC (c_X6_pageOf hL ho ev5) me_X6_pageOf lk_X6_334 ho rfl rfl rfl (Nat.le_of_ble_eq_true rfl) ⟨by decide, by decide⟩ hkn dX6_page_21 ?_
      refine V_goto (tgt := 29) hC dX6_page_24 (by decide) ?_
      obtain rfl := so_inj hf
      exact V_iret hC hr hQ hA dX6_page_29
  · have hf := if_f hf c2
    refine V_ldc hC ck_X6_156 dX6_page_8 ?_
    obtain rfl := so_inj hf
    exact V_iret hC hr hQ hA dX6_page_10
def t_X6_flips_109 (L : Nat → Nat) (d : Dt) (p1 : Int32) (k26 : Int32 → Int32 → Option (Int32)) (k39 : Int32 → Int32 → Int32 → Option (Int32)) (x3 : Int32) (x4 : Int32) (s0 : Int32) (s1 : Int32) (s2 : Int32)  : Option (Int32) := bd (s2 + (s1 * s0)) (fun y15 => k39 y15 x3 (x4 + 1))
set_option maxRecDepth 20000 in
theorem b_X6_flips_109 {K : Kx} {Y : Yx} {z : Sh} {d : Dt} (hC : CK K Y cX6_flips 7 RX6 2 48) (hr : (kme K).sig.returnType = some .int) (hA : kA K = aY Y z) {p1 : Int32} (ho : (0, 0, 5) ∈ yI Y) {r : Int32} (hQ : kQ K = MQ (kb K) (QM Y z (some (.int r)) d) (ka K) (ks K) 0 0 (aY Y z)) {k26 : Int32 → Int32 → Option (Int32)} {k39 : Int32 → Int32 → Int32 → Option (Int32)} (hk26 : ∀ (x2 : Int32) (x3 : Int32) , k26 x2 x3  = some r → V K Y 7 0 0 z d 26 [(0, .ref (yo Y 0)), (1, .int p1), (2, .int x2), (3, .int x3)] []) (hk39 : ∀ (x2 : Int32) (x3 : Int32) (x4 : Int32) , k39 x2 x3 x4  = some r → V K Y 7 0 0 z d 39 [(0, .ref (yo Y 0)), (1, .int p1), (2, .int x2), (3, .int x3), (4, .int x4)] []) (x3 : Int32) (x4 : Int32) (s0 : Int32) (s1 : Int32) (s2 : Int32)  (hf : t_X6_flips_109 z.1 d p1 k26 k39 x3 x4 s0 s1 s2  = some r) : V K Y 7 0 0 z d 109 [(0, .ref (yo Y 0)), (1, .int p1), (3, .int x3), (4, .int x4)] [.int s0, .int s1, .int s2] := by
  have hL := hC.2.2.2.2.2.2.1
  unfold t_X6_flips_109 at hf
  refine V_imul hC dX6_flips_109 ?_
  refine V_iadd hC dX6_flips_110 ?_
  refine V_topi (fun y15 ey15 => ?_)
  have hf := bd_e hf y15 ey15
  refine V_istore_n (lv' := [(2, .int y15), (0, .ref (yo Y 0)), (1, .int p1), (3, .int x3), (4, .int x4)]) hC dX6_flips_111 rfl (by decide) rfl ?_
  refine V_iinc (v := x4 + 1) (lv' := [(4, .int (x4 + 1)), (2, .int y15), (0, .ref (yo Y 0)), (1, .int p1), (3, .int x3)]) 4 hC dX6_flips_112 rfl rfl (by decide) rfl ?_
  refine V_goto (tgt := 39) hC dX6_flips_115 (by decide) ?_
  exact V_sub [2, 3, 1, 4, 0] rfl (hk39 y15 x3 (x4 + 1) hf)
def t_X6_flips_91 (L : Nat → Nat) (d : Dt) (p1 : Int32) (k26 : Int32 → Int32 → Option (Int32)) (k39 : Int32 → Int32 → Int32 → Option (Int32)) (x2 : Int32) (x3 : Int32) (x4 : Int32) (x5 : Int32) (s0 : Int32)  : Option (Int32) := if 0 ≤ s0 then t_X6_flips_109 L d p1 k26 k39 x3 x4 s0 x5 x2 else t_X6_flips_109 L d p1 k26 k39 x3 x4 (-s0) x5 x2
set_option maxRecDepth 20000 in
theorem b_X6_flips_91 {K : Kx} {Y : Yx} {z : Sh} {d : Dt} (hC : CK K Y cX6_flips 7 RX6 2 48) (hr : (kme K).sig.returnType = some .int) (hA : kA K = aY Y z) {p1 : Int32} (ho : (0, 0, 5) ∈ yI Y) {r : Int32} (hQ : kQ K = MQ (kb K) (QM Y z (some (.int r)) d) (ka K) (ks K) 0 0 (aY Y z)) {k26 : Int32 → Int32 → Option (Int32)} {k39 : Int32 → Int32 → Int32 → Option (Int32)} (hk26 : ∀ (x2 : Int32) (x3 : Int32) , k26 x2 x3  = some r → V K Y 7 0 0 z d 26 [(0, .ref (yo Y 0)), (1, .int p1), (2, .int x2), (3, .int x3)] []) (hk39 : ∀ (x2 : Int32) (x3 : Int32) (x4 : Int32) , k39 x2 x3 x4  = some r → V K Y 7 0 0 z d 39 [(0, .ref (yo Y 0)), (1, .int p1), (2, .int x2), (3, .int x3), (4, .int x4)] []) (x2 : Int32) (x3 : Int32) (x4 : Int32) (x5 : Int32) (s0 : Int32)  (hf : t_X6_flips_91 z.1 d p1 k26 k39 x2 x3 x4 x5 s0  = some r) : V K Y 7 0 0 z d 91 [(0, .ref (yo Y 0)), (1, .int p1), (2, .int x2), (3, .int x3), (4, .int x4), (5, .int x5)] [.int s0] := by
  have hL := hC.2.2.2.2.2.2.1
  unfold t_X6_flips_91 at hf
  refine V_istore (lv' := [(6, .int s0), (0, .ref (yo Y 0)), (1, .int p1), (2, .int x2), (3, .int x3), (4, .int x4), (5, .int x5)]) hC dX6_flips_91 (by decide) rfl ?_
  refine V_iload_n 3 hC dX6_flips_93 rfl rfl ?_
  refine V_iload 6 hC dX6_flips_94 rfl ?_
  refine V_iload 0 hC dX6_flips_96 rfl ?_
  refine V_if_ge (tgt := 107) hC dX6_flips_98 (by decide) (fun c14 => ?_) (fun c14 => ?_)
  · have hf := if_t hf c14
    refine V_iload 0 hC dX6_flips_107 rfl ?_
    exact V_sub [1, 2, 4, 5] rfl (b_X6_flips_109 hC hr hA ho hQ hk26 hk39 x3 x4 s0 x5 x2 hf)
  · have hf := if_f hf c14
    refine V_iload 0 hC dX6_flips_101 rfl ?_
    refine V_ineg hC dX6_flips_103 ?_
    refine V_goto (tgt := 109) hC dX6_flips_104 (by decide) ?_
    exact V_sub [1, 2, 4, 5] rfl (b_X6_flips_109 hC hr hA ho hQ hk26 hk39 x3 x4 (-s0) x5 x2 hf)
def t_X6_flips_39 (L : Nat → Nat) (d : Dt) (p1 : Int32) (k26 : Int32 → Int32 → Option (Int32)) (k39 : Int32 → Int32 → Int32 → Option (Int32)) (x2 : Int32) (x3 : Int32) (x4 : Int32)  : Option (Int32) := gd (inb 0 (L (32 * 0 + 0))) (if (gA d (32 * 0 + 0) (ix 0)) ≤ x4 then k26 x2 (x3 + 1) else gd (inb ((800 + (24 * x3)) + x4) (L (32 * 0 + 0))) (bd (gA d (32 * 0 + 0) (ix ((800 + (24 * x3)) + x4))) (fun y10 => if y10 = 0 then t_X6_flips_91 L d p1 k26 k39 x2 x3 x4 y10 0 else (t_X6_pageOf L d x3 p1).bind (fun v12 => (t_X6_pageOf L d x4 p1).bind (fun v13 => t_X6_flips_91 L d p1 k26 k39 x2 x3 x4 y10 (v12 - v13))))))
set_option maxRecDepth 20000 in
theorem b_X6_flips_39 {K : Kx} {Y : Yx} {z : Sh} {d : Dt} (hC : CK K Y cX6_flips 7 RX6 2 48) (hr : (kme K).sig.returnType = some .int) (hA : kA K = aY Y z) {p1 : Int32} (ho : (0, 0, 5) ∈ yI Y) {r : Int32} (hQ : kQ K = MQ (kb K) (QM Y z (some (.int r)) d) (ka K) (ks K) 0 0 (aY Y z)) {k26 : Int32 → Int32 → Option (Int32)} {k39 : Int32 → Int32 → Int32 → Option (Int32)} (hk26 : ∀ (x2 : Int32) (x3 : Int32) , k26 x2 x3  = some r → V K Y 7 0 0 z d 26 [(0, .ref (yo Y 0)), (1, .int p1), (2, .int x2), (3, .int x3)] []) (hk39 : ∀ (x2 : Int32) (x3 : Int32) (x4 : Int32) , k39 x2 x3 x4  = some r → V K Y 7 0 0 z d 39 [(0, .ref (yo Y 0)), (1, .int p1), (2, .int x2), (3, .int x3), (4, .int x4)] []) (x2 : Int32) (x3 : Int32) (x4 : Int32)  (hf : t_X6_flips_39 z.1 d p1 k26 k39 x2 x3 x4  = some r) : V K Y 7 0 0 z d 39 [(0, .ref (yo Y 0)), (1, .int p1), (2, .int x2), (3, .int x3), (4, .int x4)] [] := by
  have hL := hC.2.2.2.2.2.2.1
  have hkn : 0 ≤ (kR K).cells ∧ 0 ≤ (kR K).slots := ⟨Nat.zero_le _, Nat.zero_le _⟩
  unfold t_X6_flips_39 at hf
  refine V_iload 4 hC dX6_flips_39 rfl ?_
  refine V_aload_n 0 hC dX6_flips_41 rfl rfl ?_
  refine V_geta (o := 0) hC ho rfl fk_X6_7 dX6_flips_42 ?_
  refine V_iconst (v := 0) hC dX6_flips_45 rfl ?_
  obtain ⟨g7, hf⟩ := gd_some hf
  refine V_iald (a := (32 * 0 + 0)) hC (hL.row ho rfl) g7 dX6_flips_46 ?_
  refine V_icmp_ge (tgt := 118) hC dX6_flips_47 (by decide) (fun c8 => ?_) (fun c8 => ?_)
  · have hf := if_t hf c8
    refine V_iinc (v := x3 + 1) (lv' := [(3, .int (x3 + 1)), (0, .ref (yo Y 0)), (1, .int p1), (2, .int x2), (4, .int x4)]) 3 hC dX6_flips_118 rfl rfl (by decide) rfl ?_
    refine V_goto (tgt := 26) hC dX6_flips_121 (by decide) ?_
    exact V_sub [1, 2, 3, 0] rfl (hk26 x2 (x3 + 1) hf)
  · have hf := if_f hf c8
    refine V_aload_n 0 hC dX6_flips_50 rfl rfl ?_
    refine V_geta (o := 0) hC ho rfl fk_X6_7 dX6_flips_51 ?_
    refine V_sipush (v := 800) hC dX6_flips_54 rfl ?_
    refine V_bipush (v := 24) hC dX6_flips_57 rfl ?_
    refine V_iload_n 3 hC dX6_flips_59 rfl rfl ?_
    refine V_imul hC dX6_flips_60 ?_
    refine V_iadd hC dX6_flips_61 ?_
    refine V_iload 4 hC dX6_flips_62 rfl ?_
    refine V_iadd hC dX6_flips_64 ?_
    obtain ⟨g9, hf⟩ := gd_some hf
    refine V_iald (a := (32 * 0 + 0)) hC (hL.row ho rfl) g9 dX6_flips_65 ?_
    refine V_topi (fun y10 ey10 => ?_)
    have hf := bd_e hf y10 ey10
    refine V_istore (lv' := [(5, .int y10), (0, .ref (yo Y 0)), (1, .int p1), (2, .int x2), (3, .int x3), (4, .int x4)]) hC dX6_flips_66 (by decide) rfl ?_
    refine V_iload 0 hC dX6_flips_68 rfl ?_
    refine V_if_ne (tgt := 77) hC dX6_flips_70 (by decide) (fun c11 => ?_) (fun c11 => ?_)
    · have hf := if_f hf c11
      refine V_aload_n 1 hC dX6_flips_77 rfl rfl ?_
      refine V_iload_n 4 hC dX6_flips_78 rfl rfl ?_
      refine V_iload_n 2 hC dX6_flips_79 rfl rfl ?_
      obtain ⟨v12, ev12, hf⟩ := bi_some hf
      refine V_invi (o := 0) (As := [.int x3, .int p1]) (rest := []) hC (c_X6_pageOf hL ho ev12) me_X6_pageOf lk_X6_334 ho rfl rfl rfl (Nat.le_of_ble_eq_true rfl) ⟨by decide, by decide⟩ hkn dX6_flips_80 ?_
      refine V_aload_n 1 hC dX6_flips_83 rfl rfl ?_
      refine V_iload 5 hC dX6_flips_84 rfl ?_
      refine V_iload_n 2 hC dX6_flips_86 rfl rfl ?_
      obtain ⟨v13, ev13, hf⟩ := bi_some hf
      refine V_invi (o := 0) (As := [.int x4, .int p1]) (rest := [.int v12]) hC (c_X6_pageOf hL ho ev13) me_X6_pageOf lk_X6_334 ho rfl rfl rfl (Nat.le_of_ble_eq_true rfl) ⟨by decide, by decide⟩ hkn dX6_flips_87 ?_
      refine V_isub hC dX6_flips_90 ?_
      exact V_sub [1, 2, 3, 4, 5, 0] rfl (b_X6_flips_91 hC hr hA ho hQ hk26 hk39 x2 x3 x4 y10 (v12 - v13) hf)
    · have hf := if_t hf c11
      refine V_iconst (v := 0) hC dX6_flips_73 rfl ?_
      refine V_goto (tgt := 91) hC dX6_flips_74 (by decide) ?_
      exact V_sub [1, 2, 3, 4, 5, 0] rfl (b_X6_flips_91 hC hr hA ho hQ hk26 hk39 x2 x3 x4 y10 0 hf)
def t_X6_flips_26 (L : Nat → Nat) (d : Dt) (p1 : Int32) (k26 : Int32 → Int32 → Option (Int32)) (x2 : Int32) (x3 : Int32)  : Option (Int32) := gd (inb 0 (L (32 * 0 + 0))) (if (gA d (32 * 0 + 0) (ix 0)) ≤ x3 then some x2 else lp (fun k x => t_X6_flips_39 L d p1 k26 (fun x2 x3 x4 => k (x2, x3, x4)) x.1 x.2.1 x.2.2) FU (x2, x3, 0))
set_option maxRecDepth 20000 in
theorem b_X6_flips_26 {K : Kx} {Y : Yx} {z : Sh} {d : Dt} (hC : CK K Y cX6_flips 7 RX6 2 48) (hr : (kme K).sig.returnType = some .int) (hA : kA K = aY Y z) {p1 : Int32} (ho : (0, 0, 5) ∈ yI Y) {r : Int32} (hQ : kQ K = MQ (kb K) (QM Y z (some (.int r)) d) (ka K) (ks K) 0 0 (aY Y z)) {k26 : Int32 → Int32 → Option (Int32)} (hk26 : ∀ (x2 : Int32) (x3 : Int32) , k26 x2 x3  = some r → V K Y 7 0 0 z d 26 [(0, .ref (yo Y 0)), (1, .int p1), (2, .int x2), (3, .int x3)] []) (x2 : Int32) (x3 : Int32)  (hf : t_X6_flips_26 z.1 d p1 k26 x2 x3  = some r) : V K Y 7 0 0 z d 26 [(0, .ref (yo Y 0)), (1, .int p1), (2, .int x2), (3, .int x3)] [] := by
  have hL := hC.2.2.2.2.2.2.1
  unfold t_X6_flips_26 at hf
  refine V_iload_n 3 hC dX6_flips_26 rfl rfl ?_
  refine V_aload_n 0 hC dX6_flips_27 rfl rfl ?_
  refine V_geta (o := 0) hC ho rfl fk_X6_7 dX6_flips_28 ?_
  refine V_iconst (v := 0) hC dX6_flips_31 rfl ?_
  obtain ⟨g5, hf⟩ := gd_some hf
  refine V_iald (a := (32 * 0 + 0)) hC (hL.row ho rfl) g5 dX6_flips_32 ?_
  refine V_icmp_ge (tgt := 124) hC dX6_flips_33 (by decide) (fun c6 => ?_) (fun c6 => ?_)
  · have hf := if_t hf c6
    refine V_iload_n 2 hC dX6_flips_124 rfl rfl ?_
    obtain rfl := so_inj hf
    exact V_iret hC hr hQ hA dX6_flips_125
  · have hf := if_f hf c6
    refine V_iconst (v := 0) hC dX6_flips_36 rfl ?_
    refine V_istore (lv' := [(4, .int 0), (0, .ref (yo Y 0)), (1, .int p1), (2, .int x2), (3, .int x3)]) hC dX6_flips_37 (by decide) rfl ?_
    exact V_sub [1, 2, 3, 4, 0] rfl (lp_ind (X := Int32 × Int32 × Int32) (P := fun x => V K Y 7 0 0 z d 39 [(0, .ref (yo Y 0)), (1, .int p1), (2, .int x.1), (3, .int x.2.1), (4, .int x.2.2)] []) (fun k x hk hx => b_X6_flips_39 hC hr hA ho hQ hk26 (k39 := fun x2 x3 x4 => k (x2, x3, x4)) (fun x2 x3 x4 hx => hk (x2, x3, x4) hx) x.1 x.2.1 x.2.2 hx) FU (x2, x3, 0) hf)
def t_X6_flips (L : Nat → Nat) (d : Dt) (p1 : Int32) : Option (Int32) := (t_X6_isPage L d p1).bind (fun v1 => if v1 = 0 then some (-1000002) else gd (inb 3 (L (32 * 0 + 0))) (if 0 ≤ (gA d (32 * 0 + 0) (ix 3)) then lp (fun k x => t_X6_flips_26 L d p1  (fun x2 x3 => k (x2, x3)) x.1 x.2) FU (0, 0) else some (-1000003)))
set_option maxRecDepth 20000 in
theorem c_X6_flips {l : Launch} {Y : Yx} (hL : LAY Y) {z : Sh} {d : Dt} {p1 : Int32} (ho : (0, 0, 5) ∈ yI Y) {r : Int32} (hf : t_X6_flips z.1 d p1 = some r) : MM l yX6_flips cX6_flips 7 (some .int) 2 48 Y z [.ref (yo Y 0), .int p1] d (some (.int r)) d := by
  refine MM.ofV (by decide +kernel) hL (Nat.le_of_ble_eq_true rfl) (fun K hl hC hr hQ hA => ?_)
  have hC : CK K Y cX6_flips 7 RX6 2 48 := hC
  have hkn : 0 ≤ (kR K).cells ∧ 0 ≤ (kR K).slots := ⟨Nat.zero_le _, Nat.zero_le _⟩
  unfold t_X6_flips at hf
  show V K Y 7 0 0 z d 0 [(0, .ref (yo Y 0)), (1, .int p1)] []
  refine V_iload_n 1 hC dX6_flips_0 rfl rfl ?_
  obtain ⟨v1, ev1, hf⟩ := bi_some hf
  refine V_insi (As := [.int p1]) (rest := []) hC (c_X6_isPage hL  ev1) me_X6_isPage lk_X6_331 rfl rfl (Nat.le_of_ble_eq_true rfl) ⟨by decide, by decide⟩ hkn dX6_flips_1 ?_
  refine V_if_ne (tgt := 10) hC dX6_flips_4 (by decide) (fun c2 => ?_) (fun c2 => ?_)
  · have hf := if_f hf c2
    refine V_aload_n 0 hC dX6_flips_10 rfl rfl ?_
    refine V_geta (o := 0) hC ho rfl fk_X6_7 dX6_flips_11 ?_
    refine V_iconst (v := 3) hC dX6_flips_14 rfl ?_
    obtain ⟨g3, hf⟩ := gd_some hf
    refine V_iald (a := (32 * 0 + 0)) hC (hL.row ho rfl) g3 dX6_flips_15 ?_
    refine V_if_ge (tgt := 22) hC dX6_flips_16 (by decide) (fun c4 => ?_) (fun c4 => ?_)
    · have hf := if_t hf c4
      refine V_iconst (v := 0) hC dX6_flips_22 rfl ?_
      refine V_istore_n (lv' := [(2, .int 0), (0, .ref (yo Y 0)), (1, .int p1)]) hC dX6_flips_23 rfl (by decide) rfl ?_
      refine V_iconst (v := 0) hC dX6_flips_24 rfl ?_
      refine V_istore_n (lv' := [(3, .int 0), (2, .int 0), (0, .ref (yo Y 0)), (1, .int p1)]) hC dX6_flips_25 rfl (by decide) rfl ?_
      exact V_sub [2, 3, 1, 0] rfl (lp_ind (X := Int32 × Int32) (P := fun x => V K Y 7 0 0 z d 26 [(0, .ref (yo Y 0)), (1, .int p1), (2, .int x.1), (3, .int x.2)] []) (fun k x hk hx => b_X6_flips_26 hC hr hA ho hQ  (k26 := fun x2 x3 => k (x2, x3)) (fun x2 x3 hx => hk (x2, x3) hx) x.1 x.2 hx) FU (0, 0) hf)
    · have hf := if_f hf c4
      refine V_ldc hC ck_X6_166 dX6_flips_19 ?_
      obtain rfl := so_inj hf
      exact V_iret hC hr hQ hA dX6_flips_21
  · have hf := if_t hf c2
    refine V_ldc hC ck_X6_70 dX6_flips_7 ?_
    obtain rfl := so_inj hf
    exact V_iret hC hr hQ hA dX6_flips_9
def t_X6_seed (L : Nat → Nat) (d : Dt) (p1 : Int32) : Option (Int32 × Dt) := if 0 ≤ p1 then gd (inb 2 (L (32 * 0 + 0))) (bd (gA d (32 * 0 + 0) (ix 2)) (fun y3 => gd (inb 2 (L (32 * 0 + 0))) (bd (sA d (32 * 0 + 0) (ix 2) p1) (fun d5 => some (y3, d5))))) else some ((-1000002), d)
set_option maxRecDepth 20000 in
theorem c_X6_seed {l : Launch} {Y : Yx} (hL : LAY Y) {z : Sh} {d : Dt} {p1 : Int32} (ho : (0, 0, 5) ∈ yI Y) {r : Int32} {d' : Dt} (hf : t_X6_seed z.1 d p1 = some (r, d')) : MM l yX6_seed cX6_seed 3 (some .int) 0 0 Y z [.ref (yo Y 0), .int p1] d (some (.int r)) d' := by
  refine MM.ofV (by decide +kernel) hL (Nat.le_of_ble_eq_true rfl) (fun K hl hC hr hQ hA => ?_)
  have hC : CK K Y cX6_seed 3 RX6 0 0 := hC
  unfold t_X6_seed at hf
  show V K Y 3 0 0 z d 0 [(0, .ref (yo Y 0)), (1, .int p1)] []
  refine V_iload_n 1 hC dX6_seed_0 rfl rfl ?_
  refine V_if_ge (tgt := 7) hC dX6_seed_1 (by decide) (fun c1 => ?_) (fun c1 => ?_)
  · have hf := if_t hf c1
    refine V_aload_n 0 hC dX6_seed_7 rfl rfl ?_
    refine V_geta (o := 0) hC ho rfl fk_X6_7 dX6_seed_8 ?_
    refine V_iconst (v := 2) hC dX6_seed_11 rfl ?_
    obtain ⟨g2, hf⟩ := gd_some hf
    refine V_iald (a := (32 * 0 + 0)) hC (hL.row ho rfl) g2 dX6_seed_12 ?_
    refine V_topi (fun y3 ey3 => ?_)
    have hf := bd_e hf y3 ey3
    refine V_istore_n (lv' := [(2, .int y3), (0, .ref (yo Y 0)), (1, .int p1)]) hC dX6_seed_13 rfl (by decide) rfl ?_
    refine V_aload_n 1 hC dX6_seed_14 rfl rfl ?_
    refine V_geta (o := 0) hC ho rfl fk_X6_7 dX6_seed_15 ?_
    refine V_iconst (v := 2) hC dX6_seed_18 rfl ?_
    refine V_iload_n 2 hC dX6_seed_19 rfl rfl ?_
    obtain ⟨g4, hf⟩ := gd_some hf
    refine V_iast (a := (32 * 0 + 0)) hC (hL.row ho rfl) g4 dX6_seed_20 (fun d5 ed5 => ?_)
    have hf := bd_e hf d5 ed5
    refine V_iload_n 0 hC dX6_seed_21 rfl rfl ?_
    obtain ⟨rfl, rfl⟩ := so_inj2 hf
    exact V_iret hC hr hQ hA dX6_seed_22
  · have hf := if_f hf c1
    refine V_ldc hC ck_X6_70 dX6_seed_4 ?_
    obtain ⟨rfl, rfl⟩ := so_inj2 hf
    exact V_iret hC hr hQ hA dX6_seed_6
def t_X6_nthOpen_35 (L : Nat → Nat) (d : Dt) (p1 : Int32) (p2 : Int32) (k5 : Int32 → Int32 → Option (Int32)) (x3 : Int32) (x4 : Int32)  : Option (Int32) := k5 x3 (x4 + 1)
set_option maxRecDepth 20000 in
theorem b_X6_nthOpen_35 {K : Kx} {Y : Yx} {z : Sh} {d : Dt} (hC : CK K Y cX6_nthOpen 5 RX6 3 69) (hr : (kme K).sig.returnType = some .int) (hA : kA K = aY Y z) {p1 : Int32} {p2 : Int32} (ho : (0, 0, 5) ∈ yI Y) {r : Int32} (hQ : kQ K = MQ (kb K) (QM Y z (some (.int r)) d) (ka K) (ks K) 0 0 (aY Y z)) {k5 : Int32 → Int32 → Option (Int32)} (hk5 : ∀ (x3 : Int32) (x4 : Int32) , k5 x3 x4  = some r → V K Y 5 0 0 z d 5 [(0, .ref (yo Y 0)), (1, .int p1), (3, .int x3), (4, .int x4)] []) (x3 : Int32) (x4 : Int32)  (hf : t_X6_nthOpen_35 z.1 d p1 p2 k5 x3 x4  = some r) : V K Y 5 0 0 z d 35 [(0, .ref (yo Y 0)), (1, .int p1), (3, .int x3), (4, .int x4)] [] := by
  have hL := hC.2.2.2.2.2.2.1
  unfold t_X6_nthOpen_35 at hf
  refine V_iinc (v := x4 + 1) (lv' := [(4, .int (x4 + 1)), (0, .ref (yo Y 0)), (1, .int p1), (3, .int x3)]) 3 hC dX6_nthOpen_35 rfl rfl (by decide) rfl ?_
  refine V_goto (tgt := 5) hC dX6_nthOpen_38 (by decide) ?_
  exact V_sub [1, 2, 3, 0] rfl (hk5 x3 (x4 + 1) hf)
def t_X6_nthOpen_5 (L : Nat → Nat) (d : Dt) (p1 : Int32) (p2 : Int32) (k5 : Int32 → Int32 → Option (Int32)) (x3 : Int32) (x4 : Int32)  : Option (Int32) := (t_X6_waysOf L d p1).bind (fun v1 => if v1 ≤ x4 then some (-1) else (t_X6_isWay L d p1 x4).bind (fun v3 => if v3 = 0 then t_X6_nthOpen_35 L d p1 p2 k5 x3 x4 else if x3 = 0 then some x4 else t_X6_nthOpen_35 L d p1 p2 k5 (x3 + (-1)) x4))
set_option maxRecDepth 20000 in
theorem b_X6_nthOpen_5 {K : Kx} {Y : Yx} {z : Sh} {d : Dt} (hC : CK K Y cX6_nthOpen 5 RX6 3 69) (hr : (kme K).sig.returnType = some .int) (hA : kA K = aY Y z) {p1 : Int32} {p2 : Int32} (ho : (0, 0, 5) ∈ yI Y) {r : Int32} (hQ : kQ K = MQ (kb K) (QM Y z (some (.int r)) d) (ka K) (ks K) 0 0 (aY Y z)) {k5 : Int32 → Int32 → Option (Int32)} (hk5 : ∀ (x3 : Int32) (x4 : Int32) , k5 x3 x4  = some r → V K Y 5 0 0 z d 5 [(0, .ref (yo Y 0)), (1, .int p1), (3, .int x3), (4, .int x4)] []) (x3 : Int32) (x4 : Int32)  (hf : t_X6_nthOpen_5 z.1 d p1 p2 k5 x3 x4  = some r) : V K Y 5 0 0 z d 5 [(0, .ref (yo Y 0)), (1, .int p1), (3, .int x3), (4, .int x4)] [] := by
  have hL := hC.2.2.2.2.2.2.1
  have hkn : 0 ≤ (kR K).cells ∧ 0 ≤ (kR K).slots := ⟨Nat.zero_le _, Nat.zero_le _⟩
  unfold t_X6_nthOpen_5 at hf
  refine V_iload 3 hC dX6_nthOpen_5 rfl ?_
  refine V_aload_n 0 hC dX6_nthOpen_7 rfl rfl ?_
  refine V_iload_n 1 hC dX6_nthOpen_8 rfl rfl ?_
  obtain ⟨v1, ev1, hf⟩ := bi_some hf
  refine V_invi (o := 0) (As := [.int p1]) (rest := [.int x4]) hC (c_X6_waysOf hL ho ev1) me_X6_waysOf lk_X6_212 ho rfl rfl rfl (Nat.le_of_ble_eq_true rfl) ⟨by decide, by decide⟩ hkn dX6_nthOpen_9 ?_
  refine V_icmp_ge (tgt := 41) hC dX6_nthOpen_12 (by decide) (fun c2 => ?_) (fun c2 => ?_)
  · have hf := if_t hf c2
    refine V_iconst (v := -1) hC dX6_nthOpen_41 rfl ?_
    obtain rfl := so_inj hf
    exact V_iret hC hr hQ hA dX6_nthOpen_42
  · have hf := if_f hf c2
    refine V_aload_n 0 hC dX6_nthOpen_15 rfl rfl ?_
    refine V_iload_n 1 hC dX6_nthOpen_16 rfl rfl ?_
    refine V_iload 3 hC dX6_nthOpen_17 rfl ?_
    obtain ⟨v3, ev3, hf⟩ := bi_some hf
    refine V_invi (o := 0) (As := [.int p1, .int x4]) (rest := []) hC (c_X6_isWay hL ho ev3) me_X6_isWay lk_X6_215 ho rfl rfl rfl (Nat.le_of_ble_eq_true rfl) ⟨by decide, by decide⟩ hkn dX6_nthOpen_19 ?_
    refine V_if_eq (tgt := 35) hC dX6_nthOpen_22 (by decide) (fun c4 => ?_) (fun c4 => ?_)
    · have hf := if_t hf c4
      exact b_X6_nthOpen_35 hC hr hA ho hQ hk5 x3 x4 hf
    · have hf := if_f hf c4
      refine V_iload_n 2 hC dX6_nthOpen_25 rfl rfl ?_
      refine V_if_ne (tgt := 32) hC dX6_nthOpen_26 (by decide) (fun c5 => ?_) (fun c5 => ?_)
      · have hf := if_f hf c5
        refine V_iinc (v := x3 + (-1)) (lv' := [(3, .int (x3 + (-1))), (0, .ref (yo Y 0)), (1, .int p1), (4, .int x4)]) 2 hC dX6_nthOpen_32 rfl rfl (by decide) rfl ?_
        exact V_sub [1, 2, 0, 3] rfl (b_X6_nthOpen_35 hC hr hA ho hQ hk5 (x3 + (-1)) x4 hf)
      · have hf := if_t hf c5
        refine V_iload 3 hC dX6_nthOpen_29 rfl ?_
        obtain rfl := so_inj hf
        exact V_iret hC hr hQ hA dX6_nthOpen_31
def t_X6_nthOpen (L : Nat → Nat) (d : Dt) (p1 : Int32) (p2 : Int32) : Option (Int32) := lp (fun k x => t_X6_nthOpen_5 L d p1 p2  (fun x3 x4 => k (x3, x4)) x.1 x.2) FU (p2, 0)
set_option maxRecDepth 20000 in
theorem c_X6_nthOpen {l : Launch} {Y : Yx} (hL : LAY Y) {z : Sh} {d : Dt} {p1 : Int32} {p2 : Int32} (ho : (0, 0, 5) ∈ yI Y) {r : Int32} (hf : t_X6_nthOpen z.1 d p1 p2 = some r) : MM l yX6_nthOpen cX6_nthOpen 5 (some .int) 3 69 Y z [.ref (yo Y 0), .int p1, .int p2] d (some (.int r)) d := by
  refine MM.ofV (by decide +kernel) hL (Nat.le_of_ble_eq_true rfl) (fun K hl hC hr hQ hA => ?_)
  have hC : CK K Y cX6_nthOpen 5 RX6 3 69 := hC
  unfold t_X6_nthOpen at hf
  show V K Y 5 0 0 z d 0 [(0, .ref (yo Y 0)), (1, .int p1), (2, .int p2)] []
  refine V_iload_n 2 hC dX6_nthOpen_0 rfl rfl ?_
  refine V_istore_n (lv' := [(3, .int p2), (0, .ref (yo Y 0)), (1, .int p1), (2, .int p2)]) hC dX6_nthOpen_1 rfl (by decide) rfl ?_
  refine V_iconst (v := 0) hC dX6_nthOpen_2 rfl ?_
  refine V_istore (lv' := [(4, .int 0), (3, .int p2), (0, .ref (yo Y 0)), (1, .int p1), (2, .int p2)]) hC dX6_nthOpen_3 (by decide) rfl ?_
  exact V_sub [2, 3, 1, 0] rfl (lp_ind (X := Int32 × Int32) (P := fun x => V K Y 5 0 0 z d 5 [(0, .ref (yo Y 0)), (1, .int p1), (3, .int x.1), (4, .int x.2)] []) (fun k x hk hx => b_X6_nthOpen_5 hC hr hA ho hQ  (k5 := fun x3 x4 => k (x3, x4)) (fun x3 x4 hx => hk (x3, x4) hx) x.1 x.2 hx) FU (p2, 0) hf)
def t_X6_manyOpen_4 (L : Nat → Nat) (d : Dt) (p1 : Int32) (k4 : Int32 → Int32 → Option (Int32)) (x2 : Int32) (x3 : Int32)  : Option (Int32) := (t_X6_waysOf L d p1).bind (fun v1 => if v1 ≤ x3 then some x2 else (t_X6_isWay L d p1 x3).bind (fun v3 => (t_X6_one L d v3).bind (fun v4 => bd (x2 + v4) (fun y5 => k4 y5 (x3 + 1)))))
set_option maxRecDepth 20000 in
theorem b_X6_manyOpen_4 {K : Kx} {Y : Yx} {z : Sh} {d : Dt} (hC : CK K Y cX6_manyOpen 4 RX6 3 69) (hr : (kme K).sig.returnType = some .int) (hA : kA K = aY Y z) {p1 : Int32} (ho : (0, 0, 5) ∈ yI Y) {r : Int32} (hQ : kQ K = MQ (kb K) (QM Y z (some (.int r)) d) (ka K) (ks K) 0 0 (aY Y z)) {k4 : Int32 → Int32 → Option (Int32)} (hk4 : ∀ (x2 : Int32) (x3 : Int32) , k4 x2 x3  = some r → V K Y 4 0 0 z d 4 [(0, .ref (yo Y 0)), (1, .int p1), (2, .int x2), (3, .int x3)] []) (x2 : Int32) (x3 : Int32)  (hf : t_X6_manyOpen_4 z.1 d p1 k4 x2 x3  = some r) : V K Y 4 0 0 z d 4 [(0, .ref (yo Y 0)), (1, .int p1), (2, .int x2), (3, .int x3)] [] := by
  have hL := hC.2.2.2.2.2.2.1
  have hkn : 0 ≤ (kR K).cells ∧ 0 ≤ (kR K).slots := ⟨Nat.zero_le _, Nat.zero_le _⟩
  unfold t_X6_manyOpen_4 at hf
  refine V_iload_n 3 hC dX6_manyOpen_4 rfl rfl ?_
  refine V_aload_n 0 hC dX6_manyOpen_5 rfl rfl ?_
  refine V_iload_n 1 hC dX6_manyOpen_6 rfl rfl ?_
  obtain ⟨v1, ev1, hf⟩ := bi_some hf
  refine V_invi (o := 0) (As := [.int p1]) (rest := [.int x3]) hC (c_X6_waysOf hL ho ev1) me_X6_waysOf lk_X6_212 ho rfl rfl rfl (Nat.le_of_ble_eq_true rfl) ⟨by decide, by decide⟩ hkn dX6_manyOpen_7 ?_
  refine V_icmp_ge (tgt := 31) hC dX6_manyOpen_10 (by decide) (fun c2 => ?_) (fun c2 => ?_)
  · have hf := if_t hf c2
    refine V_iload_n 2 hC dX6_manyOpen_31 rfl rfl ?_
    obtain rfl := so_inj hf
    exact V_iret hC hr hQ hA dX6_manyOpen_32
  · have hf := if_f hf c2
    refine V_iload_n 2 hC dX6_manyOpen_13 rfl rfl ?_
    refine V_aload_n 0 hC dX6_manyOpen_14 rfl rfl ?_
    refine V_iload_n 1 hC dX6_manyOpen_15 rfl rfl ?_
    refine V_iload_n 3 hC dX6_manyOpen_16 rfl rfl ?_
    obtain ⟨v3, ev3, hf⟩ := bi_some hf
    refine V_invi (o := 0) (As := [.int p1, .int x3]) (rest := [.int x2]) hC (c_X6_isWay hL ho ev3) me_X6_isWay lk_X6_215 ho rfl rfl rfl (Nat.le_of_ble_eq_true rfl) ⟨by decide, by decide⟩ hkn dX6_manyOpen_17 ?_
    obtain ⟨v4, ev4, hf⟩ := bi_some hf
    refine V_insi (As := [.int v3]) (rest := [.int x2]) hC (c_X6_one hL  ev4) me_X6_one lk_X6_218 rfl rfl (Nat.le_of_ble_eq_true rfl) ⟨by decide, by decide⟩ hkn dX6_manyOpen_20 ?_
    refine V_iadd hC dX6_manyOpen_23 ?_
    refine V_topi (fun y5 ey5 => ?_)
    have hf := bd_e hf y5 ey5
    refine V_istore_n (lv' := [(2, .int y5), (0, .ref (yo Y 0)), (1, .int p1), (3, .int x3)]) hC dX6_manyOpen_24 rfl (by decide) rfl ?_
    refine V_iinc (v := x3 + 1) (lv' := [(3, .int (x3 + 1)), (2, .int y5), (0, .ref (yo Y 0)), (1, .int p1)]) 3 hC dX6_manyOpen_25 rfl rfl (by decide) rfl ?_
    refine V_goto (tgt := 4) hC dX6_manyOpen_28 (by decide) ?_
    exact V_sub [2, 3, 1, 0] rfl (hk4 y5 (x3 + 1) hf)
def t_X6_manyOpen (L : Nat → Nat) (d : Dt) (p1 : Int32) : Option (Int32) := lp (fun k x => t_X6_manyOpen_4 L d p1  (fun x2 x3 => k (x2, x3)) x.1 x.2) FU (0, 0)
set_option maxRecDepth 20000 in
theorem c_X6_manyOpen {l : Launch} {Y : Yx} (hL : LAY Y) {z : Sh} {d : Dt} {p1 : Int32} (ho : (0, 0, 5) ∈ yI Y) {r : Int32} (hf : t_X6_manyOpen z.1 d p1 = some r) : MM l yX6_manyOpen cX6_manyOpen 4 (some .int) 3 69 Y z [.ref (yo Y 0), .int p1] d (some (.int r)) d := by
  refine MM.ofV (by decide +kernel) hL (Nat.le_of_ble_eq_true rfl) (fun K hl hC hr hQ hA => ?_)
  have hC : CK K Y cX6_manyOpen 4 RX6 3 69 := hC
  unfold t_X6_manyOpen at hf
  show V K Y 4 0 0 z d 0 [(0, .ref (yo Y 0)), (1, .int p1)] []
  refine V_iconst (v := 0) hC dX6_manyOpen_0 rfl ?_
  refine V_istore_n (lv' := [(2, .int 0), (0, .ref (yo Y 0)), (1, .int p1)]) hC dX6_manyOpen_1 rfl (by decide) rfl ?_
  refine V_iconst (v := 0) hC dX6_manyOpen_2 rfl ?_
  refine V_istore_n (lv' := [(3, .int 0), (2, .int 0), (0, .ref (yo Y 0)), (1, .int p1)]) hC dX6_manyOpen_3 rfl (by decide) rfl ?_
  exact V_sub [2, 3, 1, 0] rfl (lp_ind (X := Int32 × Int32) (P := fun x => V K Y 4 0 0 z d 4 [(0, .ref (yo Y 0)), (1, .int p1), (2, .int x.1), (3, .int x.2)] []) (fun k x hk hx => b_X6_manyOpen_4 hC hr hA ho hQ  (k4 := fun x2 x3 => k (x2, x3)) (fun x2 x3 hx => hk (x2, x3) hx) x.1 x.2 hx) FU (0, 0) hf)
def t_X6_readsBlindly_111 (L : Nat → Nat)  (x1 : Int32) (d : Dt) : Option (Int32 × Dt) := if x1 = (-2) then some (0, d) else (t_X6_standsAt L d x1).bind (fun v17 => if v17 = 1 then some (1, d) else some (0, d))
set_option maxRecDepth 20000 in
theorem b_X6_readsBlindly_111 {K : Kx} {Y : Yx} {z : Sh}  (hC : CK K Y cX6_readsBlindly 5 RX6 5 113) (hr : (kme K).sig.returnType = some .boolean) (hA : kA K = aY Y z)  (ho : (0, 0, 5) ∈ yI Y) {r : Int32} {d' : Dt} (hQ : kQ K = MQ (kb K) (QM Y z (some (.int r)) d') (ka K) (ks K) 0 0 (aY Y z))   (x1 : Int32) (d : Dt) (hf : t_X6_readsBlindly_111 z.1  x1 d = some (r, d')) : V K Y 5 0 0 z d 111 [(0, .ref (yo Y 0)), (1, .int x1)] [] := by
  have hL := hC.2.2.2.2.2.2.1
  have hkn : 0 ≤ (kR K).cells ∧ 0 ≤ (kR K).slots := ⟨Nat.zero_le _, Nat.zero_le _⟩
  unfold t_X6_readsBlindly_111 at hf
  refine V_iload_n 1 hC dX6_readsBlindly_111 rfl rfl ?_
  refine V_bipush (v := -2) hC dX6_readsBlindly_112 rfl ?_
  refine V_icmp_eq (tgt := 130) hC dX6_readsBlindly_114 (by decide) (fun c16 => ?_) (fun c16 => ?_)
  · have hf := if_t hf c16
    refine V_iconst (v := 0) hC dX6_readsBlindly_130 rfl ?_
    obtain ⟨rfl, rfl⟩ := so_inj2 hf
    exact V_zret hC hr rfl hQ hA dX6_readsBlindly_131
  · have hf := if_f hf c16
    refine V_aload_n 0 hC dX6_readsBlindly_117 rfl rfl ?_
    refine V_iload_n 1 hC dX6_readsBlindly_118 rfl rfl ?_
    obtain ⟨v17, ev17, hf⟩ := bi_some hf
    refine V_invi (o := 0) (As := [.int x1]) (rest := []) hC (c_X6_standsAt hL ho ev17) me_X6_standsAt lk_X6_228 ho rfl rfl rfl (Nat.le_of_ble_eq_true rfl) ⟨by decide, by decide⟩ hkn dX6_readsBlindly_119 ?_
    refine V_iconst (v := 1) hC dX6_readsBlindly_122 rfl ?_
    refine V_icmp_ne (tgt := 130) hC dX6_readsBlindly_123 (by decide) (fun c18 => ?_) (fun c18 => ?_)
    · have hf := if_f hf c18
      refine V_iconst (v := 0) hC dX6_readsBlindly_130 rfl ?_
      obtain ⟨rfl, rfl⟩ := so_inj2 hf
      exact V_zret hC hr rfl hQ hA dX6_readsBlindly_131
    · have hf := if_t hf c18
      refine V_iconst (v := 1) hC dX6_readsBlindly_126 rfl ?_
      refine V_goto (tgt := 131) hC dX6_readsBlindly_127 (by decide) ?_
      obtain ⟨rfl, rfl⟩ := so_inj2 hf
      exact V_zret hC hr rfl hQ hA dX6_readsBlindly_131
def t_X6_readsBlindly_95 (L : Nat → Nat) (k15 : Int32 → Int32 → (Dt) → Option (Int32 × Dt)) (x1 : Int32) (x2 : Int32) (s0 : Int32) (d : Dt) : Option (Int32 × Dt) := (t_X6_wayTo L d x1 s0).bind (fun q19 => k15 q19.1 (x2 + 1) q19.2)
set_option maxRecDepth 20000 in
theorem b_X6_readsBlindly_95 {K : Kx} {Y : Yx} {z : Sh}  (hC : CK K Y cX6_readsBlindly 5 RX6 5 113) (hr : (kme K).sig.returnType = some .boolean) (hA : kA K = aY Y z)  (ho : (0, 0, 5) ∈ yI Y) {r : Int32} {d' : Dt} (hQ : kQ K = MQ (kb K) (QM Y z (some (.int r)) d') (ka K) (ks K) 0 0 (aY Y z)) {k15 : Int32 → Int32 → (Dt) → Option (Int32 × Dt)} (hk15 : ∀ (x1 : Int32) (x2 : Int32) (d : Dt), k15 x1 x2 d = some (r, d') → V K Y 5 0 0 z d 15 [(0, .ref (yo Y 0)), (1, .int x1), (2, .int x2)] []) (x1 : Int32) (x2 : Int32) (s0 : Int32) (d : Dt) (hf : t_X6_readsBlindly_95 z.1 k15 x1 x2 s0 d = some (r, d')) : V K Y 5 0 0 z d 95 [(0, .ref (yo Y 0)), (1, .int x1), (2, .int x2)] [.int s0] := by
  have hL := hC.2.2.2.2.2.2.1
  have hkn : 0 ≤ (kR K).cells ∧ 0 ≤ (kR K).slots := ⟨Nat.zero_le _, Nat.zero_le _⟩
  unfold t_X6_readsBlindly_95 at hf
  refine V_istore (lv' := [(4, .int s0), (0, .ref (yo Y 0)), (1, .int x1), (2, .int x2)]) hC dX6_readsBlindly_95 (by decide) rfl ?_
  refine V_aload_n 1 hC dX6_readsBlindly_97 rfl rfl ?_
  refine V_iload_n 2 hC dX6_readsBlindly_98 rfl rfl ?_
  refine V_iload 0 hC dX6_readsBlindly_99 rfl ?_
  obtain ⟨q19, eq19, hf⟩ := bi_some hf
  refine V_invi (o := 0) (As := [.int x1, .int s0]) (rest := []) hC (c_X6_wayTo hL ho eq19) me_X6_wayTo lk_X6_231 ho rfl rfl rfl (Nat.le_of_ble_eq_true rfl) ⟨by decide, by decide⟩ hkn dX6_readsBlindly_101 ?_
  refine V_istore_n (lv' := [(1, .int q19.1), (4, .int s0), (0, .ref (yo Y 0)), (2, .int x2)]) hC dX6_readsBlindly_104 rfl (by decide) rfl ?_
  refine V_iinc (v := x2 + 1) (lv' := [(2, .int (x2 + 1)), (1, .int q19.1), (4, .int s0), (0, .ref (yo Y 0))]) 3 hC dX6_readsBlindly_105 rfl rfl (by decide) rfl ?_
  refine V_goto (tgt := 15) hC dX6_readsBlindly_108 (by decide) ?_
  exact V_sub [3, 1, 0] rfl (hk15 q19.1 (x2 + 1) q19.2 hf)
def t_X6_readsBlindly_15 (L : Nat → Nat) (k15 : Int32 → Int32 → (Dt) → Option (Int32 × Dt)) (x1 : Int32) (x2 : Int32) (d : Dt) : Option (Int32 × Dt) := if 60 ≤ x2 then t_X6_readsBlindly_111 L  x1 d else if x1 = (-2) then t_X6_readsBlindly_111 L  x1 d else (t_X6_standsAt L d x1).bind (fun v5 => if v5 = 0 then (t_X6_partOf L d x1).bind (fun v7 => gd (inb (8 + v7) (L (32 * 0 + 0))) (if (gA d (32 * 0 + 0) (ix (8 + v7))) = 3 then (t_X6_draw L d 6).bind (fun q13 => gd (inb (80 + v7) (L (32 * 0 + 0))) (if (q13.1 + 1) < (gA q13.2 (32 * 0 + 0) (ix (80 + v7))) then t_X6_readsBlindly_95 L k15 x1 x2 1 q13.2 else t_X6_readsBlindly_95 L k15 x1 x2 0 q13.2)) else (t_X6_manyOpen L d x1).bind (fun v10 => (t_X6_draw L d v10).bind (fun q11 => (t_X6_nthOpen L q11.2 x1 q11.1).bind (fun v12 => t_X6_readsBlindly_95 L k15 x1 x2 v12 q11.2))))) else t_X6_readsBlindly_111 L  x1 d)
set_option maxRecDepth 20000 in
theorem b_X6_readsBlindly_15 {K : Kx} {Y : Yx} {z : Sh}  (hC : CK K Y cX6_readsBlindly 5 RX6 5 113) (hr : (kme K).sig.returnType = some .boolean) (hA : kA K = aY Y z)  (ho : (0, 0, 5) ∈ yI Y) {r : Int32} {d' : Dt} (hQ : kQ K = MQ (kb K) (QM Y z (some (.int r)) d') (ka K) (ks K) 0 0 (aY Y z)) {k15 : Int32 → Int32 → (Dt) → Option (Int32 × Dt)} (hk15 : ∀ (x1 : Int32) (x2 : Int32) (d : Dt), k15 x1 x2 d = some (r, d') → V K Y 5 0 0 z d 15 [(0, .ref (yo Y 0)), (1, .int x1), (2, .int x2)] []) (x1 : Int32) (x2 : Int32) (d : Dt) (hf : t_X6_readsBlindly_15 z.1 k15 x1 x2 d = some (r, d')) : V K Y 5 0 0 z d 15 [(0, .ref (yo Y 0)), (1, .int x1), (2, .int x2)] [] := by
  have hL := hC.2.2.2.2.2.2.1
  have hkn : 0 ≤ (kR K).cells ∧ 0 ≤ (kR K).slots := ⟨Nat.zero_le _, Nat.zero_le _⟩
  unfold t_X6_readsBlindly_15 at hf
  refine V_iload_n 2 hC dX6_readsBlindly_15 rfl rfl ?_
  refine V_bipush (v := 60) hC dX6_readsBlindly_16 rfl ?_
  refine V_icmp_ge (tgt := 111) hC dX6_readsBlindly_18 (by decide) (fun c3 => ?_) (fun c3 => ?_)
  · have hf := if_t hf c3
    exact V_sub [0, 1] rfl (b_X6_readsBlindly_111 hC hr hA ho hQ  x1 d hf)
  · have hf := if_f hf c3
    refine V_iload_n 1 hC dX6_readsBlindly_21 rfl rfl ?_
    refine V_bipush (v := -2) hC dX6_readsBlindly_22 rfl ?_
    refine V_icmp_eq (tgt := 111) hC dX6_readsBlindly_24 (by decide) (fun c4 => ?_) (fun c4 => ?_)
    · have hf := if_t hf c4
      exact V_sub [0, 1] rfl (b_X6_readsBlindly_111 hC hr hA ho hQ  x1 d hf)
    · have hf := if_f hf c4
      refine V_aload_n 0 hC dX6_readsBlindly_27 rfl rfl ?_
      refine V_iload_n 1 hC dX6_readsBlindly_28 rfl rfl ?_
      obtain ⟨v5, ev5, hf⟩ := bi_some hf
      refine V_invi (o := 0) (As := [.int x1]) (rest := []) hC (c_X6_standsAt hL ho ev5) me_X6_standsAt lk_X6_228 ho rfl rfl rfl (Nat.le_of_ble_eq_true rfl) ⟨by decide, by decide⟩ hkn dX6_readsBlindly_29 ?_
      refine V_if_ne (tgt := 111) hC dX6_readsBlindly_32 (by decide) (fun c6 => ?_) (fun c6 => ?_)
      · have hf := if_f hf c6
        exact V_sub [0, 1] rfl (b_X6_readsBlindly_111 hC hr hA ho hQ  x1 d hf)
      · have hf := if_t hf c6
        refine V_iload_n 1 hC dX6_readsBlindly_35 rfl rfl ?_
        obtain ⟨v7, ev7, hf⟩ := bi_some hf
        refine V_insi (As := [.int x1]) (rest := []) hC (c_X6_partOf hL  ev7) me_X6_partOf lk_X6_194 rfl rfl (Nat.le_of_ble_eq_true rfl) ⟨by decide, by decide⟩ hkn dX6_readsBlindly_36 ?_
        refine V_istore_n (lv' := [(3, .int v7), (0, .ref (yo Y 0)), (1, .int x1), (2, .int x2)]) hC dX6_readsBlindly_39 rfl (by decide) rfl ?_
        refine V_aload_n 1 hC dX6_readsBlindly_40 rfl rfl ?_
        refine V_geta (o := 0) hC ho rfl fk_X6_7 dX6_readsBlindly_41 ?_
        refine V_bipush (v := 8) hC dX6_readsBlindly_44 rfl ?_
        refine V_iload_n 0 hC dX6_readsBlindly_46 rfl rfl ?_
        refine V_iadd hC dX6_readsBlindly_47 ?_
        obtain ⟨g8, hf⟩ := gd_some hf
        refine V_iald (a := (32 * 0 + 0)) hC (hL.row ho rfl) g8 dX6_readsBlindly_48 ?_
        refine V_iconst (v := 3) hC dX6_readsBlindly_49 rfl ?_
        refine V_icmp_ne (tgt := 81) hC dX6_readsBlindly_50 (by decide) (fun c9 => ?_) (fun c9 => ?_)
        · have hf := if_f hf c9
          refine V_aload_n 1 hC dX6_readsBlindly_81 rfl rfl ?_
          refine V_iload_n 2 hC dX6_readsBlindly_82 rfl rfl ?_
          refine V_aload_n 1 hC dX6_readsBlindly_83 rfl rfl ?_
          refine V_aload_n 1 hC dX6_readsBlindly_84 rfl rfl ?_
          refine V_iload_n 2 hC dX6_readsBlindly_85 rfl rfl ?_
          obtain ⟨v10, ev10, hf⟩ := bi_some hf
          refine V_invi (o := 0) (As := [.int x1]) (rest := [.ref (yo Y 0), .int x1, .ref (yo Y 0)]) hC (c_X6_manyOpen hL ho ev10) me_X6_manyOpen lk_X6_337 ho rfl rfl rfl (Nat.le_of_ble_eq_true rfl) ⟨by decide, by decide⟩ hkn dX6_readsBlindly_86 ?_
          obtain ⟨q11, eq11, hf⟩ := bi_some hf
          refine V_invi (o := 0) (As := [.int v10]) (rest := [.int x1, .ref (yo Y 0)]) hC (c_X6_draw hL ho eq11) me_X6_draw lk_X6_265 ho rfl rfl rfl (Nat.le_of_ble_eq_true rfl) ⟨by decide, by decide⟩ hkn dX6_readsBlindly_89 ?_
          obtain ⟨v12, ev12, hf⟩ := bi_some hf
          refine V_invi (o := 0) (As := [.int x1, .int q11.1]) (rest := []) hC (c_X6_nthOpen hL ho ev12) me_X6_nthOpen lk_X6_340 ho rfl rfl rfl (Nat.le_of_ble_eq_true rfl) ⟨by decide, by decide⟩ hkn dX6_readsBlindly_92 ?_
          exact V_sub [1, 2, 3] rfl (b_X6_readsBlindly_95 hC hr hA ho hQ hk15 x1 x2 v12 q11.2 hf)
        · have hf := if_t hf c9
          refine V_aload_n 1 hC dX6_readsBlindly_53 rfl rfl ?_
          refine V_bipush (v := 6) hC dX6_readsBlindly_54 rfl ?_
          obtain ⟨q13, eq13, hf⟩ := bi_some hf
          refine V_invi (o := 0) (As := [.int 6]) (rest := []) hC (c_X6_draw hL ho eq13) me_X6_draw lk_X6_265 ho rfl rfl rfl (Nat.le_of_ble_eq_true rfl) ⟨by decide, by decide⟩ hkn dX6_readsBlindly_56 ?_
          refine V_iconst (v := 1) hC dX6_readsBlindly_59 rfl ?_
          refine V_iadd hC dX6_readsBlindly_60 ?_
          refine V_aload_n 1 hC dX6_readsBlindly_61 rfl rfl ?_
          refine V_geta (o := 0) hC ho rfl fk_X6_7 dX6_readsBlindly_62 ?_
          refine V_bipush (v := 80) hC dX6_readsBlindly_65 rfl ?_
          refine V_iload_n 0 hC dX6_readsBlindly_67 rfl rfl ?_
          refine V_iadd hC dX6_readsBlindly_68 ?_
          obtain ⟨g14, hf⟩ := gd_some hf
          refine V_iald (a := (32 * 0 + 0)) hC (hL.row ho rfl) g14 dX6_readsBlindly_69 ?_
          refine V_icmp_lt (tgt := 77) hC dX6_readsBlindly_70 (by decide) (fun c15 => ?_) (fun c15 => ?_)
          · have hf := if_t hf c15
            refine V_iconst (v := 1) hC dX6_readsBlindly_77 rfl ?_
            refine V_goto (tgt := 95) hC dX6_readsBlindly_78 (by decide) ?_
            exact V_sub [1, 2, 3] rfl (b_X6_readsBlindly_95 hC hr hA ho hQ hk15 x1 x2 1 q13.2 hf)
          · have hf := if_f hf c15
            refine V_iconst (v := 0) hC dX6_readsBlindly_73 rfl ?_
            refine V_goto (tgt := 95) hC dX6_readsBlindly_74 (by decide) ?_
            exact V_sub [1, 2, 3] rfl (b_X6_readsBlindly_95 hC hr hA ho hQ hk15 x1 x2 0 q13.2 hf)
def t_X6_readsBlindly (L : Nat → Nat) (d : Dt)  : Option (Int32 × Dt) := gd (inb 1 (L (32 * 0 + 0))) ((t_X6_stateAt L d 0 0 (gA d (32 * 0 + 0) (ix 1))).bind (fun q2 => lp (fun k x => t_X6_readsBlindly_15 L  (fun x1 x2 d => k (x1, x2, d)) x.1 x.2.1 x.2.2) FU (q2.1, 0, q2.2)))
set_option maxRecDepth 20000 in
theorem c_X6_readsBlindly {l : Launch} {Y : Yx} (hL : LAY Y) {z : Sh} {d : Dt}  (ho : (0, 0, 5) ∈ yI Y) {r : Int32} {d' : Dt} (hf : t_X6_readsBlindly z.1 d  = some (r, d')) : MM l yX6_readsBlindly cX6_readsBlindly 5 (some .boolean) 5 113 Y z [.ref (yo Y 0)] d (some (.int r)) d' := by
  refine MM.ofV (by decide +kernel) hL (Nat.le_of_ble_eq_true rfl) (fun K hl hC hr hQ hA => ?_)
  have hC : CK K Y cX6_readsBlindly 5 RX6 5 113 := hC
  have hkn : 0 ≤ (kR K).cells ∧ 0 ≤ (kR K).slots := ⟨Nat.zero_le _, Nat.zero_le _⟩
  unfold t_X6_readsBlindly at hf
  show V K Y 5 0 0 z d 0 [(0, .ref (yo Y 0))] []
  refine V_aload_n 0 hC dX6_readsBlindly_0 rfl rfl ?_
  refine V_iconst (v := 0) hC dX6_readsBlindly_1 rfl ?_
  refine V_iconst (v := 0) hC dX6_readsBlindly_2 rfl ?_
  refine V_aload_n 0 hC dX6_readsBlindly_3 rfl rfl ?_
  refine V_geta (o := 0) hC ho rfl fk_X6_7 dX6_readsBlindly_4 ?_
  refine V_iconst (v := 1) hC dX6_readsBlindly_7 rfl ?_
  obtain ⟨g1, hf⟩ := gd_some hf
  refine V_iald (a := (32 * 0 + 0)) hC (hL.row ho rfl) g1 dX6_readsBlindly_8 ?_
  obtain ⟨q2, eq2, hf⟩ := bi_some hf
  refine V_invi (o := 0) (As := [.int 0, .int 0, .int (gA d (32 * 0 + 0) (ix 1))]) (rest := []) hC (c_X6_stateAt hL ho eq2) me_X6_stateAt lk_X6_209 ho rfl rfl rfl (Nat.le_of_ble_eq_true rfl) ⟨by decide, by decide⟩ hkn dX6_readsBlindly_9 ?_
  refine V_istore_n (lv' := [(1, .int q2.1), (0, .ref (yo Y 0))]) hC dX6_readsBlindly_12 rfl (by decide) rfl ?_
  refine V_iconst (v := 0) hC dX6_readsBlindly_13 rfl ?_
  refine V_istore_n (lv' := [(2, .int 0), (1, .int q2.1), (0, .ref (yo Y 0))]) hC dX6_readsBlindly_14 rfl (by decide) rfl ?_
  exact V_sub [2, 1, 0] rfl (lp_ind (X := Int32 × Int32 × Dt) (P := fun x => V K Y 5 0 0 z x.2.2 15 [(0, .ref (yo Y 0)), (1, .int x.1), (2, .int x.2.1)] []) (fun k x hk hx => b_X6_readsBlindly_15 hC hr hA ho hQ  (k15 := fun x1 x2 d => k (x1, x2, d)) (fun x1 x2 d hx => hk (x1, x2, d) hx) x.1 x.2.1 x.2.2 hx) FU (q2.1, 0, q2.2) hf)
def t_X6_blind_31 (L : Nat → Nat) (p1 : Int32) (k31 : Int32 → Int32 → (Dt) → Option (Int32 × Dt)) (x2 : Int32) (x3 : Int32) (d : Dt) : Option (Int32 × Dt) := if p1 ≤ x3 then some (x2, d) else (t_X6_readsBlindly L d ).bind (fun q6 => (t_X6_one L q6.2 q6.1).bind (fun v7 => bd (x2 + v7) (fun y8 => k31 y8 (x3 + 1) q6.2)))
set_option maxRecDepth 20000 in
theorem b_X6_blind_31 {K : Kx} {Y : Yx} {z : Sh}  (hC : CK K Y cX6_blind 4 RX6 6 137) (hr : (kme K).sig.returnType = some .int) (hA : kA K = aY Y z) {p1 : Int32} (ho : (0, 0, 5) ∈ yI Y) {r : Int32} {d' : Dt} (hQ : kQ K = MQ (kb K) (QM Y z (some (.int r)) d') (ka K) (ks K) 0 0 (aY Y z)) {k31 : Int32 → Int32 → (Dt) → Option (Int32 × Dt)} (hk31 : ∀ (x2 : Int32) (x3 : Int32) (d : Dt), k31 x2 x3 d = some (r, d') → V K Y 4 0 0 z d 31 [(0, .ref (yo Y 0)), (1, .int p1), (2, .int x2), (3, .int x3)] []) (x2 : Int32) (x3 : Int32) (d : Dt) (hf : t_X6_blind_31 z.1 p1 k31 x2 x3 d = some (r, d')) : V K Y 4 0 0 z d 31 [(0, .ref (yo Y 0)), (1, .int p1), (2, .int x2), (3, .int x3)] [] := by
  have hL := hC.2.2.2.2.2.2.1
  have hkn : 0 ≤ (kR K).cells ∧ 0 ≤ (kR K).slots := ⟨Nat.zero_le _, Nat.zero_le _⟩
  unfold t_X6_blind_31 at hf
  refine V_iload_n 3 hC dX6_blind_31 rfl rfl ?_
  refine V_iload_n 1 hC dX6_blind_32 rfl rfl ?_
  refine V_icmp_ge (tgt := 52) hC dX6_blind_33 (by decide) (fun c5 => ?_) (fun c5 => ?_)
  · have hf := if_t hf c5
    refine V_iload_n 2 hC dX6_blind_52 rfl rfl ?_
    obtain ⟨rfl, rfl⟩ := so_inj2 hf
    exact V_iret hC hr hQ hA dX6_blind_53
  · have hf := if_f hf c5
    refine V_iload_n 2 hC dX6_blind_36 rfl rfl ?_
    refine V_aload_n 0 hC dX6_blind_37 rfl rfl ?_
    obtain ⟨q6, eq6, hf⟩ := bi_some hf
    refine V_invi (o := 0) (As := []) (rest := [.int x2]) hC (c_X6_readsBlindly hL ho eq6) me_X6_readsBlindly lk_X6_343 ho rfl rfl rfl (Nat.le_of_ble_eq_true rfl) ⟨by decide, by decide⟩ hkn dX6_blind_38 ?_
    obtain ⟨v7, ev7, hf⟩ := bi_some hf
    refine V_insi (As := [.int q6.1]) (rest := [.int x2]) hC (c_X6_one hL  ev7) me_X6_one lk_X6_218 rfl rfl (Nat.le_of_ble_eq_true rfl) ⟨by decide, by decide⟩ hkn dX6_blind_41 ?_
    refine V_iadd hC dX6_blind_44 ?_
    refine V_topi (fun y8 ey8 => ?_)
    have hf := bd_e hf y8 ey8
    refine V_istore_n (lv' := [(2, .int y8), (0, .ref (yo Y 0)), (1, .int p1), (3, .int x3)]) hC dX6_blind_45 rfl (by decide) rfl ?_
    refine V_iinc (v := x3 + 1) (lv' := [(3, .int (x3 + 1)), (2, .int y8), (0, .ref (yo Y 0)), (1, .int p1)]) 3 hC dX6_blind_46 rfl rfl (by decide) rfl ?_
    refine V_goto (tgt := 31) hC dX6_blind_49 (by decide) ?_
    exact V_sub [2, 3, 1, 0] rfl (hk31 y8 (x3 + 1) q6.2 hf)
def t_X6_blind (L : Nat → Nat) (d : Dt) (p1 : Int32) : Option (Int32 × Dt) := (t_X6_in L d (p1.toInt64) 1 99).bind (fun v1 => if v1 = 0 then some ((-1000002), d) else gd (inb 0 (L (32 * 0 + 0))) (if (gA d (32 * 0 + 0) (ix 0)) = 0 then some ((-1000003), d) else lp (fun k x => t_X6_blind_31 L p1  (fun x2 x3 d => k (x2, x3, d)) x.1 x.2.1 x.2.2) FU (0, 0, d)))
set_option maxRecDepth 20000 in
theorem c_X6_blind {l : Launch} {Y : Yx} (hL : LAY Y) {z : Sh} {d : Dt} {p1 : Int32} (ho : (0, 0, 5) ∈ yI Y) {r : Int32} {d' : Dt} (hf : t_X6_blind z.1 d p1 = some (r, d')) : MM l yX6_blind cX6_blind 4 (some .int) 6 137 Y z [.ref (yo Y 0), .int p1] d (some (.int r)) d' := by
  refine MM.ofV (by decide +kernel) hL (Nat.le_of_ble_eq_true rfl) (fun K hl hC hr hQ hA => ?_)
  have hC : CK K Y cX6_blind 4 RX6 6 137 := hC
  have hkn : 0 ≤ (kR K).cells ∧ 0 ≤ (kR K).slots := ⟨Nat.zero_le _, Nat.zero_le _⟩
  unfold t_X6_blind at hf
  show V K Y 4 0 0 z d 0 [(0, .ref (yo Y 0)), (1, .int p1)] []
  refine V_iload_n 1 hC dX6_blind_0 rfl rfl ?_
  refine V_i2l hC dX6_blind_1 ?_
  refine V_lconst (v := 1) hC dX6_blind_2 rfl ?_
  refine V_ldc2 hC cl_X6_327 dX6_blind_3 ?_
  obtain ⟨v1, ev1, hf⟩ := bi_some hf
  refine V_insi (As := [.long (p1.toInt64), .long 1, .long 99]) (rest := []) hC (c_X6_in hL  ev1) me_X6_in lk_X6_66 rfl rfl (Nat.le_of_ble_eq_true rfl) ⟨by decide, by decide⟩ hkn dX6_blind_6 ?_
  refine V_if_ne (tgt := 15) hC dX6_blind_9 (by decide) (fun c2 => ?_) (fun c2 => ?_)
  · have hf := if_f hf c2
    refine V_aload_n 0 hC dX6_blind_15 rfl rfl ?_
    refine V_geta (o := 0) hC ho rfl fk_X6_7 dX6_blind_16 ?_
    refine V_iconst (v := 0) hC dX6_blind_19 rfl ?_
    obtain ⟨g3, hf⟩ := gd_some hf
    refine V_iald (a := (32 * 0 + 0)) hC (hL.row ho rfl) g3 dX6_blind_20 ?_
    refine V_if_ne (tgt := 27) hC dX6_blind_21 (by decide) (fun c4 => ?_) (fun c4 => ?_)
    · have hf := if_f hf c4
      refine V_iconst (v := 0) hC dX6_blind_27 rfl ?_
      refine V_istore_n (lv' := [(2, .int 0), (0, .ref (yo Y 0)), (1, .int p1)]) hC dX6_blind_28 rfl (by decide) rfl ?_
      refine V_iconst (v := 0) hC dX6_blind_29 rfl ?_
      refine V_istore_n (lv' := [(3, .int 0), (2, .int 0), (0, .ref (yo Y 0)), (1, .int p1)]) hC dX6_blind_30 rfl (by decide) rfl ?_
      exact V_sub [2, 3, 1, 0] rfl (lp_ind (X := Int32 × Int32 × Dt) (P := fun x => V K Y 4 0 0 z x.2.2 31 [(0, .ref (yo Y 0)), (1, .int p1), (2, .int x.1), (3, .int x.2.1)] []) (fun k x hk hx => b_X6_blind_31 hC hr hA ho hQ  (k31 := fun x2 x3 d => k (x2, x3, d)) (fun x2 x3 d hx => hk (x2, x3, d) hx) x.1 x.2.1 x.2.2 hx) FU (0, 0, d) hf)
    · have hf := if_t hf c4
      refine V_ldc hC ck_X6_166 dX6_blind_24 ?_
      obtain ⟨rfl, rfl⟩ := so_inj2 hf
      exact V_iret hC hr hQ hA dX6_blind_26
  · have hf := if_t hf c2
    refine V_ldc hC ck_X6_70 dX6_blind_12 ?_
    obtain ⟨rfl, rfl⟩ := so_inj2 hf
    exact V_iret hC hr hQ hA dX6_blind_14
def t_X6_copy_2 (L : Nat → Nat) (p1 : Int32) (p2 : Int32) (k2 : Int32 → (Dt) → Option (Dt)) (x3 : Int32) (d : Dt) : Option (Dt) := if 1376 ≤ x3 then some d else gd (inb (p1 + x3) (L (32 * 0 + 0))) (gd (inb (p2 + x3) (L (32 * 0 + 0))) (bd (sA d (32 * 0 + 0) (ix (p2 + x3)) (gA d (32 * 0 + 0) (ix (p1 + x3)))) (fun d4 => k2 (x3 + 1) d4)))
set_option maxRecDepth 20000 in
theorem b_X6_copy_2 {K : Kx} {Y : Yx} {z : Sh}  (hC : CK K Y cX6_copy 4 RX6 0 0) (hr : (kme K).sig.returnType = none) (hA : kA K = aY Y z) {p1 : Int32} {p2 : Int32} (ho : (0, 0, 5) ∈ yI Y) {d' : Dt} (hQ : kQ K = MQ (kb K) (QM Y z (none) d') (ka K) (ks K) 0 0 (aY Y z)) {k2 : Int32 → (Dt) → Option (Dt)} (hk2 : ∀ (x3 : Int32) (d : Dt), k2 x3 d = some d' → V K Y 4 0 0 z d 2 [(0, .ref (yo Y 0)), (1, .int p1), (2, .int p2), (3, .int x3)] []) (x3 : Int32) (d : Dt) (hf : t_X6_copy_2 z.1 p1 p2 k2 x3 d = some d') : V K Y 4 0 0 z d 2 [(0, .ref (yo Y 0)), (1, .int p1), (2, .int p2), (3, .int x3)] [] := by
  have hL := hC.2.2.2.2.2.2.1
  unfold t_X6_copy_2 at hf
  refine V_iload_n 3 hC dX6_copy_2 rfl rfl ?_
  refine V_sipush (v := 1376) hC dX6_copy_3 rfl ?_
  refine V_icmp_ge (tgt := 31) hC dX6_copy_6 (by decide) (fun c1 => ?_) (fun c1 => ?_)
  · have hf := if_t hf c1
    obtain rfl := so_inj hf
    exact V_vret hC hr hQ hA dX6_copy_31
  · have hf := if_f hf c1
    refine V_aload_n 0 hC dX6_copy_9 rfl rfl ?_
    refine V_geta (o := 0) hC ho rfl fk_X6_7 dX6_copy_10 ?_
    refine V_iload_n 2 hC dX6_copy_13 rfl rfl ?_
    refine V_iload_n 3 hC dX6_copy_14 rfl rfl ?_
    refine V_iadd hC dX6_copy_15 ?_
    refine V_aload_n 0 hC dX6_copy_16 rfl rfl ?_
    refine V_geta (o := 0) hC ho rfl fk_X6_7 dX6_copy_17 ?_
    refine V_iload_n 1 hC dX6_copy_20 rfl rfl ?_
    refine V_iload_n 3 hC dX6_copy_21 rfl rfl ?_
    refine V_iadd hC dX6_copy_22 ?_
    obtain ⟨g2, hf⟩ := gd_some hf
    refine V_iald (a := (32 * 0 + 0)) hC (hL.row ho rfl) g2 dX6_copy_23 ?_
    obtain ⟨g3, hf⟩ := gd_some hf
    refine V_iast (a := (32 * 0 + 0)) hC (hL.row ho rfl) g3 dX6_copy_24 (fun d4 ed4 => ?_)
    have hf := bd_e hf d4 ed4
    refine V_iinc (v := x3 + 1) (lv' := [(3, .int (x3 + 1)), (0, .ref (yo Y 0)), (1, .int p1), (2, .int p2)]) 3 hC dX6_copy_25 rfl rfl (by decide) rfl ?_
    refine V_goto (tgt := 2) hC dX6_copy_28 (by decide) ?_
    exact V_sub [1, 2, 3, 0] rfl (hk2 (x3 + 1) d4 hf)
def t_X6_copy (L : Nat → Nat) (d : Dt) (p1 : Int32) (p2 : Int32) : Option (Dt) := lp (fun k x => t_X6_copy_2 L p1 p2  (fun x3 d => k (x3, d)) x.1 x.2) FU (0, d)
set_option maxRecDepth 20000 in
theorem c_X6_copy {l : Launch} {Y : Yx} (hL : LAY Y) {z : Sh} {d : Dt} {p1 : Int32} {p2 : Int32} (ho : (0, 0, 5) ∈ yI Y) {d' : Dt} (hf : t_X6_copy z.1 d p1 p2 = some d') : MM l yX6_copy cX6_copy 4 none 0 0 Y z [.ref (yo Y 0), .int p1, .int p2] d (none) d' := by
  refine MM.ofV (by decide +kernel) hL (Nat.le_of_ble_eq_true rfl) (fun K hl hC hr hQ hA => ?_)
  have hC : CK K Y cX6_copy 4 RX6 0 0 := hC
  unfold t_X6_copy at hf
  show V K Y 4 0 0 z d 0 [(0, .ref (yo Y 0)), (1, .int p1), (2, .int p2)] []
  refine V_iconst (v := 0) hC dX6_copy_0 rfl ?_
  refine V_istore_n (lv' := [(3, .int 0), (0, .ref (yo Y 0)), (1, .int p1), (2, .int p2)]) hC dX6_copy_1 rfl (by decide) rfl ?_
  exact V_sub [1, 2, 3, 0] rfl (lp_ind (X := Int32 × Dt) (P := fun x => V K Y 4 0 0 z x.2 2 [(0, .ref (yo Y 0)), (1, .int p1), (2, .int p2), (3, .int x.1)] []) (fun k x hk hx => b_X6_copy_2 hC hr hA ho hQ  (k2 := fun x3 d => k (x3, d)) (fun x3 d hx => hk (x3, d) hx) x.1 x.2 hx) FU (0, d) hf)
def t_X6_keep (L : Nat → Nat) (d : Dt) (p1 : Int32) : Option (Int32 × Dt) := (t_X6_in L d (p1.toInt64) 0 1).bind (fun v1 => if v1 = 0 then some ((-1000001), d) else (t_X6_copy L d 0 (1376 * (p1 + 1))).bind (fun d3 => gd (inb p1 (L (32 * 0 + 1))) (bd (sA d3 (32 * 0 + 1) (ix p1) (vp_nar .boolean 1)) (fun d5 => some (1, d5)))))
set_option maxRecDepth 20000 in
theorem c_X6_keep {l : Launch} {Y : Yx} (hL : LAY Y) {z : Sh} {d : Dt} {p1 : Int32} (ho : (0, 0, 5) ∈ yI Y) {r : Int32} {d' : Dt} (hf : t_X6_keep z.1 d p1 = some (r, d')) : MM l yX6_keep cX6_keep 2 (some .int) 1 25 Y z [.ref (yo Y 0), .int p1] d (some (.int r)) d' := by
  refine MM.ofV (by decide +kernel) hL (Nat.le_of_ble_eq_true rfl) (fun K hl hC hr hQ hA => ?_)
  have hC : CK K Y cX6_keep 2 RX6 1 25 := hC
  have hkn : 0 ≤ (kR K).cells ∧ 0 ≤ (kR K).slots := ⟨Nat.zero_le _, Nat.zero_le _⟩
  unfold t_X6_keep at hf
  show V K Y 2 0 0 z d 0 [(0, .ref (yo Y 0)), (1, .int p1)] []
  refine V_iload_n 1 hC dX6_keep_0 rfl rfl ?_
  refine V_i2l hC dX6_keep_1 ?_
  refine V_lconst (v := 0) hC dX6_keep_2 rfl ?_
  refine V_lconst (v := 1) hC dX6_keep_3 rfl ?_
  obtain ⟨v1, ev1, hf⟩ := bi_some hf
  refine V_insi (As := [.long (p1.toInt64), .long 0, .long 1]) (rest := []) hC (c_X6_in hL  ev1) me_X6_in lk_X6_66 rfl rfl (Nat.le_of_ble_eq_true rfl) ⟨by decide, by decide⟩ hkn dX6_keep_4 ?_
  refine V_if_ne (tgt := 13) hC dX6_keep_7 (by decide) (fun c2 => ?_) (fun c2 => ?_)
  · have hf := if_f hf c2
    refine V_aload_n 0 hC dX6_keep_13 rfl rfl ?_
    refine V_iconst (v := 0) hC dX6_keep_14 rfl ?_
    refine V_sipush (v := 1376) hC dX6_keep_15 rfl ?_
    refine V_iload_n 1 hC dX6_keep_18 rfl rfl ?_
    refine V_iconst (v := 1) hC dX6_keep_19 rfl ?_
    refine V_iadd hC dX6_keep_20 ?_
    refine V_imul hC dX6_keep_21 ?_
    obtain ⟨d3, ed3, hf⟩ := bi_some hf
    refine V_invv (o := 0) (As := [.int 0, .int (1376 * (p1 + 1))]) (rest := []) hC (c_X6_copy hL ho ed3) me_X6_copy lk_X6_346 ho rfl rfl rfl (Nat.le_of_ble_eq_true rfl) ⟨by decide, by decide⟩ hkn dX6_keep_22 ?_
    refine V_aload_n 0 hC dX6_keep_25 rfl rfl ?_
    refine V_geta (o := 0) hC ho rfl fk_X6_13 dX6_keep_26 ?_
    refine V_iload_n 1 hC dX6_keep_29 rfl rfl ?_
    refine V_iconst (v := 1) hC dX6_keep_30 rfl ?_
    obtain ⟨g4, hf⟩ := gd_some hf
    refine V_zast (a := (32 * 0 + 1)) hC (hL.row ho rfl) g4 dX6_keep_31 (fun d5 ed5 => ?_)
    have hf := bd_e hf d5 ed5
    refine V_iconst (v := 1) hC dX6_keep_32 rfl ?_
    obtain ⟨rfl, rfl⟩ := so_inj2 hf
    exact V_iret hC hr hQ hA dX6_keep_33
  · have hf := if_t hf c2
    refine V_ldc hC ck_X6_156 dX6_keep_10 ?_
    obtain ⟨rfl, rfl⟩ := so_inj2 hf
    exact V_iret hC hr hQ hA dX6_keep_12
def t_X6_goBack (L : Nat → Nat) (d : Dt) (p1 : Int32) : Option (Int32 × Dt) := (t_X6_in L d (p1.toInt64) 0 1).bind (fun v1 => if v1 = 0 then some ((-1000001), d) else gd (inb p1 (L (32 * 0 + 1))) (if (gA d (32 * 0 + 1) (ix p1)) = 0 then some ((-1000003), d) else (t_X6_copy L d (1376 * (p1 + 1)) 0).bind (fun d5 => some (1, d5))))
set_option maxRecDepth 20000 in
theorem c_X6_goBack {l : Launch} {Y : Yx} (hL : LAY Y) {z : Sh} {d : Dt} {p1 : Int32} (ho : (0, 0, 5) ∈ yI Y) {r : Int32} {d' : Dt} (hf : t_X6_goBack z.1 d p1 = some (r, d')) : MM l yX6_goBack cX6_goBack 2 (some .int) 1 25 Y z [.ref (yo Y 0), .int p1] d (some (.int r)) d' := by
  refine MM.ofV (by decide +kernel) hL (Nat.le_of_ble_eq_true rfl) (fun K hl hC hr hQ hA => ?_)
  have hC : CK K Y cX6_goBack 2 RX6 1 25 := hC
  have hkn : 0 ≤ (kR K).cells ∧ 0 ≤ (kR K).slots := ⟨Nat.zero_le _, Nat.zero_le _⟩
  unfold t_X6_goBack at hf
  show V K Y 2 0 0 z d 0 [(0, .ref (yo Y 0)), (1, .int p1)] []
  refine V_iload_n 1 hC dX6_goBack_0 rfl rfl ?_
  refine V_i2l hC dX6_goBack_1 ?_
  refine V_lconst (v := 0) hC dX6_goBack_2 rfl ?_
  refine V_lconst (v := 1) hC dX6_goBack_3 rfl ?_
  obtain ⟨v1, ev1, hf⟩ := bi_some hf
  refine V_insi (As := [.long (p1.toInt64), .long 0, .long 1]) (rest := []) hC (c_X6_in hL  ev1) me_X6_in lk_X6_66 rfl rfl (Nat.le_of_ble_eq_true rfl) ⟨by decide, by decide⟩ hkn dX6_goBack_4 ?_
  refine V_if_ne (tgt := 13) hC dX6_goBack_7 (by decide) (fun c2 => ?_) (fun c2 => ?_)
  · have hf := if_f hf c2
    refine V_aload_n 0 hC dX6_goBack_13 rfl rfl ?_
    refine V_geta (o := 0) hC ho rfl fk_X6_13 dX6_goBack_14 ?_
    refine V_iload_n 1 hC dX6_goBack_17 rfl rfl ?_
    obtain ⟨g3, hf⟩ := gd_some hf
    refine V_zald (a := (32 * 0 + 1)) hC (hL.row ho rfl) g3 dX6_goBack_18 ?_
    refine V_if_ne (tgt := 25) hC dX6_goBack_19 (by decide) (fun c4 => ?_) (fun c4 => ?_)
    · have hf := if_f hf c4
      refine V_aload_n 0 hC dX6_goBack_25 rfl rfl ?_
      refine V_sipush (v := 1376) hC dX6_goBack_26 rfl ?_
      refine V_iload_n 1 hC dX6_goBack_29 rfl rfl ?_
      refine V_iconst (v := 1) hC dX6_goBack_30 rfl ?_
      refine V_iadd hC dX6_goBack_31 ?_
      refine V_imul hC dX6_goBack_32 ?_
      refine V_iconst (v := 0) hC dX6_goBack_33 rfl ?_
      obtain ⟨d5, ed5, hf⟩ := bi_some hf
      refine V_invv (o := 0) (As := [.int (1376 * (p1 + 1)), .int 0]) (rest := []) hC (c_X6_copy hL ho ed5) me_X6_copy lk_X6_346 ho rfl rfl rfl (Nat.le_of_ble_eq_true rfl) ⟨by decide, by decide⟩ hkn dX6_goBack_34 ?_
      refine V_iconst (v := 1) hC dX6_goBack_37 rfl ?_
      obtain ⟨rfl, rfl⟩ := so_inj2 hf
      exact V_iret hC hr hQ hA dX6_goBack_38
    · have hf := if_t hf c4
      refine V_ldc hC ck_X6_166 dX6_goBack_22 ?_
      obtain ⟨rfl, rfl⟩ := so_inj2 hf
      exact V_iret hC hr hQ hA dX6_goBack_24
  · have hf := if_t hf c2
    refine V_ldc hC ck_X6_156 dX6_goBack_10 ?_
    obtain ⟨rfl, rfl⟩ := so_inj2 hf
    exact V_iret hC hr hQ hA dX6_goBack_12
