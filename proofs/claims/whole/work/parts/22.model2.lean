/-! ===== ChoiceBookModel: lifted and met ===== -/
theorem lk_X6_253 : Cond.methodLink RX6 253 yX6_goTo ∈ gt := gt_t 1183 (by decide +kernel) rfl
theorem me_X6_goTo : MEV RX6 yX6_goTo cX6_goTo 2 none 1 := ⟨⟨gt_t 1186 (by decide +kernel) rfl, gt_t 6 (by decide +kernel) rfl, by decide +kernel⟩, gt_t 1185 (by decide +kernel) rfl, gt_s (q := (yX6_goTo, 30)) 65 (by decide +kernel)⟩
theorem cl_X6_256 : Cond.constantLong RX6 256 (1103515245) ∈ gt := gt_t 1196 (by decide +kernel) rfl
theorem cl_X6_258 : Cond.constantLong RX6 258 (12345) ∈ gt := gt_t 1197 (by decide +kernel) rfl
theorem cl_X6_260 : Cond.constantLong RX6 260 (2147483648) ∈ gt := gt_t 1198 (by decide +kernel) rfl
theorem ck_X6_262 : Cond.constant RX6 262 (65536) ∈ gt := gt_t 1199 (by decide +kernel) rfl
theorem cl_X6_263 : Cond.constantLong RX6 263 (6) ∈ gt := gt_t 1191 (by decide +kernel) rfl
theorem lk_X6_265 : Cond.methodLink RX6 265 yX6_draw ∈ gt := gt_t 1192 (by decide +kernel) rfl
theorem me_X6_draw : MEV RX6 yX6_draw cX6_draw 2 (some .int) 1 := ⟨⟨gt_t 1195 (by decide +kernel) rfl, gt_t 6 (by decide +kernel) rfl, by decide +kernel⟩, gt_t 1194 (by decide +kernel) rfl, gt_s (q := (yX6_draw, 30)) 66 (by decide +kernel)⟩
theorem lk_X6_268 : Cond.methodLink RX6 268 yX6_rollBy ∈ gt := gt_t 1200 (by decide +kernel) rfl
theorem me_X6_rollBy : MEV RX6 yX6_rollBy cX6_rollBy 3 none 1 := ⟨⟨gt_t 1203 (by decide +kernel) rfl, gt_t 6 (by decide +kernel) rfl, by decide +kernel⟩, gt_t 1202 (by decide +kernel) rfl, gt_s (q := (yX6_rollBy, 30)) 67 (by decide +kernel)⟩
theorem cl_X6_271 : Cond.constantLong RX6 271 (5) ∈ gt := gt_t 1208 (by decide +kernel) rfl
theorem lk_X6_273 : Cond.methodLink RX6 273 yX6_openNow ∈ gt := gt_t 1209 (by decide +kernel) rfl
theorem me_X6_openNow : MEV RX6 yX6_openNow cX6_openNow 3 (some .int) 0 := ⟨⟨gt_t 1212 (by decide +kernel) rfl, gt_t 6 (by decide +kernel) rfl, by decide +kernel⟩, gt_t 1211 (by decide +kernel) rfl, gt_s (q := (yX6_openNow, 30)) 68 (by decide +kernel)⟩
theorem lk_X6_277 : Cond.methodLink RX6 277 yX6_oddsAt ∈ gt := gt_t 1235 (by decide +kernel) rfl
theorem me_X6_oddsAt : MEV RX6 yX6_oddsAt cX6_oddsAt 2 (some .int) 1 := ⟨⟨gt_t 1238 (by decide +kernel) rfl, gt_t 6 (by decide +kernel) rfl, by decide +kernel⟩, gt_t 1237 (by decide +kernel) rfl, gt_s (q := (yX6_oddsAt, 30)) 73 (by decide +kernel)⟩
theorem ck_X6_276 : Cond.constant RX6 276 (1000000) ∈ gt := gt_t 1230 (by decide +kernel) rfl
theorem lk_X6_280 : Cond.methodLink RX6 280 yX6_oddsOf ∈ gt := gt_t 1231 (by decide +kernel) rfl
theorem me_X6_oddsOf : MEV RX6 yX6_oddsOf cX6_oddsOf 7 (some .int) 1 := ⟨⟨gt_t 1234 (by decide +kernel) rfl, gt_t 6 (by decide +kernel) rfl, by decide +kernel⟩, gt_t 1233 (by decide +kernel) rfl, gt_s (q := (yX6_oddsOf, 30)) 72 (by decide +kernel)⟩
theorem cl_X6_283 : Cond.constantLong RX6 283 (60) ∈ gt := gt_t 1217 (by decide +kernel) rfl
theorem lk_X6_285 : Cond.methodLink RX6 285 yX6_nowState ∈ gt := gt_t 1218 (by decide +kernel) rfl
theorem me_X6_nowState : MEV RX6 yX6_nowState cX6_nowState 1 (some .int) 0 := ⟨⟨gt_t 1221 (by decide +kernel) rfl, gt_t 6 (by decide +kernel) rfl, by decide +kernel⟩, gt_t 1220 (by decide +kernel) rfl, gt_s (q := (yX6_nowState, 30)) 69 (by decide +kernel)⟩
theorem lk_X6_288 : Cond.methodLink RX6 288 yX6_spreadFrom ∈ gt := gt_t 1222 (by decide +kernel) rfl
theorem me_X6_spreadFrom : MEV RX6 yX6_spreadFrom cX6_spreadFrom 2 none 1 := ⟨⟨gt_t 1225 (by decide +kernel) rfl, gt_t 6 (by decide +kernel) rfl, by decide +kernel⟩, gt_t 1224 (by decide +kernel) rfl, gt_s (q := (yX6_spreadFrom, 30)) 70 (by decide +kernel)⟩
theorem lk_X6_291 : Cond.methodLink RX6 291 yX6_findOdds ∈ gt := gt_t 1226 (by decide +kernel) rfl
theorem me_X6_findOdds : MEV RX6 yX6_findOdds cX6_findOdds 4 none 1 := ⟨⟨gt_t 1229 (by decide +kernel) rfl, gt_t 6 (by decide +kernel) rfl, by decide +kernel⟩, gt_t 1228 (by decide +kernel) rfl, gt_s (q := (yX6_findOdds, 30)) 71 (by decide +kernel)⟩
theorem lk_X6_294 : Cond.methodLink RX6 294 yX6_isSureAt ∈ gt := gt_t 1251 (by decide +kernel) rfl
theorem me_X6_isSureAt : MEV RX6 yX6_isSureAt cX6_isSureAt 2 (some .boolean) 1 := ⟨⟨gt_t 1254 (by decide +kernel) rfl, gt_t 6 (by decide +kernel) rfl, by decide +kernel⟩, gt_t 1253 (by decide +kernel) rfl, gt_s (q := (yX6_isSureAt, 30)) 74 (by decide +kernel)⟩
theorem lk_X6_297 : Cond.methodLink RX6 297 yX6_makesSure ∈ gt := gt_t 1255 (by decide +kernel) rfl
theorem me_X6_makesSure : MEV RX6 yX6_makesSure cX6_makesSure 6 (some .boolean) 1 := ⟨⟨gt_t 1258 (by decide +kernel) rfl, gt_t 6 (by decide +kernel) rfl, by decide +kernel⟩, gt_t 1257 (by decide +kernel) rfl, gt_s (q := (yX6_makesSure, 30)) 75 (by decide +kernel)⟩
theorem lk_X6_300 : Cond.methodLink RX6 300 yX6_hasWon ∈ gt := gt_t 1271 (by decide +kernel) rfl
theorem me_X6_hasWon : MEV RX6 yX6_hasWon cX6_hasWon 3 (some .boolean) 0 := ⟨⟨gt_t 1274 (by decide +kernel) rfl, gt_t 6 (by decide +kernel) rfl, by decide +kernel⟩, gt_t 1273 (by decide +kernel) rfl, gt_s (q := (yX6_hasWon, 30)) 78 (by decide +kernel)⟩
theorem lk_X6_304 : Cond.methodLink RX6 304 yX6_partsFound ∈ gt := gt_t 1263 (by decide +kernel) rfl
theorem me_X6_partsFound : MEV RX6 yX6_partsFound cX6_partsFound 3 (some .int) 0 := ⟨⟨gt_t 1266 (by decide +kernel) rfl, gt_t 6 (by decide +kernel) rfl, by decide +kernel⟩, gt_t 1265 (by decide +kernel) rfl, gt_s (q := (yX6_partsFound, 30)) 76 (by decide +kernel)⟩
theorem lk_X6_307 : Cond.methodLink RX6 307 yX6_must ∈ gt := gt_t 1267 (by decide +kernel) rfl
theorem me_X6_must : MEV RX6 yX6_must cX6_must 3 (some .int) 0 := ⟨⟨gt_t 1270 (by decide +kernel) rfl, gt_t 6 (by decide +kernel) rfl, by decide +kernel⟩, gt_t 1269 (by decide +kernel) rfl, gt_s (q := (yX6_must, 30)) 77 (by decide +kernel)⟩
theorem lk_X6_310 : Cond.methodLink RX6 310 yX6_traps ∈ gt := gt_t 1275 (by decide +kernel) rfl
theorem me_X6_traps : MEV RX6 yX6_traps cX6_traps 6 (some .int) 0 := ⟨⟨gt_t 1278 (by decide +kernel) rfl, gt_t 6 (by decide +kernel) rfl, by decide +kernel⟩, gt_t 1277 (by decide +kernel) rfl, gt_s (q := (yX6_traps, 30)) 79 (by decide +kernel)⟩
theorem lk_X6_313 : Cond.methodLink RX6 313 yX6_holes ∈ gt := gt_t 1279 (by decide +kernel) rfl
theorem me_X6_holes : MEV RX6 yX6_holes cX6_holes 3 (some .int) 0 := ⟨⟨gt_t 1282 (by decide +kernel) rfl, gt_t 6 (by decide +kernel) rfl, by decide +kernel⟩, gt_t 1281 (by decide +kernel) rfl, gt_s (q := (yX6_holes, 30)) 80 (by decide +kernel)⟩
def t_X6_choose (L : Nat → Nat) (d : Dt) (p1 : Int32) : Option (Int32 × Dt) := gd (inb 3 (L (32 * 0 + 0))) (if 0 ≤ (gA d (32 * 0 + 0) (ix 3)) then gd (inb 3 (L (32 * 0 + 0))) (bd (gA d (32 * 0 + 0) (ix 3)) (fun y4 => gd (inb (56 + y4) (L (32 * 0 + 0))) ((t_X6_in L d (p1.toInt64) 0 (((gA d (32 * 0 + 0) (ix (56 + y4))) - 1 : Int32).toInt64)).bind (fun v6 => if v6 = 0 then some ((-1000001), d) else (t_X6_stands L d ).bind (fun v8 => if v8 = 0 then gd (inb 4 (L (32 * 0 + 0))) ((t_X6_isOpenChoice L d y4 p1 (gA d (32 * 0 + 0) (ix 4))).bind (fun v11 => if v11 = 0 then some ((-1000003), d) else gd (inb ((368 + (6 * y4)) + p1) (L (32 * 0 + 0))) ((t_X6_goTo L d (gA d (32 * 0 + 0) (ix ((368 + (6 * y4)) + p1)))).bind (fun d14 => (t_X6_stands L d14 ).bind (fun v15 => some (v15, d14)))))) else some ((-1000003), d)))))) else some ((-1000003), d))
set_option maxRecDepth 20000 in
theorem c_X6_choose {l : Launch} {Y : Yx} (hL : LAY Y) {z : Sh} {d : Dt} {p1 : Int32} (ho : (0, 0, 5) ∈ yI Y) {r : Int32} {d' : Dt} (hf : t_X6_choose z.1 d p1 = some (r, d')) : MM l yX6_choose cX6_choose 3 (some .int) 6 134 Y z [.ref (yo Y 0), .int p1] d (some (.int r)) d' := by
  refine MM.ofV (by decide +kernel) hL (Nat.le_of_ble_eq_true rfl) (fun K hl hC hr hQ hA => ?_)
  have hC : CK K Y cX6_choose 3 RX6 6 134 := hC
  have hkn : 0 ≤ (kR K).cells ∧ 0 ≤ (kR K).slots := ⟨Nat.zero_le _, Nat.zero_le _⟩
  unfold t_X6_choose at hf
  show V K Y 3 0 0 z d 0 [(0, .ref (yo Y 0)), (1, .int p1)] []
  refine V_aload_n 0 hC dX6_choose_0 rfl rfl ?_
  refine V_geta (o := 0) hC ho rfl fk_X6_7 dX6_choose_1 ?_
  refine V_iconst (v := 3) hC dX6_choose_4 rfl ?_
  obtain ⟨g1, hf⟩ := gd_some hf
  refine V_iald (a := (32 * 0 + 0)) hC (hL.row ho rfl) g1 dX6_choose_5 ?_
  refine V_if_ge (tgt := 12) hC dX6_choose_6 (by decide) (fun c2 => ?_) (fun c2 => ?_)
  · have hf := if_t hf c2
    refine V_aload_n 0 hC dX6_choose_12 rfl rfl ?_
    refine V_geta (o := 0) hC ho rfl fk_X6_7 dX6_choose_13 ?_
    refine V_iconst (v := 3) hC dX6_choose_16 rfl ?_
    obtain ⟨g3, hf⟩ := gd_some hf
    refine V_iald (a := (32 * 0 + 0)) hC (hL.row ho rfl) g3 dX6_choose_17 ?_
    refine V_topi (fun y4 ey4 => ?_)
    have hf := bd_e hf y4 ey4
    refine V_istore_n (lv' := [(2, .int y4), (0, .ref (yo Y 0)), (1, .int p1)]) hC dX6_choose_18 rfl (by decide) rfl ?_
    refine V_iload_n 2 hC dX6_choose_19 rfl rfl ?_
    refine V_i2l hC dX6_choose_20 ?_
    refine V_lconst (v := 0) hC dX6_choose_21 rfl ?_
    refine V_aload_n 1 hC dX6_choose_22 rfl rfl ?_
    refine V_geta (o := 0) hC ho rfl fk_X6_7 dX6_choose_23 ?_
    refine V_bipush (v := 56) hC dX6_choose_26 rfl ?_
    refine V_iload_n 0 hC dX6_choose_28 rfl rfl ?_
    refine V_iadd hC dX6_choose_29 ?_
    obtain ⟨g5, hf⟩ := gd_some hf
    refine V_iald (a := (32 * 0 + 0)) hC (hL.row ho rfl) g5 dX6_choose_30 ?_
    refine V_iconst (v := 1) hC dX6_choose_31 rfl ?_
    refine V_isub hC dX6_choose_32 ?_
    refine V_i2l hC dX6_choose_33 ?_
    obtain ⟨v6, ev6, hf⟩ := bi_some hf
    refine V_insi (As := [.long (p1.toInt64), .long 0, .long (((gA d (32 * 0 + 0) (ix (56 + y4))) - 1 : Int32).toInt64)]) (rest := []) hC (c_X6_in hL  ev6) me_X6_in lk_X6_66 rfl rfl (Nat.le_of_ble_eq_true rfl) ⟨by decide, by decide⟩ hkn dX6_choose_34 ?_
    refine V_if_ne (tgt := 43) hC dX6_choose_37 (by decide) (fun c7 => ?_) (fun c7 => ?_)
    · have hf := if_f hf c7
      refine V_aload_n 1 hC dX6_choose_43 rfl rfl ?_
      obtain ⟨v8, ev8, hf⟩ := bi_some hf
      refine V_invi (o := 0) (As := []) (rest := []) hC (c_X6_stands hL ho ev8) me_X6_stands lk_X6_250 ho rfl rfl rfl (Nat.le_of_ble_eq_true rfl) ⟨by decide, by decide⟩ hkn dX6_choose_44 ?_
      refine V_if_ne (tgt := 65) hC dX6_choose_47 (by decide) (fun c9 => ?_) (fun c9 => ?_)
      · have hf := if_f hf c9
        refine V_ldc hC ck_X6_166 dX6_choose_65 ?_
        obtain ⟨rfl, rfl⟩ := so_inj2 hf
        exact V_iret hC hr hQ hA dX6_choose_67
      · have hf := if_t hf c9
        refine V_aload_n 1 hC dX6_choose_50 rfl rfl ?_
        refine V_iload_n 0 hC dX6_choose_51 rfl rfl ?_
        refine V_iload_n 2 hC dX6_choose_52 rfl rfl ?_
        refine V_aload_n 1 hC dX6_choose_53 rfl rfl ?_
        refine V_geta (o := 0) hC ho rfl fk_X6_7 dX6_choose_54 ?_
        refine V_iconst (v := 4) hC dX6_choose_57 rfl ?_
        obtain ⟨g10, hf⟩ := gd_some hf
        refine V_iald (a := (32 * 0 + 0)) hC (hL.row ho rfl) g10 dX6_choose_58 ?_
        obtain ⟨v11, ev11, hf⟩ := bi_some hf
        refine V_invi (o := 0) (As := [.int y4, .int p1, .int (gA d (32 * 0 + 0) (ix 4))]) (rest := []) hC (c_X6_isOpenChoice hL ho ev11) me_X6_isOpenChoice lk_X6_200 ho rfl rfl rfl (Nat.le_of_ble_eq_true rfl) ⟨by decide, by decide⟩ hkn dX6_choose_59 ?_
        refine V_if_ne (tgt := 68) hC dX6_choose_62 (by decide) (fun c12 => ?_) (fun c12 => ?_)
        · have hf := if_f hf c12
          refine V_aload_n 1 hC dX6_choose_68 rfl rfl ?_
          refine V_aload_n 1 hC dX6_choose_69 rfl rfl ?_
          refine V_geta (o := 0) hC ho rfl fk_X6_7 dX6_choose_70 ?_
          refine V_sipush (v := 368) hC dX6_choose_73 rfl ?_
          refine V_bipush (v := 6) hC dX6_choose_76 rfl ?_
          refine V_iload_n 0 hC dX6_choose_78 rfl rfl ?_
          refine V_imul hC dX6_choose_79 ?_
          refine V_iadd hC dX6_choose_80 ?_
          refine V_iload_n 2 hC dX6_choose_81 rfl rfl ?_
          refine V_iadd hC dX6_choose_82 ?_
          obtain ⟨g13, hf⟩ := gd_some hf
          refine V_iald (a := (32 * 0 + 0)) hC (hL.row ho rfl) g13 dX6_choose_83 ?_
          obtain ⟨d14, ed14, hf⟩ := bi_some hf
          refine V_invv (o := 0) (As := [.int (gA d (32 * 0 + 0) (ix ((368 + (6 * y4)) + p1)))]) (rest := []) hC (c_X6_goTo hL ho ed14) me_X6_goTo lk_X6_253 ho rfl rfl rfl (Nat.le_of_ble_eq_true rfl) ⟨by decide, by decide⟩ hkn dX6_choose_84 ?_
          refine V_aload_n 1 hC dX6_choose_87 rfl rfl ?_
          obtain ⟨v15, ev15, hf⟩ := bi_some hf
          refine V_invi (o := 0) (As := []) (rest := []) hC (c_X6_stands hL ho ev15) me_X6_stands lk_X6_250 ho rfl rfl rfl (Nat.le_of_ble_eq_true rfl) ⟨by decide, by decide⟩ hkn dX6_choose_88 ?_
          obtain ⟨rfl, rfl⟩ := so_inj2 hf
          exact V_iret hC hr hQ hA dX6_choose_91
        · have hf := if_t hf c12
          refine V_ldc hC ck_X6_166 dX6_choose_65 ?_
          obtain ⟨rfl, rfl⟩ := so_inj2 hf
          exact V_iret hC hr hQ hA dX6_choose_67
    · have hf := if_t hf c7
      refine V_ldc hC ck_X6_156 dX6_choose_40 ?_
      obtain ⟨rfl, rfl⟩ := so_inj2 hf
      exact V_iret hC hr hQ hA dX6_choose_42
  · have hf := if_f hf c2
    refine V_ldc hC ck_X6_166 dX6_choose_9 ?_
    obtain ⟨rfl, rfl⟩ := so_inj2 hf
    exact V_iret hC hr hQ hA dX6_choose_11
def t_X6_draw (L : Nat → Nat) (d : Dt) (p1 : Int32) : Option (Int32 × Dt) := gd (inb 2 (L (32 * 0 + 0))) (gd (inb 2 (L (32 * 0 + 0))) (bd (sA d (32 * 0 + 0) (ix 2) ((((((gA d (32 * 0 + 0) (ix 2) : Int32).toInt64) * 1103515245) + 12345) - ((((gA d (32 * 0 + 0) (ix 2) : Int32).toInt64) * 1103515245) + 12345) / 2147483648 * 2147483648 : Int64).toInt32)) (fun d4 => gd (inb 2 (L (32 * 0 + 0))) (gd (!decide (p1 = 0)) (some (((gA d4 (32 * 0 + 0) (ix 2)) / 65536) - ((gA d4 (32 * 0 + 0) (ix 2)) / 65536) / p1 * p1, d4))))))
set_option maxRecDepth 20000 in
theorem c_X6_draw {l : Launch} {Y : Yx} (hL : LAY Y) {z : Sh} {d : Dt} {p1 : Int32} (ho : (0, 0, 5) ∈ yI Y) {r : Int32} {d' : Dt} (hf : t_X6_draw z.1 d p1 = some (r, d')) : MM l yX6_draw cX6_draw 2 (some .int) 0 0 Y z [.ref (yo Y 0), .int p1] d (some (.int r)) d' := by
  refine MM.ofV (by decide +kernel) hL (Nat.le_of_ble_eq_true rfl) (fun K hl hC hr hQ hA => ?_)
  have hC : CK K Y cX6_draw 2 RX6 0 0 := hC
  unfold t_X6_draw at hf
  show V K Y 2 0 0 z d 0 [(0, .ref (yo Y 0)), (1, .int p1)] []
  refine V_aload_n 0 hC dX6_draw_0 rfl rfl ?_
  refine V_geta (o := 0) hC ho rfl fk_X6_7 dX6_draw_1 ?_
  refine V_iconst (v := 2) hC dX6_draw_4 rfl ?_
  refine V_aload_n 0 hC dX6_draw_5 rfl rfl ?_
  refine V_geta (o := 0) hC ho rfl fk_X6_7 dX6_draw_6 ?_
  refine V_iconst (v := 2) hC dX6_draw_9 rfl ?_
  obtain ⟨g1, hf⟩ := gd_some hf
  refine V_iald (a := (32 * 0 + 0)) hC (hL.row ho rfl) g1 dX6_draw_10 ?_
  refine V_i2l hC dX6_draw_11 ?_
  refine V_ldc2 hC cl_X6_256 dX6_draw_12 ?_
  refine V_lmul hC dX6_draw_15 ?_
  refine V_ldc2 hC cl_X6_258 dX6_draw_16 ?_
  refine V_ladd hC dX6_draw_19 ?_
  refine V_ldc2 hC cl_X6_260 dX6_draw_20 ?_
  refine V_lrem hC dX6_draw_23 (by decide) ?_
  refine V_l2i hC dX6_draw_24 ?_
  obtain ⟨g3, hf⟩ := gd_some hf
  refine V_iast (a := (32 * 0 + 0)) hC (hL.row ho rfl) g3 dX6_draw_25 (fun d4 ed4 => ?_)
  have hf := bd_e hf d4 ed4
  refine V_aload_n 0 hC dX6_draw_26 rfl rfl ?_
  refine V_geta (o := 0) hC ho rfl fk_X6_7 dX6_draw_27 ?_
  refine V_iconst (v := 2) hC dX6_draw_30 rfl ?_
  obtain ⟨g5, hf⟩ := gd_some hf
  refine V_iald (a := (32 * 0 + 0)) hC (hL.row ho rfl) g5 dX6_draw_31 ?_
  refine V_ldcw hC ck_X6_262 dX6_draw_32 ?_
  refine V_idiv hC dX6_draw_35 (by decide) ?_
  refine V_iload_n 1 hC dX6_draw_36 rfl rfl ?_
  obtain ⟨g7, hf⟩ := gd_some hf
  refine V_irem hC dX6_draw_37 (by simpa using g7) ?_
  obtain ⟨rfl, rfl⟩ := so_inj2 hf
  exact V_iret hC hr hQ hA dX6_draw_38
def t_X6_rollBy_43 (L : Nat → Nat) (p1 : Int32)  (s0 : Int32) (d : Dt) : Option (Dt) := (t_X6_goTo L d s0).bind (fun d7 => some d7)
set_option maxRecDepth 20000 in
theorem b_X6_rollBy_43 {K : Kx} {Y : Yx} {z : Sh}  (hC : CK K Y cX6_rollBy 3 RX6 3 68) (hr : (kme K).sig.returnType = none) (hA : kA K = aY Y z) {p1 : Int32} (ho : (0, 0, 5) ∈ yI Y) {d' : Dt} (hQ : kQ K = MQ (kb K) (QM Y z (none) d') (ka K) (ks K) 0 0 (aY Y z))   (s0 : Int32) (d : Dt) (hf : t_X6_rollBy_43 z.1 p1  s0 d = some d') : V K Y 3 0 0 z d 43 [] [.int s0, .ref (yo Y 0)] := by
  have hL := hC.2.2.2.2.2.2.1
  have hkn : 0 ≤ (kR K).cells ∧ 0 ≤ (kR K).slots := ⟨Nat.zero_le _, Nat.zero_le _⟩
  unfold t_X6_rollBy_43 at hf
  obtain ⟨d7, ed7, hf⟩ := bi_some hf
  refine V_invv (o := 0) (As := [.int s0]) (rest := []) hC (c_X6_goTo hL ho ed7) me_X6_goTo lk_X6_253 ho rfl rfl rfl (Nat.le_of_ble_eq_true rfl) ⟨by decide, by decide⟩ hkn dX6_rollBy_43 ?_
  obtain rfl := so_inj hf
  exact V_vret hC hr hQ hA dX6_rollBy_46
def t_X6_rollBy (L : Nat → Nat) (d : Dt) (p1 : Int32) : Option (Dt) := gd (inb 3 (L (32 * 0 + 0))) (bd (gA d (32 * 0 + 0) (ix 3)) (fun y2 => gd (inb (80 + y2) (L (32 * 0 + 0))) (if p1 < (gA d (32 * 0 + 0) (ix (80 + y2))) then gd (inb (128 + y2) (L (32 * 0 + 0))) (t_X6_rollBy_43 L p1  (gA d (32 * 0 + 0) (ix (128 + y2))) d) else gd (inb (104 + y2) (L (32 * 0 + 0))) (t_X6_rollBy_43 L p1  (gA d (32 * 0 + 0) (ix (104 + y2))) d))))
set_option maxRecDepth 20000 in
theorem c_X6_rollBy {l : Launch} {Y : Yx} (hL : LAY Y) {z : Sh} {d : Dt} {p1 : Int32} (ho : (0, 0, 5) ∈ yI Y) {d' : Dt} (hf : t_X6_rollBy z.1 d p1 = some d') : MM l yX6_rollBy cX6_rollBy 3 none 3 68 Y z [.ref (yo Y 0), .int p1] d (none) d' := by
  refine MM.ofV (by decide +kernel) hL (Nat.le_of_ble_eq_true rfl) (fun K hl hC hr hQ hA => ?_)
  have hC : CK K Y cX6_rollBy 3 RX6 3 68 := hC
  unfold t_X6_rollBy at hf
  show V K Y 3 0 0 z d 0 [(0, .ref (yo Y 0)), (1, .int p1)] []
  refine V_aload_n 0 hC dX6_rollBy_0 rfl rfl ?_
  refine V_geta (o := 0) hC ho rfl fk_X6_7 dX6_rollBy_1 ?_
  refine V_iconst (v := 3) hC dX6_rollBy_4 rfl ?_
  obtain ⟨g1, hf⟩ := gd_some hf
  refine V_iald (a := (32 * 0 + 0)) hC (hL.row ho rfl) g1 dX6_rollBy_5 ?_
  refine V_topi (fun y2 ey2 => ?_)
  have hf := bd_e hf y2 ey2
  refine V_istore_n (lv' := [(2, .int y2), (0, .ref (yo Y 0)), (1, .int p1)]) hC dX6_rollBy_6 rfl (by decide) rfl ?_
  refine V_aload_n 1 hC dX6_rollBy_7 rfl rfl ?_
  refine V_iload_n 2 hC dX6_rollBy_8 rfl rfl ?_
  refine V_aload_n 1 hC dX6_rollBy_9 rfl rfl ?_
  refine V_geta (o := 0) hC ho rfl fk_X6_7 dX6_rollBy_10 ?_
  refine V_bipush (v := 80) hC dX6_rollBy_13 rfl ?_
  refine V_iload_n 0 hC dX6_rollBy_15 rfl rfl ?_
  refine V_iadd hC dX6_rollBy_16 ?_
  obtain ⟨g3, hf⟩ := gd_some hf
  refine V_iald (a := (32 * 0 + 0)) hC (hL.row ho rfl) g3 dX6_rollBy_17 ?_
  refine V_icmp_lt (tgt := 33) hC dX6_rollBy_18 (by decide) (fun c4 => ?_) (fun c4 => ?_)
  · have hf := if_t hf c4
    refine V_aload_n 1 hC dX6_rollBy_33 rfl rfl ?_
    refine V_geta (o := 0) hC ho rfl fk_X6_7 dX6_rollBy_34 ?_
    refine V_sipush (v := 128) hC dX6_rollBy_37 rfl ?_
    refine V_iload_n 0 hC dX6_rollBy_40 rfl rfl ?_
    refine V_iadd hC dX6_rollBy_41 ?_
    obtain ⟨g5, hf⟩ := gd_some hf
    refine V_iald (a := (32 * 0 + 0)) hC (hL.row ho rfl) g5 dX6_rollBy_42 ?_
    exact V_sub [] rfl (b_X6_rollBy_43 hC hr hA ho hQ  (gA d (32 * 0 + 0) (ix (128 + y2))) d hf)
  · have hf := if_f hf c4
    refine V_aload_n 1 hC dX6_rollBy_21 rfl rfl ?_
    refine V_geta (o := 0) hC ho rfl fk_X6_7 dX6_rollBy_22 ?_
    refine V_bipush (v := 104) hC dX6_rollBy_25 rfl ?_
    refine V_iload_n 0 hC dX6_rollBy_27 rfl rfl ?_
    refine V_iadd hC dX6_rollBy_28 ?_
    obtain ⟨g6, hf⟩ := gd_some hf
    refine V_iald (a := (32 * 0 + 0)) hC (hL.row ho rfl) g6 dX6_rollBy_29 ?_
    refine V_goto (tgt := 43) hC dX6_rollBy_30 (by decide) ?_
    exact V_sub [] rfl (b_X6_rollBy_43 hC hr hA ho hQ  (gA d (32 * 0 + 0) (ix (104 + y2))) d hf)
def t_X6_roll_75 (L : Nat → Nat) (p1 : Int32)  (s0 : Int32) (d : Dt) : Option (Int32 × Dt) := (t_X6_rollBy L d s0).bind (fun d13 => (t_X6_stands L d13 ).bind (fun v14 => some (v14, d13)))
set_option maxRecDepth 20000 in
theorem b_X6_roll_75 {K : Kx} {Y : Yx} {z : Sh}  (hC : CK K Y cX6_roll 2 RX6 6 134) (hr : (kme K).sig.returnType = some .int) (hA : kA K = aY Y z) {p1 : Int32} (ho : (0, 0, 5) ∈ yI Y) {r : Int32} {d' : Dt} (hQ : kQ K = MQ (kb K) (QM Y z (some (.int r)) d') (ka K) (ks K) 0 0 (aY Y z))   (s0 : Int32) (d : Dt) (hf : t_X6_roll_75 z.1 p1  s0 d = some (r, d')) : V K Y 2 0 0 z d 75 [(0, .ref (yo Y 0))] [.int s0, .ref (yo Y 0)] := by
  have hL := hC.2.2.2.2.2.2.1
  have hkn : 0 ≤ (kR K).cells ∧ 0 ≤ (kR K).slots := ⟨Nat.zero_le _, Nat.zero_le _⟩
  unfold t_X6_roll_75 at hf
  obtain ⟨d13, ed13, hf⟩ := bi_some hf
  refine V_invv (o := 0) (As := [.int s0]) (rest := []) hC (c_X6_rollBy hL ho ed13) me_X6_rollBy lk_X6_268 ho rfl rfl rfl (Nat.le_of_ble_eq_true rfl) ⟨by decide, by decide⟩ hkn dX6_roll_75 ?_
  refine V_aload_n 0 hC dX6_roll_78 rfl rfl ?_
  obtain ⟨v14, ev14, hf⟩ := bi_some hf
  refine V_invi (o := 0) (As := []) (rest := []) hC (c_X6_stands hL ho ev14) me_X6_stands lk_X6_250 ho rfl rfl rfl (Nat.le_of_ble_eq_true rfl) ⟨by decide, by decide⟩ hkn dX6_roll_79 ?_
  obtain ⟨rfl, rfl⟩ := so_inj2 hf
  exact V_iret hC hr hQ hA dX6_roll_82
def t_X6_roll_20 (L : Nat → Nat) (p1 : Int32)   (d : Dt) : Option (Int32 × Dt) := gd (inb 3 (L (32 * 0 + 0))) (if (gA d (32 * 0 + 0) (ix 3)) < 0 then some ((-1000003), d) else gd (inb 3 (L (32 * 0 + 0))) (gd (inb (8 + (gA d (32 * 0 + 0) (ix 3))) (L (32 * 0 + 0))) (if (gA d (32 * 0 + 0) (ix (8 + (gA d (32 * 0 + 0) (ix 3))))) = 3 then (t_X6_stands L d ).bind (fun v9 => if v9 = 0 then if p1 = (-1) then (t_X6_draw L d 6).bind (fun q12 => t_X6_roll_75 L p1  (q12.1 + 1) q12.2) else t_X6_roll_75 L p1  p1 d else some ((-1000003), d)) else some ((-1000003), d))))
set_option maxRecDepth 20000 in
theorem b_X6_roll_20 {K : Kx} {Y : Yx} {z : Sh}  (hC : CK K Y cX6_roll 2 RX6 6 134) (hr : (kme K).sig.returnType = some .int) (hA : kA K = aY Y z) {p1 : Int32} (ho : (0, 0, 5) ∈ yI Y) {r : Int32} {d' : Dt} (hQ : kQ K = MQ (kb K) (QM Y z (some (.int r)) d') (ka K) (ks K) 0 0 (aY Y z))    (d : Dt) (hf : t_X6_roll_20 z.1 p1   d = some (r, d')) : V K Y 2 0 0 z d 20 [(0, .ref (yo Y 0)), (1, .int p1)] [] := by
  have hL := hC.2.2.2.2.2.2.1
  have hkn : 0 ≤ (kR K).cells ∧ 0 ≤ (kR K).slots := ⟨Nat.zero_le _, Nat.zero_le _⟩
  unfold t_X6_roll_20 at hf
  refine V_aload_n 0 hC dX6_roll_20 rfl rfl ?_
  refine V_geta (o := 0) hC ho rfl fk_X6_7 dX6_roll_21 ?_
  refine V_iconst (v := 3) hC dX6_roll_24 rfl ?_
  obtain ⟨g4, hf⟩ := gd_some hf
  refine V_iald (a := (32 * 0 + 0)) hC (hL.row ho rfl) g4 dX6_roll_25 ?_
  refine V_if_lt (tgt := 54) hC dX6_roll_26 (by decide) (fun c5 => ?_) (fun c5 => ?_)
  · have hf := if_t hf c5
    refine V_ldc hC ck_X6_166 dX6_roll_54 ?_
    obtain ⟨rfl, rfl⟩ := so_inj2 hf
    exact V_iret hC hr hQ hA dX6_roll_56
  · have hf := if_f hf c5
    refine V_aload_n 0 hC dX6_roll_29 rfl rfl ?_
    refine V_geta (o := 0) hC ho rfl fk_X6_7 dX6_roll_30 ?_
    refine V_bipush (v := 8) hC dX6_roll_33 rfl ?_
    refine V_aload_n 0 hC dX6_roll_35 rfl rfl ?_
    refine V_geta (o := 0) hC ho rfl fk_X6_7 dX6_roll_36 ?_
    refine V_iconst (v := 3) hC dX6_roll_39 rfl ?_
    obtain ⟨g6, hf⟩ := gd_some hf
    refine V_iald (a := (32 * 0 + 0)) hC (hL.row ho rfl) g6 dX6_roll_40 ?_
    refine V_iadd hC dX6_roll_41 ?_
    obtain ⟨g7, hf⟩ := gd_some hf
    refine V_iald (a := (32 * 0 + 0)) hC (hL.row ho rfl) g7 dX6_roll_42 ?_
    refine V_iconst (v := 3) hC dX6_roll_43 rfl ?_
    refine V_icmp_ne (tgt := 54) hC dX6_roll_44 (by decide) (fun c8 => ?_) (fun c8 => ?_)
    · have hf := if_f hf c8
      refine V_ldc hC ck_X6_166 dX6_roll_54 ?_
      obtain ⟨rfl, rfl⟩ := so_inj2 hf
      exact V_iret hC hr hQ hA dX6_roll_56
    · have hf := if_t hf c8
      refine V_aload_n 0 hC dX6_roll_47 rfl rfl ?_
      obtain ⟨v9, ev9, hf⟩ := bi_some hf
      refine V_invi (o := 0) (As := []) (rest := []) hC (c_X6_stands hL ho ev9) me_X6_stands lk_X6_250 ho rfl rfl rfl (Nat.le_of_ble_eq_true rfl) ⟨by decide, by decide⟩ hkn dX6_roll_48 ?_
      refine V_if_eq (tgt := 57) hC dX6_roll_51 (by decide) (fun c10 => ?_) (fun c10 => ?_)
      · have hf := if_t hf c10
        refine V_aload_n 0 hC dX6_roll_57 rfl rfl ?_
        refine V_iload_n 1 hC dX6_roll_58 rfl rfl ?_
        refine V_iconst (v := -1) hC dX6_roll_59 rfl ?_
        refine V_icmp_ne (tgt := 74) hC dX6_roll_60 (by decide) (fun c11 => ?_) (fun c11 => ?_)
        · have hf := if_f hf c11
          refine V_iload_n 1 hC dX6_roll_74 rfl rfl ?_
          exact V_sub [0] rfl (b_X6_roll_75 hC hr hA ho hQ  p1 d hf)
        · have hf := if_t hf c11
          refine V_aload_n 0 hC dX6_roll_63 rfl rfl ?_
          refine V_bipush (v := 6) hC dX6_roll_64 rfl ?_
          obtain ⟨q12, eq12, hf⟩ := bi_some hf
          refine V_invi (o := 0) (As := [.int 6]) (rest := [.ref (yo Y 0)]) hC (c_X6_draw hL ho eq12) me_X6_draw lk_X6_265 ho rfl rfl rfl (Nat.le_of_ble_eq_true rfl) ⟨by decide, by decide⟩ hkn dX6_roll_66 ?_
          refine V_iconst (v := 1) hC dX6_roll_69 rfl ?_
          refine V_iadd hC dX6_roll_70 ?_
          refine V_goto (tgt := 75) hC dX6_roll_71 (by decide) ?_
          exact V_sub [0] rfl (b_X6_roll_75 hC hr hA ho hQ  (q12.1 + 1) q12.2 hf)
      · have hf := if_f hf c10
        refine V_ldc hC ck_X6_166 dX6_roll_54 ?_
        obtain ⟨rfl, rfl⟩ := so_inj2 hf
        exact V_iret hC hr hQ hA dX6_roll_56
def t_X6_roll (L : Nat → Nat) (d : Dt) (p1 : Int32) : Option (Int32 × Dt) := if p1 = (-1) then t_X6_roll_20 L p1  d else (t_X6_in L d (p1.toInt64) 1 6).bind (fun v2 => if v2 = 0 then some ((-1000002), d) else t_X6_roll_20 L p1  d)
set_option maxRecDepth 20000 in
theorem c_X6_roll {l : Launch} {Y : Yx} (hL : LAY Y) {z : Sh} {d : Dt} {p1 : Int32} (ho : (0, 0, 5) ∈ yI Y) {r : Int32} {d' : Dt} (hf : t_X6_roll z.1 d p1 = some (r, d')) : MM l yX6_roll cX6_roll 2 (some .int) 6 134 Y z [.ref (yo Y 0), .int p1] d (some (.int r)) d' := by
  refine MM.ofV (by decide +kernel) hL (Nat.le_of_ble_eq_true rfl) (fun K hl hC hr hQ hA => ?_)
  have hC : CK K Y cX6_roll 2 RX6 6 134 := hC
  have hkn : 0 ≤ (kR K).cells ∧ 0 ≤ (kR K).slots := ⟨Nat.zero_le _, Nat.zero_le _⟩
  unfold t_X6_roll at hf
  show V K Y 2 0 0 z d 0 [(0, .ref (yo Y 0)), (1, .int p1)] []
  refine V_iload_n 1 hC dX6_roll_0 rfl rfl ?_
  refine V_iconst (v := -1) hC dX6_roll_1 rfl ?_
  refine V_icmp_eq (tgt := 20) hC dX6_roll_2 (by decide) (fun c1 => ?_) (fun c1 => ?_)
  · have hf := if_t hf c1
    exact b_X6_roll_20 hC hr hA ho hQ  d hf
  · have hf := if_f hf c1
    refine V_iload_n 1 hC dX6_roll_5 rfl rfl ?_
    refine V_i2l hC dX6_roll_6 ?_
    refine V_lconst (v := 1) hC dX6_roll_7 rfl ?_
    refine V_ldc2 hC cl_X6_263 dX6_roll_8 ?_
    obtain ⟨v2, ev2, hf⟩ := bi_some hf
    refine V_insi (As := [.long (p1.toInt64), .long 1, .long 6]) (rest := []) hC (c_X6_in hL  ev2) me_X6_in lk_X6_66 rfl rfl (Nat.le_of_ble_eq_true rfl) ⟨by decide, by decide⟩ hkn dX6_roll_11 ?_
    refine V_if_ne (tgt := 20) hC dX6_roll_14 (by decide) (fun c3 => ?_) (fun c3 => ?_)
    · have hf := if_f hf c3
      exact b_X6_roll_20 hC hr hA ho hQ  d hf
    · have hf := if_t hf c3
      refine V_ldc hC ck_X6_70 dX6_roll_17 ?_
      obtain ⟨rfl, rfl⟩ := so_inj2 hf
      exact V_iret hC hr hQ hA dX6_roll_19
def t_X6_openNow_4 (L : Nat → Nat) (d : Dt) (k4 : Int32 → Int32 → Option (Int32)) (x1 : Int32) (x2 : Int32)  : Option (Int32) := gd (inb 3 (L (32 * 0 + 0))) (gd (inb (56 + (gA d (32 * 0 + 0) (ix 3))) (L (32 * 0 + 0))) (if (gA d (32 * 0 + 0) (ix (56 + (gA d (32 * 0 + 0) (ix 3))))) ≤ x2 then some x1 else (t_X6_stands L d ).bind (fun v4 => if v4 = 0 then gd (inb 3 (L (32 * 0 + 0))) (gd (inb 4 (L (32 * 0 + 0))) ((t_X6_isOpenChoice L d (gA d (32 * 0 + 0) (ix 3)) x2 (gA d (32 * 0 + 0) (ix 4))).bind (fun v8 => (t_X6_one L d v8).bind (fun v9 => bd (x1 ||| (v9 <<< (x2 &&& 31))) (fun y10 => k4 y10 (x2 + 1)))))) else some x1)))
set_option maxRecDepth 20000 in
theorem b_X6_openNow_4 {K : Kx} {Y : Yx} {z : Sh} {d : Dt} (hC : CK K Y cX6_openNow 3 RX6 6 134) (hr : (kme K).sig.returnType = some .int) (hA : kA K = aY Y z)  (ho : (0, 0, 5) ∈ yI Y) {r : Int32} (hQ : kQ K = MQ (kb K) (QM Y z (some (.int r)) d) (ka K) (ks K) 0 0 (aY Y z)) {k4 : Int32 → Int32 → Option (Int32)} (hk4 : ∀ (x1 : Int32) (x2 : Int32) , k4 x1 x2  = some r → V K Y 3 0 0 z d 4 [(0, .ref (yo Y 0)), (1, .int x1), (2, .int x2)] []) (x1 : Int32) (x2 : Int32)  (hf : t_X6_openNow_4 z.1 d k4 x1 x2  = some r) : V K Y 3 0 0 z d 4 [(0, .ref (yo Y 0)), (1, .int x1), (2, .int x2)] [] := by
  have hL := hC.2.2.2.2.2.2.1
  have hkn : 0 ≤ (kR K).cells ∧ 0 ≤ (kR K).slots := ⟨Nat.zero_le _, Nat.zero_le _⟩
  unfold t_X6_openNow_4 at hf
  refine V_iload_n 2 hC dX6_openNow_4 rfl rfl ?_
  refine V_aload_n 0 hC dX6_openNow_5 rfl rfl ?_
  refine V_geta (o := 0) hC ho rfl fk_X6_7 dX6_openNow_6 ?_
  refine V_bipush (v := 56) hC dX6_openNow_9 rfl ?_
  refine V_aload_n 0 hC dX6_openNow_11 rfl rfl ?_
  refine V_geta (o := 0) hC ho rfl fk_X6_7 dX6_openNow_12 ?_
  refine V_iconst (v := 3) hC dX6_openNow_15 rfl ?_
  obtain ⟨g1, hf⟩ := gd_some hf
  refine V_iald (a := (32 * 0 + 0)) hC (hL.row ho rfl) g1 dX6_openNow_16 ?_
  refine V_iadd hC dX6_openNow_17 ?_
  obtain ⟨g2, hf⟩ := gd_some hf
  refine V_iald (a := (32 * 0 + 0)) hC (hL.row ho rfl) g2 dX6_openNow_18 ?_
  refine V_icmp_ge (tgt := 60) hC dX6_openNow_19 (by decide) (fun c3 => ?_) (fun c3 => ?_)
  · have hf := if_t hf c3
    refine V_iload_n 1 hC dX6_openNow_60 rfl rfl ?_
    obtain rfl := so_inj hf
    exact V_iret hC hr hQ hA dX6_openNow_61
  · have hf := if_f hf c3
    refine V_aload_n 0 hC dX6_openNow_22 rfl rfl ?_
    obtain ⟨v4, ev4, hf⟩ := bi_some hf
    refine V_invi (o := 0) (As := []) (rest := []) hC (c_X6_stands hL ho ev4) me_X6_stands lk_X6_250 ho rfl rfl rfl (Nat.le_of_ble_eq_true rfl) ⟨by decide, by decide⟩ hkn dX6_openNow_23 ?_
    refine V_if_ne (tgt := 60) hC dX6_openNow_26 (by decide) (fun c5 => ?_) (fun c5 => ?_)
    · have hf := if_f hf c5
      refine V_iload_n 1 hC dX6_openNow_60 rfl rfl ?_
      obtain rfl := so_inj hf
      exact V_iret hC hr hQ hA dX6_openNow_61
    · have hf := if_t hf c5
      refine V_iload_n 1 hC dX6_openNow_29 rfl rfl ?_
      refine V_aload_n 0 hC dX6_openNow_30 rfl rfl ?_
      refine V_aload_n 0 hC dX6_openNow_31 rfl rfl ?_
      refine V_geta (o := 0) hC ho rfl fk_X6_7 dX6_openNow_32 ?_
      refine V_iconst (v := 3) hC dX6_openNow_35 rfl ?_
      obtain ⟨g6, hf⟩ := gd_some hf
      refine V_iald (a := (32 * 0 + 0)) hC (hL.row ho rfl) g6 dX6_openNow_36 ?_
      refine V_iload_n 2 hC dX6_openNow_37 rfl rfl ?_
      refine V_aload_n 0 hC dX6_openNow_38 rfl rfl ?_
      refine V_geta (o := 0) hC ho rfl fk_X6_7 dX6_openNow_39 ?_
      refine V_iconst (v := 4) hC dX6_openNow_42 rfl ?_
      obtain ⟨g7, hf⟩ := gd_some hf
      refine V_iald (a := (32 * 0 + 0)) hC (hL.row ho rfl) g7 dX6_openNow_43 ?_
      obtain ⟨v8, ev8, hf⟩ := bi_some hf
      refine V_invi (o := 0) (As := [.int (gA d (32 * 0 + 0) (ix 3)), .int x2, .int (gA d (32 * 0 + 0) (ix 4))]) (rest := [.int x1]) hC (c_X6_isOpenChoice hL ho ev8) me_X6_isOpenChoice lk_X6_200 ho rfl rfl rfl (Nat.le_of_ble_eq_true rfl) ⟨by decide, by decide⟩ hkn dX6_openNow_44 ?_
      obtain ⟨v9, ev9, hf⟩ := bi_some hf
      refine V_insi (As := [.int v8]) (rest := [.int x1]) hC (c_X6_one hL  ev9) me_X6_one lk_X6_218 rfl rfl (Nat.le_of_ble_eq_true rfl) ⟨by decide, by decide⟩ hkn dX6_openNow_47 ?_
      refine V_iload_n 2 hC dX6_openNow_50 rfl rfl ?_
      refine V_ishl hC dX6_openNow_51 ?_
      refine V_ior hC dX6_openNow_52 ?_
      refine V_topi (fun y10 ey10 => ?_)
      have hf := bd_e hf y10 ey10
      refine V_istore_n (lv' := [(1, .int y10), (0, .ref (yo Y 0)), (2, .int x2)]) hC dX6_openNow_53 rfl (by decide) rfl ?_
      refine V_iinc (v := x2 + 1) (lv' := [(2, .int (x2 + 1)), (1, .int y10), (0, .ref (yo Y 0))]) 2 hC dX6_openNow_54 rfl rfl (by decide) rfl ?_
      refine V_goto (tgt := 4) hC dX6_openNow_57 (by decide) ?_
      exact V_sub [2, 1, 0] rfl (hk4 y10 (x2 + 1) hf)
def t_X6_openNow (L : Nat → Nat) (d : Dt)  : Option (Int32) := lp (fun k x => t_X6_openNow_4 L d  (fun x1 x2 => k (x1, x2)) x.1 x.2) FU (0, 0)
set_option maxRecDepth 20000 in
theorem c_X6_openNow {l : Launch} {Y : Yx} (hL : LAY Y) {z : Sh} {d : Dt}  (ho : (0, 0, 5) ∈ yI Y) {r : Int32} (hf : t_X6_openNow z.1 d  = some r) : MM l yX6_openNow cX6_openNow 3 (some .int) 6 134 Y z [.ref (yo Y 0)] d (some (.int r)) d := by
  refine MM.ofV (by decide +kernel) hL (Nat.le_of_ble_eq_true rfl) (fun K hl hC hr hQ hA => ?_)
  have hC : CK K Y cX6_openNow 3 RX6 6 134 := hC
  unfold t_X6_openNow at hf
  show V K Y 3 0 0 z d 0 [(0, .ref (yo Y 0))] []
  refine V_iconst (v := 0) hC dX6_openNow_0 rfl ?_
  refine V_istore_n (lv' := [(1, .int 0), (0, .ref (yo Y 0))]) hC dX6_openNow_1 rfl (by decide) rfl ?_
  refine V_iconst (v := 0) hC dX6_openNow_2 rfl ?_
  refine V_istore_n (lv' := [(2, .int 0), (1, .int 0), (0, .ref (yo Y 0))]) hC dX6_openNow_3 rfl (by decide) rfl ?_
  exact V_sub [2, 1, 0] rfl (lp_ind (X := Int32 × Int32) (P := fun x => V K Y 3 0 0 z d 4 [(0, .ref (yo Y 0)), (1, .int x.1), (2, .int x.2)] []) (fun k x hk hx => b_X6_openNow_4 hC hr hA ho hQ  (k4 := fun x1 x2 => k (x1, x2)) (fun x1 x2 hx => hk (x1, x2) hx) x.1 x.2 hx) FU (0, 0) hf)
def t_X6_now (L : Nat → Nat) (d : Dt) (p1 : Int32) : Option (Int32) := (t_X6_in L d (p1.toInt64) 0 5).bind (fun v1 => if v1 = 0 then some (-1000002) else gd (inb 3 (L (32 * 0 + 0))) (if 0 ≤ (gA d (32 * 0 + 0) (ix 3)) then if p1 = 0 then gd (inb 3 (L (32 * 0 + 0))) (some (gA d (32 * 0 + 0) (ix 3))) else if p1 = 1 then gd (inb 4 (L (32 * 0 + 0))) (some (gA d (32 * 0 + 0) (ix 4))) else if p1 = 2 then gd (inb 5 (L (32 * 0 + 0))) (some (gA d (32 * 0 + 0) (ix 5))) else if p1 = 3 then gd (inb 6 (L (32 * 0 + 0))) (some (gA d (32 * 0 + 0) (ix 6))) else if p1 = 4 then (t_X6_stands L d ).bind (fun v14 => some v14) else (t_X6_openNow L d ).bind (fun v15 => some v15) else some (-1000003)))
set_option maxRecDepth 20000 in
theorem c_X6_now {l : Launch} {Y : Yx} (hL : LAY Y) {z : Sh} {d : Dt} {p1 : Int32} (ho : (0, 0, 5) ∈ yI Y) {r : Int32} (hf : t_X6_now z.1 d p1 = some r) : MM l yX6_now cX6_now 2 (some .int) 7 156 Y z [.ref (yo Y 0), .int p1] d (some (.int r)) d := by
  refine MM.ofV (by decide +kernel) hL (Nat.le_of_ble_eq_true rfl) (fun K hl hC hr hQ hA => ?_)
  have hC : CK K Y cX6_now 2 RX6 7 156 := hC
  have hkn : 0 ≤ (kR K).cells ∧ 0 ≤ (kR K).slots := ⟨Nat.zero_le _, Nat.zero_le _⟩
  unfold t_X6_now at hf
  show V K Y 2 0 0 z d 0 [(0, .ref (yo Y 0)), (1, .int p1)] []
  refine V_iload_n 1 hC dX6_now_0 rfl rfl ?_
  refine V_i2l hC dX6_now_1 ?_
  refine V_lconst (v := 0) hC dX6_now_2 rfl ?_
  refine V_ldc2 hC cl_X6_271 dX6_now_3 ?_
  obtain ⟨v1, ev1, hf⟩ := bi_some hf
  refine V_insi (As := [.long (p1.toInt64), .long 0, .long 5]) (rest := []) hC (c_X6_in hL  ev1) me_X6_in lk_X6_66 rfl rfl (Nat.le_of_ble_eq_true rfl) ⟨by decide, by decide⟩ hkn dX6_now_6 ?_
  refine V_if_ne (tgt := 15) hC dX6_now_9 (by decide) (fun c2 => ?_) (fun c2 => ?_)
  · have hf := if_f hf c2
    refine V_aload_n 0 hC dX6_now_15 rfl rfl ?_
    refine V_geta (o := 0) hC ho rfl fk_X6_7 dX6_now_16 ?_
    refine V_iconst (v := 3) hC dX6_now_19 rfl ?_
    obtain ⟨g3, hf⟩ := gd_some hf
    refine V_iald (a := (32 * 0 + 0)) hC (hL.row ho rfl) g3 dX6_now_20 ?_
    refine V_if_ge (tgt := 27) hC dX6_now_21 (by decide) (fun c4 => ?_) (fun c4 => ?_)
    · have hf := if_t hf c4
      refine V_iload_n 1 hC dX6_now_27 rfl rfl ?_
      by_cases c5 : p1 = 0
      · have hf := if_t hf c5
        refine V_tswIn (tgt := 64) hC dX6_now_28 0 c5 (by decide) (by decide) rfl (by decide) ?_
        refine V_aload_n 0 hC dX6_now_64 rfl rfl ?_
        refine V_geta (o := 0) hC ho rfl fk_X6_7 dX6_now_65 ?_
        refine V_iconst (v := 3) hC dX6_now_68 rfl ?_
        obtain ⟨g6, hf⟩ := gd_some hf
        refine V_iald (a := (32 * 0 + 0)) hC (hL.row ho rfl) g6 dX6_now_69 ?_
        obtain rfl := so_inj hf
        exact V_iret hC hr hQ hA dX6_now_70
      · have hf := if_f hf c5
        by_cases c7 : p1 = 1
        · have hf := if_t hf c7
          refine V_tswIn (tgt := 71) hC dX6_now_28 1 c7 (by decide) (by decide) rfl (by decide) ?_
          refine V_aload_n 0 hC dX6_now_71 rfl rfl ?_
          refine V_geta (o := 0) hC ho rfl fk_X6_7 dX6_now_72 ?_
          refine V_iconst (v := 4) hC dX6_now_75 rfl ?_
          obtain ⟨g8, hf⟩ := gd_some hf
          refine V_iald (a := (32 * 0 + 0)) hC (hL.row ho rfl) g8 dX6_now_76 ?_
          obtain rfl := so_inj hf
          exact V_iret hC hr hQ hA dX6_now_77
        · have hf := if_f hf c7
          by_cases c9 : p1 = 2
          · have hf := if_t hf c9
            refine V_tswIn (tgt := 78) hC dX6_now_28 2 c9 (by decide) (by decide) rfl (by decide) ?_
            refine V_aload_n 0 hC dX6_now_78 rfl rfl ?_
            refine V_geta (o := 0) hC ho rfl fk_X6_7 dX6_now_79 ?_
            refine V_iconst (v := 5) hC dX6_now_82 rfl ?_
            obtain ⟨g10, hf⟩ := gd_some hf
            refine V_iald (a := (32 * 0 + 0)) hC (hL.row ho rfl) g10 dX6_now_83 ?_
            obtain rfl := so_inj hf
            exact V_iret hC hr hQ hA dX6_now_84
          · have hf := if_f hf c9
            by_cases c11 : p1 = 3
            · have hf := if_t hf c11
              refine V_tswIn (tgt := 85) hC dX6_now_28 3 c11 (by decide) (by decide) rfl (by decide) ?_
              refine V_aload_n 0 hC dX6_now_85 rfl rfl ?_
              refine V_geta (o := 0) hC ho rfl fk_X6_7 dX6_now_86 ?_
              refine V_bipush (v := 6) hC dX6_now_89 rfl ?_
              obtain ⟨g12, hf⟩ := gd_some hf
              refine V_iald (a := (32 * 0 + 0)) hC (hL.row ho rfl) g12 dX6_now_91 ?_
              obtain rfl := so_inj hf
              exact V_iret hC hr hQ hA dX6_now_92
            · have hf := if_f hf c11
              by_cases c13 : p1 = 4
              · have hf := if_t hf c13
                refine V_tswIn (tgt := 93) hC dX6_now_28 4 c13 (by decide) (by decide) rfl (by decide) ?_
                refine V_aload_n 0 hC dX6_now_93 rfl rfl ?_
                obtain ⟨v14, ev14, hf⟩ := bi_some hf
                refine V_invi (o := 0) (As := []) (rest := []) hC (c_X6_stands hL ho ev14) me_X6_stands lk_X6_250 ho rfl rfl rfl (Nat.le_of_ble_eq_true rfl) ⟨by decide, by decide⟩ hkn dX6_now_94 ?_
                obtain rfl := so_inj hf
                exact V_iret hC hr hQ hA dX6_now_97
              · have hf := if_f hf c13
                refine V_tswOut (tgt := 98) hC dX6_now_28 (by have hc5 := lv_neT c5 (show (0 : Int32).toInt = 0 from rfl); have hc7 := lv_neT c7 (show (1 : Int32).toInt = 1 from rfl); have hc9 := lv_neT c9 (show (2 : Int32).toInt = 2 from rfl); have hc11 := lv_neT c11 (show (3 : Int32).toInt = 3 from rfl); have hc13 := lv_neT c13 (show (4 : Int32).toInt = 4 from rfl); omega) (by decide) ?_
                refine V_aload_n 0 hC dX6_now_98 rfl rfl ?_
                obtain ⟨v15, ev15, hf⟩ := bi_some hf
                refine V_invi (o := 0) (As := []) (rest := []) hC (c_X6_openNow hL ho ev15) me_X6_openNow lk_X6_273 ho rfl rfl rfl (Nat.le_of_ble_eq_true rfl) ⟨by decide, by decide⟩ hkn dX6_now_99 ?_
                obtain rfl := so_inj hf
                exact V_iret hC hr hQ hA dX6_now_102
    · have hf := if_f hf c4
      refine V_ldc hC ck_X6_166 dX6_now_24 ?_
      obtain rfl := so_inj hf
      exact V_iret hC hr hQ hA dX6_now_26
  · have hf := if_t hf c2
    refine V_ldc hC ck_X6_70 dX6_now_12 ?_
    obtain rfl := so_inj hf
    exact V_iret hC hr hQ hA dX6_now_14
def t_X6_oddsAt (L : Nat → Nat) (d : Dt) (p1 : Int32) : Option (Int32) := if p1 = (-2) then some 0 else gd (inb p1 (L (32 * 0 + 26))) (some (gA d (32 * 0 + 26) (ix p1)))
set_option maxRecDepth 20000 in
theorem c_X6_oddsAt {l : Launch} {Y : Yx} (hL : LAY Y) {z : Sh} {d : Dt} {p1 : Int32} (ho : (0, 0, 5) ∈ yI Y) {r : Int32} (hf : t_X6_oddsAt z.1 d p1 = some r) : MM l yX6_oddsAt cX6_oddsAt 2 (some .int) 0 0 Y z [.ref (yo Y 0), .int p1] d (some (.int r)) d := by
  refine MM.ofV (by decide +kernel) hL (Nat.le_of_ble_eq_true rfl) (fun K hl hC hr hQ hA => ?_)
  have hC : CK K Y cX6_oddsAt 2 RX6 0 0 := hC
  unfold t_X6_oddsAt at hf
  show V K Y 2 0 0 z d 0 [(0, .ref (yo Y 0)), (1, .int p1)] []
  refine V_iload_n 1 hC dX6_oddsAt_0 rfl rfl ?_
  refine V_bipush (v := -2) hC dX6_oddsAt_1 rfl ?_
  refine V_icmp_ne (tgt := 10) hC dX6_oddsAt_3 (by decide) (fun c1 => ?_) (fun c1 => ?_)
  · have hf := if_f hf c1
    refine V_aload_n 0 hC dX6_oddsAt_10 rfl rfl ?_
    refine V_geta (o := 0) hC ho rfl fk_X6_52 dX6_oddsAt_11 ?_
    refine V_iload_n 1 hC dX6_oddsAt_14 rfl rfl ?_
    obtain ⟨g2, hf⟩ := gd_some hf
    refine V_iald (a := (32 * 0 + 26)) hC (hL.row ho rfl) g2 dX6_oddsAt_15 ?_
    obtain rfl := so_inj hf
    exact V_iret hC hr hQ hA dX6_oddsAt_16
  · have hf := if_t hf c1
    refine V_iconst (v := 0) hC dX6_oddsAt_6 rfl ?_
    refine V_goto (tgt := 16) hC dX6_oddsAt_7 (by decide) ?_
    obtain rfl := so_inj hf
    exact V_iret hC hr hQ hA dX6_oddsAt_16
def t_X6_oddsOf_144 (L : Nat → Nat) (p1 : Int32) (k93 : Int32 → Int32 → (Dt) → Option (Int32 × Dt)) (x5 : Int32) (s0 : Int32) (d : Dt) : Option (Int32 × Dt) := k93 s0 (x5 + 1) d
set_option maxRecDepth 20000 in
theorem b_X6_oddsOf_144 {K : Kx} {Y : Yx} {z : Sh}  (hC : CK K Y cX6_oddsOf 7 RX6 5 113) (hr : (kme K).sig.returnType = some .int) (hA : kA K = aY Y z) {p1 : Int32} (ho : (0, 0, 5) ∈ yI Y) {r : Int32} {d' : Dt} (hQ : kQ K = MQ (kb K) (QM Y z (some (.int r)) d') (ka K) (ks K) 0 0 (aY Y z)) {k93 : Int32 → Int32 → (Dt) → Option (Int32 × Dt)} (hk93 : ∀ (x4 : Int32) (x5 : Int32) (d : Dt), k93 x4 x5 d = some (r, d') → V K Y 7 0 0 z d 93 [(0, .ref (yo Y 0)), (1, .int p1), (4, .int x4), (5, .int x5)] []) (x5 : Int32) (s0 : Int32) (d : Dt) (hf : t_X6_oddsOf_144 z.1 p1 k93 x5 s0 d = some (r, d')) : V K Y 7 0 0 z d 144 [(0, .ref (yo Y 0)), (1, .int p1), (5, .int x5)] [.int s0] := by
  have hL := hC.2.2.2.2.2.2.1
  unfold t_X6_oddsOf_144 at hf
  refine V_istore (lv' := [(4, .int s0), (0, .ref (yo Y 0)), (1, .int p1), (5, .int x5)]) hC dX6_oddsOf_144 (by decide) rfl ?_
  refine V_iinc (v := x5 + 1) (lv' := [(5, .int (x5 + 1)), (4, .int s0), (0, .ref (yo Y 0)), (1, .int p1)]) 3 hC dX6_oddsOf_146 rfl rfl (by decide) rfl ?_
  refine V_goto (tgt := 93) hC dX6_oddsOf_149 (by decide) ?_
  exact V_sub [2, 3, 1, 0] rfl (hk93 s0 (x5 + 1) d hf)
def t_X6_oddsOf_128 (L : Nat → Nat) (p1 : Int32) (k93 : Int32 → Int32 → (Dt) → Option (Int32 × Dt)) (x4 : Int32) (x5 : Int32) (s0 : Int32) (d : Dt) : Option (Int32 × Dt) := if s0 ≤ x4 then t_X6_oddsOf_144 L p1 k93 x5 x4 d else t_X6_oddsOf_144 L p1 k93 x5 s0 d
set_option maxRecDepth 20000 in
theorem b_X6_oddsOf_128 {K : Kx} {Y : Yx} {z : Sh}  (hC : CK K Y cX6_oddsOf 7 RX6 5 113) (hr : (kme K).sig.returnType = some .int) (hA : kA K = aY Y z) {p1 : Int32} (ho : (0, 0, 5) ∈ yI Y) {r : Int32} {d' : Dt} (hQ : kQ K = MQ (kb K) (QM Y z (some (.int r)) d') (ka K) (ks K) 0 0 (aY Y z)) {k93 : Int32 → Int32 → (Dt) → Option (Int32 × Dt)} (hk93 : ∀ (x4 : Int32) (x5 : Int32) (d : Dt), k93 x4 x5 d = some (r, d') → V K Y 7 0 0 z d 93 [(0, .ref (yo Y 0)), (1, .int p1), (4, .int x4), (5, .int x5)] []) (x4 : Int32) (x5 : Int32) (s0 : Int32) (d : Dt) (hf : t_X6_oddsOf_128 z.1 p1 k93 x4 x5 s0 d = some (r, d')) : V K Y 7 0 0 z d 128 [(0, .ref (yo Y 0)), (1, .int p1), (4, .int x4), (5, .int x5)] [.int s0] := by
  have hL := hC.2.2.2.2.2.2.1
  unfold t_X6_oddsOf_128 at hf
  refine V_istore (lv' := [(6, .int s0), (0, .ref (yo Y 0)), (1, .int p1), (4, .int x4), (5, .int x5)]) hC dX6_oddsOf_128 (by decide) rfl ?_
  refine V_iload 0 hC dX6_oddsOf_130 rfl ?_
  refine V_iload 3 hC dX6_oddsOf_132 rfl ?_
  refine V_icmp_le (tgt := 142) hC dX6_oddsOf_134 (by decide) (fun c19 => ?_) (fun c19 => ?_)
  · have hf := if_t hf c19
    refine V_iload 3 hC dX6_oddsOf_142 rfl ?_
    exact V_sub [1, 2, 4] rfl (b_X6_oddsOf_144 hC hr hA ho hQ hk93 x5 x4 d hf)
  · have hf := if_f hf c19
    refine V_iload 0 hC dX6_oddsOf_137 rfl ?_
    refine V_goto (tgt := 144) hC dX6_oddsOf_139 (by decide) ?_
    exact V_sub [1, 2, 4] rfl (b_X6_oddsOf_144 hC hr hA ho hQ hk93 x5 s0 d hf)
def t_X6_oddsOf_93 (L : Nat → Nat) (p1 : Int32) (k93 : Int32 → Int32 → (Dt) → Option (Int32 × Dt)) (x4 : Int32) (x5 : Int32) (d : Dt) : Option (Int32 × Dt) := (t_X6_waysOf L d p1).bind (fun v13 => if v13 ≤ x5 then some (x4, d) else (t_X6_isWay L d p1 x5).bind (fun v15 => if v15 = 0 then t_X6_oddsOf_128 L p1 k93 x4 x5 0 d else (t_X6_wayTo L d p1 x5).bind (fun q17 => (t_X6_oddsAt L q17.2 q17.1).bind (fun v18 => t_X6_oddsOf_128 L p1 k93 x4 x5 v18 q17.2))))
set_option maxRecDepth 20000 in
theorem b_X6_oddsOf_93 {K : Kx} {Y : Yx} {z : Sh}  (hC : CK K Y cX6_oddsOf 7 RX6 5 113) (hr : (kme K).sig.returnType = some .int) (hA : kA K = aY Y z) {p1 : Int32} (ho : (0, 0, 5) ∈ yI Y) {r : Int32} {d' : Dt} (hQ : kQ K = MQ (kb K) (QM Y z (some (.int r)) d') (ka K) (ks K) 0 0 (aY Y z)) {k93 : Int32 → Int32 → (Dt) → Option (Int32 × Dt)} (hk93 : ∀ (x4 : Int32) (x5 : Int32) (d : Dt), k93 x4 x5 d = some (r, d') → V K Y 7 0 0 z d 93 [(0, .ref (yo Y 0)), (1, .int p1), (4, .int x4), (5, .int x5)] []) (x4 : Int32) (x5 : Int32) (d : Dt) (hf : t_X6_oddsOf_93 z.1 p1 k93 x4 x5 d = some (r, d')) : V K Y 7 0 0 z d 93 [(0, .ref (yo Y 0)), (1, .int p1), (4, .int x4), (5, .int x5)] [] := by
  have hL := hC.2.2.2.2.2.2.1
  have hkn : 0 ≤ (kR K).cells ∧ 0 ≤ (kR K).slots := ⟨Nat.zero_le _, Nat.zero_le _⟩
  unfold t_X6_oddsOf_93 at hf
  refine V_iload 3 hC dX6_oddsOf_93 rfl ?_
  refine V_aload_n 0 hC dX6_oddsOf_95 rfl rfl ?_
  refine V_iload_n 1 hC dX6_oddsOf_96 rfl rfl ?_
  obtain ⟨v13, ev13, hf⟩ := bi_some hf
  refine V_invi (o := 0) (As := [.int p1]) (rest := [.int x5]) hC (c_X6_waysOf hL ho ev13) me_X6_waysOf lk_X6_212 ho rfl rfl rfl (Nat.le_of_ble_eq_true rfl) ⟨by decide, by decide⟩ hkn dX6_oddsOf_97 ?_
  refine V_icmp_ge (tgt := 152) hC dX6_oddsOf_100 (by decide) (fun c14 => ?_) (fun c14 => ?_)
  · have hf := if_t hf c14
    refine V_iload 2 hC dX6_oddsOf_152 rfl ?_
    obtain ⟨rfl, rfl⟩ := so_inj2 hf
    exact V_iret hC hr hQ hA dX6_oddsOf_154
  · have hf := if_f hf c14
    refine V_aload_n 0 hC dX6_oddsOf_103 rfl rfl ?_
    refine V_iload_n 1 hC dX6_oddsOf_104 rfl rfl ?_
    refine V_iload 3 hC dX6_oddsOf_105 rfl ?_
    obtain ⟨v15, ev15, hf⟩ := bi_some hf
    refine V_invi (o := 0) (As := [.int p1, .int x5]) (rest := []) hC (c_X6_isWay hL ho ev15) me_X6_isWay lk_X6_215 ho rfl rfl rfl (Nat.le_of_ble_eq_true rfl) ⟨by decide, by decide⟩ hkn dX6_oddsOf_107 ?_
    refine V_if_eq (tgt := 127) hC dX6_oddsOf_110 (by decide) (fun c16 => ?_) (fun c16 => ?_)
    · have hf := if_t hf c16
      refine V_iconst (v := 0) hC dX6_oddsOf_127 rfl ?_
      exact b_X6_oddsOf_128 hC hr hA ho hQ hk93 x4 x5 0 d hf
    · have hf := if_f hf c16
      refine V_aload_n 0 hC dX6_oddsOf_113 rfl rfl ?_
      refine V_aload_n 0 hC dX6_oddsOf_114 rfl rfl ?_
      refine V_iload_n 1 hC dX6_oddsOf_115 rfl rfl ?_
      refine V_iload 3 hC dX6_oddsOf_116 rfl ?_
      obtain ⟨q17, eq17, hf⟩ := bi_some hf
      refine V_invi (o := 0) (As := [.int p1, .int x5]) (rest := [.ref (yo Y 0)]) hC (c_X6_wayTo hL ho eq17) me_X6_wayTo lk_X6_231 ho rfl rfl rfl (Nat.le_of_ble_eq_true rfl) ⟨by decide, by decide⟩ hkn dX6_oddsOf_118 ?_
      obtain ⟨v18, ev18, hf⟩ := bi_some hf
      refine V_invi (o := 0) (As := [.int q17.1]) (rest := []) hC (c_X6_oddsAt hL ho ev18) me_X6_oddsAt lk_X6_277 ho rfl rfl rfl (Nat.le_of_ble_eq_true rfl) ⟨by decide, by decide⟩ hkn dX6_oddsOf_121 ?_
      refine V_goto (tgt := 128) hC dX6_oddsOf_124 (by decide) ?_
      exact b_X6_oddsOf_128 hC hr hA ho hQ hk93 x4 x5 v18 q17.2 hf
def t_X6_oddsOf (L : Nat → Nat) (d : Dt) (p1 : Int32) : Option (Int32 × Dt) := (t_X6_standsAt L d p1).bind (fun v1 => if v1 = 1 then some (1000000, d) else (t_X6_partOf L d p1).bind (fun v3 => gd (inb (8 + v3) (L (32 * 0 + 0))) (if (gA d (32 * 0 + 0) (ix (8 + v3))) = 3 then gd (inb (80 + v3) (L (32 * 0 + 0))) (bd (gA d (32 * 0 + 0) (ix (80 + v3))) (fun y7 => (t_X6_wayTo L d p1 0).bind (fun q8 => (t_X6_oddsAt L q8.2 q8.1).bind (fun v9 => (t_X6_wayTo L q8.2 p1 1).bind (fun q10 => (t_X6_oddsAt L q10.2 q10.1).bind (fun v11 => some (((((7 - (y7.toInt64)) * (v9.toInt64)) + (((y7.toInt64) - 1) * (v11.toInt64))) / 6 : Int64).toInt32, q10.2))))))) else lp (fun k x => t_X6_oddsOf_93 L p1  (fun x4 x5 d => k (x4, x5, d)) x.1 x.2.1 x.2.2) FU (0, 0, d))))
set_option maxRecDepth 20000 in
theorem c_X6_oddsOf {l : Launch} {Y : Yx} (hL : LAY Y) {z : Sh} {d : Dt} {p1 : Int32} (ho : (0, 0, 5) ∈ yI Y) {r : Int32} {d' : Dt} (hf : t_X6_oddsOf z.1 d p1 = some (r, d')) : MM l yX6_oddsOf cX6_oddsOf 7 (some .int) 5 113 Y z [.ref (yo Y 0), .int p1] d (some (.int r)) d' := by
  refine MM.ofV (by decide +kernel) hL (Nat.le_of_ble_eq_true rfl) (fun K hl hC hr hQ hA => ?_)
  have hC : CK K Y cX6_oddsOf 7 RX6 5 113 := hC
  have hkn : 0 ≤ (kR K).cells ∧ 0 ≤ (kR K).slots := ⟨Nat.zero_le _, Nat.zero_le _⟩
  unfold t_X6_oddsOf at hf
  show V K Y 7 0 0 z d 0 [(0, .ref (yo Y 0)), (1, .int p1)] []
  refine V_aload_n 0 hC dX6_oddsOf_0 rfl rfl ?_
  refine V_iload_n 1 hC dX6_oddsOf_1 rfl rfl ?_
  obtain ⟨v1, ev1, hf⟩ := bi_some hf
  refine V_invi (o := 0) (As := [.int p1]) (rest := []) hC (c_X6_standsAt hL ho ev1) me_X6_standsAt lk_X6_228 ho rfl rfl rfl (Nat.le_of_ble_eq_true rfl) ⟨by decide, by decide⟩ hkn dX6_oddsOf_2 ?_
  refine V_istore_n (lv' := [(2, .int v1), (0, .ref (yo Y 0)), (1, .int p1)]) hC dX6_oddsOf_5 rfl (by decide) rfl ?_
  refine V_iload_n 0 hC dX6_oddsOf_6 rfl rfl ?_
  refine V_iconst (v := 1) hC dX6_oddsOf_7 rfl ?_
  refine V_icmp_ne (tgt := 15) hC dX6_oddsOf_8 (by decide) (fun c2 => ?_) (fun c2 => ?_)
  · have hf := if_f hf c2
    refine V_iload_n 2 hC dX6_oddsOf_15 rfl rfl ?_
    obtain ⟨v3, ev3, hf⟩ := bi_some hf
    refine V_insi (As := [.int p1]) (rest := []) hC (c_X6_partOf hL  ev3) me_X6_partOf lk_X6_194 rfl rfl (Nat.le_of_ble_eq_true rfl) ⟨by decide, by decide⟩ hkn dX6_oddsOf_16 ?_
    refine V_istore_n (lv' := [(3, .int v3), (2, .int v1), (0, .ref (yo Y 0)), (1, .int p1)]) hC dX6_oddsOf_19 rfl (by decide) rfl ?_
    refine V_aload_n 2 hC dX6_oddsOf_20 rfl rfl ?_
    refine V_geta (o := 0) hC ho rfl fk_X6_7 dX6_oddsOf_21 ?_
    refine V_bipush (v := 8) hC dX6_oddsOf_24 rfl ?_
    refine V_iload_n 0 hC dX6_oddsOf_26 rfl rfl ?_
    refine V_iadd hC dX6_oddsOf_27 ?_
    obtain ⟨g4, hf⟩ := gd_some hf
    refine V_iald (a := (32 * 0 + 0)) hC (hL.row ho rfl) g4 dX6_oddsOf_28 ?_
    refine V_iconst (v := 3) hC dX6_oddsOf_29 rfl ?_
    refine V_icmp_ne (tgt := 87) hC dX6_oddsOf_30 (by decide) (fun c5 => ?_) (fun c5 => ?_)
    · have hf := if_f hf c5
      refine V_iconst (v := 0) hC dX6_oddsOf_87 rfl ?_
      refine V_istore (lv' := [(4, .int 0), (3, .int v3), (2, .int v1), (0, .ref (yo Y 0)), (1, .int p1)]) hC dX6_oddsOf_88 (by decide) rfl ?_
      refine V_iconst (v := 0) hC dX6_oddsOf_90 rfl ?_
      refine V_istore (lv' := [(5, .int 0), (4, .int 0), (3, .int v3), (2, .int v1), (0, .ref (yo Y 0)), (1, .int p1)]) hC dX6_oddsOf_91 (by decide) rfl ?_
      exact V_sub [4, 5, 1, 0] rfl (lp_ind (X := Int32 × Int32 × Dt) (P := fun x => V K Y 7 0 0 z x.2.2 93 [(0, .ref (yo Y 0)), (1, .int p1), (4, .int x.1), (5, .int x.2.1)] []) (fun k x hk hx => b_X6_oddsOf_93 hC hr hA ho hQ  (k93 := fun x4 x5 d => k (x4, x5, d)) (fun x4 x5 d hx => hk (x4, x5, d) hx) x.1 x.2.1 x.2.2 hx) FU (0, 0, d) hf)
    · have hf := if_t hf c5
      refine V_aload_n 2 hC dX6_oddsOf_33 rfl rfl ?_
      refine V_geta (o := 0) hC ho rfl fk_X6_7 dX6_oddsOf_34 ?_
      refine V_bipush (v := 80) hC dX6_oddsOf_37 rfl ?_
      refine V_iload_n 0 hC dX6_oddsOf_39 rfl rfl ?_
      refine V_iadd hC dX6_oddsOf_40 ?_
      obtain ⟨g6, hf⟩ := gd_some hf
      refine V_iald (a := (32 * 0 + 0)) hC (hL.row ho rfl) g6 dX6_oddsOf_41 ?_
      refine V_topi (fun y7 ey7 => ?_)
      have hf := bd_e hf y7 ey7
      refine V_istore (lv' := [(4, .int y7), (3, .int v3), (2, .int v1), (0, .ref (yo Y 0)), (1, .int p1)]) hC dX6_oddsOf_42 (by decide) rfl ?_
      refine V_ldc2 hC cl_X6_161 dX6_oddsOf_44 ?_
      refine V_iload 0 hC dX6_oddsOf_47 rfl ?_
      refine V_i2l hC dX6_oddsOf_49 ?_
      refine V_lsub hC dX6_oddsOf_50 ?_
      refine V_aload_n 3 hC dX6_oddsOf_51 rfl rfl ?_
      refine V_aload_n 3 hC dX6_oddsOf_52 rfl rfl ?_
      refine V_iload_n 4 hC dX6_oddsOf_53 rfl rfl ?_
      refine V_iconst (v := 0) hC dX6_oddsOf_54 rfl ?_
      obtain ⟨q8, eq8, hf⟩ := bi_some hf
      refine V_invi (o := 0) (As := [.int p1, .int 0]) (rest := [.ref (yo Y 0), .long (7 - (y7.toInt64))]) hC (c_X6_wayTo hL ho eq8) me_X6_wayTo lk_X6_231 ho rfl rfl rfl (Nat.le_of_ble_eq_true rfl) ⟨by decide, by decide⟩ hkn dX6_oddsOf_55 ?_
      obtain ⟨v9, ev9, hf⟩ := bi_some hf
      refine V_invi (o := 0) (As := [.int q8.1]) (rest := [.long (7 - (y7.toInt64))]) hC (c_X6_oddsAt hL ho ev9) me_X6_oddsAt lk_X6_277 ho rfl rfl rfl (Nat.le_of_ble_eq_true rfl) ⟨by decide, by decide⟩ hkn dX6_oddsOf_58 ?_
      refine V_i2l hC dX6_oddsOf_61 ?_
      refine V_lmul hC dX6_oddsOf_62 ?_
      refine V_iload 0 hC dX6_oddsOf_63 rfl ?_
      refine V_i2l hC dX6_oddsOf_65 ?_
      refine V_lconst (v := 1) hC dX6_oddsOf_66 rfl ?_
      refine V_lsub hC dX6_oddsOf_67 ?_
      refine V_aload_n 3 hC dX6_oddsOf_68 rfl rfl ?_
      refine V_aload_n 3 hC dX6_oddsOf_69 rfl rfl ?_
      refine V_iload_n 4 hC dX6_oddsOf_70 rfl rfl ?_
      refine V_iconst (v := 1) hC dX6_oddsOf_71 rfl ?_
      obtain ⟨q10, eq10, hf⟩ := bi_some hf
      refine V_invi (o := 0) (As := [.int p1, .int 1]) (rest := [.ref (yo Y 0), .long ((y7.toInt64) - 1), .long ((7 - (y7.toInt64)) * (v9.toInt64))]) hC (c_X6_wayTo hL ho eq10) me_X6_wayTo lk_X6_231 ho rfl rfl rfl (Nat.le_of_ble_eq_true rfl) ⟨by decide, by decide⟩ hkn dX6_oddsOf_72 ?_
      obtain ⟨v11, ev11, hf⟩ := bi_some hf
      refine V_invi (o := 0) (As := [.int q10.1]) (rest := [.long ((y7.toInt64) - 1), .long ((7 - (y7.toInt64)) * (v9.toInt64))]) hC (c_X6_oddsAt hL ho ev11) me_X6_oddsAt lk_X6_277 ho rfl rfl rfl (Nat.le_of_ble_eq_true rfl) ⟨by decide, by decide⟩ hkn dX6_oddsOf_75 ?_
      refine V_i2l hC dX6_oddsOf_78 ?_
      refine V_lmul hC dX6_oddsOf_79 ?_
      refine V_ladd hC dX6_oddsOf_80 ?_
      refine V_ldc2 hC cl_X6_263 dX6_oddsOf_81 ?_
      refine V_ldiv hC dX6_oddsOf_84 (by decide) ?_
      refine V_l2i hC dX6_oddsOf_85 ?_
      obtain ⟨rfl, rfl⟩ := so_inj2 hf
      exact V_iret hC hr hQ hA dX6_oddsOf_86
  · have hf := if_t hf c2
    refine V_ldcw hC ck_X6_276 dX6_oddsOf_11 ?_
    obtain ⟨rfl, rfl⟩ := so_inj2 hf
    exact V_iret hC hr hQ hA dX6_oddsOf_14
def t_X6_findOdds_94 (L : Nat → Nat) (p1 : Int32) (k50 : Int32 → (Dt) → Option (Dt)) (k94 : Int32 → Int32 → (Dt) → Option (Dt)) (x2 : Int32) (x3 : Int32) (d : Dt) : Option (Dt) := if (gF d 0 21) ≤ x3 then k50 (x2 + 1) d else gd (inb x3 (L (32 * 0 + 19))) (gd (inb x3 (L (32 * 0 + 19))) (gd (inb (gA d (32 * 0 + 19) (ix x3)) (L (32 * 0 + 25))) (gd (inb (gA d (32 * 0 + 19) (ix x3)) (L (32 * 0 + 26))) (bd (sA d (32 * 0 + 26) (ix (gA d (32 * 0 + 19) (ix x3))) (gA d (32 * 0 + 25) (ix (gA d (32 * 0 + 19) (ix x3))))) (fun d20 => k94 x2 (x3 + 1) d20)))))
set_option maxRecDepth 20000 in
theorem b_X6_findOdds_94 {K : Kx} {Y : Yx} {z : Sh}  (hC : CK K Y cX6_findOdds 4 RX6 6 139) (hr : (kme K).sig.returnType = none) (hA : kA K = aY Y z) {p1 : Int32} (ho : (0, 0, 5) ∈ yI Y) {d' : Dt} (hQ : kQ K = MQ (kb K) (QM Y z (none) d') (ka K) (ks K) 0 0 (aY Y z)) {k50 : Int32 → (Dt) → Option (Dt)} {k94 : Int32 → Int32 → (Dt) → Option (Dt)} (hk50 : ∀ (x2 : Int32) (d : Dt), k50 x2 d = some d' → V K Y 4 0 0 z d 50 [(0, .ref (yo Y 0)), (1, .int p1), (2, .int x2)] []) (hk94 : ∀ (x2 : Int32) (x3 : Int32) (d : Dt), k94 x2 x3 d = some d' → V K Y 4 0 0 z d 94 [(0, .ref (yo Y 0)), (1, .int p1), (2, .int x2), (3, .int x3)] []) (x2 : Int32) (x3 : Int32) (d : Dt) (hf : t_X6_findOdds_94 z.1 p1 k50 k94 x2 x3 d = some d') : V K Y 4 0 0 z d 94 [(0, .ref (yo Y 0)), (1, .int p1), (2, .int x2), (3, .int x3)] [] := by
  have hL := hC.2.2.2.2.2.2.1
  unfold t_X6_findOdds_94 at hf
  refine V_iload_n 3 hC dX6_findOdds_94 rfl rfl ?_
  refine V_aload_n 0 hC dX6_findOdds_95 rfl rfl ?_
  refine V_geti (o := 0) hC ho rfl fk_X6_173 dX6_findOdds_96 ?_
  refine V_icmp_ge (tgt := 130) hC dX6_findOdds_99 (by decide) (fun c15 => ?_) (fun c15 => ?_)
  · have hf := if_t hf c15
    refine V_iinc (v := x2 + 1) (lv' := [(2, .int (x2 + 1)), (0, .ref (yo Y 0)), (1, .int p1), (3, .int x3)]) 2 hC dX6_findOdds_130 rfl rfl (by decide) rfl ?_
    refine V_goto (tgt := 50) hC dX6_findOdds_133 (by decide) ?_
    exact V_sub [1, 2, 0] rfl (hk50 (x2 + 1) d hf)
  · have hf := if_f hf c15
    refine V_aload_n 0 hC dX6_findOdds_102 rfl rfl ?_
    refine V_geta (o := 0) hC ho rfl fk_X6_52 dX6_findOdds_103 ?_
    refine V_aload_n 0 hC dX6_findOdds_106 rfl rfl ?_
    refine V_geta (o := 0) hC ho rfl fk_X6_40 dX6_findOdds_107 ?_
    refine V_iload_n 3 hC dX6_findOdds_110 rfl rfl ?_
    obtain ⟨g16, hf⟩ := gd_some hf
    refine V_iald (a := (32 * 0 + 19)) hC (hL.row ho rfl) g16 dX6_findOdds_111 ?_
    refine V_aload_n 0 hC dX6_findOdds_112 rfl rfl ?_
    refine V_geta (o := 0) hC ho rfl fk_X6_49 dX6_findOdds_113 ?_
    refine V_aload_n 0 hC dX6_findOdds_116 rfl rfl ?_
    refine V_geta (o := 0) hC ho rfl fk_X6_40 dX6_findOdds_117 ?_
    refine V_iload_n 3 hC dX6_findOdds_120 rfl rfl ?_
    obtain ⟨g17, hf⟩ := gd_some hf
    refine V_iald (a := (32 * 0 + 19)) hC (hL.row ho rfl) g17 dX6_findOdds_121 ?_
    obtain ⟨g18, hf⟩ := gd_some hf
    refine V_iald (a := (32 * 0 + 25)) hC (hL.row ho rfl) g18 dX6_findOdds_122 ?_
    obtain ⟨g19, hf⟩ := gd_some hf
    refine V_iast (a := (32 * 0 + 26)) hC (hL.row ho rfl) g19 dX6_findOdds_123 (fun d20 ed20 => ?_)
    have hf := bd_e hf d20 ed20
    refine V_iinc (v := x3 + 1) (lv' := [(3, .int (x3 + 1)), (0, .ref (yo Y 0)), (1, .int p1), (2, .int x2)]) 3 hC dX6_findOdds_124 rfl rfl (by decide) rfl ?_
    refine V_goto (tgt := 94) hC dX6_findOdds_127 (by decide) ?_
    exact V_sub [1, 2, 3, 0] rfl (hk94 x2 (x3 + 1) d20 hf)
def t_X6_findOdds_57 (L : Nat → Nat) (p1 : Int32) (k50 : Int32 → (Dt) → Option (Dt)) (k57 : Int32 → Int32 → (Dt) → Option (Dt)) (x2 : Int32) (x3 : Int32) (d : Dt) : Option (Dt) := if (gF d 0 21) ≤ x3 then lp (fun k x => t_X6_findOdds_94 L p1 k50 (fun x2 x3 d => k (x2, x3, d)) x.1 x.2.1 x.2.2) FU (x2, 0, d) else gd (inb x3 (L (32 * 0 + 19))) (gd (inb x3 (L (32 * 0 + 19))) ((t_X6_oddsOf L d (gA d (32 * 0 + 19) (ix x3))).bind (fun q12 => gd (inb (gA d (32 * 0 + 19) (ix x3)) (L (32 * 0 + 25))) (bd (sA q12.2 (32 * 0 + 25) (ix (gA d (32 * 0 + 19) (ix x3))) q12.1) (fun d14 => k57 x2 (x3 + 1) d14)))))
set_option maxRecDepth 20000 in
theorem b_X6_findOdds_57 {K : Kx} {Y : Yx} {z : Sh}  (hC : CK K Y cX6_findOdds 4 RX6 6 139) (hr : (kme K).sig.returnType = none) (hA : kA K = aY Y z) {p1 : Int32} (ho : (0, 0, 5) ∈ yI Y) {d' : Dt} (hQ : kQ K = MQ (kb K) (QM Y z (none) d') (ka K) (ks K) 0 0 (aY Y z)) {k50 : Int32 → (Dt) → Option (Dt)} {k57 : Int32 → Int32 → (Dt) → Option (Dt)} (hk50 : ∀ (x2 : Int32) (d : Dt), k50 x2 d = some d' → V K Y 4 0 0 z d 50 [(0, .ref (yo Y 0)), (1, .int p1), (2, .int x2)] []) (hk57 : ∀ (x2 : Int32) (x3 : Int32) (d : Dt), k57 x2 x3 d = some d' → V K Y 4 0 0 z d 57 [(0, .ref (yo Y 0)), (1, .int p1), (2, .int x2), (3, .int x3)] []) (x2 : Int32) (x3 : Int32) (d : Dt) (hf : t_X6_findOdds_57 z.1 p1 k50 k57 x2 x3 d = some d') : V K Y 4 0 0 z d 57 [(0, .ref (yo Y 0)), (1, .int p1), (2, .int x2), (3, .int x3)] [] := by
  have hL := hC.2.2.2.2.2.2.1
  have hkn : 0 ≤ (kR K).cells ∧ 0 ≤ (kR K).slots := ⟨Nat.zero_le _, Nat.zero_le _⟩
  unfold t_X6_findOdds_57 at hf
  refine V_iload_n 3 hC dX6_findOdds_57 rfl rfl ?_
  refine V_aload_n 0 hC dX6_findOdds_58 rfl rfl ?_
  refine V_geti (o := 0) hC ho rfl fk_X6_173 dX6_findOdds_59 ?_
  refine V_icmp_ge (tgt := 92) hC dX6_findOdds_62 (by decide) (fun c9 => ?_) (fun c9 => ?_)
  · have hf := if_t hf c9
    refine V_iconst (v := 0) hC dX6_findOdds_92 rfl ?_
    refine V_istore_n (lv' := [(3, .int 0), (0, .ref (yo Y 0)), (1, .int p1), (2, .int x2)]) hC dX6_findOdds_93 rfl (by decide) rfl ?_
    exact V_sub [1, 2, 3, 0] rfl (lp_ind (X := Int32 × Int32 × Dt) (P := fun x => V K Y 4 0 0 z x.2.2 94 [(0, .ref (yo Y 0)), (1, .int p1), (2, .int x.1), (3, .int x.2.1)] []) (fun k x hk hx => b_X6_findOdds_94 hC hr hA ho hQ hk50 (k94 := fun x2 x3 d => k (x2, x3, d)) (fun x2 x3 d hx => hk (x2, x3, d) hx) x.1 x.2.1 x.2.2 hx) FU (x2, 0, d) hf)
  · have hf := if_f hf c9
    refine V_aload_n 0 hC dX6_findOdds_65 rfl rfl ?_
    refine V_geta (o := 0) hC ho rfl fk_X6_49 dX6_findOdds_66 ?_
    refine V_aload_n 0 hC dX6_findOdds_69 rfl rfl ?_
    refine V_geta (o := 0) hC ho rfl fk_X6_40 dX6_findOdds_70 ?_
    refine V_iload_n 3 hC dX6_findOdds_73 rfl rfl ?_
    obtain ⟨g10, hf⟩ := gd_some hf
    refine V_iald (a := (32 * 0 + 19)) hC (hL.row ho rfl) g10 dX6_findOdds_74 ?_
    refine V_aload_n 0 hC dX6_findOdds_75 rfl rfl ?_
    refine V_aload_n 0 hC dX6_findOdds_76 rfl rfl ?_
    refine V_geta (o := 0) hC ho rfl fk_X6_40 dX6_findOdds_77 ?_
    refine V_iload_n 3 hC dX6_findOdds_80 rfl rfl ?_
    obtain ⟨g11, hf⟩ := gd_some hf
    refine V_iald (a := (32 * 0 + 19)) hC (hL.row ho rfl) g11 dX6_findOdds_81 ?_
    obtain ⟨q12, eq12, hf⟩ := bi_some hf
    refine V_invi (o := 0) (As := [.int (gA d (32 * 0 + 19) (ix x3))]) (rest := [.int (gA d (32 * 0 + 19) (ix x3)), .ref (gad z (32 * 0 + 25))]) hC (c_X6_oddsOf hL ho eq12) me_X6_oddsOf lk_X6_280 ho rfl rfl rfl (Nat.le_of_ble_eq_true rfl) ⟨by decide, by decide⟩ hkn dX6_findOdds_82 ?_
    obtain ⟨g13, hf⟩ := gd_some hf
    refine V_iast (a := (32 * 0 + 25)) hC (hL.row ho rfl) g13 dX6_findOdds_85 (fun d14 ed14 => ?_)
    have hf := bd_e hf d14 ed14
    refine V_iinc (v := x3 + 1) (lv' := [(3, .int (x3 + 1)), (0, .ref (yo Y 0)), (1, .int p1), (2, .int x2)]) 3 hC dX6_findOdds_86 rfl rfl (by decide) rfl ?_
    refine V_goto (tgt := 57) hC dX6_findOdds_89 (by decide) ?_
    exact V_sub [1, 2, 3, 0] rfl (hk57 x2 (x3 + 1) d14 hf)
def t_X6_findOdds_50 (L : Nat → Nat) (p1 : Int32) (k50 : Int32 → (Dt) → Option (Dt)) (x2 : Int32) (d : Dt) : Option (Dt) := if p1 ≤ x2 then some d else lp (fun k x => t_X6_findOdds_57 L p1 k50 (fun x2 x3 d => k (x2, x3, d)) x.1 x.2.1 x.2.2) FU (x2, 0, d)
set_option maxRecDepth 20000 in
theorem b_X6_findOdds_50 {K : Kx} {Y : Yx} {z : Sh}  (hC : CK K Y cX6_findOdds 4 RX6 6 139) (hr : (kme K).sig.returnType = none) (hA : kA K = aY Y z) {p1 : Int32} (ho : (0, 0, 5) ∈ yI Y) {d' : Dt} (hQ : kQ K = MQ (kb K) (QM Y z (none) d') (ka K) (ks K) 0 0 (aY Y z)) {k50 : Int32 → (Dt) → Option (Dt)} (hk50 : ∀ (x2 : Int32) (d : Dt), k50 x2 d = some d' → V K Y 4 0 0 z d 50 [(0, .ref (yo Y 0)), (1, .int p1), (2, .int x2)] []) (x2 : Int32) (d : Dt) (hf : t_X6_findOdds_50 z.1 p1 k50 x2 d = some d') : V K Y 4 0 0 z d 50 [(0, .ref (yo Y 0)), (1, .int p1), (2, .int x2)] [] := by
  have hL := hC.2.2.2.2.2.2.1
  unfold t_X6_findOdds_50 at hf
  refine V_iload_n 2 hC dX6_findOdds_50 rfl rfl ?_
  refine V_iload_n 1 hC dX6_findOdds_51 rfl rfl ?_
  refine V_icmp_ge (tgt := 136) hC dX6_findOdds_52 (by decide) (fun c6 => ?_) (fun c6 => ?_)
  · have hf := if_t hf c6
    obtain rfl := so_inj hf
    exact V_vret hC hr hQ hA dX6_findOdds_136
  · have hf := if_f hf c6
    refine V_iconst (v := 0) hC dX6_findOdds_55 rfl ?_
    refine V_istore_n (lv' := [(3, .int 0), (0, .ref (yo Y 0)), (1, .int p1), (2, .int x2)]) hC dX6_findOdds_56 rfl (by decide) rfl ?_
    exact V_sub [1, 2, 3, 0] rfl (lp_ind (X := Int32 × Int32 × Dt) (P := fun x => V K Y 4 0 0 z x.2.2 57 [(0, .ref (yo Y 0)), (1, .int p1), (2, .int x.1), (3, .int x.2.1)] []) (fun k x hk hx => b_X6_findOdds_57 hC hr hA ho hQ hk50 (k57 := fun x2 x3 d => k (x2, x3, d)) (fun x2 x3 d hx => hk (x2, x3, d) hx) x.1 x.2.1 x.2.2 hx) FU (x2, 0, d) hf)
def t_X6_findOdds_41 (L : Nat → Nat) (p1 : Int32) (k2 : Int32 → (Dt) → Option (Dt)) (x2 : Int32) (s0 : Int32) (s1 : Int32) (d : Dt) : Option (Dt) := gd (inb s1 (L (32 * 0 + 26))) (bd (sA d (32 * 0 + 26) (ix s1) s0) (fun d8 => k2 (x2 + 1) d8))
set_option maxRecDepth 20000 in
theorem b_X6_findOdds_41 {K : Kx} {Y : Yx} {z : Sh}  (hC : CK K Y cX6_findOdds 4 RX6 6 139) (hr : (kme K).sig.returnType = none) (hA : kA K = aY Y z) {p1 : Int32} (ho : (0, 0, 5) ∈ yI Y) {d' : Dt} (hQ : kQ K = MQ (kb K) (QM Y z (none) d') (ka K) (ks K) 0 0 (aY Y z)) {k2 : Int32 → (Dt) → Option (Dt)} (hk2 : ∀ (x2 : Int32) (d : Dt), k2 x2 d = some d' → V K Y 4 0 0 z d 2 [(0, .ref (yo Y 0)), (1, .int p1), (2, .int x2)] []) (x2 : Int32) (s0 : Int32) (s1 : Int32) (d : Dt) (hf : t_X6_findOdds_41 z.1 p1 k2 x2 s0 s1 d = some d') : V K Y 4 0 0 z d 41 [(0, .ref (yo Y 0)), (1, .int p1), (2, .int x2)] [.int s0, .int s1, .ref (gad z (32 * 0 + 26))] := by
  have hL := hC.2.2.2.2.2.2.1
  unfold t_X6_findOdds_41 at hf
  obtain ⟨g7, hf⟩ := gd_some hf
  refine V_iast (a := (32 * 0 + 26)) hC (hL.row ho rfl) g7 dX6_findOdds_41 (fun d8 ed8 => ?_)
  have hf := bd_e hf d8 ed8
  refine V_iinc (v := x2 + 1) (lv' := [(2, .int (x2 + 1)), (0, .ref (yo Y 0)), (1, .int p1)]) 2 hC dX6_findOdds_42 rfl rfl (by decide) rfl ?_
  refine V_goto (tgt := 2) hC dX6_findOdds_45 (by decide) ?_
  exact V_sub [1, 2, 0] rfl (hk2 (x2 + 1) d8 hf)
def t_X6_findOdds_2 (L : Nat → Nat) (p1 : Int32) (k2 : Int32 → (Dt) → Option (Dt)) (x2 : Int32) (d : Dt) : Option (Dt) := if (gF d 0 21) ≤ x2 then lp (fun k x => t_X6_findOdds_50 L p1  (fun x2 d => k (x2, d)) x.1 x.2) FU (0, d) else gd (inb x2 (L (32 * 0 + 19))) (gd (inb x2 (L (32 * 0 + 19))) ((t_X6_standsAt L d (gA d (32 * 0 + 19) (ix x2))).bind (fun v4 => if v4 = 1 then t_X6_findOdds_41 L p1 k2 x2 1000000 (gA d (32 * 0 + 19) (ix x2)) d else t_X6_findOdds_41 L p1 k2 x2 0 (gA d (32 * 0 + 19) (ix x2)) d)))
set_option maxRecDepth 20000 in
theorem b_X6_findOdds_2 {K : Kx} {Y : Yx} {z : Sh}  (hC : CK K Y cX6_findOdds 4 RX6 6 139) (hr : (kme K).sig.returnType = none) (hA : kA K = aY Y z) {p1 : Int32} (ho : (0, 0, 5) ∈ yI Y) {d' : Dt} (hQ : kQ K = MQ (kb K) (QM Y z (none) d') (ka K) (ks K) 0 0 (aY Y z)) {k2 : Int32 → (Dt) → Option (Dt)} (hk2 : ∀ (x2 : Int32) (d : Dt), k2 x2 d = some d' → V K Y 4 0 0 z d 2 [(0, .ref (yo Y 0)), (1, .int p1), (2, .int x2)] []) (x2 : Int32) (d : Dt) (hf : t_X6_findOdds_2 z.1 p1 k2 x2 d = some d') : V K Y 4 0 0 z d 2 [(0, .ref (yo Y 0)), (1, .int p1), (2, .int x2)] [] := by
  have hL := hC.2.2.2.2.2.2.1
  have hkn : 0 ≤ (kR K).cells ∧ 0 ≤ (kR K).slots := ⟨Nat.zero_le _, Nat.zero_le _⟩
  unfold t_X6_findOdds_2 at hf
  refine V_iload_n 2 hC dX6_findOdds_2 rfl rfl ?_
  refine V_aload_n 0 hC dX6_findOdds_3 rfl rfl ?_
  refine V_geti (o := 0) hC ho rfl fk_X6_173 dX6_findOdds_4 ?_
  refine V_icmp_ge (tgt := 48) hC dX6_findOdds_7 (by decide) (fun c1 => ?_) (fun c1 => ?_)
  · have hf := if_t hf c1
    refine V_iconst (v := 0) hC dX6_findOdds_48 rfl ?_
    refine V_istore_n (lv' := [(2, .int 0), (0, .ref (yo Y 0)), (1, .int p1)]) hC dX6_findOdds_49 rfl (by decide) rfl ?_
    exact V_sub [1, 2, 0] rfl (lp_ind (X := Int32 × Dt) (P := fun x => V K Y 4 0 0 z x.2 50 [(0, .ref (yo Y 0)), (1, .int p1), (2, .int x.1)] []) (fun k x hk hx => b_X6_findOdds_50 hC hr hA ho hQ  (k50 := fun x2 d => k (x2, d)) (fun x2 d hx => hk (x2, d) hx) x.1 x.2 hx) FU (0, d) hf)
  · have hf := if_f hf c1
    refine V_aload_n 0 hC dX6_findOdds_10 rfl rfl ?_
    refine V_geta (o := 0) hC ho rfl fk_X6_52 dX6_findOdds_11 ?_
    refine V_aload_n 0 hC dX6_findOdds_14 rfl rfl ?_
    refine V_geta (o := 0) hC ho rfl fk_X6_40 dX6_findOdds_15 ?_
    refine V_iload_n 2 hC dX6_findOdds_18 rfl rfl ?_
    obtain ⟨g2, hf⟩ := gd_some hf
    refine V_iald (a := (32 * 0 + 19)) hC (hL.row ho rfl) g2 dX6_findOdds_19 ?_
    refine V_aload_n 0 hC dX6_findOdds_20 rfl rfl ?_
    refine V_aload_n 0 hC dX6_findOdds_21 rfl rfl ?_
    refine V_geta (o := 0) hC ho rfl fk_X6_40 dX6_findOdds_22 ?_
    refine V_iload_n 2 hC dX6_findOdds_25 rfl rfl ?_
    obtain ⟨g3, hf⟩ := gd_some hf
    refine V_iald (a := (32 * 0 + 19)) hC (hL.row ho rfl) g3 dX6_findOdds_26 ?_
    obtain ⟨v4, ev4, hf⟩ := bi_some hf
    refine V_invi (o := 0) (As := [.int (gA d (32 * 0 + 19) (ix x2))]) (rest := [.int (gA d (32 * 0 + 19) (ix x2)), .ref (gad z (32 * 0 + 26))]) hC (c_X6_standsAt hL ho ev4) me_X6_standsAt lk_X6_228 ho rfl rfl rfl (Nat.le_of_ble_eq_true rfl) ⟨by decide, by decide⟩ hkn dX6_findOdds_27 ?_
    refine V_iconst (v := 1) hC dX6_findOdds_30 rfl ?_
    refine V_icmp_ne (tgt := 40) hC dX6_findOdds_31 (by decide) (fun c5 => ?_) (fun c5 => ?_)
    · have hf := if_f hf c5
      refine V_iconst (v := 0) hC dX6_findOdds_40 rfl ?_
      exact b_X6_findOdds_41 hC hr hA ho hQ hk2 x2 0 (gA d (32 * 0 + 19) (ix x2)) d hf
    · have hf := if_t hf c5
      refine V_ldcw hC ck_X6_276 dX6_findOdds_34 ?_
      refine V_goto (tgt := 41) hC dX6_findOdds_37 (by decide) ?_
      exact b_X6_findOdds_41 hC hr hA ho hQ hk2 x2 1000000 (gA d (32 * 0 + 19) (ix x2)) d hf
def t_X6_findOdds (L : Nat → Nat) (d : Dt) (p1 : Int32) : Option (Dt) := lp (fun k x => t_X6_findOdds_2 L p1  (fun x2 d => k (x2, d)) x.1 x.2) FU (0, d)
set_option maxRecDepth 20000 in
theorem c_X6_findOdds {l : Launch} {Y : Yx} (hL : LAY Y) {z : Sh} {d : Dt} {p1 : Int32} (ho : (0, 0, 5) ∈ yI Y) {d' : Dt} (hf : t_X6_findOdds z.1 d p1 = some d') : MM l yX6_findOdds cX6_findOdds 4 none 6 139 Y z [.ref (yo Y 0), .int p1] d (none) d' := by
  refine MM.ofV (by decide +kernel) hL (Nat.le_of_ble_eq_true rfl) (fun K hl hC hr hQ hA => ?_)
  have hC : CK K Y cX6_findOdds 4 RX6 6 139 := hC
  unfold t_X6_findOdds at hf
  show V K Y 4 0 0 z d 0 [(0, .ref (yo Y 0)), (1, .int p1)] []
  refine V_iconst (v := 0) hC dX6_findOdds_0 rfl ?_
  refine V_istore_n (lv' := [(2, .int 0), (0, .ref (yo Y 0)), (1, .int p1)]) hC dX6_findOdds_1 rfl (by decide) rfl ?_
  exact V_sub [1, 2, 0] rfl (lp_ind (X := Int32 × Dt) (P := fun x => V K Y 4 0 0 z x.2 2 [(0, .ref (yo Y 0)), (1, .int p1), (2, .int x.1)] []) (fun k x hk hx => b_X6_findOdds_2 hC hr hA ho hQ  (k2 := fun x2 d => k (x2, d)) (fun x2 d hx => hk (x2, d) hx) x.1 x.2 hx) FU (0, d) hf)
def t_X6_nowState (L : Nat → Nat) (d : Dt)  : Option (Int32) := (t_X6_stands L d ).bind (fun v1 => if v1 = 2 then some (-2) else gd (inb 3 (L (32 * 0 + 0))) (gd (inb 4 (L (32 * 0 + 0))) (gd (inb 5 (L (32 * 0 + 0))) ((t_X6_stateOf L d (gA d (32 * 0 + 0) (ix 3)) (gA d (32 * 0 + 0) (ix 4)) (gA d (32 * 0 + 0) (ix 5))).bind (fun v6 => some v6)))))
set_option maxRecDepth 20000 in
theorem c_X6_nowState {l : Launch} {Y : Yx} (hL : LAY Y) {z : Sh} {d : Dt}  (ho : (0, 0, 5) ∈ yI Y) {r : Int32} (hf : t_X6_nowState z.1 d  = some r) : MM l yX6_nowState cX6_nowState 1 (some .int) 6 134 Y z [.ref (yo Y 0)] d (some (.int r)) d := by
  refine MM.ofV (by decide +kernel) hL (Nat.le_of_ble_eq_true rfl) (fun K hl hC hr hQ hA => ?_)
  have hC : CK K Y cX6_nowState 1 RX6 6 134 := hC
  have hkn : 0 ≤ (kR K).cells ∧ 0 ≤ (kR K).slots := ⟨Nat.zero_le _, Nat.zero_le _⟩
  unfold t_X6_nowState at hf
  show V K Y 1 0 0 z d 0 [(0, .ref (yo Y 0))] []
  refine V_aload_n 0 hC dX6_nowState_0 rfl rfl ?_
  obtain ⟨v1, ev1, hf⟩ := bi_some hf
  refine V_invi (o := 0) (As := []) (rest := []) hC (c_X6_stands hL ho ev1) me_X6_stands lk_X6_250 ho rfl rfl rfl (Nat.le_of_ble_eq_true rfl) ⟨by decide, by decide⟩ hkn dX6_nowState_1 ?_
  refine V_iconst (v := 2) hC dX6_nowState_4 rfl ?_
  refine V_icmp_ne (tgt := 13) hC dX6_nowState_5 (by decide) (fun c2 => ?_) (fun c2 => ?_)
  · have hf := if_f hf c2
    refine V_aload_n 0 hC dX6_nowState_13 rfl rfl ?_
    refine V_geta (o := 0) hC ho rfl fk_X6_7 dX6_nowState_14 ?_
    refine V_iconst (v := 3) hC dX6_nowState_17 rfl ?_
    obtain ⟨g3, hf⟩ := gd_some hf
    refine V_iald (a := (32 * 0 + 0)) hC (hL.row ho rfl) g3 dX6_nowState_18 ?_
    refine V_aload_n 0 hC dX6_nowState_19 rfl rfl ?_
    refine V_geta (o := 0) hC ho rfl fk_X6_7 dX6_nowState_20 ?_
    refine V_iconst (v := 4) hC dX6_nowState_23 rfl ?_
    obtain ⟨g4, hf⟩ := gd_some hf
    refine V_iald (a := (32 * 0 + 0)) hC (hL.row ho rfl) g4 dX6_nowState_24 ?_
    refine V_aload_n 0 hC dX6_nowState_25 rfl rfl ?_
    refine V_geta (o := 0) hC ho rfl fk_X6_7 dX6_nowState_26 ?_
    refine V_iconst (v := 5) hC dX6_nowState_29 rfl ?_
    obtain ⟨g5, hf⟩ := gd_some hf
    refine V_iald (a := (32 * 0 + 0)) hC (hL.row ho rfl) g5 dX6_nowState_30 ?_
    obtain ⟨v6, ev6, hf⟩ := bi_some hf
    refine V_insi (As := [.int (gA d (32 * 0 + 0) (ix 3)), .int (gA d (32 * 0 + 0) (ix 4)), .int (gA d (32 * 0 + 0) (ix 5))]) (rest := []) hC (c_X6_stateOf hL  ev6) me_X6_stateOf lk_X6_186 rfl rfl (Nat.le_of_ble_eq_true rfl) ⟨by decide, by decide⟩ hkn dX6_nowState_31 ?_
    obtain rfl := so_inj hf
    exact V_iret hC hr hQ hA dX6_nowState_34
  · have hf := if_t hf c2
    refine V_bipush (v := -2) hC dX6_nowState_8 rfl ?_
    refine V_goto (tgt := 34) hC dX6_nowState_10 (by decide) ?_
    obtain rfl := so_inj hf
    exact V_iret hC hr hQ hA dX6_nowState_34
def t_X6_odds (L : Nat → Nat) (d : Dt) (p1 : Int32) : Option (Int32 × Dt) := (t_X6_in L d (p1.toInt64) 0 60).bind (fun v1 => if v1 = 0 then some ((-1000002), d) else gd (inb 3 (L (32 * 0 + 0))) (if 0 ≤ (gA d (32 * 0 + 0) (ix 3)) then (t_X6_nowState L d ).bind (fun v5 => (t_X6_spreadFrom L d v5).bind (fun d6 => (t_X6_findOdds L d6 p1).bind (fun d7 => (t_X6_oddsAt L d7 v5).bind (fun v8 => some (v8, d7))))) else some ((-1000003), d)))
set_option maxRecDepth 20000 in
theorem c_X6_odds {l : Launch} {Y : Yx} (hL : LAY Y) {z : Sh} {d : Dt} {p1 : Int32} (ho : (0, 0, 5) ∈ yI Y) {r : Int32} {d' : Dt} (hf : t_X6_odds z.1 d p1 = some (r, d')) : MM l yX6_odds cX6_odds 3 (some .int) 7 162 Y z [.ref (yo Y 0), .int p1] d (some (.int r)) d' := by
  refine MM.ofV (by decide +kernel) hL (Nat.le_of_ble_eq_true rfl) (fun K hl hC hr hQ hA => ?_)
  have hC : CK K Y cX6_odds 3 RX6 7 162 := hC
  have hkn : 0 ≤ (kR K).cells ∧ 0 ≤ (kR K).slots := ⟨Nat.zero_le _, Nat.zero_le _⟩
  unfold t_X6_odds at hf
  show V K Y 3 0 0 z d 0 [(0, .ref (yo Y 0)), (1, .int p1)] []
  refine V_iload_n 1 hC dX6_odds_0 rfl rfl ?_
  refine V_i2l hC dX6_odds_1 ?_
  refine V_lconst (v := 0) hC dX6_odds_2 rfl ?_
  refine V_ldc2 hC cl_X6_283 dX6_odds_3 ?_
  obtain ⟨v1, ev1, hf⟩ := bi_some hf
  refine V_insi (As := [.long (p1.toInt64), .long 0, .long 60]) (rest := []) hC (c_X6_in hL  ev1) me_X6_in lk_X6_66 rfl rfl (Nat.le_of_ble_eq_true rfl) ⟨by decide, by decide⟩ hkn dX6_odds_6 ?_
  refine V_if_ne (tgt := 15) hC dX6_odds_9 (by decide) (fun c2 => ?_) (fun c2 => ?_)
  · have hf := if_f hf c2
    refine V_aload_n 0 hC dX6_odds_15 rfl rfl ?_
    refine V_geta (o := 0) hC ho rfl fk_X6_7 dX6_odds_16 ?_
    refine V_iconst (v := 3) hC dX6_odds_19 rfl ?_
    obtain ⟨g3, hf⟩ := gd_some hf
    refine V_iald (a := (32 * 0 + 0)) hC (hL.row ho rfl) g3 dX6_odds_20 ?_
    refine V_if_ge (tgt := 27) hC dX6_odds_21 (by decide) (fun c4 => ?_) (fun c4 => ?_)
    · have hf := if_t hf c4
      refine V_aload_n 0 hC dX6_odds_27 rfl rfl ?_
      obtain ⟨v5, ev5, hf⟩ := bi_some hf
      refine V_invi (o := 0) (As := []) (rest := []) hC (c_X6_nowState hL ho ev5) me_X6_nowState lk_X6_285 ho rfl rfl rfl (Nat.le_of_ble_eq_true rfl) ⟨by decide, by decide⟩ hkn dX6_odds_28 ?_
      refine V_istore_n (lv' := [(2, .int v5), (0, .ref (yo Y 0)), (1, .int p1)]) hC dX6_odds_31 rfl (by decide) rfl ?_
      refine V_aload_n 1 hC dX6_odds_32 rfl rfl ?_
      refine V_iload_n 0 hC dX6_odds_33 rfl rfl ?_
      obtain ⟨d6, ed6, hf⟩ := bi_some hf
      refine V_invv (o := 0) (As := [.int v5]) (rest := []) hC (c_X6_spreadFrom hL ho ed6) me_X6_spreadFrom lk_X6_288 ho rfl rfl rfl (Nat.le_of_ble_eq_true rfl) ⟨by decide, by decide⟩ hkn dX6_odds_34 ?_
      refine V_aload_n 1 hC dX6_odds_37 rfl rfl ?_
      refine V_iload_n 2 hC dX6_odds_38 rfl rfl ?_
      obtain ⟨d7, ed7, hf⟩ := bi_some hf
      refine V_invv (o := 0) (As := [.int p1]) (rest := []) hC (c_X6_findOdds hL ho ed7) me_X6_findOdds lk_X6_291 ho rfl rfl rfl (Nat.le_of_ble_eq_true rfl) ⟨by decide, by decide⟩ hkn dX6_odds_39 ?_
      refine V_aload_n 1 hC dX6_odds_42 rfl rfl ?_
      refine V_iload_n 0 hC dX6_odds_43 rfl rfl ?_
      obtain ⟨v8, ev8, hf⟩ := bi_some hf
      refine V_invi (o := 0) (As := [.int v5]) (rest := []) hC (c_X6_oddsAt hL ho ev8) me_X6_oddsAt lk_X6_277 ho rfl rfl rfl (Nat.le_of_ble_eq_true rfl) ⟨by decide, by decide⟩ hkn dX6_odds_44 ?_
      obtain ⟨rfl, rfl⟩ := so_inj2 hf
      exact V_iret hC hr hQ hA dX6_odds_47
    · have hf := if_f hf c4
      refine V_ldc hC ck_X6_166 dX6_odds_24 ?_
      obtain ⟨rfl, rfl⟩ := so_inj2 hf
      exact V_iret hC hr hQ hA dX6_odds_26
  · have hf := if_t hf c2
    refine V_ldc hC ck_X6_70 dX6_odds_12 ?_
    obtain ⟨rfl, rfl⟩ := so_inj2 hf
    exact V_iret hC hr hQ hA dX6_odds_14
def t_X6_advice_139 (L : Nat → Nat) (p1 : Int32) (k79 : Int32 → Int32 → Int32 → Int32 → (Dt) → Option (Int32 × Dt)) (x2 : Int32) (x3 : Int32) (x4 : Int32) (x5 : Int32) (d : Dt) : Option (Int32 × Dt) := k79 x2 x3 x4 (x5 + 1) d
set_option maxRecDepth 20000 in
theorem b_X6_advice_139 {K : Kx} {Y : Yx} {z : Sh}  (hC : CK K Y cX6_advice 7 RX6 7 162) (hr : (kme K).sig.returnType = some .int) (hA : kA K = aY Y z) {p1 : Int32} (ho : (0, 0, 5) ∈ yI Y) {r : Int32} {d' : Dt} (hQ : kQ K = MQ (kb K) (QM Y z (some (.int r)) d') (ka K) (ks K) 0 0 (aY Y z)) {k79 : Int32 → Int32 → Int32 → Int32 → (Dt) → Option (Int32 × Dt)} (hk79 : ∀ (x2 : Int32) (x3 : Int32) (x4 : Int32) (x5 : Int32) (d : Dt), k79 x2 x3 x4 x5 d = some (r, d') → V K Y 7 0 0 z d 79 [(0, .ref (yo Y 0)), (2, .int x2), (3, .int x3), (4, .int x4), (5, .int x5)] []) (x2 : Int32) (x3 : Int32) (x4 : Int32) (x5 : Int32) (d : Dt) (hf : t_X6_advice_139 z.1 p1 k79 x2 x3 x4 x5 d = some (r, d')) : V K Y 7 0 0 z d 139 [(0, .ref (yo Y 0)), (2, .int x2), (3, .int x3), (4, .int x4), (5, .int x5)] [] := by
  have hL := hC.2.2.2.2.2.2.1
  unfold t_X6_advice_139 at hf
  refine V_iinc (v := x5 + 1) (lv' := [(5, .int (x5 + 1)), (0, .ref (yo Y 0)), (2, .int x2), (3, .int x3), (4, .int x4)]) 4 hC dX6_advice_139 rfl rfl (by decide) rfl ?_
  refine V_goto (tgt := 79) hC dX6_advice_142 (by decide) ?_
  exact V_sub [1, 2, 3, 4, 0] rfl (hk79 x2 x3 x4 (x5 + 1) d hf)
def t_X6_advice_132 (L : Nat → Nat) (p1 : Int32) (k79 : Int32 → Int32 → Int32 → Int32 → (Dt) → Option (Int32 × Dt)) (x2 : Int32) (x5 : Int32) (x6 : Int32) (d : Dt) : Option (Int32 × Dt) := t_X6_advice_139 L p1 k79 x2 x5 x6 x5 d
set_option maxRecDepth 20000 in
theorem b_X6_advice_132 {K : Kx} {Y : Yx} {z : Sh}  (hC : CK K Y cX6_advice 7 RX6 7 162) (hr : (kme K).sig.returnType = some .int) (hA : kA K = aY Y z) {p1 : Int32} (ho : (0, 0, 5) ∈ yI Y) {r : Int32} {d' : Dt} (hQ : kQ K = MQ (kb K) (QM Y z (some (.int r)) d') (ka K) (ks K) 0 0 (aY Y z)) {k79 : Int32 → Int32 → Int32 → Int32 → (Dt) → Option (Int32 × Dt)} (hk79 : ∀ (x2 : Int32) (x3 : Int32) (x4 : Int32) (x5 : Int32) (d : Dt), k79 x2 x3 x4 x5 d = some (r, d') → V K Y 7 0 0 z d 79 [(0, .ref (yo Y 0)), (2, .int x2), (3, .int x3), (4, .int x4), (5, .int x5)] []) (x2 : Int32) (x5 : Int32) (x6 : Int32) (d : Dt) (hf : t_X6_advice_132 z.1 p1 k79 x2 x5 x6 d = some (r, d')) : V K Y 7 0 0 z d 132 [(0, .ref (yo Y 0)), (2, .int x2), (5, .int x5), (6, .int x6)] [] := by
  have hL := hC.2.2.2.2.2.2.1
  unfold t_X6_advice_132 at hf
  refine V_iload 2 hC dX6_advice_132 rfl ?_
  refine V_istore_n (lv' := [(3, .int x5), (0, .ref (yo Y 0)), (2, .int x2), (5, .int x5), (6, .int x6)]) hC dX6_advice_134 rfl (by decide) rfl ?_
  refine V_iload 4 hC dX6_advice_135 rfl ?_
  refine V_istore (lv' := [(4, .int x6), (3, .int x5), (0, .ref (yo Y 0)), (2, .int x2), (5, .int x5), (6, .int x6)]) hC dX6_advice_137 (by decide) rfl ?_
  exact V_sub [2, 3, 1, 0, 4] rfl (b_X6_advice_139 hC hr hA ho hQ hk79 x2 x5 x6 x5 d hf)
def t_X6_advice_114 (L : Nat → Nat) (p1 : Int32) (k79 : Int32 → Int32 → Int32 → Int32 → (Dt) → Option (Int32 × Dt)) (x2 : Int32) (x3 : Int32) (x4 : Int32) (x5 : Int32) (s0 : Int32) (d : Dt) : Option (Int32 × Dt) := if s0 < 0 then t_X6_advice_139 L p1 k79 x2 x3 x4 x5 d else if x3 < 0 then t_X6_advice_132 L p1 k79 x2 x5 s0 d else if s0 ≤ x4 then t_X6_advice_139 L p1 k79 x2 x3 x4 x5 d else t_X6_advice_132 L p1 k79 x2 x5 s0 d
set_option maxRecDepth 20000 in
theorem b_X6_advice_114 {K : Kx} {Y : Yx} {z : Sh}  (hC : CK K Y cX6_advice 7 RX6 7 162) (hr : (kme K).sig.returnType = some .int) (hA : kA K = aY Y z) {p1 : Int32} (ho : (0, 0, 5) ∈ yI Y) {r : Int32} {d' : Dt} (hQ : kQ K = MQ (kb K) (QM Y z (some (.int r)) d') (ka K) (ks K) 0 0 (aY Y z)) {k79 : Int32 → Int32 → Int32 → Int32 → (Dt) → Option (Int32 × Dt)} (hk79 : ∀ (x2 : Int32) (x3 : Int32) (x4 : Int32) (x5 : Int32) (d : Dt), k79 x2 x3 x4 x5 d = some (r, d') → V K Y 7 0 0 z d 79 [(0, .ref (yo Y 0)), (2, .int x2), (3, .int x3), (4, .int x4), (5, .int x5)] []) (x2 : Int32) (x3 : Int32) (x4 : Int32) (x5 : Int32) (s0 : Int32) (d : Dt) (hf : t_X6_advice_114 z.1 p1 k79 x2 x3 x4 x5 s0 d = some (r, d')) : V K Y 7 0 0 z d 114 [(0, .ref (yo Y 0)), (2, .int x2), (3, .int x3), (4, .int x4), (5, .int x5)] [.int s0] := by
  have hL := hC.2.2.2.2.2.2.1
  unfold t_X6_advice_114 at hf
  refine V_istore (lv' := [(6, .int s0), (0, .ref (yo Y 0)), (2, .int x2), (3, .int x3), (4, .int x4), (5, .int x5)]) hC dX6_advice_114 (by decide) rfl ?_
  refine V_iload 0 hC dX6_advice_116 rfl ?_
  refine V_if_lt (tgt := 139) hC dX6_advice_118 (by decide) (fun c20 => ?_) (fun c20 => ?_)
  · have hf := if_t hf c20
    exact V_sub [1, 2, 3, 4, 5] rfl (b_X6_advice_139 hC hr hA ho hQ hk79 x2 x3 x4 x5 d hf)
  · have hf := if_f hf c20
    refine V_iload_n 3 hC dX6_advice_121 rfl rfl ?_
    refine V_if_lt (tgt := 132) hC dX6_advice_122 (by decide) (fun c21 => ?_) (fun c21 => ?_)
    · have hf := if_t hf c21
      exact V_sub [1, 2, 5, 0] rfl (b_X6_advice_132 hC hr hA ho hQ hk79 x2 x5 s0 d hf)
    · have hf := if_f hf c21
      refine V_iload 0 hC dX6_advice_125 rfl ?_
      refine V_iload 4 hC dX6_advice_127 rfl ?_
      refine V_icmp_le (tgt := 139) hC dX6_advice_129 (by decide) (fun c22 => ?_) (fun c22 => ?_)
      · have hf := if_t hf c22
        exact V_sub [1, 2, 3, 4, 5] rfl (b_X6_advice_139 hC hr hA ho hQ hk79 x2 x3 x4 x5 d hf)
      · have hf := if_f hf c22
        exact V_sub [1, 2, 5, 0] rfl (b_X6_advice_132 hC hr hA ho hQ hk79 x2 x5 s0 d hf)
def t_X6_advice_79 (L : Nat → Nat) (p1 : Int32) (k79 : Int32 → Int32 → Int32 → Int32 → (Dt) → Option (Int32 × Dt)) (x2 : Int32) (x3 : Int32) (x4 : Int32) (x5 : Int32) (d : Dt) : Option (Int32 × Dt) := (t_X6_waysOf L d x2).bind (fun v14 => if v14 ≤ x5 then some (x3, d) else (t_X6_isWay L d x2 x5).bind (fun v16 => if v16 = 0 then t_X6_advice_114 L p1 k79 x2 x3 x4 x5 (-1) d else (t_X6_wayTo L d x2 x5).bind (fun q18 => (t_X6_oddsAt L q18.2 q18.1).bind (fun v19 => t_X6_advice_114 L p1 k79 x2 x3 x4 x5 v19 q18.2))))
set_option maxRecDepth 20000 in
theorem b_X6_advice_79 {K : Kx} {Y : Yx} {z : Sh}  (hC : CK K Y cX6_advice 7 RX6 7 162) (hr : (kme K).sig.returnType = some .int) (hA : kA K = aY Y z) {p1 : Int32} (ho : (0, 0, 5) ∈ yI Y) {r : Int32} {d' : Dt} (hQ : kQ K = MQ (kb K) (QM Y z (some (.int r)) d') (ka K) (ks K) 0 0 (aY Y z)) {k79 : Int32 → Int32 → Int32 → Int32 → (Dt) → Option (Int32 × Dt)} (hk79 : ∀ (x2 : Int32) (x3 : Int32) (x4 : Int32) (x5 : Int32) (d : Dt), k79 x2 x3 x4 x5 d = some (r, d') → V K Y 7 0 0 z d 79 [(0, .ref (yo Y 0)), (2, .int x2), (3, .int x3), (4, .int x4), (5, .int x5)] []) (x2 : Int32) (x3 : Int32) (x4 : Int32) (x5 : Int32) (d : Dt) (hf : t_X6_advice_79 z.1 p1 k79 x2 x3 x4 x5 d = some (r, d')) : V K Y 7 0 0 z d 79 [(0, .ref (yo Y 0)), (2, .int x2), (3, .int x3), (4, .int x4), (5, .int x5)] [] := by
  have hL := hC.2.2.2.2.2.2.1
  have hkn : 0 ≤ (kR K).cells ∧ 0 ≤ (kR K).slots := ⟨Nat.zero_le _, Nat.zero_le _⟩
  unfold t_X6_advice_79 at hf
  refine V_iload 4 hC dX6_advice_79 rfl ?_
  refine V_aload_n 0 hC dX6_advice_81 rfl rfl ?_
  refine V_iload_n 1 hC dX6_advice_82 rfl rfl ?_
  obtain ⟨v14, ev14, hf⟩ := bi_some hf
  refine V_invi (o := 0) (As := [.int x2]) (rest := [.int x5]) hC (c_X6_waysOf hL ho ev14) me_X6_waysOf lk_X6_212 ho rfl rfl rfl (Nat.le_of_ble_eq_true rfl) ⟨by decide, by decide⟩ hkn dX6_advice_83 ?_
  refine V_icmp_ge (tgt := 145) hC dX6_advice_86 (by decide) (fun c15 => ?_) (fun c15 => ?_)
  · have hf := if_t hf c15
    refine V_iload_n 2 hC dX6_advice_145 rfl rfl ?_
    obtain ⟨rfl, rfl⟩ := so_inj2 hf
    exact V_iret hC hr hQ hA dX6_advice_146
  · have hf := if_f hf c15
    refine V_aload_n 0 hC dX6_advice_89 rfl rfl ?_
    refine V_iload_n 1 hC dX6_advice_90 rfl rfl ?_
    refine V_iload 4 hC dX6_advice_91 rfl ?_
    obtain ⟨v16, ev16, hf⟩ := bi_some hf
    refine V_invi (o := 0) (As := [.int x2, .int x5]) (rest := []) hC (c_X6_isWay hL ho ev16) me_X6_isWay lk_X6_215 ho rfl rfl rfl (Nat.le_of_ble_eq_true rfl) ⟨by decide, by decide⟩ hkn dX6_advice_93 ?_
    refine V_if_eq (tgt := 113) hC dX6_advice_96 (by decide) (fun c17 => ?_) (fun c17 => ?_)
    · have hf := if_t hf c17
      refine V_iconst (v := -1) hC dX6_advice_113 rfl ?_
      exact b_X6_advice_114 hC hr hA ho hQ hk79 x2 x3 x4 x5 (-1) d hf
    · have hf := if_f hf c17
      refine V_aload_n 0 hC dX6_advice_99 rfl rfl ?_
      refine V_aload_n 0 hC dX6_advice_100 rfl rfl ?_
      refine V_iload_n 1 hC dX6_advice_101 rfl rfl ?_
      refine V_iload 4 hC dX6_advice_102 rfl ?_
      obtain ⟨q18, eq18, hf⟩ := bi_some hf
      refine V_invi (o := 0) (As := [.int x2, .int x5]) (rest := [.ref (yo Y 0)]) hC (c_X6_wayTo hL ho eq18) me_X6_wayTo lk_X6_231 ho rfl rfl rfl (Nat.le_of_ble_eq_true rfl) ⟨by decide, by decide⟩ hkn dX6_advice_104 ?_
      obtain ⟨v19, ev19, hf⟩ := bi_some hf
      refine V_invi (o := 0) (As := [.int q18.1]) (rest := []) hC (c_X6_oddsAt hL ho ev19) me_X6_oddsAt lk_X6_277 ho rfl rfl rfl (Nat.le_of_ble_eq_true rfl) ⟨by decide, by decide⟩ hkn dX6_advice_107 ?_
      refine V_goto (tgt := 114) hC dX6_advice_110 (by decide) ?_
      exact b_X6_advice_114 hC hr hA ho hQ hk79 x2 x3 x4 x5 v19 q18.2 hf
def t_X6_advice (L : Nat → Nat) (d : Dt) (p1 : Int32) : Option (Int32 × Dt) := (t_X6_in L d (p1.toInt64) 1 60).bind (fun v1 => if v1 = 0 then some ((-1000002), d) else gd (inb 3 (L (32 * 0 + 0))) (if 0 ≤ (gA d (32 * 0 + 0) (ix 3)) then (t_X6_stands L d ).bind (fun v5 => if v5 = 0 then gd (inb 3 (L (32 * 0 + 0))) (gd (inb (8 + (gA d (32 * 0 + 0) (ix 3))) (L (32 * 0 + 0))) (if (gA d (32 * 0 + 0) (ix (8 + (gA d (32 * 0 + 0) (ix 3))))) = 3 then some ((-1), d) else (t_X6_nowState L d ).bind (fun v10 => (t_X6_spreadFrom L d v10).bind (fun d11 => (t_X6_findOdds L d11 (p1 - 1)).bind (fun d12 => bd (-1) (fun y13 => lp (fun k x => t_X6_advice_79 L p1  (fun x2 x3 x4 x5 d => k (x2, x3, x4, x5, d)) x.1 x.2.1 x.2.2.1 x.2.2.2.1 x.2.2.2.2) FU (v10, y13, 0, 0, d12))))))) else some ((-1), d)) else some ((-1000003), d)))
set_option maxRecDepth 20000 in
theorem c_X6_advice {l : Launch} {Y : Yx} (hL : LAY Y) {z : Sh} {d : Dt} {p1 : Int32} (ho : (0, 0, 5) ∈ yI Y) {r : Int32} {d' : Dt} (hf : t_X6_advice z.1 d p1 = some (r, d')) : MM l yX6_advice cX6_advice 7 (some .int) 7 162 Y z [.ref (yo Y 0), .int p1] d (some (.int r)) d' := by
  refine MM.ofV (by decide +kernel) hL (Nat.le_of_ble_eq_true rfl) (fun K hl hC hr hQ hA => ?_)
  have hC : CK K Y cX6_advice 7 RX6 7 162 := hC
  have hkn : 0 ≤ (kR K).cells ∧ 0 ≤ (kR K).slots := ⟨Nat.zero_le _, Nat.zero_le _⟩
  unfold t_X6_advice at hf
  show V K Y 7 0 0 z d 0 [(0, .ref (yo Y 0)), (1, .int p1)] []
  refine V_iload_n 1 hC dX6_advice_0 rfl rfl ?_
  refine V_i2l hC dX6_advice_1 ?_
  refine V_lconst (v := 1) hC dX6_advice_2 rfl ?_
  refine V_ldc2 hC cl_X6_283 dX6_advice_3 ?_
  obtain ⟨v1, ev1, hf⟩ := bi_some hf
  refine V_insi (As := [.long (p1.toInt64), .long 1, .long 60]) (rest := []) hC (c_X6_in hL  ev1) me_X6_in lk_X6_66 rfl rfl (Nat.le_of_ble_eq_true rfl) ⟨by decide, by decide⟩ hkn dX6_advice_6 ?_
  refine V_if_ne (tgt := 15) hC dX6_advice_9 (by decide) (fun c2 => ?_) (fun c2 => ?_)
  · have hf := if_f hf c2
    refine V_aload_n 0 hC dX6_advice_15 rfl rfl ?_
    refine V_geta (o := 0) hC ho rfl fk_X6_7 dX6_advice_16 ?_
    refine V_iconst (v := 3) hC dX6_advice_19 rfl ?_
    obtain ⟨g3, hf⟩ := gd_some hf
    refine V_iald (a := (32 * 0 + 0)) hC (hL.row ho rfl) g3 dX6_advice_20 ?_
    refine V_if_ge (tgt := 27) hC dX6_advice_21 (by decide) (fun c4 => ?_) (fun c4 => ?_)
    · have hf := if_t hf c4
      refine V_aload_n 0 hC dX6_advice_27 rfl rfl ?_
      obtain ⟨v5, ev5, hf⟩ := bi_some hf
      refine V_invi (o := 0) (As := []) (rest := []) hC (c_X6_stands hL ho ev5) me_X6_stands lk_X6_250 ho rfl rfl rfl (Nat.le_of_ble_eq_true rfl) ⟨by decide, by decide⟩ hkn dX6_advice_28 ?_
      refine V_if_ne (tgt := 52) hC dX6_advice_31 (by decide) (fun c6 => ?_) (fun c6 => ?_)
      · have hf := if_f hf c6
        refine V_iconst (v := -1) hC dX6_advice_52 rfl ?_
        obtain ⟨rfl, rfl⟩ := so_inj2 hf
        exact V_iret hC hr hQ hA dX6_advice_53
      · have hf := if_t hf c6
        refine V_aload_n 0 hC dX6_advice_34 rfl rfl ?_
        refine V_geta (o := 0) hC ho rfl fk_X6_7 dX6_advice_35 ?_
        refine V_bipush (v := 8) hC dX6_advice_38 rfl ?_
        refine V_aload_n 0 hC dX6_advice_40 rfl rfl ?_
        refine V_geta (o := 0) hC ho rfl fk_X6_7 dX6_advice_41 ?_
        refine V_iconst (v := 3) hC dX6_advice_44 rfl ?_
        obtain ⟨g7, hf⟩ := gd_some hf
        refine V_iald (a := (32 * 0 + 0)) hC (hL.row ho rfl) g7 dX6_advice_45 ?_
        refine V_iadd hC dX6_advice_46 ?_
        obtain ⟨g8, hf⟩ := gd_some hf
        refine V_iald (a := (32 * 0 + 0)) hC (hL.row ho rfl) g8 dX6_advice_47 ?_
        refine V_iconst (v := 3) hC dX6_advice_48 rfl ?_
        refine V_icmp_ne (tgt := 54) hC dX6_advice_49 (by decide) (fun c9 => ?_) (fun c9 => ?_)
        · have hf := if_f hf c9
          refine V_aload_n 0 hC dX6_advice_54 rfl rfl ?_
          obtain ⟨v10, ev10, hf⟩ := bi_some hf
          refine V_invi (o := 0) (As := []) (rest := []) hC (c_X6_nowState hL ho ev10) me_X6_nowState lk_X6_285 ho rfl rfl rfl (Nat.le_of_ble_eq_true rfl) ⟨by decide, by decide⟩ hkn dX6_advice_55 ?_
          refine V_istore_n (lv' := [(2, .int v10), (0, .ref (yo Y 0)), (1, .int p1)]) hC dX6_advice_58 rfl (by decide) rfl ?_
          refine V_aload_n 1 hC dX6_advice_59 rfl rfl ?_
          refine V_iload_n 0 hC dX6_advice_60 rfl rfl ?_
          obtain ⟨d11, ed11, hf⟩ := bi_some hf
          refine V_invv (o := 0) (As := [.int v10]) (rest := []) hC (c_X6_spreadFrom hL ho ed11) me_X6_spreadFrom lk_X6_288 ho rfl rfl rfl (Nat.le_of_ble_eq_true rfl) ⟨by decide, by decide⟩ hkn dX6_advice_61 ?_
          refine V_aload_n 1 hC dX6_advice_64 rfl rfl ?_
          refine V_iload_n 2 hC dX6_advice_65 rfl rfl ?_
          refine V_iconst (v := 1) hC dX6_advice_66 rfl ?_
          refine V_isub hC dX6_advice_67 ?_
          obtain ⟨d12, ed12, hf⟩ := bi_some hf
          refine V_invv (o := 0) (As := [.int (p1 - 1)]) (rest := []) hC (c_X6_findOdds hL ho ed12) me_X6_findOdds lk_X6_291 ho rfl rfl rfl (Nat.le_of_ble_eq_true rfl) ⟨by decide, by decide⟩ hkn dX6_advice_68 ?_
          refine V_iconst (v := -1) hC dX6_advice_71 rfl ?_
          refine V_topi (fun y13 ey13 => ?_)
          have hf := bd_e hf y13 ey13
          refine V_istore_n (lv' := [(3, .int y13), (2, .int v10), (0, .ref (yo Y 0)), (1, .int p1)]) hC dX6_advice_72 rfl (by decide) rfl ?_
          refine V_iconst (v := 0) hC dX6_advice_73 rfl ?_
          refine V_istore (lv' := [(4, .int 0), (3, .int y13), (2, .int v10), (0, .ref (yo Y 0)), (1, .int p1)]) hC dX6_advice_74 (by decide) rfl ?_
          refine V_iconst (v := 0) hC dX6_advice_76 rfl ?_
          refine V_istore (lv' := [(5, .int 0), (4, .int 0), (3, .int y13), (2, .int v10), (0, .ref (yo Y 0)), (1, .int p1)]) hC dX6_advice_77 (by decide) rfl ?_
          exact V_sub [4, 3, 2, 1, 0] rfl (lp_ind (X := Int32 × Int32 × Int32 × Int32 × Dt) (P := fun x => V K Y 7 0 0 z x.2.2.2.2 79 [(0, .ref (yo Y 0)), (2, .int x.1), (3, .int x.2.1), (4, .int x.2.2.1), (5, .int x.2.2.2.1)] []) (fun k x hk hx => b_X6_advice_79 hC hr hA ho hQ  (k79 := fun x2 x3 x4 x5 d => k (x2, x3, x4, x5, d)) (fun x2 x3 x4 x5 d hx => hk (x2, x3, x4, x5, d) hx) x.1 x.2.1 x.2.2.1 x.2.2.2.1 x.2.2.2.2 hx) FU (v10, y13, 0, 0, d12) hf)
        · have hf := if_t hf c9
          refine V_iconst (v := -1) hC dX6_advice_52 rfl ?_
          obtain ⟨rfl, rfl⟩ := so_inj2 hf
          exact V_iret hC hr hQ hA dX6_advice_53
    · have hf := if_f hf c4
      refine V_ldc hC ck_X6_166 dX6_advice_24 ?_
      obtain ⟨rfl, rfl⟩ := so_inj2 hf
      exact V_iret hC hr hQ hA dX6_advice_26
  · have hf := if_t hf c2
    refine V_ldc hC ck_X6_70 dX6_advice_12 ?_
    obtain ⟨rfl, rfl⟩ := so_inj2 hf
    exact V_iret hC hr hQ hA dX6_advice_14
def t_X6_fewest_74 (L : Nat → Nat) (k24 : Int32 → Int32 → (Dt) → Option (Int32 × Dt)) (x2 : Int32) (s0 : Int32) (d : Dt) : Option (Int32 × Dt) := k24 s0 (x2 + 1) d
set_option maxRecDepth 20000 in
theorem b_X6_fewest_74 {K : Kx} {Y : Yx} {z : Sh}  (hC : CK K Y cX6_fewest 4 RX6 7 159) (hr : (kme K).sig.returnType = some .int) (hA : kA K = aY Y z)  (ho : (0, 0, 5) ∈ yI Y) {r : Int32} {d' : Dt} (hQ : kQ K = MQ (kb K) (QM Y z (some (.int r)) d') (ka K) (ks K) 0 0 (aY Y z)) {k24 : Int32 → Int32 → (Dt) → Option (Int32 × Dt)} (hk24 : ∀ (x1 : Int32) (x2 : Int32) (d : Dt), k24 x1 x2 d = some (r, d') → V K Y 4 0 0 z d 24 [(0, .ref (yo Y 0)), (1, .int x1), (2, .int x2)] []) (x2 : Int32) (s0 : Int32) (d : Dt) (hf : t_X6_fewest_74 z.1 k24 x2 s0 d = some (r, d')) : V K Y 4 0 0 z d 74 [(0, .ref (yo Y 0)), (2, .int x2)] [.int s0] := by
  have hL := hC.2.2.2.2.2.2.1
  unfold t_X6_fewest_74 at hf
  refine V_istore_n (lv' := [(1, .int s0), (0, .ref (yo Y 0)), (2, .int x2)]) hC dX6_fewest_74 rfl (by decide) rfl ?_
  refine V_iinc (v := x2 + 1) (lv' := [(2, .int (x2 + 1)), (1, .int s0), (0, .ref (yo Y 0))]) 2 hC dX6_fewest_75 rfl rfl (by decide) rfl ?_
  refine V_goto (tgt := 24) hC dX6_fewest_78 (by decide) ?_
  exact V_sub [2, 1, 0] rfl (hk24 s0 (x2 + 1) d hf)
def t_X6_fewest_73 (L : Nat → Nat) (k24 : Int32 → Int32 → (Dt) → Option (Int32 × Dt)) (x1 : Int32) (x2 : Int32) (d : Dt) : Option (Int32 × Dt) := t_X6_fewest_74 L k24 x2 x1 d
set_option maxRecDepth 20000 in
theorem b_X6_fewest_73 {K : Kx} {Y : Yx} {z : Sh}  (hC : CK K Y cX6_fewest 4 RX6 7 159) (hr : (kme K).sig.returnType = some .int) (hA : kA K = aY Y z)  (ho : (0, 0, 5) ∈ yI Y) {r : Int32} {d' : Dt} (hQ : kQ K = MQ (kb K) (QM Y z (some (.int r)) d') (ka K) (ks K) 0 0 (aY Y z)) {k24 : Int32 → Int32 → (Dt) → Option (Int32 × Dt)} (hk24 : ∀ (x1 : Int32) (x2 : Int32) (d : Dt), k24 x1 x2 d = some (r, d') → V K Y 4 0 0 z d 24 [(0, .ref (yo Y 0)), (1, .int x1), (2, .int x2)] []) (x1 : Int32) (x2 : Int32) (d : Dt) (hf : t_X6_fewest_73 z.1 k24 x1 x2 d = some (r, d')) : V K Y 4 0 0 z d 73 [(0, .ref (yo Y 0)), (1, .int x1), (2, .int x2)] [] := by
  have hL := hC.2.2.2.2.2.2.1
  unfold t_X6_fewest_73 at hf
  refine V_iload_n 1 hC dX6_fewest_73 rfl rfl ?_
  exact V_sub [0, 2] rfl (b_X6_fewest_74 hC hr hA ho hQ hk24 x2 x1 d hf)
def t_X6_fewest_69 (L : Nat → Nat) (k24 : Int32 → Int32 → (Dt) → Option (Int32 × Dt)) (x2 : Int32) (x3 : Int32) (d : Dt) : Option (Int32 × Dt) := t_X6_fewest_74 L k24 x2 x3 d
set_option maxRecDepth 20000 in
theorem b_X6_fewest_69 {K : Kx} {Y : Yx} {z : Sh}  (hC : CK K Y cX6_fewest 4 RX6 7 159) (hr : (kme K).sig.returnType = some .int) (hA : kA K = aY Y z)  (ho : (0, 0, 5) ∈ yI Y) {r : Int32} {d' : Dt} (hQ : kQ K = MQ (kb K) (QM Y z (some (.int r)) d') (ka K) (ks K) 0 0 (aY Y z)) {k24 : Int32 → Int32 → (Dt) → Option (Int32 × Dt)} (hk24 : ∀ (x1 : Int32) (x2 : Int32) (d : Dt), k24 x1 x2 d = some (r, d') → V K Y 4 0 0 z d 24 [(0, .ref (yo Y 0)), (1, .int x1), (2, .int x2)] []) (x2 : Int32) (x3 : Int32) (d : Dt) (hf : t_X6_fewest_69 z.1 k24 x2 x3 d = some (r, d')) : V K Y 4 0 0 z d 69 [(0, .ref (yo Y 0)), (2, .int x2), (3, .int x3)] [] := by
  have hL := hC.2.2.2.2.2.2.1
  unfold t_X6_fewest_69 at hf
  refine V_iload_n 2 hC dX6_fewest_69 rfl rfl ?_
  refine V_goto (tgt := 74) hC dX6_fewest_70 (by decide) ?_
  exact V_sub [0, 1] rfl (b_X6_fewest_74 hC hr hA ho hQ hk24 x2 x3 d hf)
def t_X6_fewest_24 (L : Nat → Nat) (k24 : Int32 → Int32 → (Dt) → Option (Int32 × Dt)) (x1 : Int32) (x2 : Int32) (d : Dt) : Option (Int32 × Dt) := if (gF d 0 21) ≤ x2 then some (x1, d) else gd (inb x2 (L (32 * 0 + 19))) (gd (inb (gA d (32 * 0 + 19) (ix x2)) (L (32 * 0 + 20))) (bd ((gA d (32 * 0 + 20) (ix (gA d (32 * 0 + 19) (ix x2)))) - 1) (fun y9 => gd (inb x2 (L (32 * 0 + 19))) ((t_X6_standsAt L d (gA d (32 * 0 + 19) (ix x2))).bind (fun v11 => if v11 = 1 then if x1 < 0 then t_X6_fewest_69 L k24 x2 y9 d else if x1 ≤ y9 then t_X6_fewest_73 L k24 x1 x2 d else t_X6_fewest_69 L k24 x2 y9 d else t_X6_fewest_73 L k24 x1 x2 d)))))
set_option maxRecDepth 20000 in
theorem b_X6_fewest_24 {K : Kx} {Y : Yx} {z : Sh}  (hC : CK K Y cX6_fewest 4 RX6 7 159) (hr : (kme K).sig.returnType = some .int) (hA : kA K = aY Y z)  (ho : (0, 0, 5) ∈ yI Y) {r : Int32} {d' : Dt} (hQ : kQ K = MQ (kb K) (QM Y z (some (.int r)) d') (ka K) (ks K) 0 0 (aY Y z)) {k24 : Int32 → Int32 → (Dt) → Option (Int32 × Dt)} (hk24 : ∀ (x1 : Int32) (x2 : Int32) (d : Dt), k24 x1 x2 d = some (r, d') → V K Y 4 0 0 z d 24 [(0, .ref (yo Y 0)), (1, .int x1), (2, .int x2)] []) (x1 : Int32) (x2 : Int32) (d : Dt) (hf : t_X6_fewest_24 z.1 k24 x1 x2 d = some (r, d')) : V K Y 4 0 0 z d 24 [(0, .ref (yo Y 0)), (1, .int x1), (2, .int x2)] [] := by
  have hL := hC.2.2.2.2.2.2.1
  have hkn : 0 ≤ (kR K).cells ∧ 0 ≤ (kR K).slots := ⟨Nat.zero_le _, Nat.zero_le _⟩
  unfold t_X6_fewest_24 at hf
  refine V_iload_n 2 hC dX6_fewest_24 rfl rfl ?_
  refine V_aload_n 0 hC dX6_fewest_25 rfl rfl ?_
  refine V_geti (o := 0) hC ho rfl fk_X6_173 dX6_fewest_26 ?_
  refine V_icmp_ge (tgt := 81) hC dX6_fewest_29 (by decide) (fun c6 => ?_) (fun c6 => ?_)
  · have hf := if_t hf c6
    refine V_iload_n 1 hC dX6_fewest_81 rfl rfl ?_
    obtain ⟨rfl, rfl⟩ := so_inj2 hf
    exact V_iret hC hr hQ hA dX6_fewest_82
  · have hf := if_f hf c6
    refine V_aload_n 0 hC dX6_fewest_32 rfl rfl ?_
    refine V_geta (o := 0) hC ho rfl fk_X6_43 dX6_fewest_33 ?_
    refine V_aload_n 0 hC dX6_fewest_36 rfl rfl ?_
    refine V_geta (o := 0) hC ho rfl fk_X6_40 dX6_fewest_37 ?_
    refine V_iload_n 2 hC dX6_fewest_40 rfl rfl ?_
    obtain ⟨g7, hf⟩ := gd_some hf
    refine V_iald (a := (32 * 0 + 19)) hC (hL.row ho rfl) g7 dX6_fewest_41 ?_
    obtain ⟨g8, hf⟩ := gd_some hf
    refine V_iald (a := (32 * 0 + 20)) hC (hL.row ho rfl) g8 dX6_fewest_42 ?_
    refine V_iconst (v := 1) hC dX6_fewest_43 rfl ?_
    refine V_isub hC dX6_fewest_44 ?_
    refine V_topi (fun y9 ey9 => ?_)
    have hf := bd_e hf y9 ey9
    refine V_istore_n (lv' := [(3, .int y9), (0, .ref (yo Y 0)), (1, .int x1), (2, .int x2)]) hC dX6_fewest_45 rfl (by decide) rfl ?_
    refine V_aload_n 1 hC dX6_fewest_46 rfl rfl ?_
    refine V_aload_n 1 hC dX6_fewest_47 rfl rfl ?_
    refine V_geta (o := 0) hC ho rfl fk_X6_40 dX6_fewest_48 ?_
    refine V_iload_n 3 hC dX6_fewest_51 rfl rfl ?_
    obtain ⟨g10, hf⟩ := gd_some hf
    refine V_iald (a := (32 * 0 + 19)) hC (hL.row ho rfl) g10 dX6_fewest_52 ?_
    obtain ⟨v11, ev11, hf⟩ := bi_some hf
    refine V_invi (o := 0) (As := [.int (gA d (32 * 0 + 19) (ix x2))]) (rest := []) hC (c_X6_standsAt hL ho ev11) me_X6_standsAt lk_X6_228 ho rfl rfl rfl (Nat.le_of_ble_eq_true rfl) ⟨by decide, by decide⟩ hkn dX6_fewest_53 ?_
    refine V_iconst (v := 1) hC dX6_fewest_56 rfl ?_
    refine V_icmp_ne (tgt := 73) hC dX6_fewest_57 (by decide) (fun c12 => ?_) (fun c12 => ?_)
    · have hf := if_f hf c12
      exact V_sub [1, 2, 3] rfl (b_X6_fewest_73 hC hr hA ho hQ hk24 x1 x2 d hf)
    · have hf := if_t hf c12
      refine V_iload_n 2 hC dX6_fewest_60 rfl rfl ?_
      refine V_if_lt (tgt := 69) hC dX6_fewest_61 (by decide) (fun c13 => ?_) (fun c13 => ?_)
      · have hf := if_t hf c13
        exact V_sub [1, 3, 0] rfl (b_X6_fewest_69 hC hr hA ho hQ hk24 x2 y9 d hf)
      · have hf := if_f hf c13
        refine V_iload_n 0 hC dX6_fewest_64 rfl rfl ?_
        refine V_iload_n 2 hC dX6_fewest_65 rfl rfl ?_
        refine V_icmp_ge (tgt := 73) hC dX6_fewest_66 (by decide) (fun c14 => ?_) (fun c14 => ?_)
        · have hf := if_t hf c14
          exact V_sub [1, 2, 3] rfl (b_X6_fewest_73 hC hr hA ho hQ hk24 x1 x2 d hf)
        · have hf := if_f hf c14
          exact V_sub [1, 3, 0] rfl (b_X6_fewest_69 hC hr hA ho hQ hk24 x2 y9 d hf)
def t_X6_fewest (L : Nat → Nat) (d : Dt)  : Option (Int32 × Dt) := gd (inb 3 (L (32 * 0 + 0))) (if 0 ≤ (gA d (32 * 0 + 0) (ix 3)) then (t_X6_nowState L d ).bind (fun v3 => (t_X6_spreadFrom L d v3).bind (fun d4 => bd (-1) (fun y5 => lp (fun k x => t_X6_fewest_24 L  (fun x1 x2 d => k (x1, x2, d)) x.1 x.2.1 x.2.2) FU (y5, 0, d4)))) else some ((-1000003), d))
set_option maxRecDepth 20000 in
theorem c_X6_fewest {l : Launch} {Y : Yx} (hL : LAY Y) {z : Sh} {d : Dt}  (ho : (0, 0, 5) ∈ yI Y) {r : Int32} {d' : Dt} (hf : t_X6_fewest z.1 d  = some (r, d')) : MM l yX6_fewest cX6_fewest 4 (some .int) 7 159 Y z [.ref (yo Y 0)] d (some (.int r)) d' := by
  refine MM.ofV (by decide +kernel) hL (Nat.le_of_ble_eq_true rfl) (fun K hl hC hr hQ hA => ?_)
  have hC : CK K Y cX6_fewest 4 RX6 7 159 := hC
  have hkn : 0 ≤ (kR K).cells ∧ 0 ≤ (kR K).slots := ⟨Nat.zero_le _, Nat.zero_le _⟩
  unfold t_X6_fewest at hf
  show V K Y 4 0 0 z d 0 [(0, .ref (yo Y 0))] []
  refine V_aload_n 0 hC dX6_fewest_0 rfl rfl ?_
  refine V_geta (o := 0) hC ho rfl fk_X6_7 dX6_fewest_1 ?_
  refine V_iconst (v := 3) hC dX6_fewest_4 rfl ?_
  obtain ⟨g1, hf⟩ := gd_some hf
  refine V_iald (a := (32 * 0 + 0)) hC (hL.row ho rfl) g1 dX6_fewest_5 ?_
  refine V_if_ge (tgt := 12) hC dX6_fewest_6 (by decide) (fun c2 => ?_) (fun c2 => ?_)
  · have hf := if_t hf c2
    refine V_aload_n 0 hC dX6_fewest_12 rfl rfl ?_
    refine V_aload_n 0 hC dX6_fewest_13 rfl rfl ?_
    obtain ⟨v3, ev3, hf⟩ := bi_some hf
    refine V_invi (o := 0) (As := []) (rest := [.ref (yo Y 0)]) hC (c_X6_nowState hL ho ev3) me_X6_nowState lk_X6_285 ho rfl rfl rfl (Nat.le_of_ble_eq_true rfl) ⟨by decide, by decide⟩ hkn dX6_fewest_14 ?_
    obtain ⟨d4, ed4, hf⟩ := bi_some hf
    refine V_invv (o := 0) (As := [.int v3]) (rest := []) hC (c_X6_spreadFrom hL ho ed4) me_X6_spreadFrom lk_X6_288 ho rfl rfl rfl (Nat.le_of_ble_eq_true rfl) ⟨by decide, by decide⟩ hkn dX6_fewest_17 ?_
    refine V_iconst (v := -1) hC dX6_fewest_20 rfl ?_
    refine V_topi (fun y5 ey5 => ?_)
    have hf := bd_e hf y5 ey5
    refine V_istore_n (lv' := [(1, .int y5), (0, .ref (yo Y 0))]) hC dX6_fewest_21 rfl (by decide) rfl ?_
    refine V_iconst (v := 0) hC dX6_fewest_22 rfl ?_
    refine V_istore_n (lv' := [(2, .int 0), (1, .int y5), (0, .ref (yo Y 0))]) hC dX6_fewest_23 rfl (by decide) rfl ?_
    exact V_sub [2, 1, 0] rfl (lp_ind (X := Int32 × Int32 × Dt) (P := fun x => V K Y 4 0 0 z x.2.2 24 [(0, .ref (yo Y 0)), (1, .int x.1), (2, .int x.2.1)] []) (fun k x hk hx => b_X6_fewest_24 hC hr hA ho hQ  (k24 := fun x1 x2 d => k (x1, x2, d)) (fun x1 x2 d hx => hk (x1, x2, d) hx) x.1 x.2.1 x.2.2 hx) FU (y5, 0, d4) hf)
  · have hf := if_f hf c2
    refine V_ldc hC ck_X6_166 dX6_fewest_9 ?_
    obtain ⟨rfl, rfl⟩ := so_inj2 hf
    exact V_iret hC hr hQ hA dX6_fewest_11
def t_X6_isSureAt (L : Nat → Nat) (d : Dt) (p1 : Int32) : Option (Int32) := if p1 = (-2) then some 0 else gd (inb p1 (L (32 * 0 + 28))) (if (gA d (32 * 0 + 28) (ix p1)) = 0 then some 0 else some 1)
set_option maxRecDepth 20000 in
theorem c_X6_isSureAt {l : Launch} {Y : Yx} (hL : LAY Y) {z : Sh} {d : Dt} {p1 : Int32} (ho : (0, 0, 5) ∈ yI Y) {r : Int32} (hf : t_X6_isSureAt z.1 d p1 = some r) : MM l yX6_isSureAt cX6_isSureAt 2 (some .boolean) 0 0 Y z [.ref (yo Y 0), .int p1] d (some (.int r)) d := by
  refine MM.ofV (by decide +kernel) hL (Nat.le_of_ble_eq_true rfl) (fun K hl hC hr hQ hA => ?_)
  have hC : CK K Y cX6_isSureAt 2 RX6 0 0 := hC
  unfold t_X6_isSureAt at hf
  show V K Y 2 0 0 z d 0 [(0, .ref (yo Y 0)), (1, .int p1)] []
  refine V_iload_n 1 hC dX6_isSureAt_0 rfl rfl ?_
  refine V_bipush (v := -2) hC dX6_isSureAt_1 rfl ?_
  refine V_icmp_eq (tgt := 19) hC dX6_isSureAt_3 (by decide) (fun c1 => ?_) (fun c1 => ?_)
  · have hf := if_t hf c1
    refine V_iconst (v := 0) hC dX6_isSureAt_19 rfl ?_
    obtain rfl := so_inj hf
    exact V_zret hC hr rfl hQ hA dX6_isSureAt_20
  · have hf := if_f hf c1
    refine V_aload_n 0 hC dX6_isSureAt_6 rfl rfl ?_
    refine V_geta (o := 0) hC ho rfl fk_X6_58 dX6_isSureAt_7 ?_
    refine V_iload_n 1 hC dX6_isSureAt_10 rfl rfl ?_
    obtain ⟨g2, hf⟩ := gd_some hf
    refine V_zald (a := (32 * 0 + 28)) hC (hL.row ho rfl) g2 dX6_isSureAt_11 ?_
    refine V_if_eq (tgt := 19) hC dX6_isSureAt_12 (by decide) (fun c3 => ?_) (fun c3 => ?_)
    · have hf := if_t hf c3
      refine V_iconst (v := 0) hC dX6_isSureAt_19 rfl ?_
      obtain rfl := so_inj hf
      exact V_zret hC hr rfl hQ hA dX6_isSureAt_20
    · have hf := if_f hf c3
      refine V_iconst (v := 1) hC dX6_isSureAt_15 rfl ?_
      refine V_goto (tgt := 20) hC dX6_isSureAt_16 (by decide) ?_
      obtain rfl := so_inj hf
      exact V_zret hC hr rfl hQ hA dX6_isSureAt_20
def t_X6_makesSure_114 (L : Nat → Nat) (p1 : Int32) (k38 : Int32 → Int32 → Int32 → (Dt) → Option (Int32 × Dt)) (x2 : Int32) (x4 : Int32) (s0 : Int32) (d : Dt) : Option (Int32 × Dt) := k38 x2 s0 (x4 + 1) d
set_option maxRecDepth 20000 in
theorem b_X6_makesSure_114 {K : Kx} {Y : Yx} {z : Sh}  (hC : CK K Y cX6_makesSure 6 RX6 5 113) (hr : (kme K).sig.returnType = some .boolean) (hA : kA K = aY Y z) {p1 : Int32} (ho : (0, 0, 5) ∈ yI Y) {r : Int32} {d' : Dt} (hQ : kQ K = MQ (kb K) (QM Y z (some (.int r)) d') (ka K) (ks K) 0 0 (aY Y z)) {k38 : Int32 → Int32 → Int32 → (Dt) → Option (Int32 × Dt)} (hk38 : ∀ (x2 : Int32) (x3 : Int32) (x4 : Int32) (d : Dt), k38 x2 x3 x4 d = some (r, d') → V K Y 6 0 0 z d 38 [(0, .ref (yo Y 0)), (1, .int p1), (2, .int x2), (3, .int x3), (4, .int x4)] []) (x2 : Int32) (x4 : Int32) (s0 : Int32) (d : Dt) (hf : t_X6_makesSure_114 z.1 p1 k38 x2 x4 s0 d = some (r, d')) : V K Y 6 0 0 z d 114 [(0, .ref (yo Y 0)), (1, .int p1), (2, .int x2), (4, .int x4)] [.int s0] := by
  have hL := hC.2.2.2.2.2.2.1
  unfold t_X6_makesSure_114 at hf
  refine V_istore_n (lv' := [(3, .int s0), (0, .ref (yo Y 0)), (1, .int p1), (2, .int x2), (4, .int x4)]) hC dX6_makesSure_114 rfl (by decide) rfl ?_
  refine V_iinc (v := x4 + 1) (lv' := [(4, .int (x4 + 1)), (3, .int s0), (0, .ref (yo Y 0)), (1, .int p1), (2, .int x2)]) 4 hC dX6_makesSure_115 rfl rfl (by decide) rfl ?_
  refine V_goto (tgt := 38) hC dX6_makesSure_118 (by decide) ?_
  exact V_sub [2, 3, 4, 1, 0] rfl (hk38 x2 s0 (x4 + 1) d hf)
def t_X6_makesSure_109 (L : Nat → Nat) (p1 : Int32) (k38 : Int32 → Int32 → Int32 → (Dt) → Option (Int32 × Dt)) (x2 : Int32) (x4 : Int32) (d : Dt) : Option (Int32 × Dt) := t_X6_makesSure_114 L p1 k38 x2 x4 1 d
set_option maxRecDepth 20000 in
theorem b_X6_makesSure_109 {K : Kx} {Y : Yx} {z : Sh}  (hC : CK K Y cX6_makesSure 6 RX6 5 113) (hr : (kme K).sig.returnType = some .boolean) (hA : kA K = aY Y z) {p1 : Int32} (ho : (0, 0, 5) ∈ yI Y) {r : Int32} {d' : Dt} (hQ : kQ K = MQ (kb K) (QM Y z (some (.int r)) d') (ka K) (ks K) 0 0 (aY Y z)) {k38 : Int32 → Int32 → Int32 → (Dt) → Option (Int32 × Dt)} (hk38 : ∀ (x2 : Int32) (x3 : Int32) (x4 : Int32) (d : Dt), k38 x2 x3 x4 d = some (r, d') → V K Y 6 0 0 z d 38 [(0, .ref (yo Y 0)), (1, .int p1), (2, .int x2), (3, .int x3), (4, .int x4)] []) (x2 : Int32) (x4 : Int32) (d : Dt) (hf : t_X6_makesSure_109 z.1 p1 k38 x2 x4 d = some (r, d')) : V K Y 6 0 0 z d 109 [(0, .ref (yo Y 0)), (1, .int p1), (2, .int x2), (4, .int x4)] [] := by
  have hL := hC.2.2.2.2.2.2.1
  unfold t_X6_makesSure_109 at hf
  refine V_iconst (v := 1) hC dX6_makesSure_109 rfl ?_
  refine V_goto (tgt := 114) hC dX6_makesSure_110 (by decide) ?_
  exact b_X6_makesSure_114 hC hr hA ho hQ hk38 x2 x4 1 d hf
def t_X6_makesSure_96 (L : Nat → Nat) (p1 : Int32) (k38 : Int32 → Int32 → Int32 → (Dt) → Option (Int32 × Dt)) (x2 : Int32) (x4 : Int32) (d : Dt) : Option (Int32 × Dt) := t_X6_makesSure_114 L p1 k38 x2 x4 0 d
set_option maxRecDepth 20000 in
theorem b_X6_makesSure_96 {K : Kx} {Y : Yx} {z : Sh}  (hC : CK K Y cX6_makesSure 6 RX6 5 113) (hr : (kme K).sig.returnType = some .boolean) (hA : kA K = aY Y z) {p1 : Int32} (ho : (0, 0, 5) ∈ yI Y) {r : Int32} {d' : Dt} (hQ : kQ K = MQ (kb K) (QM Y z (some (.int r)) d') (ka K) (ks K) 0 0 (aY Y z)) {k38 : Int32 → Int32 → Int32 → (Dt) → Option (Int32 × Dt)} (hk38 : ∀ (x2 : Int32) (x3 : Int32) (x4 : Int32) (d : Dt), k38 x2 x3 x4 d = some (r, d') → V K Y 6 0 0 z d 38 [(0, .ref (yo Y 0)), (1, .int p1), (2, .int x2), (3, .int x3), (4, .int x4)] []) (x2 : Int32) (x4 : Int32) (d : Dt) (hf : t_X6_makesSure_96 z.1 p1 k38 x2 x4 d = some (r, d')) : V K Y 6 0 0 z d 96 [(0, .ref (yo Y 0)), (1, .int p1), (2, .int x2), (4, .int x4)] [] := by
  have hL := hC.2.2.2.2.2.2.1
  unfold t_X6_makesSure_96 at hf
  refine V_iconst (v := 0) hC dX6_makesSure_96 rfl ?_
  refine V_goto (tgt := 114) hC dX6_makesSure_97 (by decide) ?_
  exact b_X6_makesSure_114 hC hr hA ho hQ hk38 x2 x4 0 d hf
def t_X6_makesSure_77 (L : Nat → Nat) (p1 : Int32) (k38 : Int32 → Int32 → Int32 → (Dt) → Option (Int32 × Dt)) (x2 : Int32) (x3 : Int32) (x4 : Int32) (s0 : Int32) (d : Dt) : Option (Int32 × Dt) := if x2 = 0 then if x3 = 0 then if s0 = 0 then t_X6_makesSure_114 L p1 k38 x2 x4 0 d else t_X6_makesSure_109 L p1 k38 x2 x4 d else t_X6_makesSure_109 L p1 k38 x2 x4 d else if x3 = 0 then t_X6_makesSure_96 L p1 k38 x2 x4 d else if s0 = 0 then t_X6_makesSure_96 L p1 k38 x2 x4 d else t_X6_makesSure_114 L p1 k38 x2 x4 1 d
set_option maxRecDepth 20000 in
theorem b_X6_makesSure_77 {K : Kx} {Y : Yx} {z : Sh}  (hC : CK K Y cX6_makesSure 6 RX6 5 113) (hr : (kme K).sig.returnType = some .boolean) (hA : kA K = aY Y z) {p1 : Int32} (ho : (0, 0, 5) ∈ yI Y) {r : Int32} {d' : Dt} (hQ : kQ K = MQ (kb K) (QM Y z (some (.int r)) d') (ka K) (ks K) 0 0 (aY Y z)) {k38 : Int32 → Int32 → Int32 → (Dt) → Option (Int32 × Dt)} (hk38 : ∀ (x2 : Int32) (x3 : Int32) (x4 : Int32) (d : Dt), k38 x2 x3 x4 d = some (r, d') → V K Y 6 0 0 z d 38 [(0, .ref (yo Y 0)), (1, .int p1), (2, .int x2), (3, .int x3), (4, .int x4)] []) (x2 : Int32) (x3 : Int32) (x4 : Int32) (s0 : Int32) (d : Dt) (hf : t_X6_makesSure_77 z.1 p1 k38 x2 x3 x4 s0 d = some (r, d')) : V K Y 6 0 0 z d 77 [(0, .ref (yo Y 0)), (1, .int p1), (2, .int x2), (3, .int x3), (4, .int x4)] [.int s0] := by
  have hL := hC.2.2.2.2.2.2.1
  unfold t_X6_makesSure_77 at hf
  refine V_istore (lv' := [(5, .int s0), (0, .ref (yo Y 0)), (1, .int p1), (2, .int x2), (3, .int x3), (4, .int x4)]) hC dX6_makesSure_77 (by decide) rfl ?_
  refine V_iload_n 3 hC dX6_makesSure_79 rfl rfl ?_
  refine V_if_eq (tgt := 100) hC dX6_makesSure_80 (by decide) (fun c14 => ?_) (fun c14 => ?_)
  · have hf := if_t hf c14
    refine V_iload_n 4 hC dX6_makesSure_100 rfl rfl ?_
    refine V_if_ne (tgt := 109) hC dX6_makesSure_101 (by decide) (fun c15 => ?_) (fun c15 => ?_)
    · have hf := if_f hf c15
      exact V_sub [1, 2, 3, 5] rfl (b_X6_makesSure_109 hC hr hA ho hQ hk38 x2 x4 d hf)
    · have hf := if_t hf c15
      refine V_iload 0 hC dX6_makesSure_104 rfl ?_
      refine V_if_eq (tgt := 113) hC dX6_makesSure_106 (by decide) (fun c16 => ?_) (fun c16 => ?_)
      · have hf := if_t hf c16
        refine V_iconst (v := 0) hC dX6_makesSure_113 rfl ?_
        exact V_sub [1, 2, 3, 5] rfl (b_X6_makesSure_114 hC hr hA ho hQ hk38 x2 x4 0 d hf)
      · have hf := if_f hf c16
        exact V_sub [1, 2, 3, 5] rfl (b_X6_makesSure_109 hC hr hA ho hQ hk38 x2 x4 d hf)
  · have hf := if_f hf c14
    refine V_iload_n 4 hC dX6_makesSure_83 rfl rfl ?_
    refine V_if_eq (tgt := 96) hC dX6_makesSure_84 (by decide) (fun c17 => ?_) (fun c17 => ?_)
    · have hf := if_t hf c17
      exact V_sub [1, 2, 3, 5] rfl (b_X6_makesSure_96 hC hr hA ho hQ hk38 x2 x4 d hf)
    · have hf := if_f hf c17
      refine V_iload 0 hC dX6_makesSure_87 rfl ?_
      refine V_if_eq (tgt := 96) hC dX6_makesSure_89 (by decide) (fun c18 => ?_) (fun c18 => ?_)
      · have hf := if_t hf c18
        exact V_sub [1, 2, 3, 5] rfl (b_X6_makesSure_96 hC hr hA ho hQ hk38 x2 x4 d hf)
      · have hf := if_f hf c18
        refine V_iconst (v := 1) hC dX6_makesSure_92 rfl ?_
        refine V_goto (tgt := 114) hC dX6_makesSure_93 (by decide) ?_
        exact V_sub [1, 2, 3, 5] rfl (b_X6_makesSure_114 hC hr hA ho hQ hk38 x2 x4 1 d hf)
def t_X6_makesSure_76 (L : Nat → Nat) (p1 : Int32) (k38 : Int32 → Int32 → Int32 → (Dt) → Option (Int32 × Dt)) (x2 : Int32) (x3 : Int32) (x4 : Int32) (d : Dt) : Option (Int32 × Dt) := t_X6_makesSure_77 L p1 k38 x2 x3 x4 0 d
set_option maxRecDepth 20000 in
theorem b_X6_makesSure_76 {K : Kx} {Y : Yx} {z : Sh}  (hC : CK K Y cX6_makesSure 6 RX6 5 113) (hr : (kme K).sig.returnType = some .boolean) (hA : kA K = aY Y z) {p1 : Int32} (ho : (0, 0, 5) ∈ yI Y) {r : Int32} {d' : Dt} (hQ : kQ K = MQ (kb K) (QM Y z (some (.int r)) d') (ka K) (ks K) 0 0 (aY Y z)) {k38 : Int32 → Int32 → Int32 → (Dt) → Option (Int32 × Dt)} (hk38 : ∀ (x2 : Int32) (x3 : Int32) (x4 : Int32) (d : Dt), k38 x2 x3 x4 d = some (r, d') → V K Y 6 0 0 z d 38 [(0, .ref (yo Y 0)), (1, .int p1), (2, .int x2), (3, .int x3), (4, .int x4)] []) (x2 : Int32) (x3 : Int32) (x4 : Int32) (d : Dt) (hf : t_X6_makesSure_76 z.1 p1 k38 x2 x3 x4 d = some (r, d')) : V K Y 6 0 0 z d 76 [(0, .ref (yo Y 0)), (1, .int p1), (2, .int x2), (3, .int x3), (4, .int x4)] [] := by
  have hL := hC.2.2.2.2.2.2.1
  unfold t_X6_makesSure_76 at hf
  refine V_iconst (v := 0) hC dX6_makesSure_76 rfl ?_
  exact b_X6_makesSure_77 hC hr hA ho hQ hk38 x2 x3 x4 0 d hf
def t_X6_makesSure_38 (L : Nat → Nat) (p1 : Int32) (k38 : Int32 → Int32 → Int32 → (Dt) → Option (Int32 × Dt)) (x2 : Int32) (x3 : Int32) (x4 : Int32) (d : Dt) : Option (Int32 × Dt) := (t_X6_waysOf L d p1).bind (fun v6 => if v6 ≤ x4 then gd (isB x3) (some (x3, d)) else (t_X6_isWay L d p1 x4).bind (fun v9 => if v9 = 0 then t_X6_makesSure_76 L p1 k38 x2 x3 x4 d else (t_X6_wayTo L d p1 x4).bind (fun q11 => (t_X6_isSureAt L q11.2 q11.1).bind (fun v12 => if v12 = 0 then t_X6_makesSure_76 L p1 k38 x2 x3 x4 q11.2 else t_X6_makesSure_77 L p1 k38 x2 x3 x4 1 q11.2))))
set_option maxRecDepth 20000 in
theorem b_X6_makesSure_38 {K : Kx} {Y : Yx} {z : Sh}  (hC : CK K Y cX6_makesSure 6 RX6 5 113) (hr : (kme K).sig.returnType = some .boolean) (hA : kA K = aY Y z) {p1 : Int32} (ho : (0, 0, 5) ∈ yI Y) {r : Int32} {d' : Dt} (hQ : kQ K = MQ (kb K) (QM Y z (some (.int r)) d') (ka K) (ks K) 0 0 (aY Y z)) {k38 : Int32 → Int32 → Int32 → (Dt) → Option (Int32 × Dt)} (hk38 : ∀ (x2 : Int32) (x3 : Int32) (x4 : Int32) (d : Dt), k38 x2 x3 x4 d = some (r, d') → V K Y 6 0 0 z d 38 [(0, .ref (yo Y 0)), (1, .int p1), (2, .int x2), (3, .int x3), (4, .int x4)] []) (x2 : Int32) (x3 : Int32) (x4 : Int32) (d : Dt) (hf : t_X6_makesSure_38 z.1 p1 k38 x2 x3 x4 d = some (r, d')) : V K Y 6 0 0 z d 38 [(0, .ref (yo Y 0)), (1, .int p1), (2, .int x2), (3, .int x3), (4, .int x4)] [] := by
  have hL := hC.2.2.2.2.2.2.1
  have hkn : 0 ≤ (kR K).cells ∧ 0 ≤ (kR K).slots := ⟨Nat.zero_le _, Nat.zero_le _⟩
  unfold t_X6_makesSure_38 at hf
  refine V_iload 4 hC dX6_makesSure_38 rfl ?_
  refine V_aload_n 0 hC dX6_makesSure_40 rfl rfl ?_
  refine V_iload_n 1 hC dX6_makesSure_41 rfl rfl ?_
  obtain ⟨v6, ev6, hf⟩ := bi_some hf
  refine V_invi (o := 0) (As := [.int p1]) (rest := [.int x4]) hC (c_X6_waysOf hL ho ev6) me_X6_waysOf lk_X6_212 ho rfl rfl rfl (Nat.le_of_ble_eq_true rfl) ⟨by decide, by decide⟩ hkn dX6_makesSure_42 ?_
  refine V_icmp_ge (tgt := 121) hC dX6_makesSure_45 (by decide) (fun c7 => ?_) (fun c7 => ?_)
  · have hf := if_t hf c7
    refine V_iload_n 3 hC dX6_makesSure_121 rfl rfl ?_
    obtain ⟨g8, hf⟩ := gd_some hf
    obtain ⟨rfl, rfl⟩ := so_inj2 hf
    exact V_zret hC hr (nar_b g8) hQ hA dX6_makesSure_122
  · have hf := if_f hf c7
    refine V_aload_n 0 hC dX6_makesSure_48 rfl rfl ?_
    refine V_iload_n 1 hC dX6_makesSure_49 rfl rfl ?_
    refine V_iload 4 hC dX6_makesSure_50 rfl ?_
    obtain ⟨v9, ev9, hf⟩ := bi_some hf
    refine V_invi (o := 0) (As := [.int p1, .int x4]) (rest := []) hC (c_X6_isWay hL ho ev9) me_X6_isWay lk_X6_215 ho rfl rfl rfl (Nat.le_of_ble_eq_true rfl) ⟨by decide, by decide⟩ hkn dX6_makesSure_52 ?_
    refine V_if_eq (tgt := 76) hC dX6_makesSure_55 (by decide) (fun c10 => ?_) (fun c10 => ?_)
    · have hf := if_t hf c10
      exact b_X6_makesSure_76 hC hr hA ho hQ hk38 x2 x3 x4 d hf
    · have hf := if_f hf c10
      refine V_aload_n 0 hC dX6_makesSure_58 rfl rfl ?_
      refine V_aload_n 0 hC dX6_makesSure_59 rfl rfl ?_
      refine V_iload_n 1 hC dX6_makesSure_60 rfl rfl ?_
      refine V_iload 4 hC dX6_makesSure_61 rfl ?_
      obtain ⟨q11, eq11, hf⟩ := bi_some hf
      refine V_invi (o := 0) (As := [.int p1, .int x4]) (rest := [.ref (yo Y 0)]) hC (c_X6_wayTo hL ho eq11) me_X6_wayTo lk_X6_231 ho rfl rfl rfl (Nat.le_of_ble_eq_true rfl) ⟨by decide, by decide⟩ hkn dX6_makesSure_63 ?_
      obtain ⟨v12, ev12, hf⟩ := bi_some hf
      refine V_invi (o := 0) (As := [.int q11.1]) (rest := []) hC (c_X6_isSureAt hL ho ev12) me_X6_isSureAt lk_X6_294 ho rfl rfl rfl (Nat.le_of_ble_eq_true rfl) ⟨by decide, by decide⟩ hkn dX6_makesSure_66 ?_
      refine V_if_eq (tgt := 76) hC dX6_makesSure_69 (by decide) (fun c13 => ?_) (fun c13 => ?_)
      · have hf := if_t hf c13
        exact b_X6_makesSure_76 hC hr hA ho hQ hk38 x2 x3 x4 q11.2 hf
      · have hf := if_f hf c13
        refine V_iconst (v := 1) hC dX6_makesSure_72 rfl ?_
        refine V_goto (tgt := 77) hC dX6_makesSure_73 (by decide) ?_
        exact b_X6_makesSure_77 hC hr hA ho hQ hk38 x2 x3 x4 1 q11.2 hf
def t_X6_makesSure_32 (L : Nat → Nat) (p1 : Int32)  (s0 : Int32) (d : Dt) : Option (Int32 × Dt) := lp (fun k x => t_X6_makesSure_38 L p1  (fun x2 x3 x4 d => k (x2, x3, x4, d)) x.1 x.2.1 x.2.2.1 x.2.2.2) FU (s0, s0, 0, d)
set_option maxRecDepth 20000 in
theorem b_X6_makesSure_32 {K : Kx} {Y : Yx} {z : Sh}  (hC : CK K Y cX6_makesSure 6 RX6 5 113) (hr : (kme K).sig.returnType = some .boolean) (hA : kA K = aY Y z) {p1 : Int32} (ho : (0, 0, 5) ∈ yI Y) {r : Int32} {d' : Dt} (hQ : kQ K = MQ (kb K) (QM Y z (some (.int r)) d') (ka K) (ks K) 0 0 (aY Y z))   (s0 : Int32) (d : Dt) (hf : t_X6_makesSure_32 z.1 p1  s0 d = some (r, d')) : V K Y 6 0 0 z d 32 [(0, .ref (yo Y 0)), (1, .int p1)] [.int s0] := by
  have hL := hC.2.2.2.2.2.2.1
  unfold t_X6_makesSure_32 at hf
  refine V_istore_n (lv' := [(2, .int s0), (0, .ref (yo Y 0)), (1, .int p1)]) hC dX6_makesSure_32 rfl (by decide) rfl ?_
  refine V_iload_n 0 hC dX6_makesSure_33 rfl rfl ?_
  refine V_istore_n (lv' := [(3, .int s0), (2, .int s0), (0, .ref (yo Y 0)), (1, .int p1)]) hC dX6_makesSure_34 rfl (by decide) rfl ?_
  refine V_iconst (v := 0) hC dX6_makesSure_35 rfl ?_
  refine V_istore (lv' := [(4, .int 0), (3, .int s0), (2, .int s0), (0, .ref (yo Y 0)), (1, .int p1)]) hC dX6_makesSure_36 (by decide) rfl ?_
  exact V_sub [3, 4, 2, 1, 0] rfl (lp_ind (X := Int32 × Int32 × Int32 × Dt) (P := fun x => V K Y 6 0 0 z x.2.2.2 38 [(0, .ref (yo Y 0)), (1, .int p1), (2, .int x.1), (3, .int x.2.1), (4, .int x.2.2.1)] []) (fun k x hk hx => b_X6_makesSure_38 hC hr hA ho hQ  (k38 := fun x2 x3 x4 d => k (x2, x3, x4, d)) (fun x2 x3 x4 d hx => hk (x2, x3, x4, d) hx) x.1 x.2.1 x.2.2.1 x.2.2.2 hx) FU (s0, s0, 0, d) hf)
def t_X6_makesSure (L : Nat → Nat) (d : Dt) (p1 : Int32) : Option (Int32 × Dt) := (t_X6_standsAt L d p1).bind (fun v1 => if v1 = 1 then some (1, d) else (t_X6_partOf L d p1).bind (fun v3 => gd (inb (8 + v3) (L (32 * 0 + 0))) (if (gA d (32 * 0 + 0) (ix (8 + v3))) = 3 then t_X6_makesSure_32 L p1  1 d else t_X6_makesSure_32 L p1  0 d)))
set_option maxRecDepth 20000 in
theorem c_X6_makesSure {l : Launch} {Y : Yx} (hL : LAY Y) {z : Sh} {d : Dt} {p1 : Int32} (ho : (0, 0, 5) ∈ yI Y) {r : Int32} {d' : Dt} (hf : t_X6_makesSure z.1 d p1 = some (r, d')) : MM l yX6_makesSure cX6_makesSure 6 (some .boolean) 5 113 Y z [.ref (yo Y 0), .int p1] d (some (.int r)) d' := by
  refine MM.ofV (by decide +kernel) hL (Nat.le_of_ble_eq_true rfl) (fun K hl hC hr hQ hA => ?_)
  have hC : CK K Y cX6_makesSure 6 RX6 5 113 := hC
  have hkn : 0 ≤ (kR K).cells ∧ 0 ≤ (kR K).slots := ⟨Nat.zero_le _, Nat.zero_le _⟩
  unfold t_X6_makesSure at hf
  show V K Y 6 0 0 z d 0 [(0, .ref (yo Y 0)), (1, .int p1)] []
  refine V_aload_n 0 hC dX6_makesSure_0 rfl rfl ?_
  refine V_iload_n 1 hC dX6_makesSure_1 rfl rfl ?_
  obtain ⟨v1, ev1, hf⟩ := bi_some hf
  refine V_invi (o := 0) (As := [.int p1]) (rest := []) hC (c_X6_standsAt hL ho ev1) me_X6_standsAt lk_X6_228 ho rfl rfl rfl (Nat.le_of_ble_eq_true rfl) ⟨by decide, by decide⟩ hkn dX6_makesSure_2 ?_
  refine V_iconst (v := 1) hC dX6_makesSure_5 rfl ?_
  refine V_icmp_ne (tgt := 11) hC dX6_makesSure_6 (by decide) (fun c2 => ?_) (fun c2 => ?_)
  · have hf := if_f hf c2
    refine V_aload_n 0 hC dX6_makesSure_11 rfl rfl ?_
    refine V_geta (o := 0) hC ho rfl fk_X6_7 dX6_makesSure_12 ?_
    refine V_bipush (v := 8) hC dX6_makesSure_15 rfl ?_
    refine V_iload_n 1 hC dX6_makesSure_17 rfl rfl ?_
    obtain ⟨v3, ev3, hf⟩ := bi_some hf
    refine V_insi (As := [.int p1]) (rest := [.int 8, .ref (gad z (32 * 0 + 0))]) hC (c_X6_partOf hL  ev3) me_X6_partOf lk_X6_194 rfl rfl (Nat.le_of_ble_eq_true rfl) ⟨by decide, by decide⟩ hkn dX6_makesSure_18 ?_
    refine V_iadd hC dX6_makesSure_21 ?_
    obtain ⟨g4, hf⟩ := gd_some hf
    refine V_iald (a := (32 * 0 + 0)) hC (hL.row ho rfl) g4 dX6_makesSure_22 ?_
    refine V_iconst (v := 3) hC dX6_makesSure_23 rfl ?_
    refine V_icmp_ne (tgt := 31) hC dX6_makesSure_24 (by decide) (fun c5 => ?_) (fun c5 => ?_)
    · have hf := if_f hf c5
      refine V_iconst (v := 0) hC dX6_makesSure_31 rfl ?_
      exact b_X6_makesSure_32 hC hr hA ho hQ  0 d hf
    · have hf := if_t hf c5
      refine V_iconst (v := 1) hC dX6_makesSure_27 rfl ?_
      refine V_goto (tgt := 32) hC dX6_makesSure_28 (by decide) ?_
      exact b_X6_makesSure_32 hC hr hA ho hQ  1 d hf
  · have hf := if_t hf c2
    refine V_iconst (v := 1) hC dX6_makesSure_9 rfl ?_
    obtain ⟨rfl, rfl⟩ := so_inj2 hf
    exact V_zret hC hr rfl hQ hA dX6_makesSure_10
def t_X6_surely_125 (L : Nat → Nat) (k70 : Int32 → Int32 → (Dt) → Option (Int32 × Dt)) (k125 : Int32 → Int32 → Int32 → (Dt) → Option (Int32 × Dt)) (x1 : Int32) (x2 : Int32) (x3 : Int32) (d : Dt) : Option (Int32 × Dt) := if (gF d 0 21) ≤ x3 then k70 x1 (x2 + 1) d else gd (inb x3 (L (32 * 0 + 19))) (gd (inb x3 (L (32 * 0 + 19))) (gd (inb (gA d (32 * 0 + 19) (ix x3)) (L (32 * 0 + 27))) (gd (inb (gA d (32 * 0 + 19) (ix x3)) (L (32 * 0 + 28))) (bd (sA d (32 * 0 + 28) (ix (gA d (32 * 0 + 19) (ix x3))) (vp_nar .boolean (gA d (32 * 0 + 27) (ix (gA d (32 * 0 + 19) (ix x3)))))) (fun d26 => k125 x1 x2 (x3 + 1) d26)))))
set_option maxRecDepth 20000 in
theorem b_X6_surely_125 {K : Kx} {Y : Yx} {z : Sh}  (hC : CK K Y cX6_surely 4 RX6 7 159) (hr : (kme K).sig.returnType = some .int) (hA : kA K = aY Y z)  (ho : (0, 0, 5) ∈ yI Y) {r : Int32} {d' : Dt} (hQ : kQ K = MQ (kb K) (QM Y z (some (.int r)) d') (ka K) (ks K) 0 0 (aY Y z)) {k70 : Int32 → Int32 → (Dt) → Option (Int32 × Dt)} {k125 : Int32 → Int32 → Int32 → (Dt) → Option (Int32 × Dt)} (hk70 : ∀ (x1 : Int32) (x2 : Int32) (d : Dt), k70 x1 x2 d = some (r, d') → V K Y 4 0 0 z d 70 [(0, .ref (yo Y 0)), (1, .int x1), (2, .int x2)] []) (hk125 : ∀ (x1 : Int32) (x2 : Int32) (x3 : Int32) (d : Dt), k125 x1 x2 x3 d = some (r, d') → V K Y 4 0 0 z d 125 [(0, .ref (yo Y 0)), (1, .int x1), (2, .int x2), (3, .int x3)] []) (x1 : Int32) (x2 : Int32) (x3 : Int32) (d : Dt) (hf : t_X6_surely_125 z.1 k70 k125 x1 x2 x3 d = some (r, d')) : V K Y 4 0 0 z d 125 [(0, .ref (yo Y 0)), (1, .int x1), (2, .int x2), (3, .int x3)] [] := by
  have hL := hC.2.2.2.2.2.2.1
  unfold t_X6_surely_125 at hf
  refine V_iload_n 3 hC dX6_surely_125 rfl rfl ?_
  refine V_aload_n 0 hC dX6_surely_126 rfl rfl ?_
  refine V_geti (o := 0) hC ho rfl fk_X6_173 dX6_surely_127 ?_
  refine V_icmp_ge (tgt := 161) hC dX6_surely_130 (by decide) (fun c21 => ?_) (fun c21 => ?_)
  · have hf := if_t hf c21
    refine V_iinc (v := x2 + 1) (lv' := [(2, .int (x2 + 1)), (0, .ref (yo Y 0)), (1, .int x1), (3, .int x3)]) 2 hC dX6_surely_161 rfl rfl (by decide) rfl ?_
    refine V_goto (tgt := 70) hC dX6_surely_164 (by decide) ?_
    exact V_sub [1, 2, 0] rfl (hk70 x1 (x2 + 1) d hf)
  · have hf := if_f hf c21
    refine V_aload_n 0 hC dX6_surely_133 rfl rfl ?_
    refine V_geta (o := 0) hC ho rfl fk_X6_58 dX6_surely_134 ?_
    refine V_aload_n 0 hC dX6_surely_137 rfl rfl ?_
    refine V_geta (o := 0) hC ho rfl fk_X6_40 dX6_surely_138 ?_
    refine V_iload_n 3 hC dX6_surely_141 rfl rfl ?_
    obtain ⟨g22, hf⟩ := gd_some hf
    refine V_iald (a := (32 * 0 + 19)) hC (hL.row ho rfl) g22 dX6_surely_142 ?_
    refine V_aload_n 0 hC dX6_surely_143 rfl rfl ?_
    refine V_geta (o := 0) hC ho rfl fk_X6_55 dX6_surely_144 ?_
    refine V_aload_n 0 hC dX6_surely_147 rfl rfl ?_
    refine V_geta (o := 0) hC ho rfl fk_X6_40 dX6_surely_148 ?_
    refine V_iload_n 3 hC dX6_surely_151 rfl rfl ?_
    obtain ⟨g23, hf⟩ := gd_some hf
    refine V_iald (a := (32 * 0 + 19)) hC (hL.row ho rfl) g23 dX6_surely_152 ?_
    obtain ⟨g24, hf⟩ := gd_some hf
    refine V_zald (a := (32 * 0 + 27)) hC (hL.row ho rfl) g24 dX6_surely_153 ?_
    obtain ⟨g25, hf⟩ := gd_some hf
    refine V_zast (a := (32 * 0 + 28)) hC (hL.row ho rfl) g25 dX6_surely_154 (fun d26 ed26 => ?_)
    have hf := bd_e hf d26 ed26
    refine V_iinc (v := x3 + 1) (lv' := [(3, .int (x3 + 1)), (0, .ref (yo Y 0)), (1, .int x1), (2, .int x2)]) 3 hC dX6_surely_155 rfl rfl (by decide) rfl ?_
    refine V_goto (tgt := 125) hC dX6_surely_158 (by decide) ?_
    exact V_sub [1, 2, 3, 0] rfl (hk125 x1 x2 (x3 + 1) d26 hf)
def t_X6_surely_88 (L : Nat → Nat) (k70 : Int32 → Int32 → (Dt) → Option (Int32 × Dt)) (k88 : Int32 → Int32 → Int32 → (Dt) → Option (Int32 × Dt)) (x1 : Int32) (x2 : Int32) (x3 : Int32) (d : Dt) : Option (Int32 × Dt) := if (gF d 0 21) ≤ x3 then lp (fun k x => t_X6_surely_125 L k70 (fun x1 x2 x3 d => k (x1, x2, x3, d)) x.1 x.2.1 x.2.2.1 x.2.2.2) FU (x1, x2, 0, d) else gd (inb x3 (L (32 * 0 + 19))) (gd (inb x3 (L (32 * 0 + 19))) ((t_X6_makesSure L d (gA d (32 * 0 + 19) (ix x3))).bind (fun q18 => gd (inb (gA d (32 * 0 + 19) (ix x3)) (L (32 * 0 + 27))) (bd (sA q18.2 (32 * 0 + 27) (ix (gA d (32 * 0 + 19) (ix x3))) (vp_nar .boolean q18.1)) (fun d20 => k88 x1 x2 (x3 + 1) d20)))))
set_option maxRecDepth 20000 in
theorem b_X6_surely_88 {K : Kx} {Y : Yx} {z : Sh}  (hC : CK K Y cX6_surely 4 RX6 7 159) (hr : (kme K).sig.returnType = some .int) (hA : kA K = aY Y z)  (ho : (0, 0, 5) ∈ yI Y) {r : Int32} {d' : Dt} (hQ : kQ K = MQ (kb K) (QM Y z (some (.int r)) d') (ka K) (ks K) 0 0 (aY Y z)) {k70 : Int32 → Int32 → (Dt) → Option (Int32 × Dt)} {k88 : Int32 → Int32 → Int32 → (Dt) → Option (Int32 × Dt)} (hk70 : ∀ (x1 : Int32) (x2 : Int32) (d : Dt), k70 x1 x2 d = some (r, d') → V K Y 4 0 0 z d 70 [(0, .ref (yo Y 0)), (1, .int x1), (2, .int x2)] []) (hk88 : ∀ (x1 : Int32) (x2 : Int32) (x3 : Int32) (d : Dt), k88 x1 x2 x3 d = some (r, d') → V K Y 4 0 0 z d 88 [(0, .ref (yo Y 0)), (1, .int x1), (2, .int x2), (3, .int x3)] []) (x1 : Int32) (x2 : Int32) (x3 : Int32) (d : Dt) (hf : t_X6_surely_88 z.1 k70 k88 x1 x2 x3 d = some (r, d')) : V K Y 4 0 0 z d 88 [(0, .ref (yo Y 0)), (1, .int x1), (2, .int x2), (3, .int x3)] [] := by
  have hL := hC.2.2.2.2.2.2.1
  have hkn : 0 ≤ (kR K).cells ∧ 0 ≤ (kR K).slots := ⟨Nat.zero_le _, Nat.zero_le _⟩
  unfold t_X6_surely_88 at hf
  refine V_iload_n 3 hC dX6_surely_88 rfl rfl ?_
  refine V_aload_n 0 hC dX6_surely_89 rfl rfl ?_
  refine V_geti (o := 0) hC ho rfl fk_X6_173 dX6_surely_90 ?_
  refine V_icmp_ge (tgt := 123) hC dX6_surely_93 (by decide) (fun c15 => ?_) (fun c15 => ?_)
  · have hf := if_t hf c15
    refine V_iconst (v := 0) hC dX6_surely_123 rfl ?_
    refine V_istore_n (lv' := [(3, .int 0), (0, .ref (yo Y 0)), (1, .int x1), (2, .int x2)]) hC dX6_surely_124 rfl (by decide) rfl ?_
    exact V_sub [1, 2, 3, 0] rfl (lp_ind (X := Int32 × Int32 × Int32 × Dt) (P := fun x => V K Y 4 0 0 z x.2.2.2 125 [(0, .ref (yo Y 0)), (1, .int x.1), (2, .int x.2.1), (3, .int x.2.2.1)] []) (fun k x hk hx => b_X6_surely_125 hC hr hA ho hQ hk70 (k125 := fun x1 x2 x3 d => k (x1, x2, x3, d)) (fun x1 x2 x3 d hx => hk (x1, x2, x3, d) hx) x.1 x.2.1 x.2.2.1 x.2.2.2 hx) FU (x1, x2, 0, d) hf)
  · have hf := if_f hf c15
    refine V_aload_n 0 hC dX6_surely_96 rfl rfl ?_
    refine V_geta (o := 0) hC ho rfl fk_X6_55 dX6_surely_97 ?_
    refine V_aload_n 0 hC dX6_surely_100 rfl rfl ?_
    refine V_geta (o := 0) hC ho rfl fk_X6_40 dX6_surely_101 ?_
    refine V_iload_n 3 hC dX6_surely_104 rfl rfl ?_
    obtain ⟨g16, hf⟩ := gd_some hf
    refine V_iald (a := (32 * 0 + 19)) hC (hL.row ho rfl) g16 dX6_surely_105 ?_
    refine V_aload_n 0 hC dX6_surely_106 rfl rfl ?_
    refine V_aload_n 0 hC dX6_surely_107 rfl rfl ?_
    refine V_geta (o := 0) hC ho rfl fk_X6_40 dX6_surely_108 ?_
    refine V_iload_n 3 hC dX6_surely_111 rfl rfl ?_
    obtain ⟨g17, hf⟩ := gd_some hf
    refine V_iald (a := (32 * 0 + 19)) hC (hL.row ho rfl) g17 dX6_surely_112 ?_
    obtain ⟨q18, eq18, hf⟩ := bi_some hf
    refine V_invi (o := 0) (As := [.int (gA d (32 * 0 + 19) (ix x3))]) (rest := [.int (gA d (32 * 0 + 19) (ix x3)), .ref (gad z (32 * 0 + 27))]) hC (c_X6_makesSure hL ho eq18) me_X6_makesSure lk_X6_297 ho rfl rfl rfl (Nat.le_of_ble_eq_true rfl) ⟨by decide, by decide⟩ hkn dX6_surely_113 ?_
    obtain ⟨g19, hf⟩ := gd_some hf
    refine V_zast (a := (32 * 0 + 27)) hC (hL.row ho rfl) g19 dX6_surely_116 (fun d20 ed20 => ?_)
    have hf := bd_e hf d20 ed20
    refine V_iinc (v := x3 + 1) (lv' := [(3, .int (x3 + 1)), (0, .ref (yo Y 0)), (1, .int x1), (2, .int x2)]) 3 hC dX6_surely_117 rfl rfl (by decide) rfl ?_
    refine V_goto (tgt := 88) hC dX6_surely_120 (by decide) ?_
    exact V_sub [1, 2, 3, 0] rfl (hk88 x1 x2 (x3 + 1) d20 hf)
def t_X6_surely_70 (L : Nat → Nat) (k70 : Int32 → Int32 → (Dt) → Option (Int32 × Dt)) (x1 : Int32) (x2 : Int32) (d : Dt) : Option (Int32 × Dt) := if 60 < x2 then some ((-1), d) else (t_X6_isSureAt L d x1).bind (fun v11 => if v11 = 0 then lp (fun k x => t_X6_surely_88 L k70 (fun x1 x2 x3 d => k (x1, x2, x3, d)) x.1 x.2.1 x.2.2.1 x.2.2.2) FU (x1, x2, 0, d) else some (x2, d))
set_option maxRecDepth 20000 in
theorem b_X6_surely_70 {K : Kx} {Y : Yx} {z : Sh}  (hC : CK K Y cX6_surely 4 RX6 7 159) (hr : (kme K).sig.returnType = some .int) (hA : kA K = aY Y z)  (ho : (0, 0, 5) ∈ yI Y) {r : Int32} {d' : Dt} (hQ : kQ K = MQ (kb K) (QM Y z (some (.int r)) d') (ka K) (ks K) 0 0 (aY Y z)) {k70 : Int32 → Int32 → (Dt) → Option (Int32 × Dt)} (hk70 : ∀ (x1 : Int32) (x2 : Int32) (d : Dt), k70 x1 x2 d = some (r, d') → V K Y 4 0 0 z d 70 [(0, .ref (yo Y 0)), (1, .int x1), (2, .int x2)] []) (x1 : Int32) (x2 : Int32) (d : Dt) (hf : t_X6_surely_70 z.1 k70 x1 x2 d = some (r, d')) : V K Y 4 0 0 z d 70 [(0, .ref (yo Y 0)), (1, .int x1), (2, .int x2)] [] := by
  have hL := hC.2.2.2.2.2.2.1
  have hkn : 0 ≤ (kR K).cells ∧ 0 ≤ (kR K).slots := ⟨Nat.zero_le _, Nat.zero_le _⟩
  unfold t_X6_surely_70 at hf
  refine V_iload_n 2 hC dX6_surely_70 rfl rfl ?_
  refine V_bipush (v := 60) hC dX6_surely_71 rfl ?_
  refine V_icmp_gt (tgt := 167) hC dX6_surely_73 (by decide) (fun c10 => ?_) (fun c10 => ?_)
  · have hf := if_t hf c10
    refine V_iconst (v := -1) hC dX6_surely_167 rfl ?_
    obtain ⟨rfl, rfl⟩ := so_inj2 hf
    exact V_iret hC hr hQ hA dX6_surely_168
  · have hf := if_f hf c10
    refine V_aload_n 0 hC dX6_surely_76 rfl rfl ?_
    refine V_iload_n 1 hC dX6_surely_77 rfl rfl ?_
    obtain ⟨v11, ev11, hf⟩ := bi_some hf
    refine V_invi (o := 0) (As := [.int x1]) (rest := []) hC (c_X6_isSureAt hL ho ev11) me_X6_isSureAt lk_X6_294 ho rfl rfl rfl (Nat.le_of_ble_eq_true rfl) ⟨by decide, by decide⟩ hkn dX6_surely_78 ?_
    refine V_if_eq (tgt := 86) hC dX6_surely_81 (by decide) (fun c12 => ?_) (fun c12 => ?_)
    · have hf := if_t hf c12
      refine V_iconst (v := 0) hC dX6_surely_86 rfl ?_
      refine V_istore_n (lv' := [(3, .int 0), (0, .ref (yo Y 0)), (1, .int x1), (2, .int x2)]) hC dX6_surely_87 rfl (by decide) rfl ?_
      exact V_sub [1, 2, 3, 0] rfl (lp_ind (X := Int32 × Int32 × Int32 × Dt) (P := fun x => V K Y 4 0 0 z x.2.2.2 88 [(0, .ref (yo Y 0)), (1, .int x.1), (2, .int x.2.1), (3, .int x.2.2.1)] []) (fun k x hk hx => b_X6_surely_88 hC hr hA ho hQ hk70 (k88 := fun x1 x2 x3 d => k (x1, x2, x3, d)) (fun x1 x2 x3 d hx => hk (x1, x2, x3, d) hx) x.1 x.2.1 x.2.2.1 x.2.2.2 hx) FU (x1, x2, 0, d) hf)
    · have hf := if_f hf c12
      refine V_iload_n 2 hC dX6_surely_84 rfl rfl ?_
      obtain ⟨rfl, rfl⟩ := so_inj2 hf
      exact V_iret hC hr hQ hA dX6_surely_85
def t_X6_surely_61 (L : Nat → Nat) (k24 : Int32 → Int32 → (Dt) → Option (Int32 × Dt)) (x1 : Int32) (x2 : Int32) (s0 : Int32) (s1 : Int32) (d : Dt) : Option (Int32 × Dt) := gd (inb s1 (L (32 * 0 + 28))) (bd (sA d (32 * 0 + 28) (ix s1) (vp_nar .boolean s0)) (fun d14 => k24 x1 (x2 + 1) d14))
set_option maxRecDepth 20000 in
theorem b_X6_surely_61 {K : Kx} {Y : Yx} {z : Sh}  (hC : CK K Y cX6_surely 4 RX6 7 159) (hr : (kme K).sig.returnType = some .int) (hA : kA K = aY Y z)  (ho : (0, 0, 5) ∈ yI Y) {r : Int32} {d' : Dt} (hQ : kQ K = MQ (kb K) (QM Y z (some (.int r)) d') (ka K) (ks K) 0 0 (aY Y z)) {k24 : Int32 → Int32 → (Dt) → Option (Int32 × Dt)} (hk24 : ∀ (x1 : Int32) (x2 : Int32) (d : Dt), k24 x1 x2 d = some (r, d') → V K Y 4 0 0 z d 24 [(0, .ref (yo Y 0)), (1, .int x1), (2, .int x2)] []) (x1 : Int32) (x2 : Int32) (s0 : Int32) (s1 : Int32) (d : Dt) (hf : t_X6_surely_61 z.1 k24 x1 x2 s0 s1 d = some (r, d')) : V K Y 4 0 0 z d 61 [(0, .ref (yo Y 0)), (1, .int x1), (2, .int x2)] [.int s0, .int s1, .ref (gad z (32 * 0 + 28))] := by
  have hL := hC.2.2.2.2.2.2.1
  unfold t_X6_surely_61 at hf
  obtain ⟨g13, hf⟩ := gd_some hf
  refine V_zast (a := (32 * 0 + 28)) hC (hL.row ho rfl) g13 dX6_surely_61 (fun d14 ed14 => ?_)
  have hf := bd_e hf d14 ed14
  refine V_iinc (v := x2 + 1) (lv' := [(2, .int (x2 + 1)), (0, .ref (yo Y 0)), (1, .int x1)]) 2 hC dX6_surely_62 rfl rfl (by decide) rfl ?_
  refine V_goto (tgt := 24) hC dX6_surely_65 (by decide) ?_
  exact V_sub [1, 2, 0] rfl (hk24 x1 (x2 + 1) d14 hf)
def t_X6_surely_24 (L : Nat → Nat) (k24 : Int32 → Int32 → (Dt) → Option (Int32 × Dt)) (x1 : Int32) (x2 : Int32) (d : Dt) : Option (Int32 × Dt) := if (gF d 0 21) ≤ x2 then lp (fun k x => t_X6_surely_70 L  (fun x1 x2 d => k (x1, x2, d)) x.1 x.2.1 x.2.2) FU (x1, 0, d) else gd (inb x2 (L (32 * 0 + 19))) (gd (inb x2 (L (32 * 0 + 19))) ((t_X6_standsAt L d (gA d (32 * 0 + 19) (ix x2))).bind (fun v8 => if v8 = 1 then t_X6_surely_61 L k24 x1 x2 1 (gA d (32 * 0 + 19) (ix x2)) d else t_X6_surely_61 L k24 x1 x2 0 (gA d (32 * 0 + 19) (ix x2)) d)))
set_option maxRecDepth 20000 in
theorem b_X6_surely_24 {K : Kx} {Y : Yx} {z : Sh}  (hC : CK K Y cX6_surely 4 RX6 7 159) (hr : (kme K).sig.returnType = some .int) (hA : kA K = aY Y z)  (ho : (0, 0, 5) ∈ yI Y) {r : Int32} {d' : Dt} (hQ : kQ K = MQ (kb K) (QM Y z (some (.int r)) d') (ka K) (ks K) 0 0 (aY Y z)) {k24 : Int32 → Int32 → (Dt) → Option (Int32 × Dt)} (hk24 : ∀ (x1 : Int32) (x2 : Int32) (d : Dt), k24 x1 x2 d = some (r, d') → V K Y 4 0 0 z d 24 [(0, .ref (yo Y 0)), (1, .int x1), (2, .int x2)] []) (x1 : Int32) (x2 : Int32) (d : Dt) (hf : t_X6_surely_24 z.1 k24 x1 x2 d = some (r, d')) : V K Y 4 0 0 z d 24 [(0, .ref (yo Y 0)), (1, .int x1), (2, .int x2)] [] := by
  have hL := hC.2.2.2.2.2.2.1
  have hkn : 0 ≤ (kR K).cells ∧ 0 ≤ (kR K).slots := ⟨Nat.zero_le _, Nat.zero_le _⟩
  unfold t_X6_surely_24 at hf
  refine V_iload_n 2 hC dX6_surely_24 rfl rfl ?_
  refine V_aload_n 0 hC dX6_surely_25 rfl rfl ?_
  refine V_geti (o := 0) hC ho rfl fk_X6_173 dX6_surely_26 ?_
  refine V_icmp_ge (tgt := 68) hC dX6_surely_29 (by decide) (fun c5 => ?_) (fun c5 => ?_)
  · have hf := if_t hf c5
    refine V_iconst (v := 0) hC dX6_surely_68 rfl ?_
    refine V_istore_n (lv' := [(2, .int 0), (0, .ref (yo Y 0)), (1, .int x1)]) hC dX6_surely_69 rfl (by decide) rfl ?_
    exact V_sub [1, 2, 0] rfl (lp_ind (X := Int32 × Int32 × Dt) (P := fun x => V K Y 4 0 0 z x.2.2 70 [(0, .ref (yo Y 0)), (1, .int x.1), (2, .int x.2.1)] []) (fun k x hk hx => b_X6_surely_70 hC hr hA ho hQ  (k70 := fun x1 x2 d => k (x1, x2, d)) (fun x1 x2 d hx => hk (x1, x2, d) hx) x.1 x.2.1 x.2.2 hx) FU (x1, 0, d) hf)
  · have hf := if_f hf c5
    refine V_aload_n 0 hC dX6_surely_32 rfl rfl ?_
    refine V_geta (o := 0) hC ho rfl fk_X6_58 dX6_surely_33 ?_
    refine V_aload_n 0 hC dX6_surely_36 rfl rfl ?_
    refine V_geta (o := 0) hC ho rfl fk_X6_40 dX6_surely_37 ?_
    refine V_iload_n 2 hC dX6_surely_40 rfl rfl ?_
    obtain ⟨g6, hf⟩ := gd_some hf
    refine V_iald (a := (32 * 0 + 19)) hC (hL.row ho rfl) g6 dX6_surely_41 ?_
    refine V_aload_n 0 hC dX6_surely_42 rfl rfl ?_
    refine V_aload_n 0 hC dX6_surely_43 rfl rfl ?_
    refine V_geta (o := 0) hC ho rfl fk_X6_40 dX6_surely_44 ?_
    refine V_iload_n 2 hC dX6_surely_47 rfl rfl ?_
    obtain ⟨g7, hf⟩ := gd_some hf
    refine V_iald (a := (32 * 0 + 19)) hC (hL.row ho rfl) g7 dX6_surely_48 ?_
    obtain ⟨v8, ev8, hf⟩ := bi_some hf
    refine V_invi (o := 0) (As := [.int (gA d (32 * 0 + 19) (ix x2))]) (rest := [.int (gA d (32 * 0 + 19) (ix x2)), .ref (gad z (32 * 0 + 28))]) hC (c_X6_standsAt hL ho ev8) me_X6_standsAt lk_X6_228 ho rfl rfl rfl (Nat.le_of_ble_eq_true rfl) ⟨by decide, by decide⟩ hkn dX6_surely_49 ?_
    refine V_iconst (v := 1) hC dX6_surely_52 rfl ?_
    refine V_icmp_ne (tgt := 60) hC dX6_surely_53 (by decide) (fun c9 => ?_) (fun c9 => ?_)
    · have hf := if_f hf c9
      refine V_iconst (v := 0) hC dX6_surely_60 rfl ?_
      exact b_X6_surely_61 hC hr hA ho hQ hk24 x1 x2 0 (gA d (32 * 0 + 19) (ix x2)) d hf
    · have hf := if_t hf c9
      refine V_iconst (v := 1) hC dX6_surely_56 rfl ?_
      refine V_goto (tgt := 61) hC dX6_surely_57 (by decide) ?_
      exact b_X6_surely_61 hC hr hA ho hQ hk24 x1 x2 1 (gA d (32 * 0 + 19) (ix x2)) d hf
def t_X6_surely (L : Nat → Nat) (d : Dt)  : Option (Int32 × Dt) := gd (inb 3 (L (32 * 0 + 0))) (if 0 ≤ (gA d (32 * 0 + 0) (ix 3)) then (t_X6_nowState L d ).bind (fun v3 => (t_X6_spreadFrom L d v3).bind (fun d4 => lp (fun k x => t_X6_surely_24 L  (fun x1 x2 d => k (x1, x2, d)) x.1 x.2.1 x.2.2) FU (v3, 0, d4))) else some ((-1000003), d))
set_option maxRecDepth 20000 in
theorem c_X6_surely {l : Launch} {Y : Yx} (hL : LAY Y) {z : Sh} {d : Dt}  (ho : (0, 0, 5) ∈ yI Y) {r : Int32} {d' : Dt} (hf : t_X6_surely z.1 d  = some (r, d')) : MM l yX6_surely cX6_surely 4 (some .int) 7 159 Y z [.ref (yo Y 0)] d (some (.int r)) d' := by
  refine MM.ofV (by decide +kernel) hL (Nat.le_of_ble_eq_true rfl) (fun K hl hC hr hQ hA => ?_)
  have hC : CK K Y cX6_surely 4 RX6 7 159 := hC
  have hkn : 0 ≤ (kR K).cells ∧ 0 ≤ (kR K).slots := ⟨Nat.zero_le _, Nat.zero_le _⟩
  unfold t_X6_surely at hf
  show V K Y 4 0 0 z d 0 [(0, .ref (yo Y 0))] []
  refine V_aload_n 0 hC dX6_surely_0 rfl rfl ?_
  refine V_geta (o := 0) hC ho rfl fk_X6_7 dX6_surely_1 ?_
  refine V_iconst (v := 3) hC dX6_surely_4 rfl ?_
  obtain ⟨g1, hf⟩ := gd_some hf
  refine V_iald (a := (32 * 0 + 0)) hC (hL.row ho rfl) g1 dX6_surely_5 ?_
  refine V_if_ge (tgt := 12) hC dX6_surely_6 (by decide) (fun c2 => ?_) (fun c2 => ?_)
  · have hf := if_t hf c2
    refine V_aload_n 0 hC dX6_surely_12 rfl rfl ?_
    obtain ⟨v3, ev3, hf⟩ := bi_some hf
    refine V_invi (o := 0) (As := []) (rest := []) hC (c_X6_nowState hL ho ev3) me_X6_nowState lk_X6_285 ho rfl rfl rfl (Nat.le_of_ble_eq_true rfl) ⟨by decide, by decide⟩ hkn dX6_surely_13 ?_
    refine V_istore_n (lv' := [(1, .int v3), (0, .ref (yo Y 0))]) hC dX6_surely_16 rfl (by decide) rfl ?_
    refine V_aload_n 1 hC dX6_surely_17 rfl rfl ?_
    refine V_iload_n 0 hC dX6_surely_18 rfl rfl ?_
    obtain ⟨d4, ed4, hf⟩ := bi_some hf
    refine V_invv (o := 0) (As := [.int v3]) (rest := []) hC (c_X6_spreadFrom hL ho ed4) me_X6_spreadFrom lk_X6_288 ho rfl rfl rfl (Nat.le_of_ble_eq_true rfl) ⟨by decide, by decide⟩ hkn dX6_surely_19 ?_
    refine V_iconst (v := 0) hC dX6_surely_22 rfl ?_
    refine V_istore_n (lv' := [(2, .int 0), (1, .int v3), (0, .ref (yo Y 0))]) hC dX6_surely_23 rfl (by decide) rfl ?_
    exact V_sub [2, 1, 0] rfl (lp_ind (X := Int32 × Int32 × Dt) (P := fun x => V K Y 4 0 0 z x.2.2 24 [(0, .ref (yo Y 0)), (1, .int x.1), (2, .int x.2.1)] []) (fun k x hk hx => b_X6_surely_24 hC hr hA ho hQ  (k24 := fun x1 x2 d => k (x1, x2, d)) (fun x1 x2 d hx => hk (x1, x2, d) hx) x.1 x.2.1 x.2.2 hx) FU (v3, 0, d4) hf)
  · have hf := if_f hf c2
    refine V_ldc hC ck_X6_166 dX6_surely_9 ?_
    obtain ⟨rfl, rfl⟩ := so_inj2 hf
    exact V_iret hC hr hQ hA dX6_surely_11
def t_X6_partsFound_7 (L : Nat → Nat) (d : Dt) (k7 : Int32 → Int32 → Option (Int32)) (x1 : Int32) (x2 : Int32)  : Option (Int32) := if (gF d 0 21) ≤ x2 then some x1 else gd (inb x2 (L (32 * 0 + 19))) ((t_X6_partOf L d (gA d (32 * 0 + 19) (ix x2))).bind (fun v4 => bd (x1 ||| ((1 : Int32) <<< (v4 &&& 31))) (fun y5 => k7 y5 (x2 + 1))))
set_option maxRecDepth 20000 in
theorem b_X6_partsFound_7 {K : Kx} {Y : Yx} {z : Sh} {d : Dt} (hC : CK K Y cX6_partsFound 3 RX6 1 20) (hr : (kme K).sig.returnType = some .int) (hA : kA K = aY Y z)  (ho : (0, 0, 5) ∈ yI Y) {r : Int32} (hQ : kQ K = MQ (kb K) (QM Y z (some (.int r)) d) (ka K) (ks K) 0 0 (aY Y z)) {k7 : Int32 → Int32 → Option (Int32)} (hk7 : ∀ (x1 : Int32) (x2 : Int32) , k7 x1 x2  = some r → V K Y 3 0 0 z d 7 [(0, .ref (yo Y 0)), (1, .int x1), (2, .int x2)] []) (x1 : Int32) (x2 : Int32)  (hf : t_X6_partsFound_7 z.1 d k7 x1 x2  = some r) : V K Y 3 0 0 z d 7 [(0, .ref (yo Y 0)), (1, .int x1), (2, .int x2)] [] := by
  have hL := hC.2.2.2.2.2.2.1
  have hkn : 0 ≤ (kR K).cells ∧ 0 ≤ (kR K).slots := ⟨Nat.zero_le _, Nat.zero_le _⟩
  unfold t_X6_partsFound_7 at hf
  refine V_iload_n 2 hC dX6_partsFound_7 rfl rfl ?_
  refine V_aload_n 0 hC dX6_partsFound_8 rfl rfl ?_
  refine V_geti (o := 0) hC ho rfl fk_X6_173 dX6_partsFound_9 ?_
  refine V_icmp_ge (tgt := 35) hC dX6_partsFound_12 (by decide) (fun c2 => ?_) (fun c2 => ?_)
  · have hf := if_t hf c2
    refine V_iload_n 1 hC dX6_partsFound_35 rfl rfl ?_
    obtain rfl := so_inj hf
    exact V_iret hC hr hQ hA dX6_partsFound_36
  · have hf := if_f hf c2
    refine V_iload_n 1 hC dX6_partsFound_15 rfl rfl ?_
    refine V_iconst (v := 1) hC dX6_partsFound_16 rfl ?_
    refine V_aload_n 0 hC dX6_partsFound_17 rfl rfl ?_
    refine V_geta (o := 0) hC ho rfl fk_X6_40 dX6_partsFound_18 ?_
    refine V_iload_n 2 hC dX6_partsFound_21 rfl rfl ?_
    obtain ⟨g3, hf⟩ := gd_some hf
    refine V_iald (a := (32 * 0 + 19)) hC (hL.row ho rfl) g3 dX6_partsFound_22 ?_
    obtain ⟨v4, ev4, hf⟩ := bi_some hf
    refine V_insi (As := [.int (gA d (32 * 0 + 19) (ix x2))]) (rest := [.int 1, .int x1]) hC (c_X6_partOf hL  ev4) me_X6_partOf lk_X6_194 rfl rfl (Nat.le_of_ble_eq_true rfl) ⟨by decide, by decide⟩ hkn dX6_partsFound_23 ?_
    refine V_ishl hC dX6_partsFound_26 ?_
    refine V_ior hC dX6_partsFound_27 ?_
    refine V_topi (fun y5 ey5 => ?_)
    have hf := bd_e hf y5 ey5
    refine V_istore_n (lv' := [(1, .int y5), (0, .ref (yo Y 0)), (2, .int x2)]) hC dX6_partsFound_28 rfl (by decide) rfl ?_
    refine V_iinc (v := x2 + 1) (lv' := [(2, .int (x2 + 1)), (1, .int y5), (0, .ref (yo Y 0))]) 2 hC dX6_partsFound_29 rfl rfl (by decide) rfl ?_
    refine V_goto (tgt := 7) hC dX6_partsFound_32 (by decide) ?_
    exact V_sub [2, 1, 0] rfl (hk7 y5 (x2 + 1) hf)
def t_X6_partsFound (L : Nat → Nat) (d : Dt)  : Option (Int32) := bd (gF d 0 22) (fun y1 => lp (fun k x => t_X6_partsFound_7 L d  (fun x1 x2 => k (x1, x2)) x.1 x.2) FU (y1, 0))
set_option maxRecDepth 20000 in
theorem c_X6_partsFound {l : Launch} {Y : Yx} (hL : LAY Y) {z : Sh} {d : Dt}  (ho : (0, 0, 5) ∈ yI Y) {r : Int32} (hf : t_X6_partsFound z.1 d  = some r) : MM l yX6_partsFound cX6_partsFound 3 (some .int) 1 20 Y z [.ref (yo Y 0)] d (some (.int r)) d := by
  refine MM.ofV (by decide +kernel) hL (Nat.le_of_ble_eq_true rfl) (fun K hl hC hr hQ hA => ?_)
  have hC : CK K Y cX6_partsFound 3 RX6 1 20 := hC
  unfold t_X6_partsFound at hf
  show V K Y 3 0 0 z d 0 [(0, .ref (yo Y 0))] []
  refine V_aload_n 0 hC dX6_partsFound_0 rfl rfl ?_
  refine V_geti (o := 0) hC ho rfl fk_X6_225 dX6_partsFound_1 ?_
  refine V_topi (fun y1 ey1 => ?_)
  have hf := bd_e hf y1 ey1
  refine V_istore_n (lv' := [(1, .int y1), (0, .ref (yo Y 0))]) hC dX6_partsFound_4 rfl (by decide) rfl ?_
  refine V_iconst (v := 0) hC dX6_partsFound_5 rfl ?_
  refine V_istore_n (lv' := [(2, .int 0), (1, .int y1), (0, .ref (yo Y 0))]) hC dX6_partsFound_6 rfl (by decide) rfl ?_
  exact V_sub [2, 1, 0] rfl (lp_ind (X := Int32 × Int32) (P := fun x => V K Y 3 0 0 z d 7 [(0, .ref (yo Y 0)), (1, .int x.1), (2, .int x.2)] []) (fun k x hk hx => b_X6_partsFound_7 hC hr hA ho hQ  (k7 := fun x1 x2 => k (x1, x2)) (fun x1 x2 hx => hk (x1, x2) hx) x.1 x.2 hx) FU (y1, 0) hf)
def t_X6_must_49 (L : Nat → Nat) (k17 : Int32 → Int32 → (Dt) → Option (Int32 × Dt)) (x2 : Int32) (s0 : Int32) (s1 : Int32) (d : Dt) : Option (Int32 × Dt) := (t_X6_one L d s0).bind (fun v11 => bd (s1 ||| (v11 <<< (x2 &&& 31))) (fun y12 => k17 y12 (x2 + 1) d))
set_option maxRecDepth 20000 in
theorem b_X6_must_49 {K : Kx} {Y : Yx} {z : Sh}  (hC : CK K Y cX6_must 3 RX6 7 159) (hr : (kme K).sig.returnType = some .int) (hA : kA K = aY Y z)  (ho : (0, 0, 5) ∈ yI Y) {r : Int32} {d' : Dt} (hQ : kQ K = MQ (kb K) (QM Y z (some (.int r)) d') (ka K) (ks K) 0 0 (aY Y z)) {k17 : Int32 → Int32 → (Dt) → Option (Int32 × Dt)} (hk17 : ∀ (x1 : Int32) (x2 : Int32) (d : Dt), k17 x1 x2 d = some (r, d') → V K Y 3 0 0 z d 17 [(0, .ref (yo Y 0)), (1, .int x1), (2, .int x2)] []) (x2 : Int32) (s0 : Int32) (s1 : Int32) (d : Dt) (hf : t_X6_must_49 z.1 k17 x2 s0 s1 d = some (r, d')) : V K Y 3 0 0 z d 49 [(0, .ref (yo Y 0)), (2, .int x2)] [.int s0, .int s1] := by
  have hL := hC.2.2.2.2.2.2.1
  have hkn : 0 ≤ (kR K).cells ∧ 0 ≤ (kR K).slots := ⟨Nat.zero_le _, Nat.zero_le _⟩
  unfold t_X6_must_49 at hf
  obtain ⟨v11, ev11, hf⟩ := bi_some hf
  refine V_insi (As := [.int s0]) (rest := [.int s1]) hC (c_X6_one hL  ev11) me_X6_one lk_X6_218 rfl rfl (Nat.le_of_ble_eq_true rfl) ⟨by decide, by decide⟩ hkn dX6_must_49 ?_
  refine V_iload_n 1 hC dX6_must_52 rfl rfl ?_
  refine V_ishl hC dX6_must_53 ?_
  refine V_ior hC dX6_must_54 ?_
  refine V_topi (fun y12 ey12 => ?_)
  have hf := bd_e hf y12 ey12
  refine V_istore_n (lv' := [(1, .int y12), (0, .ref (yo Y 0)), (2, .int x2)]) hC dX6_must_55 rfl (by decide) rfl ?_
  refine V_iinc (v := x2 + 1) (lv' := [(2, .int (x2 + 1)), (1, .int y12), (0, .ref (yo Y 0))]) 2 hC dX6_must_56 rfl rfl (by decide) rfl ?_
  refine V_goto (tgt := 17) hC dX6_must_59 (by decide) ?_
  exact V_sub [2, 1, 0] rfl (hk17 y12 (x2 + 1) d hf)
def t_X6_must_17 (L : Nat → Nat) (k17 : Int32 → Int32 → (Dt) → Option (Int32 × Dt)) (x1 : Int32) (x2 : Int32) (d : Dt) : Option (Int32 × Dt) := gd (inb 0 (L (32 * 0 + 0))) (if (gA d (32 * 0 + 0) (ix 0)) ≤ x2 then bd (sF d 0 15 (-1)) (fun d6 => some (x1, d6)) else bd (sF d 0 15 x2) (fun d7 => (t_X6_spreadFromBeginning L d7 ).bind (fun d8 => (t_X6_hasWon L d8 ).bind (fun v9 => if v9 = 0 then t_X6_must_49 L k17 x2 1 x1 d8 else t_X6_must_49 L k17 x2 0 x1 d8))))
set_option maxRecDepth 20000 in
theorem b_X6_must_17 {K : Kx} {Y : Yx} {z : Sh}  (hC : CK K Y cX6_must 3 RX6 7 159) (hr : (kme K).sig.returnType = some .int) (hA : kA K = aY Y z)  (ho : (0, 0, 5) ∈ yI Y) {r : Int32} {d' : Dt} (hQ : kQ K = MQ (kb K) (QM Y z (some (.int r)) d') (ka K) (ks K) 0 0 (aY Y z)) {k17 : Int32 → Int32 → (Dt) → Option (Int32 × Dt)} (hk17 : ∀ (x1 : Int32) (x2 : Int32) (d : Dt), k17 x1 x2 d = some (r, d') → V K Y 3 0 0 z d 17 [(0, .ref (yo Y 0)), (1, .int x1), (2, .int x2)] []) (x1 : Int32) (x2 : Int32) (d : Dt) (hf : t_X6_must_17 z.1 k17 x1 x2 d = some (r, d')) : V K Y 3 0 0 z d 17 [(0, .ref (yo Y 0)), (1, .int x1), (2, .int x2)] [] := by
  have hL := hC.2.2.2.2.2.2.1
  have hkn : 0 ≤ (kR K).cells ∧ 0 ≤ (kR K).slots := ⟨Nat.zero_le _, Nat.zero_le _⟩
  unfold t_X6_must_17 at hf
  refine V_iload_n 2 hC dX6_must_17 rfl rfl ?_
  refine V_aload_n 0 hC dX6_must_18 rfl rfl ?_
  refine V_geta (o := 0) hC ho rfl fk_X6_7 dX6_must_19 ?_
  refine V_iconst (v := 0) hC dX6_must_22 rfl ?_
  obtain ⟨g4, hf⟩ := gd_some hf
  refine V_iald (a := (32 * 0 + 0)) hC (hL.row ho rfl) g4 dX6_must_23 ?_
  refine V_icmp_ge (tgt := 62) hC dX6_must_24 (by decide) (fun c5 => ?_) (fun c5 => ?_)
  · have hf := if_t hf c5
    refine V_aload_n 0 hC dX6_must_62 rfl rfl ?_
    refine V_iconst (v := -1) hC dX6_must_63 rfl ?_
    refine V_puti (o := 0) hC ho rfl fk_X6_33 pl_X6 rfl rfl dX6_must_64 (fun d6 ed6 => ?_)
    have hf := bd_e hf d6 ed6
    refine V_iload_n 1 hC dX6_must_67 rfl rfl ?_
    obtain ⟨rfl, rfl⟩ := so_inj2 hf
    exact V_iret hC hr hQ hA dX6_must_68
  · have hf := if_f hf c5
    refine V_aload_n 0 hC dX6_must_27 rfl rfl ?_
    refine V_iload_n 2 hC dX6_must_28 rfl rfl ?_
    refine V_puti (o := 0) hC ho rfl fk_X6_33 pl_X6 rfl rfl dX6_must_29 (fun d7 ed7 => ?_)
    have hf := bd_e hf d7 ed7
    refine V_aload_n 0 hC dX6_must_32 rfl rfl ?_
    obtain ⟨d8, ed8, hf⟩ := bi_some hf
    refine V_invv (o := 0) (As := []) (rest := []) hC (c_X6_spreadFromBeginning hL ho ed8) me_X6_spreadFromBeginning lk_X6_170 ho rfl rfl rfl (Nat.le_of_ble_eq_true rfl) ⟨by decide, by decide⟩ hkn dX6_must_33 ?_
    refine V_iload_n 1 hC dX6_must_36 rfl rfl ?_
    refine V_aload_n 0 hC dX6_must_37 rfl rfl ?_
    obtain ⟨v9, ev9, hf⟩ := bi_some hf
    refine V_invi (o := 0) (As := []) (rest := [.int x1]) hC (c_X6_hasWon hL ho ev9) me_X6_hasWon lk_X6_300 ho rfl rfl rfl (Nat.le_of_ble_eq_true rfl) ⟨by decide, by decide⟩ hkn dX6_must_38 ?_
    refine V_if_ne (tgt := 48) hC dX6_must_41 (by decide) (fun c10 => ?_) (fun c10 => ?_)
    · have hf := if_f hf c10
      refine V_iconst (v := 0) hC dX6_must_48 rfl ?_
      exact V_sub [0, 2] rfl (b_X6_must_49 hC hr hA ho hQ hk17 x2 0 x1 d8 hf)
    · have hf := if_t hf c10
      refine V_iconst (v := 1) hC dX6_must_44 rfl ?_
      refine V_goto (tgt := 49) hC dX6_must_45 (by decide) ?_
      exact V_sub [0, 2] rfl (b_X6_must_49 hC hr hA ho hQ hk17 x2 1 x1 d8 hf)
def t_X6_must (L : Nat → Nat) (d : Dt)  : Option (Int32 × Dt) := (t_X6_spreadFromBeginning L d ).bind (fun d1 => (t_X6_hasWon L d1 ).bind (fun v2 => if v2 = 0 then some (0, d1) else lp (fun k x => t_X6_must_17 L  (fun x1 x2 d => k (x1, x2, d)) x.1 x.2.1 x.2.2) FU (0, 0, d1)))
set_option maxRecDepth 20000 in
theorem c_X6_must {l : Launch} {Y : Yx} (hL : LAY Y) {z : Sh} {d : Dt}  (ho : (0, 0, 5) ∈ yI Y) {r : Int32} {d' : Dt} (hf : t_X6_must z.1 d  = some (r, d')) : MM l yX6_must cX6_must 3 (some .int) 7 159 Y z [.ref (yo Y 0)] d (some (.int r)) d' := by
  refine MM.ofV (by decide +kernel) hL (Nat.le_of_ble_eq_true rfl) (fun K hl hC hr hQ hA => ?_)
  have hC : CK K Y cX6_must 3 RX6 7 159 := hC
  have hkn : 0 ≤ (kR K).cells ∧ 0 ≤ (kR K).slots := ⟨Nat.zero_le _, Nat.zero_le _⟩
  unfold t_X6_must at hf
  show V K Y 3 0 0 z d 0 [(0, .ref (yo Y 0))] []
  refine V_aload_n 0 hC dX6_must_0 rfl rfl ?_
  obtain ⟨d1, ed1, hf⟩ := bi_some hf
  refine V_invv (o := 0) (As := []) (rest := []) hC (c_X6_spreadFromBeginning hL ho ed1) me_X6_spreadFromBeginning lk_X6_170 ho rfl rfl rfl (Nat.le_of_ble_eq_true rfl) ⟨by decide, by decide⟩ hkn dX6_must_1 ?_
  refine V_aload_n 0 hC dX6_must_4 rfl rfl ?_
  obtain ⟨v2, ev2, hf⟩ := bi_some hf
  refine V_invi (o := 0) (As := []) (rest := []) hC (c_X6_hasWon hL ho ev2) me_X6_hasWon lk_X6_300 ho rfl rfl rfl (Nat.le_of_ble_eq_true rfl) ⟨by decide, by decide⟩ hkn dX6_must_5 ?_
  refine V_if_ne (tgt := 13) hC dX6_must_8 (by decide) (fun c3 => ?_) (fun c3 => ?_)
  · have hf := if_f hf c3
    refine V_iconst (v := 0) hC dX6_must_13 rfl ?_
    refine V_istore_n (lv' := [(1, .int 0), (0, .ref (yo Y 0))]) hC dX6_must_14 rfl (by decide) rfl ?_
    refine V_iconst (v := 0) hC dX6_must_15 rfl ?_
    refine V_istore_n (lv' := [(2, .int 0), (1, .int 0), (0, .ref (yo Y 0))]) hC dX6_must_16 rfl (by decide) rfl ?_
    exact V_sub [2, 1, 0] rfl (lp_ind (X := Int32 × Int32 × Dt) (P := fun x => V K Y 3 0 0 z x.2.2 17 [(0, .ref (yo Y 0)), (1, .int x.1), (2, .int x.2.1)] []) (fun k x hk hx => b_X6_must_17 hC hr hA ho hQ  (k17 := fun x1 x2 d => k (x1, x2, d)) (fun x1 x2 d hx => hk (x1, x2, d) hx) x.1 x.2.1 x.2.2 hx) FU (0, 0, d1) hf)
  · have hf := if_t hf c3
    refine V_iconst (v := 0) hC dX6_must_11 rfl ?_
    obtain ⟨rfl, rfl⟩ := so_inj2 hf
    exact V_iret hC hr hQ hA dX6_must_12
def t_X6_traps_212 (L : Nat → Nat) (k184 : Int32 → Int32 → (Dt) → Option (Int32 × Dt)) (x3 : Int32) (s0 : Int32) (s1 : Int32) (d : Dt) : Option (Int32 × Dt) := (t_X6_one L d s0).bind (fun v20 => gd (inb x3 (L (32 * 0 + 19))) ((t_X6_partOf L d (gA d (32 * 0 + 19) (ix x3))).bind (fun v22 => bd (s1 ||| (v20 <<< (v22 &&& 31))) (fun y23 => k184 y23 (x3 + 1) d))))
set_option maxRecDepth 20000 in
theorem b_X6_traps_212 {K : Kx} {Y : Yx} {z : Sh}  (hC : CK K Y cX6_traps 6 RX6 7 159) (hr : (kme K).sig.returnType = some .int) (hA : kA K = aY Y z)  (ho : (0, 0, 5) ∈ yI Y) {r : Int32} {d' : Dt} (hQ : kQ K = MQ (kb K) (QM Y z (some (.int r)) d') (ka K) (ks K) 0 0 (aY Y z)) {k184 : Int32 → Int32 → (Dt) → Option (Int32 × Dt)} (hk184 : ∀ (x2 : Int32) (x3 : Int32) (d : Dt), k184 x2 x3 d = some (r, d') → V K Y 6 0 0 z d 184 [(0, .ref (yo Y 0)), (2, .int x2), (3, .int x3)] []) (x3 : Int32) (s0 : Int32) (s1 : Int32) (d : Dt) (hf : t_X6_traps_212 z.1 k184 x3 s0 s1 d = some (r, d')) : V K Y 6 0 0 z d 212 [(0, .ref (yo Y 0)), (3, .int x3)] [.int s0, .int s1] := by
  have hL := hC.2.2.2.2.2.2.1
  have hkn : 0 ≤ (kR K).cells ∧ 0 ≤ (kR K).slots := ⟨Nat.zero_le _, Nat.zero_le _⟩
  unfold t_X6_traps_212 at hf
  obtain ⟨v20, ev20, hf⟩ := bi_some hf
  refine V_insi (As := [.int s0]) (rest := [.int s1]) hC (c_X6_one hL  ev20) me_X6_one lk_X6_218 rfl rfl (Nat.le_of_ble_eq_true rfl) ⟨by decide, by decide⟩ hkn dX6_traps_212 ?_
  refine V_aload_n 0 hC dX6_traps_215 rfl rfl ?_
  refine V_geta (o := 0) hC ho rfl fk_X6_40 dX6_traps_216 ?_
  refine V_iload_n 1 hC dX6_traps_219 rfl rfl ?_
  obtain ⟨g21, hf⟩ := gd_some hf
  refine V_iald (a := (32 * 0 + 19)) hC (hL.row ho rfl) g21 dX6_traps_220 ?_
  obtain ⟨v22, ev22, hf⟩ := bi_some hf
  refine V_insi (As := [.int (gA d (32 * 0 + 19) (ix x3))]) (rest := [.int v20, .int s1]) hC (c_X6_partOf hL  ev22) me_X6_partOf lk_X6_194 rfl rfl (Nat.le_of_ble_eq_true rfl) ⟨by decide, by decide⟩ hkn dX6_traps_221 ?_
  refine V_ishl hC dX6_traps_224 ?_
  refine V_ior hC dX6_traps_225 ?_
  refine V_topi (fun y23 ey23 => ?_)
  have hf := bd_e hf y23 ey23
  refine V_istore_n (lv' := [(2, .int y23), (0, .ref (yo Y 0)), (3, .int x3)]) hC dX6_traps_226 rfl (by decide) rfl ?_
  refine V_iinc (v := x3 + 1) (lv' := [(3, .int (x3 + 1)), (2, .int y23), (0, .ref (yo Y 0))]) 2 hC dX6_traps_227 rfl rfl (by decide) rfl ?_
  refine V_goto (tgt := 184) hC dX6_traps_230 (by decide) ?_
  exact V_sub [2, 1, 0] rfl (hk184 y23 (x3 + 1) d hf)
def t_X6_traps_184 (L : Nat → Nat) (k184 : Int32 → Int32 → (Dt) → Option (Int32 × Dt)) (x2 : Int32) (x3 : Int32) (d : Dt) : Option (Int32 × Dt) := if (gF d 0 21) ≤ x3 then some (x2, d) else gd (inb x3 (L (32 * 0 + 19))) (gd (inb (gA d (32 * 0 + 19) (ix x3)) (L (32 * 0 + 28))) (if (gA d (32 * 0 + 28) (ix (gA d (32 * 0 + 19) (ix x3)))) = 0 then t_X6_traps_212 L k184 x3 1 x2 d else t_X6_traps_212 L k184 x3 0 x2 d))
set_option maxRecDepth 20000 in
theorem b_X6_traps_184 {K : Kx} {Y : Yx} {z : Sh}  (hC : CK K Y cX6_traps 6 RX6 7 159) (hr : (kme K).sig.returnType = some .int) (hA : kA K = aY Y z)  (ho : (0, 0, 5) ∈ yI Y) {r : Int32} {d' : Dt} (hQ : kQ K = MQ (kb K) (QM Y z (some (.int r)) d') (ka K) (ks K) 0 0 (aY Y z)) {k184 : Int32 → Int32 → (Dt) → Option (Int32 × Dt)} (hk184 : ∀ (x2 : Int32) (x3 : Int32) (d : Dt), k184 x2 x3 d = some (r, d') → V K Y 6 0 0 z d 184 [(0, .ref (yo Y 0)), (2, .int x2), (3, .int x3)] []) (x2 : Int32) (x3 : Int32) (d : Dt) (hf : t_X6_traps_184 z.1 k184 x2 x3 d = some (r, d')) : V K Y 6 0 0 z d 184 [(0, .ref (yo Y 0)), (2, .int x2), (3, .int x3)] [] := by
  have hL := hC.2.2.2.2.2.2.1
  unfold t_X6_traps_184 at hf
  refine V_iload_n 2 hC dX6_traps_184 rfl rfl ?_
  refine V_aload_n 0 hC dX6_traps_185 rfl rfl ?_
  refine V_geti (o := 0) hC ho rfl fk_X6_173 dX6_traps_186 ?_
  refine V_icmp_ge (tgt := 233) hC dX6_traps_189 (by decide) (fun c11 => ?_) (fun c11 => ?_)
  · have hf := if_t hf c11
    refine V_iload_n 1 hC dX6_traps_233 rfl rfl ?_
    obtain ⟨rfl, rfl⟩ := so_inj2 hf
    exact V_iret hC hr hQ hA dX6_traps_234
  · have hf := if_f hf c11
    refine V_iload_n 1 hC dX6_traps_192 rfl rfl ?_
    refine V_aload_n 0 hC dX6_traps_193 rfl rfl ?_
    refine V_geta (o := 0) hC ho rfl fk_X6_58 dX6_traps_194 ?_
    refine V_aload_n 0 hC dX6_traps_197 rfl rfl ?_
    refine V_geta (o := 0) hC ho rfl fk_X6_40 dX6_traps_198 ?_
    refine V_iload_n 2 hC dX6_traps_201 rfl rfl ?_
    obtain ⟨g12, hf⟩ := gd_some hf
    refine V_iald (a := (32 * 0 + 19)) hC (hL.row ho rfl) g12 dX6_traps_202 ?_
    obtain ⟨g13, hf⟩ := gd_some hf
    refine V_zald (a := (32 * 0 + 28)) hC (hL.row ho rfl) g13 dX6_traps_203 ?_
    refine V_if_ne (tgt := 211) hC dX6_traps_204 (by decide) (fun c14 => ?_) (fun c14 => ?_)
    · have hf := if_f hf c14
      refine V_iconst (v := 0) hC dX6_traps_211 rfl ?_
      exact V_sub [0, 2] rfl (b_X6_traps_212 hC hr hA ho hQ hk184 x3 0 x2 d hf)
    · have hf := if_t hf c14
      refine V_iconst (v := 1) hC dX6_traps_207 rfl ?_
      refine V_goto (tgt := 212) hC dX6_traps_208 (by decide) ?_
      exact V_sub [0, 2] rfl (b_X6_traps_212 hC hr hA ho hQ hk184 x3 1 x2 d hf)
def t_X6_traps_162 (L : Nat → Nat) (k52 : Int32 → (Dt) → Option (Int32 × Dt)) (k65 : Int32 → Int32 → (Dt) → Option (Int32 × Dt)) (x2 : Int32) (x3 : Int32) (x4 : Int32) (s0 : Int32) (d : Dt) : Option (Int32 × Dt) := gd (inb x3 (L (32 * 0 + 28))) (bd (sA d (32 * 0 + 28) (ix x3) (vp_nar .boolean x4)) (fun d37 => k65 s0 (x2 + (-1)) d37))
set_option maxRecDepth 20000 in
theorem b_X6_traps_162 {K : Kx} {Y : Yx} {z : Sh}  (hC : CK K Y cX6_traps 6 RX6 7 159) (hr : (kme K).sig.returnType = some .int) (hA : kA K = aY Y z)  (ho : (0, 0, 5) ∈ yI Y) {r : Int32} {d' : Dt} (hQ : kQ K = MQ (kb K) (QM Y z (some (.int r)) d') (ka K) (ks K) 0 0 (aY Y z)) {k52 : Int32 → (Dt) → Option (Int32 × Dt)} {k65 : Int32 → Int32 → (Dt) → Option (Int32 × Dt)} (hk52 : ∀ (x1 : Int32) (d : Dt), k52 x1 d = some (r, d') → V K Y 6 0 0 z d 52 [(0, .ref (yo Y 0)), (1, .int x1)] []) (hk65 : ∀ (x1 : Int32) (x2 : Int32) (d : Dt), k65 x1 x2 d = some (r, d') → V K Y 6 0 0 z d 65 [(0, .ref (yo Y 0)), (1, .int x1), (2, .int x2)] []) (x2 : Int32) (x3 : Int32) (x4 : Int32) (s0 : Int32) (d : Dt) (hf : t_X6_traps_162 z.1 k52 k65 x2 x3 x4 s0 d = some (r, d')) : V K Y 6 0 0 z d 162 [(0, .ref (yo Y 0)), (2, .int x2), (3, .int x3), (4, .int x4)] [.int s0] := by
  have hL := hC.2.2.2.2.2.2.1
  unfold t_X6_traps_162 at hf
  refine V_istore_n (lv' := [(1, .int s0), (0, .ref (yo Y 0)), (2, .int x2), (3, .int x3), (4, .int x4)]) hC dX6_traps_162 rfl (by decide) rfl ?_
  refine V_aload_n 1 hC dX6_traps_163 rfl rfl ?_
  refine V_geta (o := 0) hC ho rfl fk_X6_58 dX6_traps_164 ?_
  refine V_iload_n 3 hC dX6_traps_167 rfl rfl ?_
  refine V_iload 4 hC dX6_traps_168 rfl ?_
  obtain ⟨g36, hf⟩ := gd_some hf
  refine V_zast (a := (32 * 0 + 28)) hC (hL.row ho rfl) g36 dX6_traps_170 (fun d37 ed37 => ?_)
  have hf := bd_e hf d37 ed37
  refine V_iinc (v := x2 + (-1)) (lv' := [(2, .int (x2 + (-1))), (1, .int s0), (0, .ref (yo Y 0)), (3, .int x3), (4, .int x4)]) 2 hC dX6_traps_171 rfl rfl (by decide) rfl ?_
  refine V_goto (tgt := 65) hC dX6_traps_174 (by decide) ?_
  exact V_sub [2, 1, 0] rfl (hk65 s0 (x2 + (-1)) d37 hf)
def t_X6_traps_161 (L : Nat → Nat) (k52 : Int32 → (Dt) → Option (Int32 × Dt)) (k65 : Int32 → Int32 → (Dt) → Option (Int32 × Dt)) (x2 : Int32) (x3 : Int32) (x4 : Int32) (d : Dt) : Option (Int32 × Dt) := t_X6_traps_162 L k52 k65 x2 x3 x4 0 d
set_option maxRecDepth 20000 in
theorem b_X6_traps_161 {K : Kx} {Y : Yx} {z : Sh}  (hC : CK K Y cX6_traps 6 RX6 7 159) (hr : (kme K).sig.returnType = some .int) (hA : kA K = aY Y z)  (ho : (0, 0, 5) ∈ yI Y) {r : Int32} {d' : Dt} (hQ : kQ K = MQ (kb K) (QM Y z (some (.int r)) d') (ka K) (ks K) 0 0 (aY Y z)) {k52 : Int32 → (Dt) → Option (Int32 × Dt)} {k65 : Int32 → Int32 → (Dt) → Option (Int32 × Dt)} (hk52 : ∀ (x1 : Int32) (d : Dt), k52 x1 d = some (r, d') → V K Y 6 0 0 z d 52 [(0, .ref (yo Y 0)), (1, .int x1)] []) (hk65 : ∀ (x1 : Int32) (x2 : Int32) (d : Dt), k65 x1 x2 d = some (r, d') → V K Y 6 0 0 z d 65 [(0, .ref (yo Y 0)), (1, .int x1), (2, .int x2)] []) (x2 : Int32) (x3 : Int32) (x4 : Int32) (d : Dt) (hf : t_X6_traps_161 z.1 k52 k65 x2 x3 x4 d = some (r, d')) : V K Y 6 0 0 z d 161 [(0, .ref (yo Y 0)), (2, .int x2), (3, .int x3), (4, .int x4)] [] := by
  have hL := hC.2.2.2.2.2.2.1
  unfold t_X6_traps_161 at hf
  refine V_iconst (v := 0) hC dX6_traps_161 rfl ?_
  exact b_X6_traps_162 hC hr hA ho hQ hk52 hk65 x2 x3 x4 0 d hf
def t_X6_traps_157 (L : Nat → Nat) (k52 : Int32 → (Dt) → Option (Int32 × Dt)) (k65 : Int32 → Int32 → (Dt) → Option (Int32 × Dt)) (x2 : Int32) (x3 : Int32) (x4 : Int32) (d : Dt) : Option (Int32 × Dt) := t_X6_traps_162 L k52 k65 x2 x3 x4 1 d
set_option maxRecDepth 20000 in
theorem b_X6_traps_157 {K : Kx} {Y : Yx} {z : Sh}  (hC : CK K Y cX6_traps 6 RX6 7 159) (hr : (kme K).sig.returnType = some .int) (hA : kA K = aY Y z)  (ho : (0, 0, 5) ∈ yI Y) {r : Int32} {d' : Dt} (hQ : kQ K = MQ (kb K) (QM Y z (some (.int r)) d') (ka K) (ks K) 0 0 (aY Y z)) {k52 : Int32 → (Dt) → Option (Int32 × Dt)} {k65 : Int32 → Int32 → (Dt) → Option (Int32 × Dt)} (hk52 : ∀ (x1 : Int32) (d : Dt), k52 x1 d = some (r, d') → V K Y 6 0 0 z d 52 [(0, .ref (yo Y 0)), (1, .int x1)] []) (hk65 : ∀ (x1 : Int32) (x2 : Int32) (d : Dt), k65 x1 x2 d = some (r, d') → V K Y 6 0 0 z d 65 [(0, .ref (yo Y 0)), (1, .int x1), (2, .int x2)] []) (x2 : Int32) (x3 : Int32) (x4 : Int32) (d : Dt) (hf : t_X6_traps_157 z.1 k52 k65 x2 x3 x4 d = some (r, d')) : V K Y 6 0 0 z d 157 [(0, .ref (yo Y 0)), (2, .int x2), (3, .int x3), (4, .int x4)] [] := by
  have hL := hC.2.2.2.2.2.2.1
  unfold t_X6_traps_157 at hf
  refine V_iconst (v := 1) hC dX6_traps_157 rfl ?_
  refine V_goto (tgt := 162) hC dX6_traps_158 (by decide) ?_
  exact b_X6_traps_162 hC hr hA ho hQ hk52 hk65 x2 x3 x4 1 d hf
def t_X6_traps_139 (L : Nat → Nat) (k52 : Int32 → (Dt) → Option (Int32 × Dt)) (k65 : Int32 → Int32 → (Dt) → Option (Int32 × Dt)) (x1 : Int32) (x2 : Int32) (x3 : Int32) (x4 : Int32) (d : Dt) : Option (Int32 × Dt) := if x1 = 0 then if x4 = 0 then t_X6_traps_161 L k52 k65 x2 x3 x4 d else gd (inb x3 (L (32 * 0 + 28))) (if (gA d (32 * 0 + 28) (ix x3)) = 0 then t_X6_traps_157 L k52 k65 x2 x3 x4 d else t_X6_traps_161 L k52 k65 x2 x3 x4 d) else t_X6_traps_157 L k52 k65 x2 x3 x4 d
set_option maxRecDepth 20000 in
theorem b_X6_traps_139 {K : Kx} {Y : Yx} {z : Sh}  (hC : CK K Y cX6_traps 6 RX6 7 159) (hr : (kme K).sig.returnType = some .int) (hA : kA K = aY Y z)  (ho : (0, 0, 5) ∈ yI Y) {r : Int32} {d' : Dt} (hQ : kQ K = MQ (kb K) (QM Y z (some (.int r)) d') (ka K) (ks K) 0 0 (aY Y z)) {k52 : Int32 → (Dt) → Option (Int32 × Dt)} {k65 : Int32 → Int32 → (Dt) → Option (Int32 × Dt)} (hk52 : ∀ (x1 : Int32) (d : Dt), k52 x1 d = some (r, d') → V K Y 6 0 0 z d 52 [(0, .ref (yo Y 0)), (1, .int x1)] []) (hk65 : ∀ (x1 : Int32) (x2 : Int32) (d : Dt), k65 x1 x2 d = some (r, d') → V K Y 6 0 0 z d 65 [(0, .ref (yo Y 0)), (1, .int x1), (2, .int x2)] []) (x1 : Int32) (x2 : Int32) (x3 : Int32) (x4 : Int32) (d : Dt) (hf : t_X6_traps_139 z.1 k52 k65 x1 x2 x3 x4 d = some (r, d')) : V K Y 6 0 0 z d 139 [(0, .ref (yo Y 0)), (1, .int x1), (2, .int x2), (3, .int x3), (4, .int x4)] [] := by
  have hL := hC.2.2.2.2.2.2.1
  unfold t_X6_traps_139 at hf
  refine V_iload_n 1 hC dX6_traps_139 rfl rfl ?_
  refine V_if_ne (tgt := 157) hC dX6_traps_140 (by decide) (fun c32 => ?_) (fun c32 => ?_)
  · have hf := if_f hf c32
    exact V_sub [0, 2, 3, 4] rfl (b_X6_traps_157 hC hr hA ho hQ hk52 hk65 x2 x3 x4 d hf)
  · have hf := if_t hf c32
    refine V_iload 4 hC dX6_traps_143 rfl ?_
    refine V_if_eq (tgt := 161) hC dX6_traps_145 (by decide) (fun c33 => ?_) (fun c33 => ?_)
    · have hf := if_t hf c33
      exact V_sub [0, 2, 3, 4] rfl (b_X6_traps_161 hC hr hA ho hQ hk52 hk65 x2 x3 x4 d hf)
    · have hf := if_f hf c33
      refine V_aload_n 0 hC dX6_traps_148 rfl rfl ?_
      refine V_geta (o := 0) hC ho rfl fk_X6_58 dX6_traps_149 ?_
      refine V_iload_n 3 hC dX6_traps_152 rfl rfl ?_
      obtain ⟨g34, hf⟩ := gd_some hf
      refine V_zald (a := (32 * 0 + 28)) hC (hL.row ho rfl) g34 dX6_traps_153 ?_
      refine V_if_ne (tgt := 161) hC dX6_traps_154 (by decide) (fun c35 => ?_) (fun c35 => ?_)
      · have hf := if_f hf c35
        exact V_sub [0, 2, 3, 4] rfl (b_X6_traps_161 hC hr hA ho hQ hk52 hk65 x2 x3 x4 d hf)
      · have hf := if_t hf c35
        exact V_sub [0, 2, 3, 4] rfl (b_X6_traps_157 hC hr hA ho hQ hk52 hk65 x2 x3 x4 d hf)
def t_X6_traps_131 (L : Nat → Nat) (k52 : Int32 → (Dt) → Option (Int32 × Dt)) (k65 : Int32 → Int32 → (Dt) → Option (Int32 × Dt)) (k87 : Int32 → Int32 → Int32 → Int32 → Int32 → (Dt) → Option (Int32 × Dt)) (x1 : Int32) (x2 : Int32) (x3 : Int32) (x5 : Int32) (s0 : Int32) (d : Dt) : Option (Int32 × Dt) := k87 x1 x2 x3 s0 (x5 + 1) d
set_option maxRecDepth 20000 in
theorem b_X6_traps_131 {K : Kx} {Y : Yx} {z : Sh}  (hC : CK K Y cX6_traps 6 RX6 7 159) (hr : (kme K).sig.returnType = some .int) (hA : kA K = aY Y z)  (ho : (0, 0, 5) ∈ yI Y) {r : Int32} {d' : Dt} (hQ : kQ K = MQ (kb K) (QM Y z (some (.int r)) d') (ka K) (ks K) 0 0 (aY Y z)) {k52 : Int32 → (Dt) → Option (Int32 × Dt)} {k65 : Int32 → Int32 → (Dt) → Option (Int32 × Dt)} {k87 : Int32 → Int32 → Int32 → Int32 → Int32 → (Dt) → Option (Int32 × Dt)} (hk52 : ∀ (x1 : Int32) (d : Dt), k52 x1 d = some (r, d') → V K Y 6 0 0 z d 52 [(0, .ref (yo Y 0)), (1, .int x1)] []) (hk65 : ∀ (x1 : Int32) (x2 : Int32) (d : Dt), k65 x1 x2 d = some (r, d') → V K Y 6 0 0 z d 65 [(0, .ref (yo Y 0)), (1, .int x1), (2, .int x2)] []) (hk87 : ∀ (x1 : Int32) (x2 : Int32) (x3 : Int32) (x4 : Int32) (x5 : Int32) (d : Dt), k87 x1 x2 x3 x4 x5 d = some (r, d') → V K Y 6 0 0 z d 87 [(0, .ref (yo Y 0)), (1, .int x1), (2, .int x2), (3, .int x3), (4, .int x4), (5, .int x5)] []) (x1 : Int32) (x2 : Int32) (x3 : Int32) (x5 : Int32) (s0 : Int32) (d : Dt) (hf : t_X6_traps_131 z.1 k52 k65 k87 x1 x2 x3 x5 s0 d = some (r, d')) : V K Y 6 0 0 z d 131 [(0, .ref (yo Y 0)), (1, .int x1), (2, .int x2), (3, .int x3), (5, .int x5)] [.int s0] := by
  have hL := hC.2.2.2.2.2.2.1
  unfold t_X6_traps_131 at hf
  refine V_istore (lv' := [(4, .int s0), (0, .ref (yo Y 0)), (1, .int x1), (2, .int x2), (3, .int x3), (5, .int x5)]) hC dX6_traps_131 (by decide) rfl ?_
  refine V_iinc (v := x5 + 1) (lv' := [(5, .int (x5 + 1)), (4, .int s0), (0, .ref (yo Y 0)), (1, .int x1), (2, .int x2), (3, .int x3)]) 5 hC dX6_traps_133 rfl rfl (by decide) rfl ?_
  refine V_goto (tgt := 87) hC dX6_traps_136 (by decide) ?_
  exact V_sub [2, 3, 4, 5, 1, 0] rfl (hk87 x1 x2 x3 s0 (x5 + 1) d hf)
def t_X6_traps_130 (L : Nat → Nat) (k52 : Int32 → (Dt) → Option (Int32 × Dt)) (k65 : Int32 → Int32 → (Dt) → Option (Int32 × Dt)) (k87 : Int32 → Int32 → Int32 → Int32 → Int32 → (Dt) → Option (Int32 × Dt)) (x1 : Int32) (x2 : Int32) (x3 : Int32) (x5 : Int32) (d : Dt) : Option (Int32 × Dt) := t_X6_traps_131 L k52 k65 k87 x1 x2 x3 x5 0 d
set_option maxRecDepth 20000 in
theorem b_X6_traps_130 {K : Kx} {Y : Yx} {z : Sh}  (hC : CK K Y cX6_traps 6 RX6 7 159) (hr : (kme K).sig.returnType = some .int) (hA : kA K = aY Y z)  (ho : (0, 0, 5) ∈ yI Y) {r : Int32} {d' : Dt} (hQ : kQ K = MQ (kb K) (QM Y z (some (.int r)) d') (ka K) (ks K) 0 0 (aY Y z)) {k52 : Int32 → (Dt) → Option (Int32 × Dt)} {k65 : Int32 → Int32 → (Dt) → Option (Int32 × Dt)} {k87 : Int32 → Int32 → Int32 → Int32 → Int32 → (Dt) → Option (Int32 × Dt)} (hk52 : ∀ (x1 : Int32) (d : Dt), k52 x1 d = some (r, d') → V K Y 6 0 0 z d 52 [(0, .ref (yo Y 0)), (1, .int x1)] []) (hk65 : ∀ (x1 : Int32) (x2 : Int32) (d : Dt), k65 x1 x2 d = some (r, d') → V K Y 6 0 0 z d 65 [(0, .ref (yo Y 0)), (1, .int x1), (2, .int x2)] []) (hk87 : ∀ (x1 : Int32) (x2 : Int32) (x3 : Int32) (x4 : Int32) (x5 : Int32) (d : Dt), k87 x1 x2 x3 x4 x5 d = some (r, d') → V K Y 6 0 0 z d 87 [(0, .ref (yo Y 0)), (1, .int x1), (2, .int x2), (3, .int x3), (4, .int x4), (5, .int x5)] []) (x1 : Int32) (x2 : Int32) (x3 : Int32) (x5 : Int32) (d : Dt) (hf : t_X6_traps_130 z.1 k52 k65 k87 x1 x2 x3 x5 d = some (r, d')) : V K Y 6 0 0 z d 130 [(0, .ref (yo Y 0)), (1, .int x1), (2, .int x2), (3, .int x3), (5, .int x5)] [] := by
  have hL := hC.2.2.2.2.2.2.1
  unfold t_X6_traps_130 at hf
  refine V_iconst (v := 0) hC dX6_traps_130 rfl ?_
  exact b_X6_traps_131 hC hr hA ho hQ hk52 hk65 hk87 x1 x2 x3 x5 0 d hf
def t_X6_traps_87 (L : Nat → Nat) (k52 : Int32 → (Dt) → Option (Int32 × Dt)) (k65 : Int32 → Int32 → (Dt) → Option (Int32 × Dt)) (k87 : Int32 → Int32 → Int32 → Int32 → Int32 → (Dt) → Option (Int32 × Dt)) (x1 : Int32) (x2 : Int32) (x3 : Int32) (x4 : Int32) (x5 : Int32) (d : Dt) : Option (Int32 × Dt) := (t_X6_waysOf L d x3).bind (fun v24 => if v24 ≤ x5 then t_X6_traps_139 L k52 k65 x1 x2 x3 x4 d else if x4 = 0 then (t_X6_isWay L d x3 x5).bind (fun v27 => if v27 = 0 then t_X6_traps_130 L k52 k65 k87 x1 x2 x3 x5 d else (t_X6_wayTo L d x3 x5).bind (fun q29 => (t_X6_isSureAt L q29.2 q29.1).bind (fun v30 => if v30 = 0 then t_X6_traps_130 L k52 k65 k87 x1 x2 x3 x5 q29.2 else t_X6_traps_131 L k52 k65 k87 x1 x2 x3 x5 1 q29.2))) else t_X6_traps_139 L k52 k65 x1 x2 x3 x4 d)
set_option maxRecDepth 20000 in
theorem b_X6_traps_87 {K : Kx} {Y : Yx} {z : Sh}  (hC : CK K Y cX6_traps 6 RX6 7 159) (hr : (kme K).sig.returnType = some .int) (hA : kA K = aY Y z)  (ho : (0, 0, 5) ∈ yI Y) {r : Int32} {d' : Dt} (hQ : kQ K = MQ (kb K) (QM Y z (some (.int r)) d') (ka K) (ks K) 0 0 (aY Y z)) {k52 : Int32 → (Dt) → Option (Int32 × Dt)} {k65 : Int32 → Int32 → (Dt) → Option (Int32 × Dt)} {k87 : Int32 → Int32 → Int32 → Int32 → Int32 → (Dt) → Option (Int32 × Dt)} (hk52 : ∀ (x1 : Int32) (d : Dt), k52 x1 d = some (r, d') → V K Y 6 0 0 z d 52 [(0, .ref (yo Y 0)), (1, .int x1)] []) (hk65 : ∀ (x1 : Int32) (x2 : Int32) (d : Dt), k65 x1 x2 d = some (r, d') → V K Y 6 0 0 z d 65 [(0, .ref (yo Y 0)), (1, .int x1), (2, .int x2)] []) (hk87 : ∀ (x1 : Int32) (x2 : Int32) (x3 : Int32) (x4 : Int32) (x5 : Int32) (d : Dt), k87 x1 x2 x3 x4 x5 d = some (r, d') → V K Y 6 0 0 z d 87 [(0, .ref (yo Y 0)), (1, .int x1), (2, .int x2), (3, .int x3), (4, .int x4), (5, .int x5)] []) (x1 : Int32) (x2 : Int32) (x3 : Int32) (x4 : Int32) (x5 : Int32) (d : Dt) (hf : t_X6_traps_87 z.1 k52 k65 k87 x1 x2 x3 x4 x5 d = some (r, d')) : V K Y 6 0 0 z d 87 [(0, .ref (yo Y 0)), (1, .int x1), (2, .int x2), (3, .int x3), (4, .int x4), (5, .int x5)] [] := by
  have hL := hC.2.2.2.2.2.2.1
  have hkn : 0 ≤ (kR K).cells ∧ 0 ≤ (kR K).slots := ⟨Nat.zero_le _, Nat.zero_le _⟩
  unfold t_X6_traps_87 at hf
  refine V_iload 5 hC dX6_traps_87 rfl ?_
  refine V_aload_n 0 hC dX6_traps_89 rfl rfl ?_
  refine V_iload_n 3 hC dX6_traps_90 rfl rfl ?_
  obtain ⟨v24, ev24, hf⟩ := bi_some hf
  refine V_invi (o := 0) (As := [.int x3]) (rest := [.int x5]) hC (c_X6_waysOf hL ho ev24) me_X6_waysOf lk_X6_212 ho rfl rfl rfl (Nat.le_of_ble_eq_true rfl) ⟨by decide, by decide⟩ hkn dX6_traps_91 ?_
  refine V_icmp_ge (tgt := 139) hC dX6_traps_94 (by decide) (fun c25 => ?_) (fun c25 => ?_)
  · have hf := if_t hf c25
    exact V_sub [0, 1, 2, 3, 4] rfl (b_X6_traps_139 hC hr hA ho hQ hk52 hk65 x1 x2 x3 x4 d hf)
  · have hf := if_f hf c25
    refine V_iload 4 hC dX6_traps_97 rfl ?_
    refine V_if_ne (tgt := 139) hC dX6_traps_99 (by decide) (fun c26 => ?_) (fun c26 => ?_)
    · have hf := if_f hf c26
      exact V_sub [0, 1, 2, 3, 4] rfl (b_X6_traps_139 hC hr hA ho hQ hk52 hk65 x1 x2 x3 x4 d hf)
    · have hf := if_t hf c26
      refine V_aload_n 0 hC dX6_traps_102 rfl rfl ?_
      refine V_iload_n 3 hC dX6_traps_103 rfl rfl ?_
      refine V_iload 5 hC dX6_traps_104 rfl ?_
      obtain ⟨v27, ev27, hf⟩ := bi_some hf
      refine V_invi (o := 0) (As := [.int x3, .int x5]) (rest := []) hC (c_X6_isWay hL ho ev27) me_X6_isWay lk_X6_215 ho rfl rfl rfl (Nat.le_of_ble_eq_true rfl) ⟨by decide, by decide⟩ hkn dX6_traps_106 ?_
      refine V_if_eq (tgt := 130) hC dX6_traps_109 (by decide) (fun c28 => ?_) (fun c28 => ?_)
      · have hf := if_t hf c28
        exact V_sub [0, 1, 2, 3, 5] rfl (b_X6_traps_130 hC hr hA ho hQ hk52 hk65 hk87 x1 x2 x3 x5 d hf)
      · have hf := if_f hf c28
        refine V_aload_n 0 hC dX6_traps_112 rfl rfl ?_
        refine V_aload_n 0 hC dX6_traps_113 rfl rfl ?_
        refine V_iload_n 3 hC dX6_traps_114 rfl rfl ?_
        refine V_iload 5 hC dX6_traps_115 rfl ?_
        obtain ⟨q29, eq29, hf⟩ := bi_some hf
        refine V_invi (o := 0) (As := [.int x3, .int x5]) (rest := [.ref (yo Y 0)]) hC (c_X6_wayTo hL ho eq29) me_X6_wayTo lk_X6_231 ho rfl rfl rfl (Nat.le_of_ble_eq_true rfl) ⟨by decide, by decide⟩ hkn dX6_traps_117 ?_
        obtain ⟨v30, ev30, hf⟩ := bi_some hf
        refine V_invi (o := 0) (As := [.int q29.1]) (rest := []) hC (c_X6_isSureAt hL ho ev30) me_X6_isSureAt lk_X6_294 ho rfl rfl rfl (Nat.le_of_ble_eq_true rfl) ⟨by decide, by decide⟩ hkn dX6_traps_120 ?_
        refine V_if_eq (tgt := 130) hC dX6_traps_123 (by decide) (fun c31 => ?_) (fun c31 => ?_)
        · have hf := if_t hf c31
          exact V_sub [0, 1, 2, 3, 5] rfl (b_X6_traps_130 hC hr hA ho hQ hk52 hk65 hk87 x1 x2 x3 x5 q29.2 hf)
        · have hf := if_f hf c31
          refine V_iconst (v := 1) hC dX6_traps_126 rfl ?_
          refine V_goto (tgt := 131) hC dX6_traps_127 (by decide) ?_
          exact V_sub [0, 1, 2, 3, 5] rfl (b_X6_traps_131 hC hr hA ho hQ hk52 hk65 hk87 x1 x2 x3 x5 1 q29.2 hf)
def t_X6_traps_65 (L : Nat → Nat) (k52 : Int32 → (Dt) → Option (Int32 × Dt)) (k65 : Int32 → Int32 → (Dt) → Option (Int32 × Dt)) (x1 : Int32) (x2 : Int32) (d : Dt) : Option (Int32 × Dt) := if x2 < 0 then k52 x1 d else gd (inb x2 (L (32 * 0 + 19))) (bd (gA d (32 * 0 + 19) (ix x2)) (fun y17 => gd (inb y17 (L (32 * 0 + 28))) (bd (gA d (32 * 0 + 28) (ix y17)) (fun y19 => lp (fun k x => t_X6_traps_87 L k52 k65 (fun x1 x2 x3 x4 x5 d => k (x1, x2, x3, x4, x5, d)) x.1 x.2.1 x.2.2.1 x.2.2.2.1 x.2.2.2.2.1 x.2.2.2.2.2) FU (x1, x2, y17, y19, 0, d)))))
set_option maxRecDepth 20000 in
theorem b_X6_traps_65 {K : Kx} {Y : Yx} {z : Sh}  (hC : CK K Y cX6_traps 6 RX6 7 159) (hr : (kme K).sig.returnType = some .int) (hA : kA K = aY Y z)  (ho : (0, 0, 5) ∈ yI Y) {r : Int32} {d' : Dt} (hQ : kQ K = MQ (kb K) (QM Y z (some (.int r)) d') (ka K) (ks K) 0 0 (aY Y z)) {k52 : Int32 → (Dt) → Option (Int32 × Dt)} {k65 : Int32 → Int32 → (Dt) → Option (Int32 × Dt)} (hk52 : ∀ (x1 : Int32) (d : Dt), k52 x1 d = some (r, d') → V K Y 6 0 0 z d 52 [(0, .ref (yo Y 0)), (1, .int x1)] []) (hk65 : ∀ (x1 : Int32) (x2 : Int32) (d : Dt), k65 x1 x2 d = some (r, d') → V K Y 6 0 0 z d 65 [(0, .ref (yo Y 0)), (1, .int x1), (2, .int x2)] []) (x1 : Int32) (x2 : Int32) (d : Dt) (hf : t_X6_traps_65 z.1 k52 k65 x1 x2 d = some (r, d')) : V K Y 6 0 0 z d 65 [(0, .ref (yo Y 0)), (1, .int x1), (2, .int x2)] [] := by
  have hL := hC.2.2.2.2.2.2.1
  unfold t_X6_traps_65 at hf
  refine V_iload_n 2 hC dX6_traps_65 rfl rfl ?_
  refine V_if_lt (tgt := 177) hC dX6_traps_66 (by decide) (fun c15 => ?_) (fun c15 => ?_)
  · have hf := if_t hf c15
    refine V_goto (tgt := 52) hC dX6_traps_177 (by decide) ?_
    exact V_sub [0, 1] rfl (hk52 x1 d hf)
  · have hf := if_f hf c15
    refine V_aload_n 0 hC dX6_traps_69 rfl rfl ?_
    refine V_geta (o := 0) hC ho rfl fk_X6_40 dX6_traps_70 ?_
    refine V_iload_n 2 hC dX6_traps_73 rfl rfl ?_
    obtain ⟨g16, hf⟩ := gd_some hf
    refine V_iald (a := (32 * 0 + 19)) hC (hL.row ho rfl) g16 dX6_traps_74 ?_
    refine V_topi (fun y17 ey17 => ?_)
    have hf := bd_e hf y17 ey17
    refine V_istore_n (lv' := [(3, .int y17), (0, .ref (yo Y 0)), (1, .int x1), (2, .int x2)]) hC dX6_traps_75 rfl (by decide) rfl ?_
    refine V_aload_n 1 hC dX6_traps_76 rfl rfl ?_
    refine V_geta (o := 0) hC ho rfl fk_X6_58 dX6_traps_77 ?_
    refine V_iload_n 0 hC dX6_traps_80 rfl rfl ?_
    obtain ⟨g18, hf⟩ := gd_some hf
    refine V_zald (a := (32 * 0 + 28)) hC (hL.row ho rfl) g18 dX6_traps_81 ?_
    refine V_topi (fun y19 ey19 => ?_)
    have hf := bd_e hf y19 ey19
    refine V_istore (lv' := [(4, .int y19), (3, .int y17), (0, .ref (yo Y 0)), (1, .int x1), (2, .int x2)]) hC dX6_traps_82 (by decide) rfl ?_
    refine V_iconst (v := 0) hC dX6_traps_84 rfl ?_
    refine V_istore (lv' := [(5, .int 0), (4, .int y19), (3, .int y17), (0, .ref (yo Y 0)), (1, .int x1), (2, .int x2)]) hC dX6_traps_85 (by decide) rfl ?_
    exact V_sub [3, 4, 5, 2, 1, 0] rfl (lp_ind (X := Int32 × Int32 × Int32 × Int32 × Int32 × Dt) (P := fun x => V K Y 6 0 0 z x.2.2.2.2.2 87 [(0, .ref (yo Y 0)), (1, .int x.1), (2, .int x.2.1), (3, .int x.2.2.1), (4, .int x.2.2.2.1), (5, .int x.2.2.2.2.1)] []) (fun k x hk hx => b_X6_traps_87 hC hr hA ho hQ hk52 hk65 (k87 := fun x1 x2 x3 x4 x5 d => k (x1, x2, x3, x4, x5, d)) (fun x1 x2 x3 x4 x5 d hx => hk (x1, x2, x3, x4, x5, d) hx) x.1 x.2.1 x.2.2.1 x.2.2.2.1 x.2.2.2.2.1 x.2.2.2.2.2 hx) FU (x1, x2, y17, y19, 0, d) hf)
def t_X6_traps_52 (L : Nat → Nat) (k52 : Int32 → (Dt) → Option (Int32 × Dt)) (x1 : Int32) (d : Dt) : Option (Int32 × Dt) := if x1 = 0 then lp (fun k x => t_X6_traps_184 L  (fun x2 x3 d => k (x2, x3, d)) x.1 x.2.1 x.2.2) FU (0, 0, d) else bd ((gF d 0 21) - 1) (fun y8 => lp (fun k x => t_X6_traps_65 L k52 (fun x1 x2 d => k (x1, x2, d)) x.1 x.2.1 x.2.2) FU (0, y8, d))
set_option maxRecDepth 20000 in
theorem b_X6_traps_52 {K : Kx} {Y : Yx} {z : Sh}  (hC : CK K Y cX6_traps 6 RX6 7 159) (hr : (kme K).sig.returnType = some .int) (hA : kA K = aY Y z)  (ho : (0, 0, 5) ∈ yI Y) {r : Int32} {d' : Dt} (hQ : kQ K = MQ (kb K) (QM Y z (some (.int r)) d') (ka K) (ks K) 0 0 (aY Y z)) {k52 : Int32 → (Dt) → Option (Int32 × Dt)} (hk52 : ∀ (x1 : Int32) (d : Dt), k52 x1 d = some (r, d') → V K Y 6 0 0 z d 52 [(0, .ref (yo Y 0)), (1, .int x1)] []) (x1 : Int32) (d : Dt) (hf : t_X6_traps_52 z.1 k52 x1 d = some (r, d')) : V K Y 6 0 0 z d 52 [(0, .ref (yo Y 0)), (1, .int x1)] [] := by
  have hL := hC.2.2.2.2.2.2.1
  unfold t_X6_traps_52 at hf
  refine V_iload_n 1 hC dX6_traps_52 rfl rfl ?_
  refine V_if_eq (tgt := 180) hC dX6_traps_53 (by decide) (fun c7 => ?_) (fun c7 => ?_)
  · have hf := if_t hf c7
    refine V_iconst (v := 0) hC dX6_traps_180 rfl ?_
    refine V_istore_n (lv' := [(2, .int 0), (0, .ref (yo Y 0)), (1, .int x1)]) hC dX6_traps_181 rfl (by decide) rfl ?_
    refine V_iconst (v := 0) hC dX6_traps_182 rfl ?_
    refine V_istore_n (lv' := [(3, .int 0), (2, .int 0), (0, .ref (yo Y 0)), (1, .int x1)]) hC dX6_traps_183 rfl (by decide) rfl ?_
    exact V_sub [2, 1, 0] rfl (lp_ind (X := Int32 × Int32 × Dt) (P := fun x => V K Y 6 0 0 z x.2.2 184 [(0, .ref (yo Y 0)), (2, .int x.1), (3, .int x.2.1)] []) (fun k x hk hx => b_X6_traps_184 hC hr hA ho hQ  (k184 := fun x2 x3 d => k (x2, x3, d)) (fun x2 x3 d hx => hk (x2, x3, d) hx) x.1 x.2.1 x.2.2 hx) FU (0, 0, d) hf)
  · have hf := if_f hf c7
    refine V_iconst (v := 0) hC dX6_traps_56 rfl ?_
    refine V_istore_n (lv' := [(1, .int 0), (0, .ref (yo Y 0))]) hC dX6_traps_57 rfl (by decide) rfl ?_
    refine V_aload_n 1 hC dX6_traps_58 rfl rfl ?_
    refine V_geti (o := 0) hC ho rfl fk_X6_173 dX6_traps_59 ?_
    refine V_iconst (v := 1) hC dX6_traps_62 rfl ?_
    refine V_isub hC dX6_traps_63 ?_
    refine V_topi (fun y8 ey8 => ?_)
    have hf := bd_e hf y8 ey8
    refine V_istore_n (lv' := [(2, .int y8), (1, .int 0), (0, .ref (yo Y 0))]) hC dX6_traps_64 rfl (by decide) rfl ?_
    exact V_sub [2, 1, 0] rfl (lp_ind (X := Int32 × Int32 × Dt) (P := fun x => V K Y 6 0 0 z x.2.2 65 [(0, .ref (yo Y 0)), (1, .int x.1), (2, .int x.2.1)] []) (fun k x hk hx => b_X6_traps_65 hC hr hA ho hQ hk52 (k65 := fun x1 x2 d => k (x1, x2, d)) (fun x1 x2 d hx => hk (x1, x2, d) hx) x.1 x.2.1 x.2.2 hx) FU (0, y8, d) hf)
def t_X6_traps_43 (L : Nat → Nat) (k6 : Int32 → (Dt) → Option (Int32 × Dt)) (x1 : Int32) (s0 : Int32) (s1 : Int32) (d : Dt) : Option (Int32 × Dt) := gd (inb s1 (L (32 * 0 + 28))) (bd (sA d (32 * 0 + 28) (ix s1) (vp_nar .boolean s0)) (fun d10 => k6 (x1 + 1) d10))
set_option maxRecDepth 20000 in
theorem b_X6_traps_43 {K : Kx} {Y : Yx} {z : Sh}  (hC : CK K Y cX6_traps 6 RX6 7 159) (hr : (kme K).sig.returnType = some .int) (hA : kA K = aY Y z)  (ho : (0, 0, 5) ∈ yI Y) {r : Int32} {d' : Dt} (hQ : kQ K = MQ (kb K) (QM Y z (some (.int r)) d') (ka K) (ks K) 0 0 (aY Y z)) {k6 : Int32 → (Dt) → Option (Int32 × Dt)} (hk6 : ∀ (x1 : Int32) (d : Dt), k6 x1 d = some (r, d') → V K Y 6 0 0 z d 6 [(0, .ref (yo Y 0)), (1, .int x1)] []) (x1 : Int32) (s0 : Int32) (s1 : Int32) (d : Dt) (hf : t_X6_traps_43 z.1 k6 x1 s0 s1 d = some (r, d')) : V K Y 6 0 0 z d 43 [(0, .ref (yo Y 0)), (1, .int x1)] [.int s0, .int s1, .ref (gad z (32 * 0 + 28))] := by
  have hL := hC.2.2.2.2.2.2.1
  unfold t_X6_traps_43 at hf
  obtain ⟨g9, hf⟩ := gd_some hf
  refine V_zast (a := (32 * 0 + 28)) hC (hL.row ho rfl) g9 dX6_traps_43 (fun d10 ed10 => ?_)
  have hf := bd_e hf d10 ed10
  refine V_iinc (v := x1 + 1) (lv' := [(1, .int (x1 + 1)), (0, .ref (yo Y 0))]) 1 hC dX6_traps_44 rfl rfl (by decide) rfl ?_
  refine V_goto (tgt := 6) hC dX6_traps_47 (by decide) ?_
  exact V_sub [1, 0] rfl (hk6 (x1 + 1) d10 hf)
def t_X6_traps_6 (L : Nat → Nat) (k6 : Int32 → (Dt) → Option (Int32 × Dt)) (x1 : Int32) (d : Dt) : Option (Int32 × Dt) := if (gF d 0 21) ≤ x1 then lp (fun k x => t_X6_traps_52 L  (fun x1 d => k (x1, d)) x.1 x.2) FU (1, d) else gd (inb x1 (L (32 * 0 + 19))) (gd (inb x1 (L (32 * 0 + 19))) ((t_X6_standsAt L d (gA d (32 * 0 + 19) (ix x1))).bind (fun v5 => if v5 = 1 then t_X6_traps_43 L k6 x1 1 (gA d (32 * 0 + 19) (ix x1)) d else t_X6_traps_43 L k6 x1 0 (gA d (32 * 0 + 19) (ix x1)) d)))
set_option maxRecDepth 20000 in
theorem b_X6_traps_6 {K : Kx} {Y : Yx} {z : Sh}  (hC : CK K Y cX6_traps 6 RX6 7 159) (hr : (kme K).sig.returnType = some .int) (hA : kA K = aY Y z)  (ho : (0, 0, 5) ∈ yI Y) {r : Int32} {d' : Dt} (hQ : kQ K = MQ (kb K) (QM Y z (some (.int r)) d') (ka K) (ks K) 0 0 (aY Y z)) {k6 : Int32 → (Dt) → Option (Int32 × Dt)} (hk6 : ∀ (x1 : Int32) (d : Dt), k6 x1 d = some (r, d') → V K Y 6 0 0 z d 6 [(0, .ref (yo Y 0)), (1, .int x1)] []) (x1 : Int32) (d : Dt) (hf : t_X6_traps_6 z.1 k6 x1 d = some (r, d')) : V K Y 6 0 0 z d 6 [(0, .ref (yo Y 0)), (1, .int x1)] [] := by
  have hL := hC.2.2.2.2.2.2.1
  have hkn : 0 ≤ (kR K).cells ∧ 0 ≤ (kR K).slots := ⟨Nat.zero_le _, Nat.zero_le _⟩
  unfold t_X6_traps_6 at hf
  refine V_iload_n 1 hC dX6_traps_6 rfl rfl ?_
  refine V_aload_n 0 hC dX6_traps_7 rfl rfl ?_
  refine V_geti (o := 0) hC ho rfl fk_X6_173 dX6_traps_8 ?_
  refine V_icmp_ge (tgt := 50) hC dX6_traps_11 (by decide) (fun c2 => ?_) (fun c2 => ?_)
  · have hf := if_t hf c2
    refine V_iconst (v := 1) hC dX6_traps_50 rfl ?_
    refine V_istore_n (lv' := [(1, .int 1), (0, .ref (yo Y 0))]) hC dX6_traps_51 rfl (by decide) rfl ?_
    exact V_sub [1, 0] rfl (lp_ind (X := Int32 × Dt) (P := fun x => V K Y 6 0 0 z x.2 52 [(0, .ref (yo Y 0)), (1, .int x.1)] []) (fun k x hk hx => b_X6_traps_52 hC hr hA ho hQ  (k52 := fun x1 d => k (x1, d)) (fun x1 d hx => hk (x1, d) hx) x.1 x.2 hx) FU (1, d) hf)
  · have hf := if_f hf c2
    refine V_aload_n 0 hC dX6_traps_14 rfl rfl ?_
    refine V_geta (o := 0) hC ho rfl fk_X6_58 dX6_traps_15 ?_
    refine V_aload_n 0 hC dX6_traps_18 rfl rfl ?_
    refine V_geta (o := 0) hC ho rfl fk_X6_40 dX6_traps_19 ?_
    refine V_iload_n 1 hC dX6_traps_22 rfl rfl ?_
    obtain ⟨g3, hf⟩ := gd_some hf
    refine V_iald (a := (32 * 0 + 19)) hC (hL.row ho rfl) g3 dX6_traps_23 ?_
    refine V_aload_n 0 hC dX6_traps_24 rfl rfl ?_
    refine V_aload_n 0 hC dX6_traps_25 rfl rfl ?_
    refine V_geta (o := 0) hC ho rfl fk_X6_40 dX6_traps_26 ?_
    refine V_iload_n 1 hC dX6_traps_29 rfl rfl ?_
    obtain ⟨g4, hf⟩ := gd_some hf
    refine V_iald (a := (32 * 0 + 19)) hC (hL.row ho rfl) g4 dX6_traps_30 ?_
    obtain ⟨v5, ev5, hf⟩ := bi_some hf
    refine V_invi (o := 0) (As := [.int (gA d (32 * 0 + 19) (ix x1))]) (rest := [.int (gA d (32 * 0 + 19) (ix x1)), .ref (gad z (32 * 0 + 28))]) hC (c_X6_standsAt hL ho ev5) me_X6_standsAt lk_X6_228 ho rfl rfl rfl (Nat.le_of_ble_eq_true rfl) ⟨by decide, by decide⟩ hkn dX6_traps_31 ?_
    refine V_iconst (v := 1) hC dX6_traps_34 rfl ?_
    refine V_icmp_ne (tgt := 42) hC dX6_traps_35 (by decide) (fun c6 => ?_) (fun c6 => ?_)
    · have hf := if_f hf c6
      refine V_iconst (v := 0) hC dX6_traps_42 rfl ?_
      exact b_X6_traps_43 hC hr hA ho hQ hk6 x1 0 (gA d (32 * 0 + 19) (ix x1)) d hf
    · have hf := if_t hf c6
      refine V_iconst (v := 1) hC dX6_traps_38 rfl ?_
      refine V_goto (tgt := 43) hC dX6_traps_39 (by decide) ?_
      exact b_X6_traps_43 hC hr hA ho hQ hk6 x1 1 (gA d (32 * 0 + 19) (ix x1)) d hf
def t_X6_traps (L : Nat → Nat) (d : Dt)  : Option (Int32 × Dt) := (t_X6_spreadFromBeginning L d ).bind (fun d1 => lp (fun k x => t_X6_traps_6 L  (fun x1 d => k (x1, d)) x.1 x.2) FU (0, d1))
set_option maxRecDepth 20000 in
theorem c_X6_traps {l : Launch} {Y : Yx} (hL : LAY Y) {z : Sh} {d : Dt}  (ho : (0, 0, 5) ∈ yI Y) {r : Int32} {d' : Dt} (hf : t_X6_traps z.1 d  = some (r, d')) : MM l yX6_traps cX6_traps 6 (some .int) 7 159 Y z [.ref (yo Y 0)] d (some (.int r)) d' := by
  refine MM.ofV (by decide +kernel) hL (Nat.le_of_ble_eq_true rfl) (fun K hl hC hr hQ hA => ?_)
  have hC : CK K Y cX6_traps 6 RX6 7 159 := hC
  have hkn : 0 ≤ (kR K).cells ∧ 0 ≤ (kR K).slots := ⟨Nat.zero_le _, Nat.zero_le _⟩
  unfold t_X6_traps at hf
  show V K Y 6 0 0 z d 0 [(0, .ref (yo Y 0))] []
  refine V_aload_n 0 hC dX6_traps_0 rfl rfl ?_
  obtain ⟨d1, ed1, hf⟩ := bi_some hf
  refine V_invv (o := 0) (As := []) (rest := []) hC (c_X6_spreadFromBeginning hL ho ed1) me_X6_spreadFromBeginning lk_X6_170 ho rfl rfl rfl (Nat.le_of_ble_eq_true rfl) ⟨by decide, by decide⟩ hkn dX6_traps_1 ?_
  refine V_iconst (v := 0) hC dX6_traps_4 rfl ?_
  refine V_istore_n (lv' := [(1, .int 0), (0, .ref (yo Y 0))]) hC dX6_traps_5 rfl (by decide) rfl ?_
  exact V_sub [1, 0] rfl (lp_ind (X := Int32 × Dt) (P := fun x => V K Y 6 0 0 z x.2 6 [(0, .ref (yo Y 0)), (1, .int x.1)] []) (fun k x hk hx => b_X6_traps_6 hC hr hA ho hQ  (k6 := fun x1 d => k (x1, d)) (fun x1 d hx => hk (x1, d) hx) x.1 x.2 hx) FU (0, d1) hf)
def t_X6_holes_36 (L : Nat → Nat) (k8 : Int32 → Int32 → (Dt) → Option (Int32 × Dt)) (x2 : Int32) (s0 : Int32) (s1 : Int32) (d : Dt) : Option (Int32 × Dt) := (t_X6_one L d s0).bind (fun v6 => gd (inb x2 (L (32 * 0 + 19))) ((t_X6_partOf L d (gA d (32 * 0 + 19) (ix x2))).bind (fun v8 => bd (s1 ||| (v6 <<< (v8 &&& 31))) (fun y9 => k8 y9 (x2 + 1) d))))
set_option maxRecDepth 20000 in
theorem b_X6_holes_36 {K : Kx} {Y : Yx} {z : Sh}  (hC : CK K Y cX6_holes 3 RX6 7 159) (hr : (kme K).sig.returnType = some .int) (hA : kA K = aY Y z)  (ho : (0, 0, 5) ∈ yI Y) {r : Int32} {d' : Dt} (hQ : kQ K = MQ (kb K) (QM Y z (some (.int r)) d') (ka K) (ks K) 0 0 (aY Y z)) {k8 : Int32 → Int32 → (Dt) → Option (Int32 × Dt)} (hk8 : ∀ (x1 : Int32) (x2 : Int32) (d : Dt), k8 x1 x2 d = some (r, d') → V K Y 3 0 0 z d 8 [(0, .ref (yo Y 0)), (1, .int x1), (2, .int x2)] []) (x2 : Int32) (s0 : Int32) (s1 : Int32) (d : Dt) (hf : t_X6_holes_36 z.1 k8 x2 s0 s1 d = some (r, d')) : V K Y 3 0 0 z d 36 [(0, .ref (yo Y 0)), (2, .int x2)] [.int s0, .int s1] := by
  have hL := hC.2.2.2.2.2.2.1
  have hkn : 0 ≤ (kR K).cells ∧ 0 ≤ (kR K).slots := ⟨Nat.zero_le _, Nat.zero_le _⟩
  unfold t_X6_holes_36 at hf
  obtain ⟨v6, ev6, hf⟩ := bi_some hf
  refine V_insi (As := [.int s0]) (rest := [.int s1]) hC (c_X6_one hL  ev6) me_X6_one lk_X6_218 rfl rfl (Nat.le_of_ble_eq_true rfl) ⟨by decide, by decide⟩ hkn dX6_holes_36 ?_
  refine V_aload_n 0 hC dX6_holes_39 rfl rfl ?_
  refine V_geta (o := 0) hC ho rfl fk_X6_40 dX6_holes_40 ?_
  refine V_iload_n 1 hC dX6_holes_43 rfl rfl ?_
  obtain ⟨g7, hf⟩ := gd_some hf
  refine V_iald (a := (32 * 0 + 19)) hC (hL.row ho rfl) g7 dX6_holes_44 ?_
  obtain ⟨v8, ev8, hf⟩ := bi_some hf
  refine V_insi (As := [.int (gA d (32 * 0 + 19) (ix x2))]) (rest := [.int v6, .int s1]) hC (c_X6_partOf hL  ev8) me_X6_partOf lk_X6_194 rfl rfl (Nat.le_of_ble_eq_true rfl) ⟨by decide, by decide⟩ hkn dX6_holes_45 ?_
  refine V_ishl hC dX6_holes_48 ?_
  refine V_ior hC dX6_holes_49 ?_
  refine V_topi (fun y9 ey9 => ?_)
  have hf := bd_e hf y9 ey9
  refine V_istore_n (lv' := [(1, .int y9), (0, .ref (yo Y 0)), (2, .int x2)]) hC dX6_holes_50 rfl (by decide) rfl ?_
  refine V_iinc (v := x2 + 1) (lv' := [(2, .int (x2 + 1)), (1, .int y9), (0, .ref (yo Y 0))]) 2 hC dX6_holes_51 rfl rfl (by decide) rfl ?_
  refine V_goto (tgt := 8) hC dX6_holes_54 (by decide) ?_
  exact V_sub [2, 1, 0] rfl (hk8 y9 (x2 + 1) d hf)
def t_X6_holes_8 (L : Nat → Nat) (k8 : Int32 → Int32 → (Dt) → Option (Int32 × Dt)) (x1 : Int32) (x2 : Int32) (d : Dt) : Option (Int32 × Dt) := if (gF d 0 21) ≤ x2 then some (x1, d) else gd (inb x2 (L (32 * 0 + 19))) ((t_X6_standsAt L d (gA d (32 * 0 + 19) (ix x2))).bind (fun v4 => if v4 = 3 then t_X6_holes_36 L k8 x2 1 x1 d else t_X6_holes_36 L k8 x2 0 x1 d))
set_option maxRecDepth 20000 in
theorem b_X6_holes_8 {K : Kx} {Y : Yx} {z : Sh}  (hC : CK K Y cX6_holes 3 RX6 7 159) (hr : (kme K).sig.returnType = some .int) (hA : kA K = aY Y z)  (ho : (0, 0, 5) ∈ yI Y) {r : Int32} {d' : Dt} (hQ : kQ K = MQ (kb K) (QM Y z (some (.int r)) d') (ka K) (ks K) 0 0 (aY Y z)) {k8 : Int32 → Int32 → (Dt) → Option (Int32 × Dt)} (hk8 : ∀ (x1 : Int32) (x2 : Int32) (d : Dt), k8 x1 x2 d = some (r, d') → V K Y 3 0 0 z d 8 [(0, .ref (yo Y 0)), (1, .int x1), (2, .int x2)] []) (x1 : Int32) (x2 : Int32) (d : Dt) (hf : t_X6_holes_8 z.1 k8 x1 x2 d = some (r, d')) : V K Y 3 0 0 z d 8 [(0, .ref (yo Y 0)), (1, .int x1), (2, .int x2)] [] := by
  have hL := hC.2.2.2.2.2.2.1
  have hkn : 0 ≤ (kR K).cells ∧ 0 ≤ (kR K).slots := ⟨Nat.zero_le _, Nat.zero_le _⟩
  unfold t_X6_holes_8 at hf
  refine V_iload_n 2 hC dX6_holes_8 rfl rfl ?_
  refine V_aload_n 0 hC dX6_holes_9 rfl rfl ?_
  refine V_geti (o := 0) hC ho rfl fk_X6_173 dX6_holes_10 ?_
  refine V_icmp_ge (tgt := 57) hC dX6_holes_13 (by decide) (fun c2 => ?_) (fun c2 => ?_)
  · have hf := if_t hf c2
    refine V_iload_n 1 hC dX6_holes_57 rfl rfl ?_
    obtain ⟨rfl, rfl⟩ := so_inj2 hf
    exact V_iret hC hr hQ hA dX6_holes_58
  · have hf := if_f hf c2
    refine V_iload_n 1 hC dX6_holes_16 rfl rfl ?_
    refine V_aload_n 0 hC dX6_holes_17 rfl rfl ?_
    refine V_aload_n 0 hC dX6_holes_18 rfl rfl ?_
    refine V_geta (o := 0) hC ho rfl fk_X6_40 dX6_holes_19 ?_
    refine V_iload_n 2 hC dX6_holes_22 rfl rfl ?_
    obtain ⟨g3, hf⟩ := gd_some hf
    refine V_iald (a := (32 * 0 + 19)) hC (hL.row ho rfl) g3 dX6_holes_23 ?_
    obtain ⟨v4, ev4, hf⟩ := bi_some hf
    refine V_invi (o := 0) (As := [.int (gA d (32 * 0 + 19) (ix x2))]) (rest := [.int x1]) hC (c_X6_standsAt hL ho ev4) me_X6_standsAt lk_X6_228 ho rfl rfl rfl (Nat.le_of_ble_eq_true rfl) ⟨by decide, by decide⟩ hkn dX6_holes_24 ?_
    refine V_iconst (v := 3) hC dX6_holes_27 rfl ?_
    refine V_icmp_ne (tgt := 35) hC dX6_holes_28 (by decide) (fun c5 => ?_) (fun c5 => ?_)
    · have hf := if_f hf c5
      refine V_iconst (v := 0) hC dX6_holes_35 rfl ?_
      exact V_sub [0, 2] rfl (b_X6_holes_36 hC hr hA ho hQ hk8 x2 0 x1 d hf)
    · have hf := if_t hf c5
      refine V_iconst (v := 1) hC dX6_holes_31 rfl ?_
      refine V_goto (tgt := 36) hC dX6_holes_32 (by decide) ?_
      exact V_sub [0, 2] rfl (b_X6_holes_36 hC hr hA ho hQ hk8 x2 1 x1 d hf)
def t_X6_holes (L : Nat → Nat) (d : Dt)  : Option (Int32 × Dt) := (t_X6_spreadFromBeginning L d ).bind (fun d1 => lp (fun k x => t_X6_holes_8 L  (fun x1 x2 d => k (x1, x2, d)) x.1 x.2.1 x.2.2) FU (0, 0, d1))
set_option maxRecDepth 20000 in
theorem c_X6_holes {l : Launch} {Y : Yx} (hL : LAY Y) {z : Sh} {d : Dt}  (ho : (0, 0, 5) ∈ yI Y) {r : Int32} {d' : Dt} (hf : t_X6_holes z.1 d  = some (r, d')) : MM l yX6_holes cX6_holes 3 (some .int) 7 159 Y z [.ref (yo Y 0)] d (some (.int r)) d' := by
  refine MM.ofV (by decide +kernel) hL (Nat.le_of_ble_eq_true rfl) (fun K hl hC hr hQ hA => ?_)
  have hC : CK K Y cX6_holes 3 RX6 7 159 := hC
  have hkn : 0 ≤ (kR K).cells ∧ 0 ≤ (kR K).slots := ⟨Nat.zero_le _, Nat.zero_le _⟩
  unfold t_X6_holes at hf
  show V K Y 3 0 0 z d 0 [(0, .ref (yo Y 0))] []
  refine V_aload_n 0 hC dX6_holes_0 rfl rfl ?_
  obtain ⟨d1, ed1, hf⟩ := bi_some hf
  refine V_invv (o := 0) (As := []) (rest := []) hC (c_X6_spreadFromBeginning hL ho ed1) me_X6_spreadFromBeginning lk_X6_170 ho rfl rfl rfl (Nat.le_of_ble_eq_true rfl) ⟨by decide, by decide⟩ hkn dX6_holes_1 ?_
  refine V_iconst (v := 0) hC dX6_holes_4 rfl ?_
  refine V_istore_n (lv' := [(1, .int 0), (0, .ref (yo Y 0))]) hC dX6_holes_5 rfl (by decide) rfl ?_
  refine V_iconst (v := 0) hC dX6_holes_6 rfl ?_
  refine V_istore_n (lv' := [(2, .int 0), (1, .int 0), (0, .ref (yo Y 0))]) hC dX6_holes_7 rfl (by decide) rfl ?_
  exact V_sub [2, 1, 0] rfl (lp_ind (X := Int32 × Int32 × Dt) (P := fun x => V K Y 3 0 0 z x.2.2 8 [(0, .ref (yo Y 0)), (1, .int x.1), (2, .int x.2.1)] []) (fun k x hk hx => b_X6_holes_8 hC hr hA ho hQ  (k8 := fun x1 x2 d => k (x1, x2, d)) (fun x1 x2 d hx => hk (x1, x2, d) hx) x.1 x.2.1 x.2.2 hx) FU (0, 0, d1) hf)
def t_X6_parts (L : Nat → Nat) (d : Dt) (p1 : Int32) : Option (Int32 × Dt) := if p1 = 0 then (t_X6_spreadFromBeginning L d ).bind (fun d2 => (t_X6_partsFound L d2 ).bind (fun v3 => some (v3, d2))) else if p1 = 1 then (t_X6_must L d ).bind (fun q5 => some (q5.1, q5.2)) else if p1 = 2 then (t_X6_traps L d ).bind (fun q7 => some (q7.1, q7.2)) else if p1 = 3 then (t_X6_holes L d ).bind (fun q9 => some (q9.1, q9.2)) else some ((-1000002), d)
set_option maxRecDepth 20000 in
theorem c_X6_parts {l : Launch} {Y : Yx} (hL : LAY Y) {z : Sh} {d : Dt} {p1 : Int32} (ho : (0, 0, 5) ∈ yI Y) {r : Int32} {d' : Dt} (hf : t_X6_parts z.1 d p1 = some (r, d')) : MM l yX6_parts cX6_parts 2 (some .int) 8 184 Y z [.ref (yo Y 0), .int p1] d (some (.int r)) d' := by
  refine MM.ofV (by decide +kernel) hL (Nat.le_of_ble_eq_true rfl) (fun K hl hC hr hQ hA => ?_)
  have hC : CK K Y cX6_parts 2 RX6 8 184 := hC
  have hkn : 0 ≤ (kR K).cells ∧ 0 ≤ (kR K).slots := ⟨Nat.zero_le _, Nat.zero_le _⟩
  unfold t_X6_parts at hf
  show V K Y 2 0 0 z d 0 [(0, .ref (yo Y 0)), (1, .int p1)] []
  refine V_iload_n 1 hC dX6_parts_0 rfl rfl ?_
  by_cases c1 : p1 = 0
  · have hf := if_t hf c1
    refine V_tswIn (tgt := 32) hC dX6_parts_1 0 c1 (by decide) (by decide) rfl (by decide) ?_
    refine V_aload_n 0 hC dX6_parts_32 rfl rfl ?_
    obtain ⟨d2, ed2, hf⟩ := bi_some hf
    refine V_invv (o := 0) (As := []) (rest := []) hC (c_X6_spreadFromBeginning hL ho ed2) me_X6_spreadFromBeginning lk_X6_170 ho rfl rfl rfl (Nat.le_of_ble_eq_true rfl) ⟨by decide, by decide⟩ hkn dX6_parts_33 ?_
    refine V_aload_n 0 hC dX6_parts_36 rfl rfl ?_
    obtain ⟨v3, ev3, hf⟩ := bi_some hf
    refine V_invi (o := 0) (As := []) (rest := []) hC (c_X6_partsFound hL ho ev3) me_X6_partsFound lk_X6_304 ho rfl rfl rfl (Nat.le_of_ble_eq_true rfl) ⟨by decide, by decide⟩ hkn dX6_parts_37 ?_
    obtain ⟨rfl, rfl⟩ := so_inj2 hf
    exact V_iret hC hr hQ hA dX6_parts_40
  · have hf := if_f hf c1
    by_cases c4 : p1 = 1
    · have hf := if_t hf c4
      refine V_tswIn (tgt := 41) hC dX6_parts_1 1 c4 (by decide) (by decide) rfl (by decide) ?_
      refine V_aload_n 0 hC dX6_parts_41 rfl rfl ?_
      obtain ⟨q5, eq5, hf⟩ := bi_some hf
      refine V_invi (o := 0) (As := []) (rest := []) hC (c_X6_must hL ho eq5) me_X6_must lk_X6_307 ho rfl rfl rfl (Nat.le_of_ble_eq_true rfl) ⟨by decide, by decide⟩ hkn dX6_parts_42 ?_
      obtain ⟨rfl, rfl⟩ := so_inj2 hf
      exact V_iret hC hr hQ hA dX6_parts_45
    · have hf := if_f hf c4
      by_cases c6 : p1 = 2
      · have hf := if_t hf c6
        refine V_tswIn (tgt := 46) hC dX6_parts_1 2 c6 (by decide) (by decide) rfl (by decide) ?_
        refine V_aload_n 0 hC dX6_parts_46 rfl rfl ?_
        obtain ⟨q7, eq7, hf⟩ := bi_some hf
        refine V_invi (o := 0) (As := []) (rest := []) hC (c_X6_traps hL ho eq7) me_X6_traps lk_X6_310 ho rfl rfl rfl (Nat.le_of_ble_eq_true rfl) ⟨by decide, by decide⟩ hkn dX6_parts_47 ?_
        obtain ⟨rfl, rfl⟩ := so_inj2 hf
        exact V_iret hC hr hQ hA dX6_parts_50
      · have hf := if_f hf c6
        by_cases c8 : p1 = 3
        · have hf := if_t hf c8
          refine V_tswIn (tgt := 51) hC dX6_parts_1 3 c8 (by decide) (by decide) rfl (by decide) ?_
          refine V_aload_n 0 hC dX6_parts_51 rfl rfl ?_
          obtain ⟨q9, eq9, hf⟩ := bi_some hf
          refine V_invi (o := 0) (As := []) (rest := []) hC (c_X6_holes hL ho eq9) me_X6_holes lk_X6_313 ho rfl rfl rfl (Nat.le_of_ble_eq_true rfl) ⟨by decide, by decide⟩ hkn dX6_parts_52 ?_
          obtain ⟨rfl, rfl⟩ := so_inj2 hf
          exact V_iret hC hr hQ hA dX6_parts_55
        · have hf := if_f hf c8
          refine V_tswOut (tgt := 56) hC dX6_parts_1 (by have hc1 := lv_neT c1 (show (0 : Int32).toInt = 0 from rfl); have hc4 := lv_neT c4 (show (1 : Int32).toInt = 1 from rfl); have hc6 := lv_neT c6 (show (2 : Int32).toInt = 2 from rfl); have hc8 := lv_neT c8 (show (3 : Int32).toInt = 3 from rfl); omega) (by decide) ?_
          refine V_ldc hC ck_X6_70 dX6_parts_56 ?_
          obtain ⟨rfl, rfl⟩ := so_inj2 hf
          exact V_iret hC hr hQ hA dX6_parts_58
def t_X6_things_113 (L : Nat → Nat) (p1 : Int32)  (x3 : Int32) (d : Dt) : Option (Int32 × Dt) := bd (sF d 0 16 (-1)) (fun d16 => some (x3, d16))
set_option maxRecDepth 20000 in
theorem b_X6_things_113 {K : Kx} {Y : Yx} {z : Sh}  (hC : CK K Y cX6_things 6 RX6 7 159) (hr : (kme K).sig.returnType = some .int) (hA : kA K = aY Y z) {p1 : Int32} (ho : (0, 0, 5) ∈ yI Y) {r : Int32} {d' : Dt} (hQ : kQ K = MQ (kb K) (QM Y z (some (.int r)) d') (ka K) (ks K) 0 0 (aY Y z))   (x3 : Int32) (d : Dt) (hf : t_X6_things_113 z.1 p1  x3 d = some (r, d')) : V K Y 6 0 0 z d 113 [(0, .ref (yo Y 0)), (3, .int x3)] [] := by
  have hL := hC.2.2.2.2.2.2.1
  unfold t_X6_things_113 at hf
  refine V_aload_n 0 hC dX6_things_113 rfl rfl ?_
  refine V_iconst (v := -1) hC dX6_things_114 rfl ?_
  refine V_puti (o := 0) hC ho rfl fk_X6_36 pl_X6 rfl rfl dX6_things_115 (fun d16 ed16 => ?_)
  have hf := bd_e hf d16 ed16
  refine V_iload_n 1 hC dX6_things_118 rfl rfl ?_
  obtain ⟨rfl, rfl⟩ := so_inj2 hf
  exact V_iret hC hr hQ hA dX6_things_119
def t_X6_things_99 (L : Nat → Nat) (p1 : Int32) (k64 : Int32 → Int32 → Int32 → (Dt) → Option (Int32 × Dt)) (x4 : Int32) (x5 : Int32) (s0 : Int32) (s1 : Int32) (d : Dt) : Option (Int32 × Dt) := (t_X6_one L d s0).bind (fun v17 => bd (s1 ||| (v17 <<< (x5 &&& 31))) (fun y18 => k64 y18 x4 (x5 + 1) d))
set_option maxRecDepth 20000 in
theorem b_X6_things_99 {K : Kx} {Y : Yx} {z : Sh}  (hC : CK K Y cX6_things 6 RX6 7 159) (hr : (kme K).sig.returnType = some .int) (hA : kA K = aY Y z) {p1 : Int32} (ho : (0, 0, 5) ∈ yI Y) {r : Int32} {d' : Dt} (hQ : kQ K = MQ (kb K) (QM Y z (some (.int r)) d') (ka K) (ks K) 0 0 (aY Y z)) {k64 : Int32 → Int32 → Int32 → (Dt) → Option (Int32 × Dt)} (hk64 : ∀ (x3 : Int32) (x4 : Int32) (x5 : Int32) (d : Dt), k64 x3 x4 x5 d = some (r, d') → V K Y 6 0 0 z d 64 [(0, .ref (yo Y 0)), (3, .int x3), (4, .int x4), (5, .int x5)] []) (x4 : Int32) (x5 : Int32) (s0 : Int32) (s1 : Int32) (d : Dt) (hf : t_X6_things_99 z.1 p1 k64 x4 x5 s0 s1 d = some (r, d')) : V K Y 6 0 0 z d 99 [(0, .ref (yo Y 0)), (4, .int x4), (5, .int x5)] [.int s0, .int s1] := by
  have hL := hC.2.2.2.2.2.2.1
  have hkn : 0 ≤ (kR K).cells ∧ 0 ≤ (kR K).slots := ⟨Nat.zero_le _, Nat.zero_le _⟩
  unfold t_X6_things_99 at hf
  obtain ⟨v17, ev17, hf⟩ := bi_some hf
  refine V_insi (As := [.int s0]) (rest := [.int s1]) hC (c_X6_one hL  ev17) me_X6_one lk_X6_218 rfl rfl (Nat.le_of_ble_eq_true rfl) ⟨by decide, by decide⟩ hkn dX6_things_99 ?_
  refine V_iload 2 hC dX6_things_102 rfl ?_
  refine V_ishl hC dX6_things_104 ?_
  refine V_ior hC dX6_things_105 ?_
  refine V_topi (fun y18 ey18 => ?_)
  have hf := bd_e hf y18 ey18
  refine V_istore_n (lv' := [(3, .int y18), (0, .ref (yo Y 0)), (4, .int x4), (5, .int x5)]) hC dX6_things_106 rfl (by decide) rfl ?_
  refine V_iinc (v := x5 + 1) (lv' := [(5, .int (x5 + 1)), (3, .int y18), (0, .ref (yo Y 0)), (4, .int x4)]) 3 hC dX6_things_107 rfl rfl (by decide) rfl ?_
  refine V_goto (tgt := 64) hC dX6_things_110 (by decide) ?_
  exact V_sub [2, 1, 3, 0] rfl (hk64 y18 x4 (x5 + 1) d hf)
def t_X6_things_64 (L : Nat → Nat) (p1 : Int32) (k64 : Int32 → Int32 → Int32 → (Dt) → Option (Int32 × Dt)) (x3 : Int32) (x4 : Int32) (x5 : Int32) (d : Dt) : Option (Int32 × Dt) := if 8 ≤ x5 then t_X6_things_113 L p1  x3 d else if x4 = 0 then t_X6_things_113 L p1  x3 d else bd (sF d 0 16 x5) (fun d12 => (t_X6_spreadFromBeginning L d12 ).bind (fun d13 => (t_X6_hasWon L d13 ).bind (fun v14 => if v14 = 0 then t_X6_things_99 L p1 k64 x4 x5 1 x3 d13 else t_X6_things_99 L p1 k64 x4 x5 0 x3 d13)))
set_option maxRecDepth 20000 in
theorem b_X6_things_64 {K : Kx} {Y : Yx} {z : Sh}  (hC : CK K Y cX6_things 6 RX6 7 159) (hr : (kme K).sig.returnType = some .int) (hA : kA K = aY Y z) {p1 : Int32} (ho : (0, 0, 5) ∈ yI Y) {r : Int32} {d' : Dt} (hQ : kQ K = MQ (kb K) (QM Y z (some (.int r)) d') (ka K) (ks K) 0 0 (aY Y z)) {k64 : Int32 → Int32 → Int32 → (Dt) → Option (Int32 × Dt)} (hk64 : ∀ (x3 : Int32) (x4 : Int32) (x5 : Int32) (d : Dt), k64 x3 x4 x5 d = some (r, d') → V K Y 6 0 0 z d 64 [(0, .ref (yo Y 0)), (3, .int x3), (4, .int x4), (5, .int x5)] []) (x3 : Int32) (x4 : Int32) (x5 : Int32) (d : Dt) (hf : t_X6_things_64 z.1 p1 k64 x3 x4 x5 d = some (r, d')) : V K Y 6 0 0 z d 64 [(0, .ref (yo Y 0)), (3, .int x3), (4, .int x4), (5, .int x5)] [] := by
  have hL := hC.2.2.2.2.2.2.1
  have hkn : 0 ≤ (kR K).cells ∧ 0 ≤ (kR K).slots := ⟨Nat.zero_le _, Nat.zero_le _⟩
  unfold t_X6_things_64 at hf
  refine V_iload 3 hC dX6_things_64 rfl ?_
  refine V_bipush (v := 8) hC dX6_things_66 rfl ?_
  refine V_icmp_ge (tgt := 113) hC dX6_things_68 (by decide) (fun c10 => ?_) (fun c10 => ?_)
  · have hf := if_t hf c10
    exact V_sub [0, 1] rfl (b_X6_things_113 hC hr hA ho hQ  x3 d hf)
  · have hf := if_f hf c10
    refine V_iload 2 hC dX6_things_71 rfl ?_
    refine V_if_eq (tgt := 113) hC dX6_things_73 (by decide) (fun c11 => ?_) (fun c11 => ?_)
    · have hf := if_t hf c11
      exact V_sub [0, 1] rfl (b_X6_things_113 hC hr hA ho hQ  x3 d hf)
    · have hf := if_f hf c11
      refine V_aload_n 0 hC dX6_things_76 rfl rfl ?_
      refine V_iload 3 hC dX6_things_77 rfl ?_
      refine V_puti (o := 0) hC ho rfl fk_X6_36 pl_X6 rfl rfl dX6_things_79 (fun d12 ed12 => ?_)
      have hf := bd_e hf d12 ed12
      refine V_aload_n 0 hC dX6_things_82 rfl rfl ?_
      obtain ⟨d13, ed13, hf⟩ := bi_some hf
      refine V_invv (o := 0) (As := []) (rest := []) hC (c_X6_spreadFromBeginning hL ho ed13) me_X6_spreadFromBeginning lk_X6_170 ho rfl rfl rfl (Nat.le_of_ble_eq_true rfl) ⟨by decide, by decide⟩ hkn dX6_things_83 ?_
      refine V_iload_n 1 hC dX6_things_86 rfl rfl ?_
      refine V_aload_n 0 hC dX6_things_87 rfl rfl ?_
      obtain ⟨v14, ev14, hf⟩ := bi_some hf
      refine V_invi (o := 0) (As := []) (rest := [.int x3]) hC (c_X6_hasWon hL ho ev14) me_X6_hasWon lk_X6_300 ho rfl rfl rfl (Nat.le_of_ble_eq_true rfl) ⟨by decide, by decide⟩ hkn dX6_things_88 ?_
      refine V_if_ne (tgt := 98) hC dX6_things_91 (by decide) (fun c15 => ?_) (fun c15 => ?_)
      · have hf := if_f hf c15
        refine V_iconst (v := 0) hC dX6_things_98 rfl ?_
        exact V_sub [0, 2, 3] rfl (b_X6_things_99 hC hr hA ho hQ hk64 x4 x5 0 x3 d13 hf)
      · have hf := if_t hf c15
        refine V_iconst (v := 1) hC dX6_things_94 rfl ?_
        refine V_goto (tgt := 99) hC dX6_things_95 (by decide) ?_
        exact V_sub [0, 2, 3] rfl (b_X6_things_99 hC hr hA ho hQ hk64 x4 x5 1 x3 d13 hf)
def t_X6_things_21 (L : Nat → Nat) (p1 : Int32) (k21 : Int32 → Int32 → (Dt) → Option (Int32 × Dt)) (x2 : Int32) (x3 : Int32) (d : Dt) : Option (Int32 × Dt) := if (gF d 0 21) ≤ x3 then if p1 = 0 then some (x2, d) else (t_X6_hasWon L d ).bind (fun v6 => lp (fun k x => t_X6_things_64 L p1  (fun x3 x4 x5 d => k (x3, x4, x5, d)) x.1 x.2.1 x.2.2.1 x.2.2.2) FU (0, v6, 0, d)) else gd (inb x3 (L (32 * 0 + 19))) ((t_X6_thingsOf L d (gA d (32 * 0 + 19) (ix x3))).bind (fun v8 => bd (x2 ||| v8) (fun y9 => k21 y9 (x3 + 1) d)))
set_option maxRecDepth 20000 in
theorem b_X6_things_21 {K : Kx} {Y : Yx} {z : Sh}  (hC : CK K Y cX6_things 6 RX6 7 159) (hr : (kme K).sig.returnType = some .int) (hA : kA K = aY Y z) {p1 : Int32} (ho : (0, 0, 5) ∈ yI Y) {r : Int32} {d' : Dt} (hQ : kQ K = MQ (kb K) (QM Y z (some (.int r)) d') (ka K) (ks K) 0 0 (aY Y z)) {k21 : Int32 → Int32 → (Dt) → Option (Int32 × Dt)} (hk21 : ∀ (x2 : Int32) (x3 : Int32) (d : Dt), k21 x2 x3 d = some (r, d') → V K Y 6 0 0 z d 21 [(0, .ref (yo Y 0)), (1, .int p1), (2, .int x2), (3, .int x3)] []) (x2 : Int32) (x3 : Int32) (d : Dt) (hf : t_X6_things_21 z.1 p1 k21 x2 x3 d = some (r, d')) : V K Y 6 0 0 z d 21 [(0, .ref (yo Y 0)), (1, .int p1), (2, .int x2), (3, .int x3)] [] := by
  have hL := hC.2.2.2.2.2.2.1
  have hkn : 0 ≤ (kR K).cells ∧ 0 ≤ (kR K).slots := ⟨Nat.zero_le _, Nat.zero_le _⟩
  unfold t_X6_things_21 at hf
  refine V_iload_n 3 hC dX6_things_21 rfl rfl ?_
  refine V_aload_n 0 hC dX6_things_22 rfl rfl ?_
  refine V_geti (o := 0) hC ho rfl fk_X6_173 dX6_things_23 ?_
  refine V_icmp_ge (tgt := 47) hC dX6_things_26 (by decide) (fun c4 => ?_) (fun c4 => ?_)
  · have hf := if_t hf c4
    refine V_iload_n 1 hC dX6_things_47 rfl rfl ?_
    refine V_if_ne (tgt := 53) hC dX6_things_48 (by decide) (fun c5 => ?_) (fun c5 => ?_)
    · have hf := if_f hf c5
      refine V_iconst (v := 0) hC dX6_things_53 rfl ?_
      refine V_istore_n (lv' := [(3, .int 0), (0, .ref (yo Y 0)), (1, .int p1), (2, .int x2)]) hC dX6_things_54 rfl (by decide) rfl ?_
      refine V_aload_n 1 hC dX6_things_55 rfl rfl ?_
      obtain ⟨v6, ev6, hf⟩ := bi_some hf
      refine V_invi (o := 0) (As := []) (rest := []) hC (c_X6_hasWon hL ho ev6) me_X6_hasWon lk_X6_300 ho rfl rfl rfl (Nat.le_of_ble_eq_true rfl) ⟨by decide, by decide⟩ hkn dX6_things_56 ?_
      refine V_istore (lv' := [(4, .int v6), (3, .int 0), (0, .ref (yo Y 0)), (1, .int p1), (2, .int x2)]) hC dX6_things_59 (by decide) rfl ?_
      refine V_iconst (v := 0) hC dX6_things_61 rfl ?_
      refine V_istore (lv' := [(5, .int 0), (4, .int v6), (3, .int 0), (0, .ref (yo Y 0)), (1, .int p1), (2, .int x2)]) hC dX6_things_62 (by decide) rfl ?_
      exact V_sub [3, 2, 1, 0] rfl (lp_ind (X := Int32 × Int32 × Int32 × Dt) (P := fun x => V K Y 6 0 0 z x.2.2.2 64 [(0, .ref (yo Y 0)), (3, .int x.1), (4, .int x.2.1), (5, .int x.2.2.1)] []) (fun k x hk hx => b_X6_things_64 hC hr hA ho hQ  (k64 := fun x3 x4 x5 d => k (x3, x4, x5, d)) (fun x3 x4 x5 d hx => hk (x3, x4, x5, d) hx) x.1 x.2.1 x.2.2.1 x.2.2.2 hx) FU (0, v6, 0, d) hf)
    · have hf := if_t hf c5
      refine V_iload_n 2 hC dX6_things_51 rfl rfl ?_
      obtain ⟨rfl, rfl⟩ := so_inj2 hf
      exact V_iret hC hr hQ hA dX6_things_52
  · have hf := if_f hf c4
    refine V_iload_n 2 hC dX6_things_29 rfl rfl ?_
    refine V_aload_n 0 hC dX6_things_30 rfl rfl ?_
    refine V_geta (o := 0) hC ho rfl fk_X6_40 dX6_things_31 ?_
    refine V_iload_n 3 hC dX6_things_34 rfl rfl ?_
    obtain ⟨g7, hf⟩ := gd_some hf
    refine V_iald (a := (32 * 0 + 19)) hC (hL.row ho rfl) g7 dX6_things_35 ?_
    obtain ⟨v8, ev8, hf⟩ := bi_some hf
    refine V_insi (As := [.int (gA d (32 * 0 + 19) (ix x3))]) (rest := [.int x2]) hC (c_X6_thingsOf hL  ev8) me_X6_thingsOf lk_X6_197 rfl rfl (Nat.le_of_ble_eq_true rfl) ⟨by decide, by decide⟩ hkn dX6_things_36 ?_
    refine V_ior hC dX6_things_39 ?_
    refine V_topi (fun y9 ey9 => ?_)
    have hf := bd_e hf y9 ey9
    refine V_istore_n (lv' := [(2, .int y9), (0, .ref (yo Y 0)), (1, .int p1), (3, .int x3)]) hC dX6_things_40 rfl (by decide) rfl ?_
    refine V_iinc (v := x3 + 1) (lv' := [(3, .int (x3 + 1)), (2, .int y9), (0, .ref (yo Y 0)), (1, .int p1)]) 3 hC dX6_things_41 rfl rfl (by decide) rfl ?_
    refine V_goto (tgt := 21) hC dX6_things_44 (by decide) ?_
    exact V_sub [2, 3, 1, 0] rfl (hk21 y9 (x3 + 1) d hf)
def t_X6_things (L : Nat → Nat) (d : Dt) (p1 : Int32) : Option (Int32 × Dt) := (t_X6_in L d (p1.toInt64) 0 1).bind (fun v1 => if v1 = 0 then some ((-1000002), d) else (t_X6_spreadFromBeginning L d ).bind (fun d3 => lp (fun k x => t_X6_things_21 L p1  (fun x2 x3 d => k (x2, x3, d)) x.1 x.2.1 x.2.2) FU (0, 0, d3)))
set_option maxRecDepth 20000 in
theorem c_X6_things {l : Launch} {Y : Yx} (hL : LAY Y) {z : Sh} {d : Dt} {p1 : Int32} (ho : (0, 0, 5) ∈ yI Y) {r : Int32} {d' : Dt} (hf : t_X6_things z.1 d p1 = some (r, d')) : MM l yX6_things cX6_things 6 (some .int) 7 159 Y z [.ref (yo Y 0), .int p1] d (some (.int r)) d' := by
  refine MM.ofV (by decide +kernel) hL (Nat.le_of_ble_eq_true rfl) (fun K hl hC hr hQ hA => ?_)
  have hC : CK K Y cX6_things 6 RX6 7 159 := hC
  have hkn : 0 ≤ (kR K).cells ∧ 0 ≤ (kR K).slots := ⟨Nat.zero_le _, Nat.zero_le _⟩
  unfold t_X6_things at hf
  show V K Y 6 0 0 z d 0 [(0, .ref (yo Y 0)), (1, .int p1)] []
  refine V_iload_n 1 hC dX6_things_0 rfl rfl ?_
  refine V_i2l hC dX6_things_1 ?_
  refine V_lconst (v := 0) hC dX6_things_2 rfl ?_
  refine V_lconst (v := 1) hC dX6_things_3 rfl ?_
  obtain ⟨v1, ev1, hf⟩ := bi_some hf
  refine V_insi (As := [.long (p1.toInt64), .long 0, .long 1]) (rest := []) hC (c_X6_in hL  ev1) me_X6_in lk_X6_66 rfl rfl (Nat.le_of_ble_eq_true rfl) ⟨by decide, by decide⟩ hkn dX6_things_4 ?_
  refine V_if_ne (tgt := 13) hC dX6_things_7 (by decide) (fun c2 => ?_) (fun c2 => ?_)
  · have hf := if_f hf c2
    refine V_aload_n 0 hC dX6_things_13 rfl rfl ?_
    obtain ⟨d3, ed3, hf⟩ := bi_some hf
    refine V_invv (o := 0) (As := []) (rest := []) hC (c_X6_spreadFromBeginning hL ho ed3) me_X6_spreadFromBeginning lk_X6_170 ho rfl rfl rfl (Nat.le_of_ble_eq_true rfl) ⟨by decide, by decide⟩ hkn dX6_things_14 ?_
    refine V_iconst (v := 0) hC dX6_things_17 rfl ?_
    refine V_istore_n (lv' := [(2, .int 0), (0, .ref (yo Y 0)), (1, .int p1)]) hC dX6_things_18 rfl (by decide) rfl ?_
    refine V_iconst (v := 0) hC dX6_things_19 rfl ?_
    refine V_istore_n (lv' := [(3, .int 0), (2, .int 0), (0, .ref (yo Y 0)), (1, .int p1)]) hC dX6_things_20 rfl (by decide) rfl ?_
    exact V_sub [2, 3, 1, 0] rfl (lp_ind (X := Int32 × Int32 × Dt) (P := fun x => V K Y 6 0 0 z x.2.2 21 [(0, .ref (yo Y 0)), (1, .int p1), (2, .int x.1), (3, .int x.2.1)] []) (fun k x hk hx => b_X6_things_21 hC hr hA ho hQ  (k21 := fun x2 x3 d => k (x2, x3, d)) (fun x2 x3 d hx => hk (x2, x3, d) hx) x.1 x.2.1 x.2.2 hx) FU (0, 0, d3) hf)
  · have hf := if_t hf c2
    refine V_ldc hC ck_X6_70 dX6_things_10 ?_
    obtain ⟨rfl, rfl⟩ := so_inj2 hf
    exact V_iret hC hr hQ hA dX6_things_12
