/-! ===== ChoiceBook, what makes nothing: lifted and met ===== -/
theorem ck_J6_265 : Cond.constant RJ6 265 (1431655765) ∈ gt := gt_t 858 (by decide +kernel) rfl
theorem ck_J6_266 : Cond.constant RJ6 266 (858993459) ∈ gt := gt_t 859 (by decide +kernel) rfl
theorem ck_J6_267 : Cond.constant RJ6 267 (252645135) ∈ gt := gt_t 860 (by decide +kernel) rfl
theorem ck_X5_63 : Cond.constant RX5 63 (-1000002) ∈ gt := gt_t 273 (by decide +kernel) rfl
theorem fk_X5_10 : FLK RX5 10 4 0 RX5 TX5 11 := ⟨rfl, uw_X5, by decide, rfl, gt_t 235 (by decide +kernel) rfl⟩
theorem fk_X5_64 : FLK RX5 64 1 1 RX1 TX1 10 := ⟨rfl, uw_X1, by decide, rfl, gt_t 98 (by decide +kernel) rfl⟩
theorem ck_X5_67 : Cond.constant RX5 67 (-1000004) ∈ gt := gt_t 274 (by decide +kernel) rfl
theorem lk_X5_68 : Cond.methodLink RX5 68 yX1_append ∈ gt := gt_t 275 (by decide +kernel) rfl
theorem me_X1_append : MEV RX1 yX1_append cX1_append 2 none 1 := ⟨⟨gt_t 278 (by decide +kernel) rfl, gt_t 2 (by decide +kernel) rfl, by decide +kernel⟩, gt_t 276 (by decide +kernel) rfl, gt_t 277 (by decide +kernel) rfl⟩
theorem lk_X5_72 : Cond.methodLink RX5 72 yX1_parse ∈ gt := gt_t 283 (by decide +kernel) rfl
theorem me_X1_parse : MEV RX1 yX1_parse cX1_parse 2 (some .int) 0 := ⟨⟨gt_t 286 (by decide +kernel) rfl, gt_t 2 (by decide +kernel) rfl, by decide +kernel⟩, gt_t 284 (by decide +kernel) rfl, gt_t 285 (by decide +kernel) rfl⟩
theorem fk_X5_45 : FLK RX5 45 4 1 RX5 TX5 11 := ⟨rfl, uw_X5, by decide, rfl, gt_t 236 (by decide +kernel) rfl⟩
theorem fk_X5_76 : FLK RX5 76 1 0 RX1 TX1 10 := ⟨rfl, uw_X1, by decide, rfl, gt_t 96 (by decide +kernel) rfl⟩
theorem lk_X5_80 : Cond.methodLink RX5 80 yX2_openBook ∈ gt := gt_t 428 (by decide +kernel) rfl
theorem me_X2_openBook : MEV RX2 yX2_openBook cX2_openBook 3 none 1 := ⟨⟨gt_t 431 (by decide +kernel) rfl, gt_t 4 (by decide +kernel) rfl, by decide +kernel⟩, gt_t 429 (by decide +kernel) rfl, gt_t 430 (by decide +kernel) rfl⟩
theorem fk_X5_20 : FLK RX5 20 4 4 RX5 TX5 11 := ⟨rfl, uw_X5, by decide, rfl, gt_t 239 (by decide +kernel) rfl⟩
theorem fk_X5_24 : FLK RX5 24 4 7 RX5 TX5 11 := ⟨rfl, uw_X5, by decide, rfl, gt_t 242 (by decide +kernel) rfl⟩
theorem fk_X5_83 : FLK RX5 83 2 0 RX2 TX2 9 := ⟨rfl, uw_X2, by decide, rfl, gt_t 139 (by decide +kernel) rfl⟩
theorem fk_X5_86 : FLK RX5 86 0 0 RX0 TX0 13 := ⟨rfl, uw_X0, by decide, rfl, gt_t 37 (by decide +kernel) rfl⟩
theorem fk_X5_89 : FLK RX5 89 1 2 RX1 TX1 10 := ⟨rfl, uw_X1, by decide, rfl, gt_t 100 (by decide +kernel) rfl⟩
theorem lk_X5_92 : Cond.methodLink RX5 92 yX0_hasPart ∈ gt := gt_t 447 (by decide +kernel) rfl
theorem fk_X5_97 : FLK RX5 97 0 2 RX0 TX0 13 := ⟨rfl, uw_X0, by decide, rfl, gt_t 44 (by decide +kernel) rfl⟩
theorem ck_X5_96 : Cond.constant RX5 96 (-1000001) ∈ gt := gt_t 448 (by decide +kernel) rfl
theorem fk_X5_100 : FLK RX5 100 0 6 RX0 TX0 13 := ⟨rfl, uw_X0, by decide, rfl, gt_t 54 (by decide +kernel) rfl⟩
theorem fk_X5_103 : FLK RX5 103 0 9 RX0 TX0 13 := ⟨rfl, uw_X0, by decide, rfl, gt_t 60 (by decide +kernel) rfl⟩
theorem lk_X5_106 : Cond.methodLink RX5 106 yX0_lines ∈ gt := gt_t 449 (by decide +kernel) rfl
theorem fk_X5_110 : FLK RX5 110 0 3 RX0 TX0 13 := ⟨rfl, uw_X0, by decide, rfl, gt_t 47 (by decide +kernel) rfl⟩
theorem fk_X5_113 : FLK RX5 113 0 4 RX0 TX0 13 := ⟨rfl, uw_X0, by decide, rfl, gt_t 50 (by decide +kernel) rfl⟩
theorem fk_X5_116 : FLK RX5 116 0 5 RX0 TX0 13 := ⟨rfl, uw_X0, by decide, rfl, gt_t 52 (by decide +kernel) rfl⟩
theorem lk_X5_119 : Cond.methodLink RX5 119 yX0_hasEffect ∈ gt := gt_t 457 (by decide +kernel) rfl
theorem me_X0_hasEffect : MEV RX0 yX0_hasEffect cX0_hasEffect 3 (some .boolean) 2 := ⟨⟨gt_t 460 (by decide +kernel) rfl, gt_t 3 (by decide +kernel) rfl, by decide +kernel⟩, gt_t 458 (by decide +kernel) rfl, gt_t 459 (by decide +kernel) rfl⟩
theorem fk_X5_126 : FLK RX5 126 0 8 RX0 TX0 13 := ⟨rfl, uw_X0, by decide, rfl, gt_t 58 (by decide +kernel) rfl⟩
theorem fk_X5_123 : FLK RX5 123 0 7 RX0 TX0 13 := ⟨rfl, uw_X0, by decide, rfl, gt_t 56 (by decide +kernel) rfl⟩
theorem lk_X5_129 : Cond.methodLink RX5 129 yX0_hasChoice ∈ gt := gt_t 465 (by decide +kernel) rfl
theorem fk_X5_138 : FLK RX5 138 0 12 RX0 TX0 13 := ⟨rfl, uw_X0, by decide, rfl, gt_t 66 (by decide +kernel) rfl⟩
theorem fk_X5_135 : FLK RX5 135 0 11 RX0 TX0 13 := ⟨rfl, uw_X0, by decide, rfl, gt_t 64 (by decide +kernel) rfl⟩
theorem fk_X5_132 : FLK RX5 132 0 10 RX0 TX0 13 := ⟨rfl, uw_X0, by decide, rfl, gt_t 62 (by decide +kernel) rfl⟩
theorem lk_X5_256 : Cond.methodLink RX5 256 yX5_isThing ∈ gt := gt_t 476 (by decide +kernel) rfl
theorem me_X5_isThing : MES yX5_isThing cX5_isThing 1 (some .boolean) 1 := ⟨⟨gt_t 478 (by decide +kernel) rfl, gt_t 1 (by decide +kernel) rfl, by decide +kernel⟩, gt_t 477 (by decide +kernel) rfl⟩
theorem lk_X5_141 : Cond.methodLink RX5 141 yX5_isThingOrNone ∈ gt := gt_t 473 (by decide +kernel) rfl
theorem me_X5_isThingOrNone : MES yX5_isThingOrNone cX5_isThingOrNone 1 (some .boolean) 1 := ⟨⟨gt_t 475 (by decide +kernel) rfl, gt_t 1 (by decide +kernel) rfl, by decide +kernel⟩, gt_t 474 (by decide +kernel) rfl⟩
theorem lk_X5_145 : Cond.methodLink RX5 145 yX0_addChoice ∈ gt := gt_t 480 (by decide +kernel) rfl
theorem ck_X5_144 : Cond.constant RX5 144 (-1000003) ∈ gt := gt_t 479 (by decide +kernel) rfl
theorem lk_X5_149 : Cond.methodLink RX5 149 yX0_strikeChoice ∈ gt := gt_t 485 (by decide +kernel) rfl
theorem me_X0_strikeChoice : MEV RX0 yX0_strikeChoice cX0_strikeChoice 5 none 2 := ⟨⟨gt_t 488 (by decide +kernel) rfl, gt_t 3 (by decide +kernel) rfl, by decide +kernel⟩, gt_t 486 (by decide +kernel) rfl, gt_t 487 (by decide +kernel) rfl⟩
theorem lk_X5_166 : Cond.methodLink RX5 166 yX2_beginReading ∈ gt := gt_t 602 (by decide +kernel) rfl
theorem me_X2_beginReading : MEV RX2 yX2_beginReading cX2_beginReading 1 none 0 := ⟨⟨gt_t 605 (by decide +kernel) rfl, gt_t 4 (by decide +kernel) rfl, by decide +kernel⟩, gt_t 603 (by decide +kernel) rfl, gt_t 604 (by decide +kernel) rfl⟩
theorem lk_X5_169 : Cond.methodLink RX5 169 yX2_standing ∈ gt := gt_t 610 (by decide +kernel) rfl
theorem me_X2_standing : MEV RX2 yX2_standing cX2_standing 1 (some .int) 0 := ⟨⟨gt_t 613 (by decide +kernel) rfl, gt_t 4 (by decide +kernel) rfl, by decide +kernel⟩, gt_t 611 (by decide +kernel) rfl, gt_t 612 (by decide +kernel) rfl⟩
theorem fk_X5_172 : FLK RX5 172 2 3 RX2 TX2 9 := ⟨rfl, uw_X2, by decide, rfl, gt_t 145 (by decide +kernel) rfl⟩
theorem fk_X5_175 : FLK RX5 175 2 4 RX2 TX2 9 := ⟨rfl, uw_X2, by decide, rfl, gt_t 147 (by decide +kernel) rfl⟩
theorem lk_X5_178 : Cond.methodLink RX5 178 yX3_partOf ∈ gt := gt_t 627 (by decide +kernel) rfl
theorem lk_X5_183 : Cond.methodLink RX5 183 yX0_isOpen ∈ gt := gt_t 628 (by decide +kernel) rfl
theorem lk_X5_186 : Cond.methodLink RX5 186 yX0_wayOut ∈ gt := gt_t 629 (by decide +kernel) rfl
theorem lk_X5_190 : Cond.methodLink RX5 190 yX2_turnTo ∈ gt := gt_t 630 (by decide +kernel) rfl
theorem me_X2_turnTo : MEV RX2 yX2_turnTo cX2_turnTo 3 none 1 := ⟨⟨gt_t 633 (by decide +kernel) rfl, gt_t 4 (by decide +kernel) rfl, by decide +kernel⟩, gt_t 631 (by decide +kernel) rfl, gt_t 632 (by decide +kernel) rfl⟩
theorem lk_X5_194 : Cond.methodLink RX5 194 yX3_isOver ∈ gt := gt_t 641 (by decide +kernel) rfl
theorem lk_X5_197 : Cond.methodLink RX5 197 yX0_isRoll ∈ gt := gt_t 642 (by decide +kernel) rfl
theorem lk_X5_200 : Cond.methodLink RX5 200 yX2_draw ∈ gt := gt_t 643 (by decide +kernel) rfl
theorem me_X2_draw : MEV RX2 yX2_draw cX2_draw 2 (some .int) 1 := ⟨⟨gt_t 646 (by decide +kernel) rfl, gt_t 4 (by decide +kernel) rfl, by decide +kernel⟩, gt_t 644 (by decide +kernel) rfl, gt_t 645 (by decide +kernel) rfl⟩
theorem lk_X5_203 : Cond.methodLink RX5 203 yX0_rollTarget ∈ gt := gt_t 651 (by decide +kernel) rfl
theorem me_X0_rollTarget : MEV RX0 yX0_rollTarget cX0_rollTarget 3 (some .int) 2 := ⟨⟨gt_t 654 (by decide +kernel) rfl, gt_t 3 (by decide +kernel) rfl, by decide +kernel⟩, gt_t 652 (by decide +kernel) rfl, gt_t 653 (by decide +kernel) rfl⟩
theorem lk_X5_206 : Cond.methodLink RX5 206 yX3_thingsOf ∈ gt := gt_t 659 (by decide +kernel) rfl
theorem lk_X5_209 : Cond.methodLink RX5 209 yX3_healthOf ∈ gt := gt_t 660 (by decide +kernel) rfl
theorem fk_X5_212 : FLK RX5 212 2 5 RX2 TX2 9 := ⟨rfl, uw_X2, by decide, rfl, gt_t 149 (by decide +kernel) rfl⟩
theorem lk_X5_215 : Cond.methodLink RX5 215 yX0_openChoices ∈ gt := gt_t 661 (by decide +kernel) rfl
theorem fk_X5_16 : FLK RX5 16 4 3 RX5 TX5 11 := ⟨rfl, uw_X5, by decide, rfl, gt_t 238 (by decide +kernel) rfl⟩
theorem lk_X5_263 : Cond.methodLink RX5 263 yX0_beginning ∈ gt := gt_t 770 (by decide +kernel) rfl
theorem lk_X5_269 : Cond.methodLink RX5 269 yX0_canGo ∈ gt := gt_t 783 (by decide +kernel) rfl
theorem me_X0_canGo : MEV RX0 yX0_canGo cX0_canGo 5 (some .boolean) 2 := ⟨⟨gt_t 786 (by decide +kernel) rfl, gt_t 3 (by decide +kernel) rfl, by decide +kernel⟩, gt_t 784 (by decide +kernel) rfl, gt_t 785 (by decide +kernel) rfl⟩
theorem lk_X5_272 : Cond.methodLink RX5 272 yX0_goOn ∈ gt := gt_t 712 (by decide +kernel) rfl
theorem fk_X5_276 : FLK RX5 276 2 1 RX2 TX2 9 := ⟨rfl, uw_X2, by decide, rfl, gt_t 141 (by decide +kernel) rfl⟩
theorem mm_X5_323 : MML RX5 323 Lib.Math.abs.name Lib.Math.abs.code 1 := ⟨gt_t 809 (by decide +kernel) rfl, gt_t 810 (by decide +kernel) rfl, gt_t 13 (by decide +kernel) rfl, gt_t 811 (by decide +kernel) rfl⟩
theorem fk_X5_28 : FLK RX5 28 4 8 RX5 TX5 11 := ⟨rfl, uw_X5, by decide, rfl, gt_t 243 (by decide +kernel) rfl⟩
theorem lk_X5_279 : Cond.methodLink RX5 279 yX0_findLinks ∈ gt := gt_t 797 (by decide +kernel) rfl
theorem me_X0_findLinks : MEV RX0 yX0_findLinks cX0_findLinks 4 none 1 := ⟨⟨gt_t 800 (by decide +kernel) rfl, gt_t 3 (by decide +kernel) rfl, by decide +kernel⟩, gt_t 798 (by decide +kernel) rfl, gt_t 799 (by decide +kernel) rfl⟩
theorem lk_X5_283 : Cond.methodLink RX5 283 yX5_nearPairs ∈ gt := gt_t 806 (by decide +kernel) rfl
theorem me_X5_nearPairs : MES yX5_nearPairs cX5_nearPairs 6 (some .int) 3 := ⟨⟨gt_t 808 (by decide +kernel) rfl, gt_t 1 (by decide +kernel) rfl, by decide +kernel⟩, gt_t 807 (by decide +kernel) rfl⟩
theorem fk_X5_31 : FLK RX5 31 4 9 RX5 TX5 11 := ⟨rfl, uw_X5, by decide, rfl, gt_t 244 (by decide +kernel) rfl⟩
theorem ac_X5_287 : ACL RX5 287 := ⟨gt_t 816 (by decide +kernel) rfl, gt_t 438 (by decide +kernel) rfl, gt_t 437 (by decide +kernel) rfl, gt_t 11 (by decide +kernel) rfl⟩
theorem lk_X5_293 : Cond.methodLink RX5 293 yX5_mixTriedNumbers ∈ gt := gt_t 817 (by decide +kernel) rfl
theorem me_X5_mixTriedNumbers : MEV RX5 yX5_mixTriedNumbers cX5_mixTriedNumbers 4 none 0 := ⟨⟨gt_t 820 (by decide +kernel) rfl, gt_t 1 (by decide +kernel) rfl, by decide +kernel⟩, gt_t 819 (by decide +kernel) rfl, gt_s (q := (yX5_mixTriedNumbers, 11)) 30 (by decide +kernel)⟩
theorem fk_X5_34 : FLK RX5 34 4 10 RX5 TX5 11 := ⟨rfl, uw_X5, by decide, rfl, gt_t 245 (by decide +kernel) rfl⟩
theorem lk_X5_296 : Cond.methodLink RX5 296 yX2_layPages ∈ gt := gt_t 825 (by decide +kernel) rfl
theorem me_X2_layPages : MEV RX2 yX2_layPages cX2_layPages 8 none 2 := ⟨⟨gt_t 828 (by decide +kernel) rfl, gt_t 4 (by decide +kernel) rfl, by decide +kernel⟩, gt_t 826 (by decide +kernel) rfl, gt_t 827 (by decide +kernel) rfl⟩
theorem lk_X5_300 : Cond.methodLink RX5 300 yX2_flipsOver ∈ gt := gt_t 834 (by decide +kernel) rfl
theorem me_X2_flipsOver : MEV RX2 yX2_flipsOver cX2_flipsOver 5 (some .int) 1 := ⟨⟨gt_t 837 (by decide +kernel) rfl, gt_t 4 (by decide +kernel) rfl, by decide +kernel⟩, gt_t 835 (by decide +kernel) rfl, gt_t 836 (by decide +kernel) rfl⟩
theorem fk_X5_304 : FLK RX5 304 2 2 RX2 TX2 9 := ⟨rfl, uw_X2, by decide, rfl, gt_t 143 (by decide +kernel) rfl⟩
theorem lk_X5_331 : Cond.methodLink RX5 331 yJ6_bitCount_0f7a4 ∈ gt := gt_t 855 (by decide +kernel) rfl
theorem me_J6_bitCount_0f7a4 : MES yJ6_bitCount_0f7a4 cJ6_bitCount_0f7a4 1 (some .int) 1 := ⟨⟨gt_t 857 (by decide +kernel) rfl, gt_t 15 (by decide +kernel) rfl, by decide +kernel⟩, gt_t 856 (by decide +kernel) rfl⟩
theorem lk_X5_336 : Cond.methodLink RX5 336 yX5_nthOf ∈ gt := gt_t 861 (by decide +kernel) rfl
theorem me_X5_nthOf : MES yX5_nthOf cX5_nthOf 4 (some .int) 2 := ⟨⟨gt_t 863 (by decide +kernel) rfl, gt_t 1 (by decide +kernel) rfl, by decide +kernel⟩, gt_t 862 (by decide +kernel) rfl⟩
theorem lk_X5_328 : Cond.methodLink RX5 328 yX5_blindWay ∈ gt := gt_t 851 (by decide +kernel) rfl
theorem me_X5_blindWay : MEV RX5 yX5_blindWay cX5_blindWay 4 (some .int) 1 := ⟨⟨gt_t 854 (by decide +kernel) rfl, gt_t 1 (by decide +kernel) rfl, by decide +kernel⟩, gt_t 853 (by decide +kernel) rfl, gt_s (q := (yX5_blindWay, 11)) 32 (by decide +kernel)⟩
theorem lk_X5_307 : Cond.methodLink RX5 307 yX5_blindEnd ∈ gt := gt_t 847 (by decide +kernel) rfl
theorem me_X5_blindEnd : MEV RX5 yX5_blindEnd cX5_blindEnd 4 (some .int) 0 := ⟨⟨gt_t 850 (by decide +kernel) rfl, gt_t 1 (by decide +kernel) rfl, by decide +kernel⟩, gt_t 849 (by decide +kernel) rfl, gt_s (q := (yX5_blindEnd, 11)) 31 (by decide +kernel)⟩
theorem lk_X5_310 : Cond.methodLink RX5 310 yX3_fateOf ∈ gt := gt_t 864 (by decide +kernel) rfl
theorem fk_X5_59 : FLK RX5 59 4 2 RX5 TX5 11 := ⟨rfl, uw_X5, by decide, rfl, gt_t 237 (by decide +kernel) rfl⟩
theorem lk_X5_313 : Cond.methodLink RX5 313 yX2_copyFrom ∈ gt := gt_t 869 (by decide +kernel) rfl
theorem me_X2_copyFrom : MEV RX2 yX2_copyFrom cX2_copyFrom 2 none 1 := ⟨⟨gt_t 872 (by decide +kernel) rfl, gt_t 4 (by decide +kernel) rfl, by decide +kernel⟩, gt_t 870 (by decide +kernel) rfl, gt_t 871 (by decide +kernel) rfl⟩
theorem fk_X5_317 : FLK RX5 317 2 6 RX2 TX2 9 := ⟨rfl, uw_X2, by decide, rfl, gt_t 151 (by decide +kernel) rfl⟩
theorem lk_X5_266 : Cond.methodLink RX5 266 yX4_find ∈ gt := gt_t 713 (by decide +kernel) rfl
theorem me_X4_find : MEV RX4 yX4_find cX4_find 3 (some .int) 1 := ⟨⟨gt_t 539 (by decide +kernel) rfl, gt_t 5 (by decide +kernel) rfl, by decide +kernel⟩, gt_t 537 (by decide +kernel) rfl, gt_t 538 (by decide +kernel) rfl⟩
theorem lk_X5_224 : Cond.methodLink RX5 224 yX4_oddsOf ∈ gt := gt_t 703 (by decide +kernel) rfl
def t_J6_bitCount_0f7a4 (L : Nat → Nat) (d : Dt) (p0 : Int32) : Option (Int32) := bd (p0 - (((p0.toUInt32 >>> ((1 : Int32).toUInt32 &&& Int32.toUInt32 31)).toInt32) &&& 1431655765)) (fun y1 => bd ((y1 &&& 858993459) + (((y1.toUInt32 >>> ((2 : Int32).toUInt32 &&& Int32.toUInt32 31)).toInt32) &&& 858993459)) (fun y2 => bd ((y2 + ((y2.toUInt32 >>> ((4 : Int32).toUInt32 &&& Int32.toUInt32 31)).toInt32)) &&& 252645135) (fun y3 => bd (y3 + ((y3.toUInt32 >>> ((8 : Int32).toUInt32 &&& Int32.toUInt32 31)).toInt32)) (fun y4 => bd (y4 + ((y4.toUInt32 >>> ((16 : Int32).toUInt32 &&& Int32.toUInt32 31)).toInt32)) (fun y5 => some (y5 &&& 63))))))
set_option maxRecDepth 20000 in
theorem c_J6_bitCount_0f7a4 {l : Launch} {Y : Yx} (hL : LAY Y) {z : Sh} {d : Dt} {p0 : Int32}  {r : Int32} (hf : t_J6_bitCount_0f7a4 z.1 d p0 = some r) : MM l yJ6_bitCount_0f7a4 cJ6_bitCount_0f7a4 1 (some .int) 0 0 Y z [.int p0] d (some (.int r)) d := by
  refine MM.ofV (by decide +kernel) hL (Nat.le_of_ble_eq_true rfl) (fun K hl hC hr hQ hA => ?_)
  have hC : CK K Y cJ6_bitCount_0f7a4 1 RJ6 0 0 := hC
  unfold t_J6_bitCount_0f7a4 at hf
  show V K Y 1 0 0 z d 0 [(0, .int p0)] []
  refine V_iload_n 0 hC dJ6_bitCount_0f7a4_0 rfl rfl ?_
  refine V_iload_n 0 hC dJ6_bitCount_0f7a4_1 rfl rfl ?_
  refine V_iconst (v := 1) hC dJ6_bitCount_0f7a4_2 rfl ?_
  refine V_iushr hC dJ6_bitCount_0f7a4_3 ?_
  refine V_ldcw hC ck_J6_265 dJ6_bitCount_0f7a4_4 ?_
  refine V_iand hC dJ6_bitCount_0f7a4_7 ?_
  refine V_isub hC dJ6_bitCount_0f7a4_8 ?_
  refine V_topi (fun y1 ey1 => ?_)
  have hf := bd_e hf y1 ey1
  refine V_istore_n (lv' := [(0, .int y1)]) hC dJ6_bitCount_0f7a4_9 rfl (by decide) rfl ?_
  refine V_iload_n 0 hC dJ6_bitCount_0f7a4_10 rfl rfl ?_
  refine V_ldcw hC ck_J6_266 dJ6_bitCount_0f7a4_11 ?_
  refine V_iand hC dJ6_bitCount_0f7a4_14 ?_
  refine V_iload_n 0 hC dJ6_bitCount_0f7a4_15 rfl rfl ?_
  refine V_iconst (v := 2) hC dJ6_bitCount_0f7a4_16 rfl ?_
  refine V_iushr hC dJ6_bitCount_0f7a4_17 ?_
  refine V_ldcw hC ck_J6_266 dJ6_bitCount_0f7a4_18 ?_
  refine V_iand hC dJ6_bitCount_0f7a4_21 ?_
  refine V_iadd hC dJ6_bitCount_0f7a4_22 ?_
  refine V_topi (fun y2 ey2 => ?_)
  have hf := bd_e hf y2 ey2
  refine V_istore_n (lv' := [(0, .int y2)]) hC dJ6_bitCount_0f7a4_23 rfl (by decide) rfl ?_
  refine V_iload_n 0 hC dJ6_bitCount_0f7a4_24 rfl rfl ?_
  refine V_iload_n 0 hC dJ6_bitCount_0f7a4_25 rfl rfl ?_
  refine V_iconst (v := 4) hC dJ6_bitCount_0f7a4_26 rfl ?_
  refine V_iushr hC dJ6_bitCount_0f7a4_27 ?_
  refine V_iadd hC dJ6_bitCount_0f7a4_28 ?_
  refine V_ldcw hC ck_J6_267 dJ6_bitCount_0f7a4_29 ?_
  refine V_iand hC dJ6_bitCount_0f7a4_32 ?_
  refine V_topi (fun y3 ey3 => ?_)
  have hf := bd_e hf y3 ey3
  refine V_istore_n (lv' := [(0, .int y3)]) hC dJ6_bitCount_0f7a4_33 rfl (by decide) rfl ?_
  refine V_iload_n 0 hC dJ6_bitCount_0f7a4_34 rfl rfl ?_
  refine V_iload_n 0 hC dJ6_bitCount_0f7a4_35 rfl rfl ?_
  refine V_bipush (v := 8) hC dJ6_bitCount_0f7a4_36 rfl ?_
  refine V_iushr hC dJ6_bitCount_0f7a4_38 ?_
  refine V_iadd hC dJ6_bitCount_0f7a4_39 ?_
  refine V_topi (fun y4 ey4 => ?_)
  have hf := bd_e hf y4 ey4
  refine V_istore_n (lv' := [(0, .int y4)]) hC dJ6_bitCount_0f7a4_40 rfl (by decide) rfl ?_
  refine V_iload_n 0 hC dJ6_bitCount_0f7a4_41 rfl rfl ?_
  refine V_iload_n 0 hC dJ6_bitCount_0f7a4_42 rfl rfl ?_
  refine V_bipush (v := 16) hC dJ6_bitCount_0f7a4_43 rfl ?_
  refine V_iushr hC dJ6_bitCount_0f7a4_45 ?_
  refine V_iadd hC dJ6_bitCount_0f7a4_46 ?_
  refine V_topi (fun y5 ey5 => ?_)
  have hf := bd_e hf y5 ey5
  refine V_istore_n (lv' := [(0, .int y5)]) hC dJ6_bitCount_0f7a4_47 rfl (by decide) rfl ?_
  refine V_iload_n 0 hC dJ6_bitCount_0f7a4_48 rfl rfl ?_
  refine V_bipush (v := 63) hC dJ6_bitCount_0f7a4_49 rfl ?_
  refine V_iand hC dJ6_bitCount_0f7a4_51 ?_
  obtain rfl := so_inj hf
  exact V_iret hC hr hQ hA dJ6_bitCount_0f7a4_52
def t_X5_feed_37 (L : Nat → Nat) (p1 : Int32) (p2 : Int64) (k37 : Int32 → (Dt) → Option (Int32 × Dt)) (x4 : Int32) (d : Dt) : Option (Int32 × Dt) := if x4 < 0 then some (gF d 1 1, d) else (t_X1_append L d ((((p2.toUInt64 >>> ((8 * x4 : Int32).toInt64.toUInt64 &&& Int64.toUInt64 63)).toInt64 : Int64).toInt32 : Int32).toInt8.toInt32)).bind (fun d6 => k37 (x4 + (-1)) d6)
set_option maxRecDepth 20000 in
theorem b_X5_feed_37 {K : Kx} {Y : Yx} {z : Sh}  (hC : CK K Y cX5_feed 5 RX5 1 21) (hr : (kme K).sig.returnType = some .int) (hA : kA K = aY Y z) {p1 : Int32} {p2 : Int64} (ho : (0, 0, 4) ∈ yI Y) {r : Int32} {d' : Dt} (hQ : kQ K = MQ (kb K) (QM Y z (some (.int r)) d') (ka K) (ks K) 0 0 (aY Y z)) {k37 : Int32 → (Dt) → Option (Int32 × Dt)} (hk37 : ∀ (x4 : Int32) (d : Dt), k37 x4 d = some (r, d') → V K Y 5 0 0 z d 37 [(0, .ref (yo Y 0)), (2, .long p2), (4, .int x4)] []) (x4 : Int32) (d : Dt) (hf : t_X5_feed_37 z.1 p1 p2 k37 x4 d = some (r, d')) : V K Y 5 0 0 z d 37 [(0, .ref (yo Y 0)), (2, .long p2), (4, .int x4)] [] := by
  have hL := hC.2.2.2.2.2.2.1
  have hkn : 0 ≤ (kR K).cells ∧ 0 ≤ (kR K).slots := ⟨Nat.zero_le _, Nat.zero_le _⟩
  unfold t_X5_feed_37 at hf
  refine V_iload 2 hC dX5_feed_37 rfl ?_
  refine V_if_lt (tgt := 64) hC dX5_feed_39 (by decide) (fun c5 => ?_) (fun c5 => ?_)
  · have hf := if_t hf c5
    refine V_aload_n 0 hC dX5_feed_64 rfl rfl ?_
    refine V_geto (o := 0) (o2 := 1) hC ho rfl fk_X5_10 rfl dX5_feed_65 ?_
    refine V_geti (o := 1) hC (show (0, 1, 1) ∈ yI Y from hL.obj (j := 0) ho rfl) rfl fk_X5_64 dX5_feed_68 ?_
    obtain ⟨rfl, rfl⟩ := so_inj2 hf
    exact V_iret hC hr hQ hA dX5_feed_71
  · have hf := if_f hf c5
    refine V_aload_n 0 hC dX5_feed_42 rfl rfl ?_
    refine V_geto (o := 0) (o2 := 1) hC ho rfl fk_X5_10 rfl dX5_feed_43 ?_
    refine V_lload_n 1 hC dX5_feed_46 rfl rfl ?_
    refine V_bipush (v := 8) hC dX5_feed_47 rfl ?_
    refine V_iload 2 hC dX5_feed_49 rfl ?_
    refine V_imul hC dX5_feed_51 ?_
    refine V_lushr hC dX5_feed_52 ?_
    refine V_l2i hC dX5_feed_53 ?_
    refine V_i2b hC dX5_feed_54 ?_
    obtain ⟨d6, ed6, hf⟩ := bi_some hf
    refine V_invv (o := 1) (As := [.int ((((p2.toUInt64 >>> ((8 * x4 : Int32).toInt64.toUInt64 &&& Int64.toUInt64 63)).toInt64 : Int64).toInt32 : Int32).toInt8.toInt32)]) (rest := []) hC (c_X1_append hL (show (0, 1, 1) ∈ yI Y from hL.obj (j := 0) ho rfl) ed6) me_X1_append lk_X5_68 (show (0, 1, 1) ∈ yI Y from hL.obj (j := 0) ho rfl) rfl rfl rfl (Nat.le_of_ble_eq_true rfl) ⟨by decide, by decide⟩ hkn dX5_feed_55 ?_
    refine V_iinc (v := x4 + (-1)) (lv' := [(4, .int (x4 + (-1))), (0, .ref (yo Y 0)), (2, .long p2)]) 2 hC dX5_feed_58 rfl rfl (by decide) rfl ?_
    refine V_goto (tgt := 37) hC dX5_feed_61 (by decide) ?_
    exact V_sub [1, 2, 0] rfl (hk37 (x4 + (-1)) d6 hf)
def t_X5_feed (L : Nat → Nat) (d : Dt) (p1 : Int32) (p2 : Int64) : Option (Int32 × Dt) := if p1 < 1 then some ((-1000002), d) else if p1 ≤ 8 then if p1 ≤ (600 - (gF d 1 1)) then bd (p1 - 1) (fun y4 => lp (fun k x => t_X5_feed_37 L p1 p2  (fun x4 d => k (x4, d)) x.1 x.2) FU (y4, d)) else some ((-1000004), d) else some ((-1000002), d)
set_option maxRecDepth 20000 in
theorem c_X5_feed {l : Launch} {Y : Yx} (hL : LAY Y) {z : Sh} {d : Dt} {p1 : Int32} {p2 : Int64} (ho : (0, 0, 4) ∈ yI Y) {r : Int32} {d' : Dt} (hf : t_X5_feed z.1 d p1 p2 = some (r, d')) : MM l yX5_feed cX5_feed 5 (some .int) 1 21 Y z [.ref (yo Y 0), .int p1, .long p2] d (some (.int r)) d' := by
  refine MM.ofV (by decide +kernel) hL (Nat.le_of_ble_eq_true rfl) (fun K hl hC hr hQ hA => ?_)
  have hC : CK K Y cX5_feed 5 RX5 1 21 := hC
  unfold t_X5_feed at hf
  show V K Y 5 0 0 z d 0 [(0, .ref (yo Y 0)), (1, .int p1), (2, .long p2)] []
  refine V_iload_n 1 hC dX5_feed_0 rfl rfl ?_
  refine V_iconst (v := 1) hC dX5_feed_1 rfl ?_
  refine V_icmp_lt (tgt := 11) hC dX5_feed_2 (by decide) (fun c1 => ?_) (fun c1 => ?_)
  · have hf := if_t hf c1
    refine V_ldc hC ck_X5_63 dX5_feed_11 ?_
    obtain ⟨rfl, rfl⟩ := so_inj2 hf
    exact V_iret hC hr hQ hA dX5_feed_13
  · have hf := if_f hf c1
    refine V_iload_n 1 hC dX5_feed_5 rfl rfl ?_
    refine V_bipush (v := 8) hC dX5_feed_6 rfl ?_
    refine V_icmp_le (tgt := 14) hC dX5_feed_8 (by decide) (fun c2 => ?_) (fun c2 => ?_)
    · have hf := if_t hf c2
      refine V_iload_n 1 hC dX5_feed_14 rfl rfl ?_
      refine V_sipush (v := 600) hC dX5_feed_15 rfl ?_
      refine V_aload_n 0 hC dX5_feed_18 rfl rfl ?_
      refine V_geto (o := 0) (o2 := 1) hC ho rfl fk_X5_10 rfl dX5_feed_19 ?_
      refine V_geti (o := 1) hC (show (0, 1, 1) ∈ yI Y from hL.obj (j := 0) ho rfl) rfl fk_X5_64 dX5_feed_22 ?_
      refine V_isub hC dX5_feed_25 ?_
      refine V_icmp_le (tgt := 32) hC dX5_feed_26 (by decide) (fun c3 => ?_) (fun c3 => ?_)
      · have hf := if_t hf c3
        refine V_iload_n 1 hC dX5_feed_32 rfl rfl ?_
        refine V_iconst (v := 1) hC dX5_feed_33 rfl ?_
        refine V_isub hC dX5_feed_34 ?_
        refine V_topi (fun y4 ey4 => ?_)
        have hf := bd_e hf y4 ey4
        refine V_istore (lv' := [(4, .int y4), (0, .ref (yo Y 0)), (1, .int p1), (2, .long p2)]) hC dX5_feed_35 (by decide) rfl ?_
        exact V_sub [1, 3, 0] rfl (lp_ind (X := Int32 × Dt) (P := fun x => V K Y 5 0 0 z x.2 37 [(0, .ref (yo Y 0)), (2, .long p2), (4, .int x.1)] []) (fun k x hk hx => b_X5_feed_37 hC hr hA ho hQ  (k37 := fun x4 d => k (x4, d)) (fun x4 d hx => hk (x4, d) hx) x.1 x.2 hx) FU (y4, d) hf)
      · have hf := if_f hf c3
        refine V_ldc hC ck_X5_67 dX5_feed_29 ?_
        obtain ⟨rfl, rfl⟩ := so_inj2 hf
        exact V_iret hC hr hQ hA dX5_feed_31
    · have hf := if_f hf c2
      refine V_ldc hC ck_X5_63 dX5_feed_11 ?_
      obtain ⟨rfl, rfl⟩ := so_inj2 hf
      exact V_iret hC hr hQ hA dX5_feed_13
def t_X5_book (L : Nat → Nat) (d : Dt)  : Option (Int32 × Dt) := (t_X1_parse L d ).bind (fun q1 => bd (sF q1.2 1 1 0) (fun d2 => if q1.1 = 0 then (t_X2_openBook L d2 2 5).bind (fun d4 => bd (sF d4 0 4 0) (fun d5 => bd (sF d5 0 7 0) (fun d6 => some (gF d6 6 0, d6)))) else some ((-10) - q1.1, d2)))
set_option maxRecDepth 20000 in
theorem c_X5_book {l : Launch} {Y : Yx} (hL : LAY Y) {z : Sh} {d : Dt}  (ho : (0, 0, 4) ∈ yI Y) {r : Int32} {d' : Dt} (hf : t_X5_book z.1 d  = some (r, d')) : MM l yX5_book cX5_book 2 (some .int) 9 196 Y z [.ref (yo Y 0)] d (some (.int r)) d' := by
  refine MM.ofV (by decide +kernel) hL (Nat.le_of_ble_eq_true rfl) (fun K hl hC hr hQ hA => ?_)
  have hC : CK K Y cX5_book 2 RX5 9 196 := hC
  have hkn : 0 ≤ (kR K).cells ∧ 0 ≤ (kR K).slots := ⟨Nat.zero_le _, Nat.zero_le _⟩
  unfold t_X5_book at hf
  show V K Y 2 0 0 z d 0 [(0, .ref (yo Y 0))] []
  refine V_aload_n 0 hC dX5_book_0 rfl rfl ?_
  refine V_geto (o := 0) (o2 := 1) hC ho rfl fk_X5_10 rfl dX5_book_1 ?_
  obtain ⟨q1, eq1, hf⟩ := bi_some hf
  refine V_invi (o := 1) (As := []) (rest := []) hC (c_X1_parse hL (show (0, 1, 1) ∈ yI Y from hL.obj (j := 0) ho rfl) eq1) me_X1_parse lk_X5_72 (show (0, 1, 1) ∈ yI Y from hL.obj (j := 0) ho rfl) rfl rfl rfl (Nat.le_of_ble_eq_true rfl) ⟨by decide, by decide⟩ hkn dX5_book_4 ?_
  refine V_istore_n (lv' := [(1, .int q1.1), (0, .ref (yo Y 0))]) hC dX5_book_7 rfl (by decide) rfl ?_
  refine V_aload_n 1 hC dX5_book_8 rfl rfl ?_
  refine V_geto (o := 0) (o2 := 1) hC ho rfl fk_X5_10 rfl dX5_book_9 ?_
  refine V_iconst (v := 0) hC dX5_book_12 rfl ?_
  refine V_puti (o := 1) hC (show (0, 1, 1) ∈ yI Y from hL.obj (j := 0) ho rfl) rfl fk_X5_64 pl_X1 rfl rfl dX5_book_13 (fun d2 ed2 => ?_)
  have hf := bd_e hf d2 ed2
  refine V_iload_n 0 hC dX5_book_16 rfl rfl ?_
  refine V_if_eq (tgt := 25) hC dX5_book_17 (by decide) (fun c3 => ?_) (fun c3 => ?_)
  · have hf := if_t hf c3
    refine V_aload_n 1 hC dX5_book_25 rfl rfl ?_
    refine V_geto (o := 0) (o2 := 2) hC ho rfl fk_X5_45 rfl dX5_book_26 ?_
    refine V_aload_n 1 hC dX5_book_29 rfl rfl ?_
    refine V_geto (o := 0) (o2 := 1) hC ho rfl fk_X5_10 rfl dX5_book_30 ?_
    refine V_geto (o := 1) (o2 := 5) hC (show (0, 1, 1) ∈ yI Y from hL.obj (j := 0) ho rfl) rfl fk_X5_76 rfl dX5_book_33 ?_
    obtain ⟨d4, ed4, hf⟩ := bi_some hf
    refine V_invv (o := 2) (As := [.ref (yo Y 5)]) (rest := []) hC (c_X2_openBook hL (show (0, 2, 2) ∈ yI Y from hL.obj (j := 1) ho rfl) (show (0, 5, 0) ∈ yI Y from hL.obj (j := 0) (show (0, 1, 1) ∈ yI Y from hL.obj (j := 0) ho rfl) rfl) ed4) me_X2_openBook lk_X5_80 (show (0, 2, 2) ∈ yI Y from hL.obj (j := 1) ho rfl) rfl rfl rfl (Nat.le_of_ble_eq_true rfl) ⟨by decide, by decide⟩ hkn dX5_book_36 ?_
    refine V_aload_n 1 hC dX5_book_39 rfl rfl ?_
    refine V_iconst (v := 0) hC dX5_book_40 rfl ?_
    refine V_puti (o := 0) hC ho rfl fk_X5_20 pl_X5 rfl rfl dX5_book_41 (fun d5 ed5 => ?_)
    have hf := bd_e hf d5 ed5
    refine V_aload_n 1 hC dX5_book_44 rfl rfl ?_
    refine V_iconst (v := 0) hC dX5_book_45 rfl ?_
    refine V_putz (o := 0) hC ho rfl fk_X5_24 pl_X5 rfl rfl rfl dX5_book_46 (fun d6 ed6 => ?_)
    have hf := bd_e hf d6 ed6
    refine V_aload_n 1 hC dX5_book_49 rfl rfl ?_
    refine V_geto (o := 0) (o2 := 2) hC ho rfl fk_X5_45 rfl dX5_book_50 ?_
    refine V_geto (o := 2) (o2 := 6) hC (show (0, 2, 2) ∈ yI Y from hL.obj (j := 1) ho rfl) rfl fk_X5_83 rfl dX5_book_53 ?_
    refine V_geti (o := 6) hC (show (0, 6, 0) ∈ yI Y from hL.obj (j := 0) (show (0, 2, 2) ∈ yI Y from hL.obj (j := 1) ho rfl) rfl) rfl fk_X5_86 dX5_book_56 ?_
    obtain ⟨rfl, rfl⟩ := so_inj2 hf
    exact V_iret hC hr hQ hA dX5_book_59
  · have hf := if_f hf c3
    refine V_bipush (v := -10) hC dX5_book_20 rfl ?_
    refine V_iload_n 0 hC dX5_book_22 rfl rfl ?_
    refine V_isub hC dX5_book_23 ?_
    obtain ⟨rfl, rfl⟩ := so_inj2 hf
    exact V_iret hC hr hQ hA dX5_book_24
def t_X5_fault (L : Nat → Nat) (d : Dt)  : Option (Int32) := some (gF d 1 2)
set_option maxRecDepth 20000 in
theorem c_X5_fault {l : Launch} {Y : Yx} (hL : LAY Y) {z : Sh} {d : Dt}  (ho : (0, 0, 4) ∈ yI Y) {r : Int32} (hf : t_X5_fault z.1 d  = some r) : MM l yX5_fault cX5_fault 1 (some .int) 0 0 Y z [.ref (yo Y 0)] d (some (.int r)) d := by
  refine MM.ofV (by decide +kernel) hL (Nat.le_of_ble_eq_true rfl) (fun K hl hC hr hQ hA => ?_)
  have hC : CK K Y cX5_fault 1 RX5 0 0 := hC
  unfold t_X5_fault at hf
  show V K Y 1 0 0 z d 0 [(0, .ref (yo Y 0))] []
  refine V_aload_n 0 hC dX5_fault_0 rfl rfl ?_
  refine V_geto (o := 0) (o2 := 1) hC ho rfl fk_X5_10 rfl dX5_fault_1 ?_
  refine V_geti (o := 1) hC (show (0, 1, 1) ∈ yI Y from hL.obj (j := 0) ho rfl) rfl fk_X5_89 dX5_fault_4 ?_
  obtain rfl := so_inj hf
  exact V_iret hC hr hQ hA dX5_fault_7
def t_X5_part_47 (L : Nat → Nat) (d : Dt) (p1 : Int32) (p2 : Int32)  (s0 : Int32)  : Option (Int32) := if p2 = 0 then gd (inb p1 (L (32 * 6 + 2))) (some (gA d (32 * 6 + 2) (ix p1))) else if p2 = 1 then gd (inb p1 (L (32 * 6 + 6))) (some (gA d (32 * 6 + 6) (ix p1))) else if p2 = 2 then gd (inb p1 (L (32 * 6 + 9))) (some (gA d (32 * 6 + 9) (ix p1))) else if p2 = 3 then (t_X0_lines L d 6 p1).bind (fun v14 => some v14) else if p2 = 4 then if s0 = 0 then some (-1) else gd (inb p1 (L (32 * 6 + 3))) (some (gA d (32 * 6 + 3) (ix p1))) else if p2 = 5 then if s0 = 0 then some (-1) else gd (inb p1 (L (32 * 6 + 4))) (some (gA d (32 * 6 + 4) (ix p1))) else if s0 = 0 then some (-1) else gd (inb p1 (L (32 * 6 + 5))) (some (gA d (32 * 6 + 5) (ix p1)))
set_option maxRecDepth 20000 in
theorem b_X5_part_47 {K : Kx} {Y : Yx} {z : Sh} {d : Dt} (hC : CK K Y cX5_part 5 RX5 2 42) (hr : (kme K).sig.returnType = some .int) (hA : kA K = aY Y z) {p1 : Int32} {p2 : Int32} (ho : (0, 0, 4) ∈ yI Y) {r : Int32} (hQ : kQ K = MQ (kb K) (QM Y z (some (.int r)) d) (ka K) (ks K) 0 0 (aY Y z))   (s0 : Int32)  (hf : t_X5_part_47 z.1 d p1 p2  s0  = some r) : V K Y 5 0 0 z d 47 [(1, .int p1), (2, .int p2), (3, .ref (yo Y 6))] [.int s0] := by
  have hL := hC.2.2.2.2.2.2.1
  have hkn : 0 ≤ (kR K).cells ∧ 0 ≤ (kR K).slots := ⟨Nat.zero_le _, Nat.zero_le _⟩
  unfold t_X5_part_47 at hf
  refine V_istore (lv' := [(4, .int s0), (1, .int p1), (2, .int p2), (3, .ref (yo Y 6))]) hC dX5_part_47 (by decide) rfl ?_
  refine V_iload_n 2 hC dX5_part_49 rfl rfl ?_
  by_cases c7 : p2 = 0
  · have hf := if_t hf c7
    refine V_tswIn (tgt := 88) hC dX5_part_50 0 c7 (by decide) (by decide) rfl (by decide) ?_
    refine V_aload_n 3 hC dX5_part_88 rfl rfl ?_
    refine V_geta (o := 6) hC (show (0, 6, 0) ∈ yI Y from hL.obj (j := 0) (show (0, 2, 2) ∈ yI Y from hL.obj (j := 1) ho rfl) rfl) rfl fk_X5_97 dX5_part_89 ?_
    refine V_iload_n 1 hC dX5_part_92 rfl rfl ?_
    obtain ⟨g8, hf⟩ := gd_some hf
    refine V_iald (a := (32 * 6 + 2)) hC (hL.row (show (0, 6, 0) ∈ yI Y from hL.obj (j := 0) (show (0, 2, 2) ∈ yI Y from hL.obj (j := 1) ho rfl) rfl) rfl) g8 dX5_part_93 ?_
    obtain rfl := so_inj hf
    exact V_iret hC hr hQ hA dX5_part_94
  · have hf := if_f hf c7
    by_cases c9 : p2 = 1
    · have hf := if_t hf c9
      refine V_tswIn (tgt := 95) hC dX5_part_50 1 c9 (by decide) (by decide) rfl (by decide) ?_
      refine V_aload_n 3 hC dX5_part_95 rfl rfl ?_
      refine V_geta (o := 6) hC (show (0, 6, 0) ∈ yI Y from hL.obj (j := 0) (show (0, 2, 2) ∈ yI Y from hL.obj (j := 1) ho rfl) rfl) rfl fk_X5_100 dX5_part_96 ?_
      refine V_iload_n 1 hC dX5_part_99 rfl rfl ?_
      obtain ⟨g10, hf⟩ := gd_some hf
      refine V_iald (a := (32 * 6 + 6)) hC (hL.row (show (0, 6, 0) ∈ yI Y from hL.obj (j := 0) (show (0, 2, 2) ∈ yI Y from hL.obj (j := 1) ho rfl) rfl) rfl) g10 dX5_part_100 ?_
      obtain rfl := so_inj hf
      exact V_iret hC hr hQ hA dX5_part_101
    · have hf := if_f hf c9
      by_cases c11 : p2 = 2
      · have hf := if_t hf c11
        refine V_tswIn (tgt := 102) hC dX5_part_50 2 c11 (by decide) (by decide) rfl (by decide) ?_
        refine V_aload_n 3 hC dX5_part_102 rfl rfl ?_
        refine V_geta (o := 6) hC (show (0, 6, 0) ∈ yI Y from hL.obj (j := 0) (show (0, 2, 2) ∈ yI Y from hL.obj (j := 1) ho rfl) rfl) rfl fk_X5_103 dX5_part_103 ?_
        refine V_iload_n 1 hC dX5_part_106 rfl rfl ?_
        obtain ⟨g12, hf⟩ := gd_some hf
        refine V_iald (a := (32 * 6 + 9)) hC (hL.row (show (0, 6, 0) ∈ yI Y from hL.obj (j := 0) (show (0, 2, 2) ∈ yI Y from hL.obj (j := 1) ho rfl) rfl) rfl) g12 dX5_part_107 ?_
        obtain rfl := so_inj hf
        exact V_iret hC hr hQ hA dX5_part_108
      · have hf := if_f hf c11
        by_cases c13 : p2 = 3
        · have hf := if_t hf c13
          refine V_tswIn (tgt := 109) hC dX5_part_50 3 c13 (by decide) (by decide) rfl (by decide) ?_
          refine V_aload_n 3 hC dX5_part_109 rfl rfl ?_
          refine V_iload_n 1 hC dX5_part_110 rfl rfl ?_
          obtain ⟨v14, ev14, hf⟩ := bi_some hf
          refine V_invi (o := 6) (As := [.int p1]) (rest := []) hC (c_X0_lines hL (show (0, 6, 0) ∈ yI Y from hL.obj (j := 0) (show (0, 2, 2) ∈ yI Y from hL.obj (j := 1) ho rfl) rfl) ev14) me_X0_lines lk_X5_106 (show (0, 6, 0) ∈ yI Y from hL.obj (j := 0) (show (0, 2, 2) ∈ yI Y from hL.obj (j := 1) ho rfl) rfl) rfl rfl rfl (Nat.le_of_ble_eq_true rfl) ⟨by decide, by decide⟩ hkn dX5_part_111 ?_
          obtain rfl := so_inj hf
          exact V_iret hC hr hQ hA dX5_part_114
        · have hf := if_f hf c13
          by_cases c15 : p2 = 4
          · have hf := if_t hf c15
            refine V_tswIn (tgt := 115) hC dX5_part_50 4 c15 (by decide) (by decide) rfl (by decide) ?_
            refine V_iload 0 hC dX5_part_115 rfl ?_
            refine V_if_eq (tgt := 129) hC dX5_part_117 (by decide) (fun c16 => ?_) (fun c16 => ?_)
            · have hf := if_t hf c16
              refine V_iconst (v := -1) hC dX5_part_129 rfl ?_
              obtain rfl := so_inj hf
              exact V_iret hC hr hQ hA dX5_part_130
            · have hf := if_f hf c16
              refine V_aload_n 3 hC dX5_part_120 rfl rfl ?_
              refine V_geta (o := 6) hC (show (0, 6, 0) ∈ yI Y from hL.obj (j := 0) (show (0, 2, 2) ∈ yI Y from hL.obj (j := 1) ho rfl) rfl) rfl fk_X5_110 dX5_part_121 ?_
              refine V_iload_n 1 hC dX5_part_124 rfl rfl ?_
              obtain ⟨g17, hf⟩ := gd_some hf
              refine V_iald (a := (32 * 6 + 3)) hC (hL.row (show (0, 6, 0) ∈ yI Y from hL.obj (j := 0) (show (0, 2, 2) ∈ yI Y from hL.obj (j := 1) ho rfl) rfl) rfl) g17 dX5_part_125 ?_
              refine V_goto (tgt := 130) hC dX5_part_126 (by decide) ?_
              obtain rfl := so_inj hf
              exact V_iret hC hr hQ hA dX5_part_130
          · have hf := if_f hf c15
            by_cases c18 : p2 = 5
            · have hf := if_t hf c18
              refine V_tswIn (tgt := 131) hC dX5_part_50 5 c18 (by decide) (by decide) rfl (by decide) ?_
              refine V_iload 0 hC dX5_part_131 rfl ?_
              refine V_if_eq (tgt := 145) hC dX5_part_133 (by decide) (fun c19 => ?_) (fun c19 => ?_)
              · have hf := if_t hf c19
                refine V_iconst (v := -1) hC dX5_part_145 rfl ?_
                obtain rfl := so_inj hf
                exact V_iret hC hr hQ hA dX5_part_146
              · have hf := if_f hf c19
                refine V_aload_n 3 hC dX5_part_136 rfl rfl ?_
                refine V_geta (o := 6) hC (show (0, 6, 0) ∈ yI Y from hL.obj (j := 0) (show (0, 2, 2) ∈ yI Y from hL.obj (j := 1) ho rfl) rfl) rfl fk_X5_113 dX5_part_137 ?_
                refine V_iload_n 1 hC dX5_part_140 rfl rfl ?_
                obtain ⟨g20, hf⟩ := gd_some hf
                refine V_iald (a := (32 * 6 + 4)) hC (hL.row (show (0, 6, 0) ∈ yI Y from hL.obj (j := 0) (show (0, 2, 2) ∈ yI Y from hL.obj (j := 1) ho rfl) rfl) rfl) g20 dX5_part_141 ?_
                refine V_goto (tgt := 146) hC dX5_part_142 (by decide) ?_
                obtain rfl := so_inj hf
                exact V_iret hC hr hQ hA dX5_part_146
            · have hf := if_f hf c18
              refine V_tswOut (tgt := 147) hC dX5_part_50 (by have hc7 := lv_neT c7 (show (0 : Int32).toInt = 0 from rfl); have hc9 := lv_neT c9 (show (1 : Int32).toInt = 1 from rfl); have hc11 := lv_neT c11 (show (2 : Int32).toInt = 2 from rfl); have hc13 := lv_neT c13 (show (3 : Int32).toInt = 3 from rfl); have hc15 := lv_neT c15 (show (4 : Int32).toInt = 4 from rfl); have hc18 := lv_neT c18 (show (5 : Int32).toInt = 5 from rfl); omega) (by decide) ?_
              refine V_iload 0 hC dX5_part_147 rfl ?_
              refine V_if_eq (tgt := 161) hC dX5_part_149 (by decide) (fun c21 => ?_) (fun c21 => ?_)
              · have hf := if_t hf c21
                refine V_iconst (v := -1) hC dX5_part_161 rfl ?_
                obtain rfl := so_inj hf
                exact V_iret hC hr hQ hA dX5_part_162
              · have hf := if_f hf c21
                refine V_aload_n 3 hC dX5_part_152 rfl rfl ?_
                refine V_geta (o := 6) hC (show (0, 6, 0) ∈ yI Y from hL.obj (j := 0) (show (0, 2, 2) ∈ yI Y from hL.obj (j := 1) ho rfl) rfl) rfl fk_X5_116 dX5_part_153 ?_
                refine V_iload_n 1 hC dX5_part_156 rfl rfl ?_
                obtain ⟨g22, hf⟩ := gd_some hf
                refine V_iald (a := (32 * 6 + 5)) hC (hL.row (show (0, 6, 0) ∈ yI Y from hL.obj (j := 0) (show (0, 2, 2) ∈ yI Y from hL.obj (j := 1) ho rfl) rfl) rfl) g22 dX5_part_157 ?_
                refine V_goto (tgt := 162) hC dX5_part_158 (by decide) ?_
                obtain rfl := so_inj hf
                exact V_iret hC hr hQ hA dX5_part_162
def t_X5_part (L : Nat → Nat) (d : Dt) (p1 : Int32) (p2 : Int32) : Option (Int32) := (t_X0_hasPart L d 6 p1).bind (fun v1 => if v1 = 0 then some (-1000001) else if p2 < 0 then some (-1000002) else if p2 ≤ 6 then gd (inb p1 (L (32 * 6 + 2))) (if (gA d (32 * 6 + 2) (ix p1)) = 3 then t_X5_part_47 L d p1 p2  1 else t_X5_part_47 L d p1 p2  0) else some (-1000002))
set_option maxRecDepth 20000 in
theorem c_X5_part {l : Launch} {Y : Yx} (hL : LAY Y) {z : Sh} {d : Dt} {p1 : Int32} {p2 : Int32} (ho : (0, 0, 4) ∈ yI Y) {r : Int32} (hf : t_X5_part z.1 d p1 p2 = some r) : MM l yX5_part cX5_part 5 (some .int) 2 42 Y z [.ref (yo Y 0), .int p1, .int p2] d (some (.int r)) d := by
  refine MM.ofV (by decide +kernel) hL (Nat.le_of_ble_eq_true rfl) (fun K hl hC hr hQ hA => ?_)
  have hC : CK K Y cX5_part 5 RX5 2 42 := hC
  have hkn : 0 ≤ (kR K).cells ∧ 0 ≤ (kR K).slots := ⟨Nat.zero_le _, Nat.zero_le _⟩
  unfold t_X5_part at hf
  show V K Y 5 0 0 z d 0 [(0, .ref (yo Y 0)), (1, .int p1), (2, .int p2)] []
  refine V_aload_n 0 hC dX5_part_0 rfl rfl ?_
  refine V_geto (o := 0) (o2 := 2) hC ho rfl fk_X5_45 rfl dX5_part_1 ?_
  refine V_geto (o := 2) (o2 := 6) hC (show (0, 2, 2) ∈ yI Y from hL.obj (j := 1) ho rfl) rfl fk_X5_83 rfl dX5_part_4 ?_
  refine V_astore_n (lv' := [(3, .ref (yo Y 6)), (0, .ref (yo Y 0)), (1, .int p1), (2, .int p2)]) hC dX5_part_7 rfl (by decide) rfl ?_
  refine V_aload_n 0 hC dX5_part_8 rfl rfl ?_
  refine V_iload_n 2 hC dX5_part_9 rfl rfl ?_
  obtain ⟨v1, ev1, hf⟩ := bi_some hf
  refine V_invi (o := 6) (As := [.int p1]) (rest := []) hC (c_X0_hasPart hL (show (0, 6, 0) ∈ yI Y from hL.obj (j := 0) (show (0, 2, 2) ∈ yI Y from hL.obj (j := 1) ho rfl) rfl) ev1) me_X0_hasPart lk_X5_92 (show (0, 6, 0) ∈ yI Y from hL.obj (j := 0) (show (0, 2, 2) ∈ yI Y from hL.obj (j := 1) ho rfl) rfl) rfl rfl rfl (Nat.le_of_ble_eq_true rfl) ⟨by decide, by decide⟩ hkn dX5_part_10 ?_
  refine V_if_ne (tgt := 19) hC dX5_part_13 (by decide) (fun c2 => ?_) (fun c2 => ?_)
  · have hf := if_f hf c2
    refine V_iload_n 3 hC dX5_part_19 rfl rfl ?_
    refine V_if_lt (tgt := 29) hC dX5_part_20 (by decide) (fun c3 => ?_) (fun c3 => ?_)
    · have hf := if_t hf c3
      refine V_ldc hC ck_X5_63 dX5_part_29 ?_
      obtain rfl := so_inj hf
      exact V_iret hC hr hQ hA dX5_part_31
    · have hf := if_f hf c3
      refine V_iload_n 3 hC dX5_part_23 rfl rfl ?_
      refine V_bipush (v := 6) hC dX5_part_24 rfl ?_
      refine V_icmp_le (tgt := 32) hC dX5_part_26 (by decide) (fun c4 => ?_) (fun c4 => ?_)
      · have hf := if_t hf c4
        refine V_aload_n 0 hC dX5_part_32 rfl rfl ?_
        refine V_geta (o := 6) hC (show (0, 6, 0) ∈ yI Y from hL.obj (j := 0) (show (0, 2, 2) ∈ yI Y from hL.obj (j := 1) ho rfl) rfl) rfl fk_X5_97 dX5_part_33 ?_
        refine V_iload_n 2 hC dX5_part_36 rfl rfl ?_
        obtain ⟨g5, hf⟩ := gd_some hf
        refine V_iald (a := (32 * 6 + 2)) hC (hL.row (show (0, 6, 0) ∈ yI Y from hL.obj (j := 0) (show (0, 2, 2) ∈ yI Y from hL.obj (j := 1) ho rfl) rfl) rfl) g5 dX5_part_37 ?_
        refine V_iconst (v := 3) hC dX5_part_38 rfl ?_
        refine V_icmp_ne (tgt := 46) hC dX5_part_39 (by decide) (fun c6 => ?_) (fun c6 => ?_)
        · have hf := if_f hf c6
          refine V_iconst (v := 0) hC dX5_part_46 rfl ?_
          exact V_sub [2, 3, 0] rfl (b_X5_part_47 hC hr hA ho hQ  0 hf)
        · have hf := if_t hf c6
          refine V_iconst (v := 1) hC dX5_part_42 rfl ?_
          refine V_goto (tgt := 47) hC dX5_part_43 (by decide) ?_
          exact V_sub [2, 3, 0] rfl (b_X5_part_47 hC hr hA ho hQ  1 hf)
      · have hf := if_f hf c4
        refine V_ldc hC ck_X5_63 dX5_part_29 ?_
        obtain rfl := so_inj hf
        exact V_iret hC hr hQ hA dX5_part_31
  · have hf := if_t hf c2
    refine V_ldc hC ck_X5_96 dX5_part_16 ?_
    obtain rfl := so_inj hf
    exact V_iret hC hr hQ hA dX5_part_18
def t_X5_effect (L : Nat → Nat) (d : Dt) (p1 : Int32) (p2 : Int32) (p3 : Int32) : Option (Int32) := (t_X0_hasEffect L d 6 p1 p2).bind (fun v1 => if v1 = 0 then some (-1000001) else if p3 < 0 then some (-1000002) else if p3 ≤ 1 then bd ((p1 * 4) + p2) (fun y5 => if p3 = 0 then gd (inb y5 (L (32 * 6 + 7))) (some (gA d (32 * 6 + 7) (ix y5))) else gd (inb y5 (L (32 * 6 + 8))) (some (gA d (32 * 6 + 8) (ix y5)))) else some (-1000002))
set_option maxRecDepth 20000 in
theorem c_X5_effect {l : Launch} {Y : Yx} (hL : LAY Y) {z : Sh} {d : Dt} {p1 : Int32} {p2 : Int32} {p3 : Int32} (ho : (0, 0, 4) ∈ yI Y) {r : Int32} (hf : t_X5_effect z.1 d p1 p2 p3 = some r) : MM l yX5_effect cX5_effect 6 (some .int) 2 43 Y z [.ref (yo Y 0), .int p1, .int p2, .int p3] d (some (.int r)) d := by
  refine MM.ofV (by decide +kernel) hL (Nat.le_of_ble_eq_true rfl) (fun K hl hC hr hQ hA => ?_)
  have hC : CK K Y cX5_effect 6 RX5 2 43 := hC
  have hkn : 0 ≤ (kR K).cells ∧ 0 ≤ (kR K).slots := ⟨Nat.zero_le _, Nat.zero_le _⟩
  unfold t_X5_effect at hf
  show V K Y 6 0 0 z d 0 [(0, .ref (yo Y 0)), (1, .int p1), (2, .int p2), (3, .int p3)] []
  refine V_aload_n 0 hC dX5_effect_0 rfl rfl ?_
  refine V_geto (o := 0) (o2 := 2) hC ho rfl fk_X5_45 rfl dX5_effect_1 ?_
  refine V_geto (o := 2) (o2 := 6) hC (show (0, 2, 2) ∈ yI Y from hL.obj (j := 1) ho rfl) rfl fk_X5_83 rfl dX5_effect_4 ?_
  refine V_astore (lv' := [(4, .ref (yo Y 6)), (0, .ref (yo Y 0)), (1, .int p1), (2, .int p2), (3, .int p3)]) hC dX5_effect_7 (by decide) rfl ?_
  refine V_aload 0 hC dX5_effect_9 rfl ?_
  refine V_iload_n 2 hC dX5_effect_11 rfl rfl ?_
  refine V_iload_n 3 hC dX5_effect_12 rfl rfl ?_
  obtain ⟨v1, ev1, hf⟩ := bi_some hf
  refine V_invi (o := 6) (As := [.int p1, .int p2]) (rest := []) hC (c_X0_hasEffect hL (show (0, 6, 0) ∈ yI Y from hL.obj (j := 0) (show (0, 2, 2) ∈ yI Y from hL.obj (j := 1) ho rfl) rfl) ev1) me_X0_hasEffect lk_X5_119 (show (0, 6, 0) ∈ yI Y from hL.obj (j := 0) (show (0, 2, 2) ∈ yI Y from hL.obj (j := 1) ho rfl) rfl) rfl rfl rfl (Nat.le_of_ble_eq_true rfl) ⟨by decide, by decide⟩ hkn dX5_effect_13 ?_
  refine V_if_ne (tgt := 22) hC dX5_effect_16 (by decide) (fun c2 => ?_) (fun c2 => ?_)
  · have hf := if_f hf c2
    refine V_iload_n 4 hC dX5_effect_22 rfl rfl ?_
    refine V_if_lt (tgt := 31) hC dX5_effect_23 (by decide) (fun c3 => ?_) (fun c3 => ?_)
    · have hf := if_t hf c3
      refine V_ldc hC ck_X5_63 dX5_effect_31 ?_
      obtain rfl := so_inj hf
      exact V_iret hC hr hQ hA dX5_effect_33
    · have hf := if_f hf c3
      refine V_iload_n 4 hC dX5_effect_26 rfl rfl ?_
      refine V_iconst (v := 1) hC dX5_effect_27 rfl ?_
      refine V_icmp_le (tgt := 34) hC dX5_effect_28 (by decide) (fun c4 => ?_) (fun c4 => ?_)
      · have hf := if_t hf c4
        refine V_iload_n 2 hC dX5_effect_34 rfl rfl ?_
        refine V_iconst (v := 4) hC dX5_effect_35 rfl ?_
        refine V_imul hC dX5_effect_36 ?_
        refine V_iload_n 3 hC dX5_effect_37 rfl rfl ?_
        refine V_iadd hC dX5_effect_38 ?_
        refine V_topi (fun y5 ey5 => ?_)
        have hf := bd_e hf y5 ey5
        refine V_istore (lv' := [(5, .int y5), (4, .ref (yo Y 6)), (0, .ref (yo Y 0)), (1, .int p1), (2, .int p2), (3, .int p3)]) hC dX5_effect_39 (by decide) rfl ?_
        refine V_iload_n 5 hC dX5_effect_41 rfl rfl ?_
        refine V_if_ne (tgt := 56) hC dX5_effect_42 (by decide) (fun c6 => ?_) (fun c6 => ?_)
        · have hf := if_f hf c6
          refine V_aload 1 hC dX5_effect_56 rfl ?_
          refine V_geta (o := 6) hC (show (0, 6, 0) ∈ yI Y from hL.obj (j := 0) (show (0, 2, 2) ∈ yI Y from hL.obj (j := 1) ho rfl) rfl) rfl fk_X5_126 dX5_effect_58 ?_
          refine V_iload 0 hC dX5_effect_61 rfl ?_
          obtain ⟨g7, hf⟩ := gd_some hf
          refine V_iald (a := (32 * 6 + 8)) hC (hL.row (show (0, 6, 0) ∈ yI Y from hL.obj (j := 0) (show (0, 2, 2) ∈ yI Y from hL.obj (j := 1) ho rfl) rfl) rfl) g7 dX5_effect_63 ?_
          obtain rfl := so_inj hf
          exact V_iret hC hr hQ hA dX5_effect_64
        · have hf := if_t hf c6
          refine V_aload 1 hC dX5_effect_45 rfl ?_
          refine V_geta (o := 6) hC (show (0, 6, 0) ∈ yI Y from hL.obj (j := 0) (show (0, 2, 2) ∈ yI Y from hL.obj (j := 1) ho rfl) rfl) rfl fk_X5_123 dX5_effect_47 ?_
          refine V_iload 0 hC dX5_effect_50 rfl ?_
          obtain ⟨g8, hf⟩ := gd_some hf
          refine V_iald (a := (32 * 6 + 7)) hC (hL.row (show (0, 6, 0) ∈ yI Y from hL.obj (j := 0) (show (0, 2, 2) ∈ yI Y from hL.obj (j := 1) ho rfl) rfl) rfl) g8 dX5_effect_52 ?_
          refine V_goto (tgt := 64) hC dX5_effect_53 (by decide) ?_
          obtain rfl := so_inj hf
          exact V_iret hC hr hQ hA dX5_effect_64
      · have hf := if_f hf c4
        refine V_ldc hC ck_X5_63 dX5_effect_31 ?_
        obtain rfl := so_inj hf
        exact V_iret hC hr hQ hA dX5_effect_33
  · have hf := if_t hf c2
    refine V_ldc hC ck_X5_96 dX5_effect_19 ?_
    obtain rfl := so_inj hf
    exact V_iret hC hr hQ hA dX5_effect_21
def t_X5_choice (L : Nat → Nat) (d : Dt) (p1 : Int32) (p2 : Int32) (p3 : Int32) : Option (Int32) := (t_X0_hasChoice L d 6 p1 p2).bind (fun v1 => if v1 = 0 then some (-1000001) else if p3 < 0 then some (-1000002) else if p3 ≤ 2 then bd ((p1 * 6) + p2) (fun y5 => if p3 = 0 then gd (inb y5 (L (32 * 6 + 10))) (some (gA d (32 * 6 + 10) (ix y5))) else if p3 = 1 then gd (inb y5 (L (32 * 6 + 11))) (some (gA d (32 * 6 + 11) (ix y5))) else gd (inb y5 (L (32 * 6 + 12))) (some (gA d (32 * 6 + 12) (ix y5)))) else some (-1000002))
set_option maxRecDepth 20000 in
theorem c_X5_choice {l : Launch} {Y : Yx} (hL : LAY Y) {z : Sh} {d : Dt} {p1 : Int32} {p2 : Int32} {p3 : Int32} (ho : (0, 0, 4) ∈ yI Y) {r : Int32} (hf : t_X5_choice z.1 d p1 p2 p3 = some r) : MM l yX5_choice cX5_choice 6 (some .int) 2 43 Y z [.ref (yo Y 0), .int p1, .int p2, .int p3] d (some (.int r)) d := by
  refine MM.ofV (by decide +kernel) hL (Nat.le_of_ble_eq_true rfl) (fun K hl hC hr hQ hA => ?_)
  have hC : CK K Y cX5_choice 6 RX5 2 43 := hC
  have hkn : 0 ≤ (kR K).cells ∧ 0 ≤ (kR K).slots := ⟨Nat.zero_le _, Nat.zero_le _⟩
  unfold t_X5_choice at hf
  show V K Y 6 0 0 z d 0 [(0, .ref (yo Y 0)), (1, .int p1), (2, .int p2), (3, .int p3)] []
  refine V_aload_n 0 hC dX5_choice_0 rfl rfl ?_
  refine V_geto (o := 0) (o2 := 2) hC ho rfl fk_X5_45 rfl dX5_choice_1 ?_
  refine V_geto (o := 2) (o2 := 6) hC (show (0, 2, 2) ∈ yI Y from hL.obj (j := 1) ho rfl) rfl fk_X5_83 rfl dX5_choice_4 ?_
  refine V_astore (lv' := [(4, .ref (yo Y 6)), (0, .ref (yo Y 0)), (1, .int p1), (2, .int p2), (3, .int p3)]) hC dX5_choice_7 (by decide) rfl ?_
  refine V_aload 0 hC dX5_choice_9 rfl ?_
  refine V_iload_n 2 hC dX5_choice_11 rfl rfl ?_
  refine V_iload_n 3 hC dX5_choice_12 rfl rfl ?_
  obtain ⟨v1, ev1, hf⟩ := bi_some hf
  refine V_invi (o := 6) (As := [.int p1, .int p2]) (rest := []) hC (c_X0_hasChoice hL (show (0, 6, 0) ∈ yI Y from hL.obj (j := 0) (show (0, 2, 2) ∈ yI Y from hL.obj (j := 1) ho rfl) rfl) ev1) me_X0_hasChoice lk_X5_129 (show (0, 6, 0) ∈ yI Y from hL.obj (j := 0) (show (0, 2, 2) ∈ yI Y from hL.obj (j := 1) ho rfl) rfl) rfl rfl rfl (Nat.le_of_ble_eq_true rfl) ⟨by decide, by decide⟩ hkn dX5_choice_13 ?_
  refine V_if_ne (tgt := 22) hC dX5_choice_16 (by decide) (fun c2 => ?_) (fun c2 => ?_)
  · have hf := if_f hf c2
    refine V_iload_n 4 hC dX5_choice_22 rfl rfl ?_
    refine V_if_lt (tgt := 31) hC dX5_choice_23 (by decide) (fun c3 => ?_) (fun c3 => ?_)
    · have hf := if_t hf c3
      refine V_ldc hC ck_X5_63 dX5_choice_31 ?_
      obtain rfl := so_inj hf
      exact V_iret hC hr hQ hA dX5_choice_33
    · have hf := if_f hf c3
      refine V_iload_n 4 hC dX5_choice_26 rfl rfl ?_
      refine V_iconst (v := 2) hC dX5_choice_27 rfl ?_
      refine V_icmp_le (tgt := 34) hC dX5_choice_28 (by decide) (fun c4 => ?_) (fun c4 => ?_)
      · have hf := if_t hf c4
        refine V_iload_n 2 hC dX5_choice_34 rfl rfl ?_
        refine V_bipush (v := 6) hC dX5_choice_35 rfl ?_
        refine V_imul hC dX5_choice_37 ?_
        refine V_iload_n 3 hC dX5_choice_38 rfl rfl ?_
        refine V_iadd hC dX5_choice_39 ?_
        refine V_topi (fun y5 ey5 => ?_)
        have hf := bd_e hf y5 ey5
        refine V_istore (lv' := [(5, .int y5), (4, .ref (yo Y 6)), (0, .ref (yo Y 0)), (1, .int p1), (2, .int p2), (3, .int p3)]) hC dX5_choice_40 (by decide) rfl ?_
        refine V_iload_n 5 hC dX5_choice_42 rfl rfl ?_
        refine V_if_ne (tgt := 55) hC dX5_choice_43 (by decide) (fun c6 => ?_) (fun c6 => ?_)
        · have hf := if_f hf c6
          refine V_iload_n 5 hC dX5_choice_55 rfl rfl ?_
          refine V_iconst (v := 1) hC dX5_choice_56 rfl ?_
          refine V_icmp_ne (tgt := 71) hC dX5_choice_57 (by decide) (fun c7 => ?_) (fun c7 => ?_)
          · have hf := if_f hf c7
            refine V_aload 1 hC dX5_choice_71 rfl ?_
            refine V_geta (o := 6) hC (show (0, 6, 0) ∈ yI Y from hL.obj (j := 0) (show (0, 2, 2) ∈ yI Y from hL.obj (j := 1) ho rfl) rfl) rfl fk_X5_138 dX5_choice_73 ?_
            refine V_iload 0 hC dX5_choice_76 rfl ?_
            obtain ⟨g8, hf⟩ := gd_some hf
            refine V_iald (a := (32 * 6 + 12)) hC (hL.row (show (0, 6, 0) ∈ yI Y from hL.obj (j := 0) (show (0, 2, 2) ∈ yI Y from hL.obj (j := 1) ho rfl) rfl) rfl) g8 dX5_choice_78 ?_
            obtain rfl := so_inj hf
            exact V_iret hC hr hQ hA dX5_choice_79
          · have hf := if_t hf c7
            refine V_aload 1 hC dX5_choice_60 rfl ?_
            refine V_geta (o := 6) hC (show (0, 6, 0) ∈ yI Y from hL.obj (j := 0) (show (0, 2, 2) ∈ yI Y from hL.obj (j := 1) ho rfl) rfl) rfl fk_X5_135 dX5_choice_62 ?_
            refine V_iload 0 hC dX5_choice_65 rfl ?_
            obtain ⟨g9, hf⟩ := gd_some hf
            refine V_iald (a := (32 * 6 + 11)) hC (hL.row (show (0, 6, 0) ∈ yI Y from hL.obj (j := 0) (show (0, 2, 2) ∈ yI Y from hL.obj (j := 1) ho rfl) rfl) rfl) g9 dX5_choice_67 ?_
            refine V_goto (tgt := 79) hC dX5_choice_68 (by decide) ?_
            obtain rfl := so_inj hf
            exact V_iret hC hr hQ hA dX5_choice_79
        · have hf := if_t hf c6
          refine V_aload 1 hC dX5_choice_46 rfl ?_
          refine V_geta (o := 6) hC (show (0, 6, 0) ∈ yI Y from hL.obj (j := 0) (show (0, 2, 2) ∈ yI Y from hL.obj (j := 1) ho rfl) rfl) rfl fk_X5_132 dX5_choice_48 ?_
          refine V_iload 0 hC dX5_choice_51 rfl ?_
          obtain ⟨g10, hf⟩ := gd_some hf
          refine V_iald (a := (32 * 6 + 10)) hC (hL.row (show (0, 6, 0) ∈ yI Y from hL.obj (j := 0) (show (0, 2, 2) ∈ yI Y from hL.obj (j := 1) ho rfl) rfl) rfl) g10 dX5_choice_53 ?_
          obtain rfl := so_inj hf
          exact V_iret hC hr hQ hA dX5_choice_54
      · have hf := if_f hf c4
        refine V_ldc hC ck_X5_63 dX5_choice_31 ?_
        obtain rfl := so_inj hf
        exact V_iret hC hr hQ hA dX5_choice_33
  · have hf := if_t hf c2
    refine V_ldc hC ck_X5_96 dX5_choice_19 ?_
    obtain rfl := so_inj hf
    exact V_iret hC hr hQ hA dX5_choice_21
def t_X5_isThing (L : Nat → Nat) (d : Dt) (p0 : Int32) : Option (Int32) := if p0 < 0 then some 0 else if 8 ≤ p0 then some 0 else some 1
set_option maxRecDepth 20000 in
theorem c_X5_isThing {l : Launch} {Y : Yx} (hL : LAY Y) {z : Sh} {d : Dt} {p0 : Int32}  {r : Int32} (hf : t_X5_isThing z.1 d p0 = some r) : MM l yX5_isThing cX5_isThing 1 (some .boolean) 0 0 Y z [.int p0] d (some (.int r)) d := by
  refine MM.ofV (by decide +kernel) hL (Nat.le_of_ble_eq_true rfl) (fun K hl hC hr hQ hA => ?_)
  have hC : CK K Y cX5_isThing 1 RX5 0 0 := hC
  unfold t_X5_isThing at hf
  show V K Y 1 0 0 z d 0 [(0, .int p0)] []
  refine V_iload_n 0 hC dX5_isThing_0 rfl rfl ?_
  refine V_if_lt (tgt := 14) hC dX5_isThing_1 (by decide) (fun c1 => ?_) (fun c1 => ?_)
  · have hf := if_t hf c1
    refine V_iconst (v := 0) hC dX5_isThing_14 rfl ?_
    obtain rfl := so_inj hf
    exact V_zret hC hr rfl hQ hA dX5_isThing_15
  · have hf := if_f hf c1
    refine V_iload_n 0 hC dX5_isThing_4 rfl rfl ?_
    refine V_bipush (v := 8) hC dX5_isThing_5 rfl ?_
    refine V_icmp_ge (tgt := 14) hC dX5_isThing_7 (by decide) (fun c2 => ?_) (fun c2 => ?_)
    · have hf := if_t hf c2
      refine V_iconst (v := 0) hC dX5_isThing_14 rfl ?_
      obtain rfl := so_inj hf
      exact V_zret hC hr rfl hQ hA dX5_isThing_15
    · have hf := if_f hf c2
      refine V_iconst (v := 1) hC dX5_isThing_10 rfl ?_
      refine V_goto (tgt := 15) hC dX5_isThing_11 (by decide) ?_
      obtain rfl := so_inj hf
      exact V_zret hC hr rfl hQ hA dX5_isThing_15
def t_X5_isThingOrNone (L : Nat → Nat) (d : Dt) (p0 : Int32) : Option (Int32) := if p0 = (-1) then some 1 else (t_X5_isThing L d p0).bind (fun v2 => if v2 = 0 then some 0 else some 1)
set_option maxRecDepth 20000 in
theorem c_X5_isThingOrNone {l : Launch} {Y : Yx} (hL : LAY Y) {z : Sh} {d : Dt} {p0 : Int32}  {r : Int32} (hf : t_X5_isThingOrNone z.1 d p0 = some r) : MM l yX5_isThingOrNone cX5_isThingOrNone 1 (some .boolean) 1 20 Y z [.int p0] d (some (.int r)) d := by
  refine MM.ofV (by decide +kernel) hL (Nat.le_of_ble_eq_true rfl) (fun K hl hC hr hQ hA => ?_)
  have hC : CK K Y cX5_isThingOrNone 1 RX5 1 20 := hC
  have hkn : 0 ≤ (kR K).cells ∧ 0 ≤ (kR K).slots := ⟨Nat.zero_le _, Nat.zero_le _⟩
  unfold t_X5_isThingOrNone at hf
  show V K Y 1 0 0 z d 0 [(0, .int p0)] []
  refine V_iload_n 0 hC dX5_isThingOrNone_0 rfl rfl ?_
  refine V_iconst (v := -1) hC dX5_isThingOrNone_1 rfl ?_
  refine V_icmp_eq (tgt := 12) hC dX5_isThingOrNone_2 (by decide) (fun c1 => ?_) (fun c1 => ?_)
  · have hf := if_t hf c1
    refine V_iconst (v := 1) hC dX5_isThingOrNone_12 rfl ?_
    refine V_goto (tgt := 17) hC dX5_isThingOrNone_13 (by decide) ?_
    obtain rfl := so_inj hf
    exact V_zret hC hr rfl hQ hA dX5_isThingOrNone_17
  · have hf := if_f hf c1
    refine V_iload_n 0 hC dX5_isThingOrNone_5 rfl rfl ?_
    obtain ⟨v2, ev2, hf⟩ := bi_some hf
    refine V_insi (As := [.int p0]) (rest := []) hC (c_X5_isThing hL  ev2) me_X5_isThing lk_X5_256 rfl rfl (Nat.le_of_ble_eq_true rfl) ⟨by decide, by decide⟩ hkn dX5_isThingOrNone_6 ?_
    refine V_if_eq (tgt := 16) hC dX5_isThingOrNone_9 (by decide) (fun c3 => ?_) (fun c3 => ?_)
    · have hf := if_t hf c3
      refine V_iconst (v := 0) hC dX5_isThingOrNone_16 rfl ?_
      obtain rfl := so_inj hf
      exact V_zret hC hr rfl hQ hA dX5_isThingOrNone_17
    · have hf := if_f hf c3
      refine V_iconst (v := 1) hC dX5_isThingOrNone_12 rfl ?_
      refine V_goto (tgt := 17) hC dX5_isThingOrNone_13 (by decide) ?_
      obtain rfl := so_inj hf
      exact V_zret hC hr rfl hQ hA dX5_isThingOrNone_17
def t_X5_link (L : Nat → Nat) (d : Dt) (p1 : Int32) (p2 : Int32) (p3 : Int32) (p4 : Int32) : Option (Int32 × Dt) := (t_X0_hasPart L d 6 p1).bind (fun v1 => if v1 = 0 then some ((-1000001), d) else (t_X0_hasPart L d 6 p2).bind (fun v3 => if v3 = 0 then some ((-1000001), d) else (t_X5_isThingOrNone L d p3).bind (fun v5 => if v5 = 0 then some ((-1000001), d) else (t_X5_isThingOrNone L d p4).bind (fun v7 => if v7 = 0 then some ((-1000001), d) else gd (inb p1 (L (32 * 6 + 2))) (if (gA d (32 * 6 + 2) (ix p1)) = 0 then gd (inb p1 (L (32 * 6 + 9))) (if (gA d (32 * 6 + 9) (ix p1)) < 6 then (t_X0_addChoice L d 6 p1 p2 p3 p4).bind (fun d13 => bd (sF d13 0 7 0) (fun d14 => gd (inb p1 (L (32 * 6 + 9))) (some (gA d14 (32 * 6 + 9) (ix p1), d14)))) else some ((-1000004), d)) else some ((-1000003), d))))))
set_option maxRecDepth 20000 in
theorem c_X5_link {l : Launch} {Y : Yx} (hL : LAY Y) {z : Sh} {d : Dt} {p1 : Int32} {p2 : Int32} {p3 : Int32} {p4 : Int32} (ho : (0, 0, 4) ∈ yI Y) {r : Int32} {d' : Dt} (hf : t_X5_link z.1 d p1 p2 p3 p4 = some (r, d')) : MM l yX5_link cX5_link 6 (some .int) 2 46 Y z [.ref (yo Y 0), .int p1, .int p2, .int p3, .int p4] d (some (.int r)) d' := by
  refine MM.ofV (by decide +kernel) hL (Nat.le_of_ble_eq_true rfl) (fun K hl hC hr hQ hA => ?_)
  have hC : CK K Y cX5_link 6 RX5 2 46 := hC
  have hkn : 0 ≤ (kR K).cells ∧ 0 ≤ (kR K).slots := ⟨Nat.zero_le _, Nat.zero_le _⟩
  unfold t_X5_link at hf
  show V K Y 6 0 0 z d 0 [(0, .ref (yo Y 0)), (1, .int p1), (2, .int p2), (3, .int p3), (4, .int p4)] []
  refine V_aload_n 0 hC dX5_link_0 rfl rfl ?_
  refine V_geto (o := 0) (o2 := 2) hC ho rfl fk_X5_45 rfl dX5_link_1 ?_
  refine V_geto (o := 2) (o2 := 6) hC (show (0, 2, 2) ∈ yI Y from hL.obj (j := 1) ho rfl) rfl fk_X5_83 rfl dX5_link_4 ?_
  refine V_astore (lv' := [(5, .ref (yo Y 6)), (0, .ref (yo Y 0)), (1, .int p1), (2, .int p2), (3, .int p3), (4, .int p4)]) hC dX5_link_7 (by decide) rfl ?_
  refine V_aload 0 hC dX5_link_9 rfl ?_
  refine V_iload_n 2 hC dX5_link_11 rfl rfl ?_
  obtain ⟨v1, ev1, hf⟩ := bi_some hf
  refine V_invi (o := 6) (As := [.int p1]) (rest := []) hC (c_X0_hasPart hL (show (0, 6, 0) ∈ yI Y from hL.obj (j := 0) (show (0, 2, 2) ∈ yI Y from hL.obj (j := 1) ho rfl) rfl) ev1) me_X0_hasPart lk_X5_92 (show (0, 6, 0) ∈ yI Y from hL.obj (j := 0) (show (0, 2, 2) ∈ yI Y from hL.obj (j := 1) ho rfl) rfl) rfl rfl rfl (Nat.le_of_ble_eq_true rfl) ⟨by decide, by decide⟩ hkn dX5_link_12 ?_
  refine V_if_eq (tgt := 42) hC dX5_link_15 (by decide) (fun c2 => ?_) (fun c2 => ?_)
  · have hf := if_t hf c2
    refine V_ldc hC ck_X5_96 dX5_link_42 ?_
    obtain ⟨rfl, rfl⟩ := so_inj2 hf
    exact V_iret hC hr hQ hA dX5_link_44
  · have hf := if_f hf c2
    refine V_aload 0 hC dX5_link_18 rfl ?_
    refine V_iload_n 3 hC dX5_link_20 rfl rfl ?_
    obtain ⟨v3, ev3, hf⟩ := bi_some hf
    refine V_invi (o := 6) (As := [.int p2]) (rest := []) hC (c_X0_hasPart hL (show (0, 6, 0) ∈ yI Y from hL.obj (j := 0) (show (0, 2, 2) ∈ yI Y from hL.obj (j := 1) ho rfl) rfl) ev3) me_X0_hasPart lk_X5_92 (show (0, 6, 0) ∈ yI Y from hL.obj (j := 0) (show (0, 2, 2) ∈ yI Y from hL.obj (j := 1) ho rfl) rfl) rfl rfl rfl (Nat.le_of_ble_eq_true rfl) ⟨by decide, by decide⟩ hkn dX5_link_21 ?_
    refine V_if_eq (tgt := 42) hC dX5_link_24 (by decide) (fun c4 => ?_) (fun c4 => ?_)
    · have hf := if_t hf c4
      refine V_ldc hC ck_X5_96 dX5_link_42 ?_
      obtain ⟨rfl, rfl⟩ := so_inj2 hf
      exact V_iret hC hr hQ hA dX5_link_44
    · have hf := if_f hf c4
      refine V_iload_n 4 hC dX5_link_27 rfl rfl ?_
      obtain ⟨v5, ev5, hf⟩ := bi_some hf
      refine V_insi (As := [.int p3]) (rest := []) hC (c_X5_isThingOrNone hL  ev5) me_X5_isThingOrNone lk_X5_141 rfl rfl (Nat.le_of_ble_eq_true rfl) ⟨by decide, by decide⟩ hkn dX5_link_28 ?_
      refine V_if_eq (tgt := 42) hC dX5_link_31 (by decide) (fun c6 => ?_) (fun c6 => ?_)
      · have hf := if_t hf c6
        refine V_ldc hC ck_X5_96 dX5_link_42 ?_
        obtain ⟨rfl, rfl⟩ := so_inj2 hf
        exact V_iret hC hr hQ hA dX5_link_44
      · have hf := if_f hf c6
        refine V_iload 5 hC dX5_link_34 rfl ?_
        obtain ⟨v7, ev7, hf⟩ := bi_some hf
        refine V_insi (As := [.int p4]) (rest := []) hC (c_X5_isThingOrNone hL  ev7) me_X5_isThingOrNone lk_X5_141 rfl rfl (Nat.le_of_ble_eq_true rfl) ⟨by decide, by decide⟩ hkn dX5_link_36 ?_
        refine V_if_ne (tgt := 45) hC dX5_link_39 (by decide) (fun c8 => ?_) (fun c8 => ?_)
        · have hf := if_f hf c8
          refine V_aload 0 hC dX5_link_45 rfl ?_
          refine V_geta (o := 6) hC (show (0, 6, 0) ∈ yI Y from hL.obj (j := 0) (show (0, 2, 2) ∈ yI Y from hL.obj (j := 1) ho rfl) rfl) rfl fk_X5_97 dX5_link_47 ?_
          refine V_iload_n 2 hC dX5_link_50 rfl rfl ?_
          obtain ⟨g9, hf⟩ := gd_some hf
          refine V_iald (a := (32 * 6 + 2)) hC (hL.row (show (0, 6, 0) ∈ yI Y from hL.obj (j := 0) (show (0, 2, 2) ∈ yI Y from hL.obj (j := 1) ho rfl) rfl) rfl) g9 dX5_link_51 ?_
          refine V_if_eq (tgt := 58) hC dX5_link_52 (by decide) (fun c10 => ?_) (fun c10 => ?_)
          · have hf := if_t hf c10
            refine V_aload 0 hC dX5_link_58 rfl ?_
            refine V_geta (o := 6) hC (show (0, 6, 0) ∈ yI Y from hL.obj (j := 0) (show (0, 2, 2) ∈ yI Y from hL.obj (j := 1) ho rfl) rfl) rfl fk_X5_103 dX5_link_60 ?_
            refine V_iload_n 2 hC dX5_link_63 rfl rfl ?_
            obtain ⟨g11, hf⟩ := gd_some hf
            refine V_iald (a := (32 * 6 + 9)) hC (hL.row (show (0, 6, 0) ∈ yI Y from hL.obj (j := 0) (show (0, 2, 2) ∈ yI Y from hL.obj (j := 1) ho rfl) rfl) rfl) g11 dX5_link_64 ?_
            refine V_bipush (v := 6) hC dX5_link_65 rfl ?_
            refine V_icmp_lt (tgt := 73) hC dX5_link_67 (by decide) (fun c12 => ?_) (fun c12 => ?_)
            · have hf := if_t hf c12
              refine V_aload 0 hC dX5_link_73 rfl ?_
              refine V_iload_n 2 hC dX5_link_75 rfl rfl ?_
              refine V_iload_n 3 hC dX5_link_76 rfl rfl ?_
              refine V_iload_n 4 hC dX5_link_77 rfl rfl ?_
              refine V_iload 5 hC dX5_link_78 rfl ?_
              obtain ⟨d13, ed13, hf⟩ := bi_some hf
              refine V_invv (o := 6) (As := [.int p1, .int p2, .int p3, .int p4]) (rest := []) hC (c_X0_addChoice hL (show (0, 6, 0) ∈ yI Y from hL.obj (j := 0) (show (0, 2, 2) ∈ yI Y from hL.obj (j := 1) ho rfl) rfl) ed13) me_X0_addChoice lk_X5_145 (show (0, 6, 0) ∈ yI Y from hL.obj (j := 0) (show (0, 2, 2) ∈ yI Y from hL.obj (j := 1) ho rfl) rfl) rfl rfl rfl (Nat.le_of_ble_eq_true rfl) ⟨by decide, by decide⟩ hkn dX5_link_80 ?_
              refine V_aload_n 1 hC dX5_link_83 rfl rfl ?_
              refine V_iconst (v := 0) hC dX5_link_84 rfl ?_
              refine V_putz (o := 0) hC ho rfl fk_X5_24 pl_X5 rfl rfl rfl dX5_link_85 (fun d14 ed14 => ?_)
              have hf := bd_e hf d14 ed14
              refine V_aload 0 hC dX5_link_88 rfl ?_
              refine V_geta (o := 6) hC (show (0, 6, 0) ∈ yI Y from hL.obj (j := 0) (show (0, 2, 2) ∈ yI Y from hL.obj (j := 1) ho rfl) rfl) rfl fk_X5_103 dX5_link_90 ?_
              refine V_iload_n 2 hC dX5_link_93 rfl rfl ?_
              obtain ⟨g15, hf⟩ := gd_some hf
              refine V_iald (a := (32 * 6 + 9)) hC (hL.row (show (0, 6, 0) ∈ yI Y from hL.obj (j := 0) (show (0, 2, 2) ∈ yI Y from hL.obj (j := 1) ho rfl) rfl) rfl) g15 dX5_link_94 ?_
              obtain ⟨rfl, rfl⟩ := so_inj2 hf
              exact V_iret hC hr hQ hA dX5_link_95
            · have hf := if_f hf c12
              refine V_ldc hC ck_X5_67 dX5_link_70 ?_
              obtain ⟨rfl, rfl⟩ := so_inj2 hf
              exact V_iret hC hr hQ hA dX5_link_72
          · have hf := if_f hf c10
            refine V_ldc hC ck_X5_144 dX5_link_55 ?_
            obtain ⟨rfl, rfl⟩ := so_inj2 hf
            exact V_iret hC hr hQ hA dX5_link_57
        · have hf := if_t hf c8
          refine V_ldc hC ck_X5_96 dX5_link_42 ?_
          obtain ⟨rfl, rfl⟩ := so_inj2 hf
          exact V_iret hC hr hQ hA dX5_link_44
def t_X5_unlink (L : Nat → Nat) (d : Dt) (p1 : Int32) (p2 : Int32) : Option (Int32 × Dt) := (t_X0_hasChoice L d 6 p1 p2).bind (fun v1 => if v1 = 0 then some ((-1000001), d) else (t_X0_strikeChoice L d 6 p1 p2).bind (fun d3 => bd (sF d3 0 7 0) (fun d4 => gd (inb p1 (L (32 * 6 + 9))) (some (gA d4 (32 * 6 + 9) (ix p1), d4)))))
set_option maxRecDepth 20000 in
theorem c_X5_unlink {l : Launch} {Y : Yx} (hL : LAY Y) {z : Sh} {d : Dt} {p1 : Int32} {p2 : Int32} (ho : (0, 0, 4) ∈ yI Y) {r : Int32} {d' : Dt} (hf : t_X5_unlink z.1 d p1 p2 = some (r, d')) : MM l yX5_unlink cX5_unlink 4 (some .int) 3 67 Y z [.ref (yo Y 0), .int p1, .int p2] d (some (.int r)) d' := by
  refine MM.ofV (by decide +kernel) hL (Nat.le_of_ble_eq_true rfl) (fun K hl hC hr hQ hA => ?_)
  have hC : CK K Y cX5_unlink 4 RX5 3 67 := hC
  have hkn : 0 ≤ (kR K).cells ∧ 0 ≤ (kR K).slots := ⟨Nat.zero_le _, Nat.zero_le _⟩
  unfold t_X5_unlink at hf
  show V K Y 4 0 0 z d 0 [(0, .ref (yo Y 0)), (1, .int p1), (2, .int p2)] []
  refine V_aload_n 0 hC dX5_unlink_0 rfl rfl ?_
  refine V_geto (o := 0) (o2 := 2) hC ho rfl fk_X5_45 rfl dX5_unlink_1 ?_
  refine V_geto (o := 2) (o2 := 6) hC (show (0, 2, 2) ∈ yI Y from hL.obj (j := 1) ho rfl) rfl fk_X5_83 rfl dX5_unlink_4 ?_
  refine V_astore_n (lv' := [(3, .ref (yo Y 6)), (0, .ref (yo Y 0)), (1, .int p1), (2, .int p2)]) hC dX5_unlink_7 rfl (by decide) rfl ?_
  refine V_aload_n 0 hC dX5_unlink_8 rfl rfl ?_
  refine V_iload_n 2 hC dX5_unlink_9 rfl rfl ?_
  refine V_iload_n 3 hC dX5_unlink_10 rfl rfl ?_
  obtain ⟨v1, ev1, hf⟩ := bi_some hf
  refine V_invi (o := 6) (As := [.int p1, .int p2]) (rest := []) hC (c_X0_hasChoice hL (show (0, 6, 0) ∈ yI Y from hL.obj (j := 0) (show (0, 2, 2) ∈ yI Y from hL.obj (j := 1) ho rfl) rfl) ev1) me_X0_hasChoice lk_X5_129 (show (0, 6, 0) ∈ yI Y from hL.obj (j := 0) (show (0, 2, 2) ∈ yI Y from hL.obj (j := 1) ho rfl) rfl) rfl rfl rfl (Nat.le_of_ble_eq_true rfl) ⟨by decide, by decide⟩ hkn dX5_unlink_11 ?_
  refine V_if_ne (tgt := 20) hC dX5_unlink_14 (by decide) (fun c2 => ?_) (fun c2 => ?_)
  · have hf := if_f hf c2
    refine V_aload_n 0 hC dX5_unlink_20 rfl rfl ?_
    refine V_iload_n 2 hC dX5_unlink_21 rfl rfl ?_
    refine V_iload_n 3 hC dX5_unlink_22 rfl rfl ?_
    obtain ⟨d3, ed3, hf⟩ := bi_some hf
    refine V_invv (o := 6) (As := [.int p1, .int p2]) (rest := []) hC (c_X0_strikeChoice hL (show (0, 6, 0) ∈ yI Y from hL.obj (j := 0) (show (0, 2, 2) ∈ yI Y from hL.obj (j := 1) ho rfl) rfl) ed3) me_X0_strikeChoice lk_X5_149 (show (0, 6, 0) ∈ yI Y from hL.obj (j := 0) (show (0, 2, 2) ∈ yI Y from hL.obj (j := 1) ho rfl) rfl) rfl rfl rfl (Nat.le_of_ble_eq_true rfl) ⟨by decide, by decide⟩ hkn dX5_unlink_23 ?_
    refine V_aload_n 1 hC dX5_unlink_26 rfl rfl ?_
    refine V_iconst (v := 0) hC dX5_unlink_27 rfl ?_
    refine V_putz (o := 0) hC ho rfl fk_X5_24 pl_X5 rfl rfl rfl dX5_unlink_28 (fun d4 ed4 => ?_)
    have hf := bd_e hf d4 ed4
    refine V_aload_n 0 hC dX5_unlink_31 rfl rfl ?_
    refine V_geta (o := 6) hC (show (0, 6, 0) ∈ yI Y from hL.obj (j := 0) (show (0, 2, 2) ∈ yI Y from hL.obj (j := 1) ho rfl) rfl) rfl fk_X5_103 dX5_unlink_32 ?_
    refine V_iload_n 2 hC dX5_unlink_35 rfl rfl ?_
    obtain ⟨g5, hf⟩ := gd_some hf
    refine V_iald (a := (32 * 6 + 9)) hC (hL.row (show (0, 6, 0) ∈ yI Y from hL.obj (j := 0) (show (0, 2, 2) ∈ yI Y from hL.obj (j := 1) ho rfl) rfl) rfl) g5 dX5_unlink_36 ?_
    obtain ⟨rfl, rfl⟩ := so_inj2 hf
    exact V_iret hC hr hQ hA dX5_unlink_37
  · have hf := if_t hf c2
    refine V_ldc hC ck_X5_96 dX5_unlink_17 ?_
    obtain ⟨rfl, rfl⟩ := so_inj2 hf
    exact V_iret hC hr hQ hA dX5_unlink_19
def t_X5_begin (L : Nat → Nat) (d : Dt)  : Option (Int32 × Dt) := if (gF d 6 0) = 0 then some ((-1000003), d) else (t_X2_beginReading L d 2).bind (fun d2 => (t_X2_standing L d2 2).bind (fun v3 => some (v3, d2)))
set_option maxRecDepth 20000 in
theorem c_X5_begin {l : Launch} {Y : Yx} (hL : LAY Y) {z : Sh} {d : Dt}  (ho : (0, 0, 4) ∈ yI Y) {r : Int32} {d' : Dt} (hf : t_X5_begin z.1 d  = some (r, d')) : MM l yX5_begin cX5_begin 1 (some .int) 6 134 Y z [.ref (yo Y 0)] d (some (.int r)) d' := by
  refine MM.ofV (by decide +kernel) hL (Nat.le_of_ble_eq_true rfl) (fun K hl hC hr hQ hA => ?_)
  have hC : CK K Y cX5_begin 1 RX5 6 134 := hC
  have hkn : 0 ≤ (kR K).cells ∧ 0 ≤ (kR K).slots := ⟨Nat.zero_le _, Nat.zero_le _⟩
  unfold t_X5_begin at hf
  show V K Y 1 0 0 z d 0 [(0, .ref (yo Y 0))] []
  refine V_aload_n 0 hC dX5_begin_0 rfl rfl ?_
  refine V_geto (o := 0) (o2 := 2) hC ho rfl fk_X5_45 rfl dX5_begin_1 ?_
  refine V_geto (o := 2) (o2 := 6) hC (show (0, 2, 2) ∈ yI Y from hL.obj (j := 1) ho rfl) rfl fk_X5_83 rfl dX5_begin_4 ?_
  refine V_geti (o := 6) hC (show (0, 6, 0) ∈ yI Y from hL.obj (j := 0) (show (0, 2, 2) ∈ yI Y from hL.obj (j := 1) ho rfl) rfl) rfl fk_X5_86 dX5_begin_7 ?_
  refine V_if_ne (tgt := 16) hC dX5_begin_10 (by decide) (fun c1 => ?_) (fun c1 => ?_)
  · have hf := if_f hf c1
    refine V_aload_n 0 hC dX5_begin_16 rfl rfl ?_
    refine V_geto (o := 0) (o2 := 2) hC ho rfl fk_X5_45 rfl dX5_begin_17 ?_
    obtain ⟨d2, ed2, hf⟩ := bi_some hf
    refine V_invv (o := 2) (As := []) (rest := []) hC (c_X2_beginReading hL (show (0, 2, 2) ∈ yI Y from hL.obj (j := 1) ho rfl) ed2) me_X2_beginReading lk_X5_166 (show (0, 2, 2) ∈ yI Y from hL.obj (j := 1) ho rfl) rfl rfl rfl (Nat.le_of_ble_eq_true rfl) ⟨by decide, by decide⟩ hkn dX5_begin_20 ?_
    refine V_aload_n 0 hC dX5_begin_23 rfl rfl ?_
    refine V_geto (o := 0) (o2 := 2) hC ho rfl fk_X5_45 rfl dX5_begin_24 ?_
    obtain ⟨v3, ev3, hf⟩ := bi_some hf
    refine V_invi (o := 2) (As := []) (rest := []) hC (c_X2_standing hL (show (0, 2, 2) ∈ yI Y from hL.obj (j := 1) ho rfl) ev3) me_X2_standing lk_X5_169 (show (0, 2, 2) ∈ yI Y from hL.obj (j := 1) ho rfl) rfl rfl rfl (Nat.le_of_ble_eq_true rfl) ⟨by decide, by decide⟩ hkn dX5_begin_27 ?_
    obtain ⟨rfl, rfl⟩ := so_inj2 hf
    exact V_iret hC hr hQ hA dX5_begin_30
  · have hf := if_t hf c1
    refine V_ldc hC ck_X5_144 dX5_begin_13 ?_
    obtain ⟨rfl, rfl⟩ := so_inj2 hf
    exact V_iret hC hr hQ hA dX5_begin_15
def t_X5_choose (L : Nat → Nat) (d : Dt) (p1 : Int32) : Option (Int32 × Dt) := if (gF d 2 3) = 0 then some ((-1000003), d) else (t_X3_partOf L d (gF d 2 4)).bind (fun v2 => (t_X0_hasChoice L d 6 v2 p1).bind (fun v3 => if v3 = 0 then some ((-1000001), d) else (t_X0_isOpen L d 6 (gF d 2 4) p1).bind (fun v5 => if v5 = 0 then some ((-1000003), d) else (t_X0_wayOut L d 6 (gF d 2 4) p1).bind (fun v7 => (t_X2_turnTo L d 2 v7).bind (fun d8 => (t_X2_standing L d8 2).bind (fun v9 => some (v9, d8)))))))
set_option maxRecDepth 20000 in
theorem c_X5_choose {l : Launch} {Y : Yx} (hL : LAY Y) {z : Sh} {d : Dt} {p1 : Int32} (ho : (0, 0, 4) ∈ yI Y) {r : Int32} {d' : Dt} (hf : t_X5_choose z.1 d p1 = some (r, d')) : MM l yX5_choose cX5_choose 2 (some .int) 6 134 Y z [.ref (yo Y 0), .int p1] d (some (.int r)) d' := by
  refine MM.ofV (by decide +kernel) hL (Nat.le_of_ble_eq_true rfl) (fun K hl hC hr hQ hA => ?_)
  have hC : CK K Y cX5_choose 2 RX5 6 134 := hC
  have hkn : 0 ≤ (kR K).cells ∧ 0 ≤ (kR K).slots := ⟨Nat.zero_le _, Nat.zero_le _⟩
  unfold t_X5_choose at hf
  show V K Y 2 0 0 z d 0 [(0, .ref (yo Y 0)), (1, .int p1)] []
  refine V_aload_n 0 hC dX5_choose_0 rfl rfl ?_
  refine V_geto (o := 0) (o2 := 2) hC ho rfl fk_X5_45 rfl dX5_choose_1 ?_
  refine V_geti (o := 2) hC (show (0, 2, 2) ∈ yI Y from hL.obj (j := 1) ho rfl) rfl fk_X5_172 dX5_choose_4 ?_
  refine V_if_ne (tgt := 13) hC dX5_choose_7 (by decide) (fun c1 => ?_) (fun c1 => ?_)
  · have hf := if_f hf c1
    refine V_aload_n 0 hC dX5_choose_13 rfl rfl ?_
    refine V_geto (o := 0) (o2 := 2) hC ho rfl fk_X5_45 rfl dX5_choose_14 ?_
    refine V_geto (o := 2) (o2 := 6) hC (show (0, 2, 2) ∈ yI Y from hL.obj (j := 1) ho rfl) rfl fk_X5_83 rfl dX5_choose_17 ?_
    refine V_aload_n 0 hC dX5_choose_20 rfl rfl ?_
    refine V_geto (o := 0) (o2 := 2) hC ho rfl fk_X5_45 rfl dX5_choose_21 ?_
    refine V_geti (o := 2) hC (show (0, 2, 2) ∈ yI Y from hL.obj (j := 1) ho rfl) rfl fk_X5_175 dX5_choose_24 ?_
    obtain ⟨v2, ev2, hf⟩ := bi_some hf
    refine V_insi (As := [.int (gF d 2 4)]) (rest := [.ref (yo Y 6)]) hC (c_X3_partOf hL  ev2) me_X3_partOf lk_X5_178 rfl rfl (Nat.le_of_ble_eq_true rfl) ⟨by decide, by decide⟩ hkn dX5_choose_27 ?_
    refine V_iload_n 1 hC dX5_choose_30 rfl rfl ?_
    obtain ⟨v3, ev3, hf⟩ := bi_some hf
    refine V_invi (o := 6) (As := [.int v2, .int p1]) (rest := []) hC (c_X0_hasChoice hL (show (0, 6, 0) ∈ yI Y from hL.obj (j := 0) (show (0, 2, 2) ∈ yI Y from hL.obj (j := 1) ho rfl) rfl) ev3) me_X0_hasChoice lk_X5_129 (show (0, 6, 0) ∈ yI Y from hL.obj (j := 0) (show (0, 2, 2) ∈ yI Y from hL.obj (j := 1) ho rfl) rfl) rfl rfl rfl (Nat.le_of_ble_eq_true rfl) ⟨by decide, by decide⟩ hkn dX5_choose_31 ?_
    refine V_if_ne (tgt := 40) hC dX5_choose_34 (by decide) (fun c4 => ?_) (fun c4 => ?_)
    · have hf := if_f hf c4
      refine V_aload_n 0 hC dX5_choose_40 rfl rfl ?_
      refine V_geto (o := 0) (o2 := 2) hC ho rfl fk_X5_45 rfl dX5_choose_41 ?_
      refine V_geto (o := 2) (o2 := 6) hC (show (0, 2, 2) ∈ yI Y from hL.obj (j := 1) ho rfl) rfl fk_X5_83 rfl dX5_choose_44 ?_
      refine V_aload_n 0 hC dX5_choose_47 rfl rfl ?_
      refine V_geto (o := 0) (o2 := 2) hC ho rfl fk_X5_45 rfl dX5_choose_48 ?_
      refine V_geti (o := 2) hC (show (0, 2, 2) ∈ yI Y from hL.obj (j := 1) ho rfl) rfl fk_X5_175 dX5_choose_51 ?_
      refine V_iload_n 1 hC dX5_choose_54 rfl rfl ?_
      obtain ⟨v5, ev5, hf⟩ := bi_some hf
      refine V_invi (o := 6) (As := [.int (gF d 2 4), .int p1]) (rest := []) hC (c_X0_isOpen hL (show (0, 6, 0) ∈ yI Y from hL.obj (j := 0) (show (0, 2, 2) ∈ yI Y from hL.obj (j := 1) ho rfl) rfl) ev5) me_X0_isOpen lk_X5_183 (show (0, 6, 0) ∈ yI Y from hL.obj (j := 0) (show (0, 2, 2) ∈ yI Y from hL.obj (j := 1) ho rfl) rfl) rfl rfl rfl (Nat.le_of_ble_eq_true rfl) ⟨by decide, by decide⟩ hkn dX5_choose_55 ?_
      refine V_if_ne (tgt := 64) hC dX5_choose_58 (by decide) (fun c6 => ?_) (fun c6 => ?_)
      · have hf := if_f hf c6
        refine V_aload_n 0 hC dX5_choose_64 rfl rfl ?_
        refine V_geto (o := 0) (o2 := 2) hC ho rfl fk_X5_45 rfl dX5_choose_65 ?_
        refine V_aload_n 0 hC dX5_choose_68 rfl rfl ?_
        refine V_geto (o := 0) (o2 := 2) hC ho rfl fk_X5_45 rfl dX5_choose_69 ?_
        refine V_geto (o := 2) (o2 := 6) hC (show (0, 2, 2) ∈ yI Y from hL.obj (j := 1) ho rfl) rfl fk_X5_83 rfl dX5_choose_72 ?_
        refine V_aload_n 0 hC dX5_choose_75 rfl rfl ?_
        refine V_geto (o := 0) (o2 := 2) hC ho rfl fk_X5_45 rfl dX5_choose_76 ?_
        refine V_geti (o := 2) hC (show (0, 2, 2) ∈ yI Y from hL.obj (j := 1) ho rfl) rfl fk_X5_175 dX5_choose_79 ?_
        refine V_iload_n 1 hC dX5_choose_82 rfl rfl ?_
        obtain ⟨v7, ev7, hf⟩ := bi_some hf
        refine V_invi (o := 6) (As := [.int (gF d 2 4), .int p1]) (rest := [.ref (yo Y 2)]) hC (c_X0_wayOut hL (show (0, 6, 0) ∈ yI Y from hL.obj (j := 0) (show (0, 2, 2) ∈ yI Y from hL.obj (j := 1) ho rfl) rfl) ev7) me_X0_wayOut lk_X5_186 (show (0, 6, 0) ∈ yI Y from hL.obj (j := 0) (show (0, 2, 2) ∈ yI Y from hL.obj (j := 1) ho rfl) rfl) rfl rfl rfl (Nat.le_of_ble_eq_true rfl) ⟨by decide, by decide⟩ hkn dX5_choose_83 ?_
        obtain ⟨d8, ed8, hf⟩ := bi_some hf
        refine V_invv (o := 2) (As := [.int v7]) (rest := []) hC (c_X2_turnTo hL (show (0, 2, 2) ∈ yI Y from hL.obj (j := 1) ho rfl) ed8) me_X2_turnTo lk_X5_190 (show (0, 2, 2) ∈ yI Y from hL.obj (j := 1) ho rfl) rfl rfl rfl (Nat.le_of_ble_eq_true rfl) ⟨by decide, by decide⟩ hkn dX5_choose_86 ?_
        refine V_aload_n 0 hC dX5_choose_89 rfl rfl ?_
        refine V_geto (o := 0) (o2 := 2) hC ho rfl fk_X5_45 rfl dX5_choose_90 ?_
        obtain ⟨v9, ev9, hf⟩ := bi_some hf
        refine V_invi (o := 2) (As := []) (rest := []) hC (c_X2_standing hL (show (0, 2, 2) ∈ yI Y from hL.obj (j := 1) ho rfl) ev9) me_X2_standing lk_X5_169 (show (0, 2, 2) ∈ yI Y from hL.obj (j := 1) ho rfl) rfl rfl rfl (Nat.le_of_ble_eq_true rfl) ⟨by decide, by decide⟩ hkn dX5_choose_93 ?_
        obtain ⟨rfl, rfl⟩ := so_inj2 hf
        exact V_iret hC hr hQ hA dX5_choose_96
      · have hf := if_t hf c6
        refine V_ldc hC ck_X5_144 dX5_choose_61 ?_
        obtain ⟨rfl, rfl⟩ := so_inj2 hf
        exact V_iret hC hr hQ hA dX5_choose_63
    · have hf := if_t hf c4
      refine V_ldc hC ck_X5_96 dX5_choose_37 ?_
      obtain ⟨rfl, rfl⟩ := so_inj2 hf
      exact V_iret hC hr hQ hA dX5_choose_39
  · have hf := if_t hf c1
    refine V_ldc hC ck_X5_144 dX5_choose_10 ?_
    obtain ⟨rfl, rfl⟩ := so_inj2 hf
    exact V_iret hC hr hQ hA dX5_choose_12
def t_X5_roll_93 (L : Nat → Nat) (p1 : Int32)  (x2 : Int32) (s0 : Int32) (d : Dt) : Option (Int32 × Dt) := (t_X0_rollTarget L d 6 x2 s0).bind (fun v12 => (t_X2_turnTo L d 2 v12).bind (fun d13 => (t_X2_standing L d13 2).bind (fun v14 => some (v14, d13))))
set_option maxRecDepth 20000 in
theorem b_X5_roll_93 {K : Kx} {Y : Yx} {z : Sh}  (hC : CK K Y cX5_roll 4 RX5 6 134) (hr : (kme K).sig.returnType = some .int) (hA : kA K = aY Y z) {p1 : Int32} (ho : (0, 0, 4) ∈ yI Y) {r : Int32} {d' : Dt} (hQ : kQ K = MQ (kb K) (QM Y z (some (.int r)) d') (ka K) (ks K) 0 0 (aY Y z))   (x2 : Int32) (s0 : Int32) (d : Dt) (hf : t_X5_roll_93 z.1 p1  x2 s0 d = some (r, d')) : V K Y 4 0 0 z d 93 [(0, .ref (yo Y 0)), (2, .int x2)] [.int s0] := by
  have hL := hC.2.2.2.2.2.2.1
  have hkn : 0 ≤ (kR K).cells ∧ 0 ≤ (kR K).slots := ⟨Nat.zero_le _, Nat.zero_le _⟩
  unfold t_X5_roll_93 at hf
  refine V_istore_n (lv' := [(3, .int s0), (0, .ref (yo Y 0)), (2, .int x2)]) hC dX5_roll_93 rfl (by decide) rfl ?_
  refine V_aload_n 1 hC dX5_roll_94 rfl rfl ?_
  refine V_geto (o := 0) (o2 := 2) hC ho rfl fk_X5_45 rfl dX5_roll_95 ?_
  refine V_aload_n 1 hC dX5_roll_98 rfl rfl ?_
  refine V_geto (o := 0) (o2 := 2) hC ho rfl fk_X5_45 rfl dX5_roll_99 ?_
  refine V_geto (o := 2) (o2 := 6) hC (show (0, 2, 2) ∈ yI Y from hL.obj (j := 1) ho rfl) rfl fk_X5_83 rfl dX5_roll_102 ?_
  refine V_iload_n 2 hC dX5_roll_105 rfl rfl ?_
  refine V_iload_n 0 hC dX5_roll_106 rfl rfl ?_
  obtain ⟨v12, ev12, hf⟩ := bi_some hf
  refine V_invi (o := 6) (As := [.int x2, .int s0]) (rest := [.ref (yo Y 2)]) hC (c_X0_rollTarget hL (show (0, 6, 0) ∈ yI Y from hL.obj (j := 0) (show (0, 2, 2) ∈ yI Y from hL.obj (j := 1) ho rfl) rfl) ev12) me_X0_rollTarget lk_X5_203 (show (0, 6, 0) ∈ yI Y from hL.obj (j := 0) (show (0, 2, 2) ∈ yI Y from hL.obj (j := 1) ho rfl) rfl) rfl rfl rfl (Nat.le_of_ble_eq_true rfl) ⟨by decide, by decide⟩ hkn dX5_roll_107 ?_
  obtain ⟨d13, ed13, hf⟩ := bi_some hf
  refine V_invv (o := 2) (As := [.int v12]) (rest := []) hC (c_X2_turnTo hL (show (0, 2, 2) ∈ yI Y from hL.obj (j := 1) ho rfl) ed13) me_X2_turnTo lk_X5_190 (show (0, 2, 2) ∈ yI Y from hL.obj (j := 1) ho rfl) rfl rfl rfl (Nat.le_of_ble_eq_true rfl) ⟨by decide, by decide⟩ hkn dX5_roll_110 ?_
  refine V_aload_n 1 hC dX5_roll_113 rfl rfl ?_
  refine V_geto (o := 0) (o2 := 2) hC ho rfl fk_X5_45 rfl dX5_roll_114 ?_
  obtain ⟨v14, ev14, hf⟩ := bi_some hf
  refine V_invi (o := 2) (As := []) (rest := []) hC (c_X2_standing hL (show (0, 2, 2) ∈ yI Y from hL.obj (j := 1) ho rfl) ev14) me_X2_standing lk_X5_169 (show (0, 2, 2) ∈ yI Y from hL.obj (j := 1) ho rfl) rfl rfl rfl (Nat.le_of_ble_eq_true rfl) ⟨by decide, by decide⟩ hkn dX5_roll_117 ?_
  obtain ⟨rfl, rfl⟩ := so_inj2 hf
  exact V_iret hC hr hQ hA dX5_roll_120
def t_X5_roll_19 (L : Nat → Nat) (p1 : Int32)   (d : Dt) : Option (Int32 × Dt) := if (gF d 2 3) = 0 then some ((-1000003), d) else (t_X3_isOver L d (gF d 2 4)).bind (fun v5 => if v5 = 0 then (t_X3_partOf L d (gF d 2 4)).bind (fun v7 => (t_X0_isRoll L d 6 v7).bind (fun v8 => if v8 = 0 then some ((-1000003), d) else if p1 = (-1) then (t_X2_draw L d 2 6).bind (fun q11 => t_X5_roll_93 L p1  v7 (q11.1 + 1) q11.2) else t_X5_roll_93 L p1  v7 p1 d)) else some ((-1000003), d))
set_option maxRecDepth 20000 in
theorem b_X5_roll_19 {K : Kx} {Y : Yx} {z : Sh}  (hC : CK K Y cX5_roll 4 RX5 6 134) (hr : (kme K).sig.returnType = some .int) (hA : kA K = aY Y z) {p1 : Int32} (ho : (0, 0, 4) ∈ yI Y) {r : Int32} {d' : Dt} (hQ : kQ K = MQ (kb K) (QM Y z (some (.int r)) d') (ka K) (ks K) 0 0 (aY Y z))    (d : Dt) (hf : t_X5_roll_19 z.1 p1   d = some (r, d')) : V K Y 4 0 0 z d 19 [(0, .ref (yo Y 0)), (1, .int p1)] [] := by
  have hL := hC.2.2.2.2.2.2.1
  have hkn : 0 ≤ (kR K).cells ∧ 0 ≤ (kR K).slots := ⟨Nat.zero_le _, Nat.zero_le _⟩
  unfold t_X5_roll_19 at hf
  refine V_aload_n 0 hC dX5_roll_19 rfl rfl ?_
  refine V_geto (o := 0) (o2 := 2) hC ho rfl fk_X5_45 rfl dX5_roll_20 ?_
  refine V_geti (o := 2) hC (show (0, 2, 2) ∈ yI Y from hL.obj (j := 1) ho rfl) rfl fk_X5_172 dX5_roll_23 ?_
  refine V_if_eq (tgt := 42) hC dX5_roll_26 (by decide) (fun c4 => ?_) (fun c4 => ?_)
  · have hf := if_t hf c4
    refine V_ldc hC ck_X5_144 dX5_roll_42 ?_
    obtain ⟨rfl, rfl⟩ := so_inj2 hf
    exact V_iret hC hr hQ hA dX5_roll_44
  · have hf := if_f hf c4
    refine V_aload_n 0 hC dX5_roll_29 rfl rfl ?_
    refine V_geto (o := 0) (o2 := 2) hC ho rfl fk_X5_45 rfl dX5_roll_30 ?_
    refine V_geti (o := 2) hC (show (0, 2, 2) ∈ yI Y from hL.obj (j := 1) ho rfl) rfl fk_X5_175 dX5_roll_33 ?_
    obtain ⟨v5, ev5, hf⟩ := bi_some hf
    refine V_insi (As := [.int (gF d 2 4)]) (rest := []) hC (c_X3_isOver hL  ev5) me_X3_isOver lk_X5_194 rfl rfl (Nat.le_of_ble_eq_true rfl) ⟨by decide, by decide⟩ hkn dX5_roll_36 ?_
    refine V_if_eq (tgt := 45) hC dX5_roll_39 (by decide) (fun c6 => ?_) (fun c6 => ?_)
    · have hf := if_t hf c6
      refine V_aload_n 0 hC dX5_roll_45 rfl rfl ?_
      refine V_geto (o := 0) (o2 := 2) hC ho rfl fk_X5_45 rfl dX5_roll_46 ?_
      refine V_geti (o := 2) hC (show (0, 2, 2) ∈ yI Y from hL.obj (j := 1) ho rfl) rfl fk_X5_175 dX5_roll_49 ?_
      obtain ⟨v7, ev7, hf⟩ := bi_some hf
      refine V_insi (As := [.int (gF d 2 4)]) (rest := []) hC (c_X3_partOf hL  ev7) me_X3_partOf lk_X5_178 rfl rfl (Nat.le_of_ble_eq_true rfl) ⟨by decide, by decide⟩ hkn dX5_roll_52 ?_
      refine V_istore_n (lv' := [(2, .int v7), (0, .ref (yo Y 0)), (1, .int p1)]) hC dX5_roll_55 rfl (by decide) rfl ?_
      refine V_aload_n 1 hC dX5_roll_56 rfl rfl ?_
      refine V_geto (o := 0) (o2 := 2) hC ho rfl fk_X5_45 rfl dX5_roll_57 ?_
      refine V_geto (o := 2) (o2 := 6) hC (show (0, 2, 2) ∈ yI Y from hL.obj (j := 1) ho rfl) rfl fk_X5_83 rfl dX5_roll_60 ?_
      refine V_iload_n 0 hC dX5_roll_63 rfl rfl ?_
      obtain ⟨v8, ev8, hf⟩ := bi_some hf
      refine V_invi (o := 6) (As := [.int v7]) (rest := []) hC (c_X0_isRoll hL (show (0, 6, 0) ∈ yI Y from hL.obj (j := 0) (show (0, 2, 2) ∈ yI Y from hL.obj (j := 1) ho rfl) rfl) ev8) me_X0_isRoll lk_X5_197 (show (0, 6, 0) ∈ yI Y from hL.obj (j := 0) (show (0, 2, 2) ∈ yI Y from hL.obj (j := 1) ho rfl) rfl) rfl rfl rfl (Nat.le_of_ble_eq_true rfl) ⟨by decide, by decide⟩ hkn dX5_roll_64 ?_
      refine V_if_ne (tgt := 73) hC dX5_roll_67 (by decide) (fun c9 => ?_) (fun c9 => ?_)
      · have hf := if_f hf c9
        refine V_iload_n 2 hC dX5_roll_73 rfl rfl ?_
        refine V_iconst (v := -1) hC dX5_roll_74 rfl ?_
        refine V_icmp_ne (tgt := 92) hC dX5_roll_75 (by decide) (fun c10 => ?_) (fun c10 => ?_)
        · have hf := if_f hf c10
          refine V_iload_n 2 hC dX5_roll_92 rfl rfl ?_
          exact V_sub [1, 0] rfl (b_X5_roll_93 hC hr hA ho hQ  v7 p1 d hf)
        · have hf := if_t hf c10
          refine V_aload_n 1 hC dX5_roll_78 rfl rfl ?_
          refine V_geto (o := 0) (o2 := 2) hC ho rfl fk_X5_45 rfl dX5_roll_79 ?_
          refine V_bipush (v := 6) hC dX5_roll_82 rfl ?_
          obtain ⟨q11, eq11, hf⟩ := bi_some hf
          refine V_invi (o := 2) (As := [.int 6]) (rest := []) hC (c_X2_draw hL (show (0, 2, 2) ∈ yI Y from hL.obj (j := 1) ho rfl) eq11) me_X2_draw lk_X5_200 (show (0, 2, 2) ∈ yI Y from hL.obj (j := 1) ho rfl) rfl rfl rfl (Nat.le_of_ble_eq_true rfl) ⟨by decide, by decide⟩ hkn dX5_roll_84 ?_
          refine V_iconst (v := 1) hC dX5_roll_87 rfl ?_
          refine V_iadd hC dX5_roll_88 ?_
          refine V_goto (tgt := 93) hC dX5_roll_89 (by decide) ?_
          exact V_sub [1, 0] rfl (b_X5_roll_93 hC hr hA ho hQ  v7 (q11.1 + 1) q11.2 hf)
      · have hf := if_t hf c9
        refine V_ldc hC ck_X5_144 dX5_roll_70 ?_
        obtain ⟨rfl, rfl⟩ := so_inj2 hf
        exact V_iret hC hr hQ hA dX5_roll_72
    · have hf := if_f hf c6
      refine V_ldc hC ck_X5_144 dX5_roll_42 ?_
      obtain ⟨rfl, rfl⟩ := so_inj2 hf
      exact V_iret hC hr hQ hA dX5_roll_44
def t_X5_roll (L : Nat → Nat) (d : Dt) (p1 : Int32) : Option (Int32 × Dt) := if p1 = (-1) then t_X5_roll_19 L p1  d else if p1 < 1 then some ((-1000002), d) else if p1 ≤ 6 then t_X5_roll_19 L p1  d else some ((-1000002), d)
set_option maxRecDepth 20000 in
theorem c_X5_roll {l : Launch} {Y : Yx} (hL : LAY Y) {z : Sh} {d : Dt} {p1 : Int32} (ho : (0, 0, 4) ∈ yI Y) {r : Int32} {d' : Dt} (hf : t_X5_roll z.1 d p1 = some (r, d')) : MM l yX5_roll cX5_roll 4 (some .int) 6 134 Y z [.ref (yo Y 0), .int p1] d (some (.int r)) d' := by
  refine MM.ofV (by decide +kernel) hL (Nat.le_of_ble_eq_true rfl) (fun K hl hC hr hQ hA => ?_)
  have hC : CK K Y cX5_roll 4 RX5 6 134 := hC
  unfold t_X5_roll at hf
  show V K Y 4 0 0 z d 0 [(0, .ref (yo Y 0)), (1, .int p1)] []
  refine V_iload_n 1 hC dX5_roll_0 rfl rfl ?_
  refine V_iconst (v := -1) hC dX5_roll_1 rfl ?_
  refine V_icmp_eq (tgt := 19) hC dX5_roll_2 (by decide) (fun c1 => ?_) (fun c1 => ?_)
  · have hf := if_t hf c1
    exact b_X5_roll_19 hC hr hA ho hQ  d hf
  · have hf := if_f hf c1
    refine V_iload_n 1 hC dX5_roll_5 rfl rfl ?_
    refine V_iconst (v := 1) hC dX5_roll_6 rfl ?_
    refine V_icmp_lt (tgt := 16) hC dX5_roll_7 (by decide) (fun c2 => ?_) (fun c2 => ?_)
    · have hf := if_t hf c2
      refine V_ldc hC ck_X5_63 dX5_roll_16 ?_
      obtain ⟨rfl, rfl⟩ := so_inj2 hf
      exact V_iret hC hr hQ hA dX5_roll_18
    · have hf := if_f hf c2
      refine V_iload_n 1 hC dX5_roll_10 rfl rfl ?_
      refine V_bipush (v := 6) hC dX5_roll_11 rfl ?_
      refine V_icmp_le (tgt := 19) hC dX5_roll_13 (by decide) (fun c3 => ?_) (fun c3 => ?_)
      · have hf := if_t hf c3
        exact b_X5_roll_19 hC hr hA ho hQ  d hf
      · have hf := if_f hf c3
        refine V_ldc hC ck_X5_63 dX5_roll_16 ?_
        obtain ⟨rfl, rfl⟩ := so_inj2 hf
        exact V_iret hC hr hQ hA dX5_roll_18
def t_X5_now (L : Nat → Nat) (d : Dt) (p1 : Int32) : Option (Int32) := if p1 < 0 then some (-1000002) else if p1 ≤ 5 then if (gF d 2 3) = 0 then some (-1000003) else if p1 = 0 then (t_X3_partOf L d (gF d 2 4)).bind (fun v5 => some v5) else if p1 = 1 then (t_X3_thingsOf L d (gF d 2 4)).bind (fun v7 => some v7) else if p1 = 2 then (t_X3_healthOf L d (gF d 2 4)).bind (fun v9 => some v9) else if p1 = 3 then some (gF d 2 5) else if p1 = 4 then (t_X2_standing L d 2).bind (fun v12 => some v12) else (t_X0_openChoices L d 6 (gF d 2 4)).bind (fun v13 => some v13) else some (-1000002)
set_option maxRecDepth 20000 in
theorem c_X5_now {l : Launch} {Y : Yx} (hL : LAY Y) {z : Sh} {d : Dt} {p1 : Int32} (ho : (0, 0, 4) ∈ yI Y) {r : Int32} (hf : t_X5_now z.1 d p1 = some r) : MM l yX5_now cX5_now 2 (some .int) 6 134 Y z [.ref (yo Y 0), .int p1] d (some (.int r)) d := by
  refine MM.ofV (by decide +kernel) hL (Nat.le_of_ble_eq_true rfl) (fun K hl hC hr hQ hA => ?_)
  have hC : CK K Y cX5_now 2 RX5 6 134 := hC
  have hkn : 0 ≤ (kR K).cells ∧ 0 ≤ (kR K).slots := ⟨Nat.zero_le _, Nat.zero_le _⟩
  unfold t_X5_now at hf
  show V K Y 2 0 0 z d 0 [(0, .ref (yo Y 0)), (1, .int p1)] []
  refine V_iload_n 1 hC dX5_now_0 rfl rfl ?_
  refine V_if_lt (tgt := 9) hC dX5_now_1 (by decide) (fun c1 => ?_) (fun c1 => ?_)
  · have hf := if_t hf c1
    refine V_ldc hC ck_X5_63 dX5_now_9 ?_
    obtain rfl := so_inj hf
    exact V_iret hC hr hQ hA dX5_now_11
  · have hf := if_f hf c1
    refine V_iload_n 1 hC dX5_now_4 rfl rfl ?_
    refine V_iconst (v := 5) hC dX5_now_5 rfl ?_
    refine V_icmp_le (tgt := 12) hC dX5_now_6 (by decide) (fun c2 => ?_) (fun c2 => ?_)
    · have hf := if_t hf c2
      refine V_aload_n 0 hC dX5_now_12 rfl rfl ?_
      refine V_geto (o := 0) (o2 := 2) hC ho rfl fk_X5_45 rfl dX5_now_13 ?_
      refine V_geti (o := 2) hC (show (0, 2, 2) ∈ yI Y from hL.obj (j := 1) ho rfl) rfl fk_X5_172 dX5_now_16 ?_
      refine V_if_ne (tgt := 25) hC dX5_now_19 (by decide) (fun c3 => ?_) (fun c3 => ?_)
      · have hf := if_f hf c3
        refine V_iload_n 1 hC dX5_now_25 rfl rfl ?_
        by_cases c4 : p1 = 0
        · have hf := if_t hf c4
          refine V_tswIn (tgt := 60) hC dX5_now_26 0 c4 (by decide) (by decide) rfl (by decide) ?_
          refine V_aload_n 0 hC dX5_now_60 rfl rfl ?_
          refine V_geto (o := 0) (o2 := 2) hC ho rfl fk_X5_45 rfl dX5_now_61 ?_
          refine V_geti (o := 2) hC (show (0, 2, 2) ∈ yI Y from hL.obj (j := 1) ho rfl) rfl fk_X5_175 dX5_now_64 ?_
          obtain ⟨v5, ev5, hf⟩ := bi_some hf
          refine V_insi (As := [.int (gF d 2 4)]) (rest := []) hC (c_X3_partOf hL  ev5) me_X3_partOf lk_X5_178 rfl rfl (Nat.le_of_ble_eq_true rfl) ⟨by decide, by decide⟩ hkn dX5_now_67 ?_
          obtain rfl := so_inj hf
          exact V_iret hC hr hQ hA dX5_now_70
        · have hf := if_f hf c4
          by_cases c6 : p1 = 1
          · have hf := if_t hf c6
            refine V_tswIn (tgt := 71) hC dX5_now_26 1 c6 (by decide) (by decide) rfl (by decide) ?_
            refine V_aload_n 0 hC dX5_now_71 rfl rfl ?_
            refine V_geto (o := 0) (o2 := 2) hC ho rfl fk_X5_45 rfl dX5_now_72 ?_
            refine V_geti (o := 2) hC (show (0, 2, 2) ∈ yI Y from hL.obj (j := 1) ho rfl) rfl fk_X5_175 dX5_now_75 ?_
            obtain ⟨v7, ev7, hf⟩ := bi_some hf
            refine V_insi (As := [.int (gF d 2 4)]) (rest := []) hC (c_X3_thingsOf hL  ev7) me_X3_thingsOf lk_X5_206 rfl rfl (Nat.le_of_ble_eq_true rfl) ⟨by decide, by decide⟩ hkn dX5_now_78 ?_
            obtain rfl := so_inj hf
            exact V_iret hC hr hQ hA dX5_now_81
          · have hf := if_f hf c6
            by_cases c8 : p1 = 2
            · have hf := if_t hf c8
              refine V_tswIn (tgt := 82) hC dX5_now_26 2 c8 (by decide) (by decide) rfl (by decide) ?_
              refine V_aload_n 0 hC dX5_now_82 rfl rfl ?_
              refine V_geto (o := 0) (o2 := 2) hC ho rfl fk_X5_45 rfl dX5_now_83 ?_
              refine V_geti (o := 2) hC (show (0, 2, 2) ∈ yI Y from hL.obj (j := 1) ho rfl) rfl fk_X5_175 dX5_now_86 ?_
              obtain ⟨v9, ev9, hf⟩ := bi_some hf
              refine V_insi (As := [.int (gF d 2 4)]) (rest := []) hC (c_X3_healthOf hL  ev9) me_X3_healthOf lk_X5_209 rfl rfl (Nat.le_of_ble_eq_true rfl) ⟨by decide, by decide⟩ hkn dX5_now_89 ?_
              obtain rfl := so_inj hf
              exact V_iret hC hr hQ hA dX5_now_92
            · have hf := if_f hf c8
              by_cases c10 : p1 = 3
              · have hf := if_t hf c10
                refine V_tswIn (tgt := 93) hC dX5_now_26 3 c10 (by decide) (by decide) rfl (by decide) ?_
                refine V_aload_n 0 hC dX5_now_93 rfl rfl ?_
                refine V_geto (o := 0) (o2 := 2) hC ho rfl fk_X5_45 rfl dX5_now_94 ?_
                refine V_geti (o := 2) hC (show (0, 2, 2) ∈ yI Y from hL.obj (j := 1) ho rfl) rfl fk_X5_212 dX5_now_97 ?_
                obtain rfl := so_inj hf
                exact V_iret hC hr hQ hA dX5_now_100
              · have hf := if_f hf c10
                by_cases c11 : p1 = 4
                · have hf := if_t hf c11
                  refine V_tswIn (tgt := 101) hC dX5_now_26 4 c11 (by decide) (by decide) rfl (by decide) ?_
                  refine V_aload_n 0 hC dX5_now_101 rfl rfl ?_
                  refine V_geto (o := 0) (o2 := 2) hC ho rfl fk_X5_45 rfl dX5_now_102 ?_
                  obtain ⟨v12, ev12, hf⟩ := bi_some hf
                  refine V_invi (o := 2) (As := []) (rest := []) hC (c_X2_standing hL (show (0, 2, 2) ∈ yI Y from hL.obj (j := 1) ho rfl) ev12) me_X2_standing lk_X5_169 (show (0, 2, 2) ∈ yI Y from hL.obj (j := 1) ho rfl) rfl rfl rfl (Nat.le_of_ble_eq_true rfl) ⟨by decide, by decide⟩ hkn dX5_now_105 ?_
                  obtain rfl := so_inj hf
                  exact V_iret hC hr hQ hA dX5_now_108
                · have hf := if_f hf c11
                  refine V_tswOut (tgt := 109) hC dX5_now_26 (by have hc4 := lv_neT c4 (show (0 : Int32).toInt = 0 from rfl); have hc6 := lv_neT c6 (show (1 : Int32).toInt = 1 from rfl); have hc8 := lv_neT c8 (show (2 : Int32).toInt = 2 from rfl); have hc10 := lv_neT c10 (show (3 : Int32).toInt = 3 from rfl); have hc11 := lv_neT c11 (show (4 : Int32).toInt = 4 from rfl); omega) (by decide) ?_
                  refine V_aload_n 0 hC dX5_now_109 rfl rfl ?_
                  refine V_geto (o := 0) (o2 := 2) hC ho rfl fk_X5_45 rfl dX5_now_110 ?_
                  refine V_geto (o := 2) (o2 := 6) hC (show (0, 2, 2) ∈ yI Y from hL.obj (j := 1) ho rfl) rfl fk_X5_83 rfl dX5_now_113 ?_
                  refine V_aload_n 0 hC dX5_now_116 rfl rfl ?_
                  refine V_geto (o := 0) (o2 := 2) hC ho rfl fk_X5_45 rfl dX5_now_117 ?_
                  refine V_geti (o := 2) hC (show (0, 2, 2) ∈ yI Y from hL.obj (j := 1) ho rfl) rfl fk_X5_175 dX5_now_120 ?_
                  obtain ⟨v13, ev13, hf⟩ := bi_some hf
                  refine V_invi (o := 6) (As := [.int (gF d 2 4)]) (rest := []) hC (c_X0_openChoices hL (show (0, 6, 0) ∈ yI Y from hL.obj (j := 0) (show (0, 2, 2) ∈ yI Y from hL.obj (j := 1) ho rfl) rfl) ev13) me_X0_openChoices lk_X5_215 (show (0, 6, 0) ∈ yI Y from hL.obj (j := 0) (show (0, 2, 2) ∈ yI Y from hL.obj (j := 1) ho rfl) rfl) rfl rfl rfl (Nat.le_of_ble_eq_true rfl) ⟨by decide, by decide⟩ hkn dX5_now_123 ?_
                  obtain rfl := so_inj hf
                  exact V_iret hC hr hQ hA dX5_now_126
      · have hf := if_t hf c3
        refine V_ldc hC ck_X5_144 dX5_now_22 ?_
        obtain rfl := so_inj hf
        exact V_iret hC hr hQ hA dX5_now_24
    · have hf := if_f hf c2
      refine V_ldc hC ck_X5_63 dX5_now_9 ?_
      obtain rfl := so_inj hf
      exact V_iret hC hr hQ hA dX5_now_11
def t_X5_log (L : Nat → Nat) (d : Dt) (p1 : Int32) : Option (Int32 × Dt) := (t_X0_hasPart L d 6 p1).bind (fun v1 => if v1 = 0 then some ((-1000001), d) else if (gF d 0 4) < 60 then gd (inb (gF d 0 4) (L (32 * 0 + 3))) (bd (sA d (32 * 0 + 3) (ix (gF d 0 4)) p1) (fun d5 => bd (sF d5 0 4 ((gF d5 0 4) + 1)) (fun d6 => some (gF d6 0 4, d6)))) else some ((-1000004), d))
set_option maxRecDepth 20000 in
theorem c_X5_log {l : Launch} {Y : Yx} (hL : LAY Y) {z : Sh} {d : Dt} {p1 : Int32} (ho : (0, 0, 4) ∈ yI Y) {r : Int32} {d' : Dt} (hf : t_X5_log z.1 d p1 = some (r, d')) : MM l yX5_log cX5_log 2 (some .int) 1 21 Y z [.ref (yo Y 0), .int p1] d (some (.int r)) d' := by
  refine MM.ofV (by decide +kernel) hL (Nat.le_of_ble_eq_true rfl) (fun K hl hC hr hQ hA => ?_)
  have hC : CK K Y cX5_log 2 RX5 1 21 := hC
  have hkn : 0 ≤ (kR K).cells ∧ 0 ≤ (kR K).slots := ⟨Nat.zero_le _, Nat.zero_le _⟩
  unfold t_X5_log at hf
  show V K Y 2 0 0 z d 0 [(0, .ref (yo Y 0)), (1, .int p1)] []
  refine V_aload_n 0 hC dX5_log_0 rfl rfl ?_
  refine V_geto (o := 0) (o2 := 2) hC ho rfl fk_X5_45 rfl dX5_log_1 ?_
  refine V_geto (o := 2) (o2 := 6) hC (show (0, 2, 2) ∈ yI Y from hL.obj (j := 1) ho rfl) rfl fk_X5_83 rfl dX5_log_4 ?_
  refine V_iload_n 1 hC dX5_log_7 rfl rfl ?_
  obtain ⟨v1, ev1, hf⟩ := bi_some hf
  refine V_invi (o := 6) (As := [.int p1]) (rest := []) hC (c_X0_hasPart hL (show (0, 6, 0) ∈ yI Y from hL.obj (j := 0) (show (0, 2, 2) ∈ yI Y from hL.obj (j := 1) ho rfl) rfl) ev1) me_X0_hasPart lk_X5_92 (show (0, 6, 0) ∈ yI Y from hL.obj (j := 0) (show (0, 2, 2) ∈ yI Y from hL.obj (j := 1) ho rfl) rfl) rfl rfl rfl (Nat.le_of_ble_eq_true rfl) ⟨by decide, by decide⟩ hkn dX5_log_8 ?_
  refine V_if_ne (tgt := 17) hC dX5_log_11 (by decide) (fun c2 => ?_) (fun c2 => ?_)
  · have hf := if_f hf c2
    refine V_aload_n 0 hC dX5_log_17 rfl rfl ?_
    refine V_geti (o := 0) hC ho rfl fk_X5_20 dX5_log_18 ?_
    refine V_bipush (v := 60) hC dX5_log_21 rfl ?_
    refine V_icmp_lt (tgt := 29) hC dX5_log_23 (by decide) (fun c3 => ?_) (fun c3 => ?_)
    · have hf := if_t hf c3
      refine V_aload_n 0 hC dX5_log_29 rfl rfl ?_
      refine V_geta (o := 0) hC ho rfl fk_X5_16 dX5_log_30 ?_
      refine V_aload_n 0 hC dX5_log_33 rfl rfl ?_
      refine V_geti (o := 0) hC ho rfl fk_X5_20 dX5_log_34 ?_
      refine V_iload_n 1 hC dX5_log_37 rfl rfl ?_
      obtain ⟨g4, hf⟩ := gd_some hf
      refine V_iast (a := (32 * 0 + 3)) hC (hL.row ho rfl) g4 dX5_log_38 (fun d5 ed5 => ?_)
      have hf := bd_e hf d5 ed5
      refine V_aload_n 0 hC dX5_log_39 rfl rfl ?_
      refine V_dup hC dX5_log_40 rfl ?_
      refine V_geti (o := 0) hC ho rfl fk_X5_20 dX5_log_41 ?_
      refine V_iconst (v := 1) hC dX5_log_44 rfl ?_
      refine V_iadd hC dX5_log_45 ?_
      refine V_puti (o := 0) hC ho rfl fk_X5_20 pl_X5 rfl rfl dX5_log_46 (fun d6 ed6 => ?_)
      have hf := bd_e hf d6 ed6
      refine V_aload_n 0 hC dX5_log_49 rfl rfl ?_
      refine V_geti (o := 0) hC ho rfl fk_X5_20 dX5_log_50 ?_
      obtain ⟨rfl, rfl⟩ := so_inj2 hf
      exact V_iret hC hr hQ hA dX5_log_53
    · have hf := if_f hf c3
      refine V_ldc hC ck_X5_67 dX5_log_26 ?_
      obtain ⟨rfl, rfl⟩ := so_inj2 hf
      exact V_iret hC hr hQ hA dX5_log_28
  · have hf := if_t hf c2
    refine V_ldc hC ck_X5_96 dX5_log_14 ?_
    obtain ⟨rfl, rfl⟩ := so_inj2 hf
    exact V_iret hC hr hQ hA dX5_log_16
def t_X5_clear (L : Nat → Nat) (d : Dt)  : Option (Int32 × Dt) := bd (gF d 0 4) (fun y1 => bd (sF d 0 4 0) (fun d2 => some (y1, d2)))
set_option maxRecDepth 20000 in
theorem c_X5_clear {l : Launch} {Y : Yx} (hL : LAY Y) {z : Sh} {d : Dt}  (ho : (0, 0, 4) ∈ yI Y) {r : Int32} {d' : Dt} (hf : t_X5_clear z.1 d  = some (r, d')) : MM l yX5_clear cX5_clear 2 (some .int) 0 0 Y z [.ref (yo Y 0)] d (some (.int r)) d' := by
  refine MM.ofV (by decide +kernel) hL (Nat.le_of_ble_eq_true rfl) (fun K hl hC hr hQ hA => ?_)
  have hC : CK K Y cX5_clear 2 RX5 0 0 := hC
  unfold t_X5_clear at hf
  show V K Y 2 0 0 z d 0 [(0, .ref (yo Y 0))] []
  refine V_aload_n 0 hC dX5_clear_0 rfl rfl ?_
  refine V_geti (o := 0) hC ho rfl fk_X5_20 dX5_clear_1 ?_
  refine V_topi (fun y1 ey1 => ?_)
  have hf := bd_e hf y1 ey1
  refine V_istore_n (lv' := [(1, .int y1), (0, .ref (yo Y 0))]) hC dX5_clear_4 rfl (by decide) rfl ?_
  refine V_aload_n 1 hC dX5_clear_5 rfl rfl ?_
  refine V_iconst (v := 0) hC dX5_clear_6 rfl ?_
  refine V_puti (o := 0) hC ho rfl fk_X5_20 pl_X5 rfl rfl dX5_clear_7 (fun d2 ed2 => ?_)
  have hf := bd_e hf d2 ed2
  refine V_iload_n 0 hC dX5_clear_10 rfl rfl ?_
  obtain ⟨rfl, rfl⟩ := so_inj2 hf
  exact V_iret hC hr hQ hA dX5_clear_11
def t_X5_judge_43 (L : Nat → Nat) (d : Dt) (k43 : Int32 → Int32 → Option (Int32)) (x2 : Int32) (x3 : Int32)  : Option (Int32) := if (gF d 0 4) ≤ x3 then some (-1) else if 60 ≤ x3 then some (-1) else gd (inb x3 (L (32 * 0 + 3))) ((t_X0_canGo L d 6 x2 (gA d (32 * 0 + 3) (ix x3))).bind (fun v9 => if v9 = 0 then some x3 else gd (inb x3 (L (32 * 0 + 3))) ((t_X0_goOn L d 6 x2 (gA d (32 * 0 + 3) (ix x3)) (-1)).bind (fun v12 => k43 v12 (x3 + 1)))))
set_option maxRecDepth 20000 in
theorem b_X5_judge_43 {K : Kx} {Y : Yx} {z : Sh} {d : Dt} (hC : CK K Y cX5_judge 4 RX5 5 116) (hr : (kme K).sig.returnType = some .int) (hA : kA K = aY Y z)  (ho : (0, 0, 4) ∈ yI Y) {r : Int32} (hQ : kQ K = MQ (kb K) (QM Y z (some (.int r)) d) (ka K) (ks K) 0 0 (aY Y z)) {k43 : Int32 → Int32 → Option (Int32)} (hk43 : ∀ (x2 : Int32) (x3 : Int32) , k43 x2 x3  = some r → V K Y 4 0 0 z d 43 [(0, .ref (yo Y 0)), (1, .ref (yo Y 6)), (2, .int x2), (3, .int x3)] []) (x2 : Int32) (x3 : Int32)  (hf : t_X5_judge_43 z.1 d k43 x2 x3  = some r) : V K Y 4 0 0 z d 43 [(0, .ref (yo Y 0)), (1, .ref (yo Y 6)), (2, .int x2), (3, .int x3)] [] := by
  have hL := hC.2.2.2.2.2.2.1
  have hkn : 0 ≤ (kR K).cells ∧ 0 ≤ (kR K).slots := ⟨Nat.zero_le _, Nat.zero_le _⟩
  unfold t_X5_judge_43 at hf
  refine V_iload_n 3 hC dX5_judge_43 rfl rfl ?_
  refine V_aload_n 0 hC dX5_judge_44 rfl rfl ?_
  refine V_geti (o := 0) hC ho rfl fk_X5_20 dX5_judge_45 ?_
  refine V_icmp_ge (tgt := 92) hC dX5_judge_48 (by decide) (fun c6 => ?_) (fun c6 => ?_)
  · have hf := if_t hf c6
    refine V_iconst (v := -1) hC dX5_judge_92 rfl ?_
    obtain rfl := so_inj hf
    exact V_iret hC hr hQ hA dX5_judge_93
  · have hf := if_f hf c6
    refine V_iload_n 3 hC dX5_judge_51 rfl rfl ?_
    refine V_bipush (v := 60) hC dX5_judge_52 rfl ?_
    refine V_icmp_ge (tgt := 92) hC dX5_judge_54 (by decide) (fun c7 => ?_) (fun c7 => ?_)
    · have hf := if_t hf c7
      refine V_iconst (v := -1) hC dX5_judge_92 rfl ?_
      obtain rfl := so_inj hf
      exact V_iret hC hr hQ hA dX5_judge_93
    · have hf := if_f hf c7
      refine V_aload_n 1 hC dX5_judge_57 rfl rfl ?_
      refine V_iload_n 2 hC dX5_judge_58 rfl rfl ?_
      refine V_aload_n 0 hC dX5_judge_59 rfl rfl ?_
      refine V_geta (o := 0) hC ho rfl fk_X5_16 dX5_judge_60 ?_
      refine V_iload_n 3 hC dX5_judge_63 rfl rfl ?_
      obtain ⟨g8, hf⟩ := gd_some hf
      refine V_iald (a := (32 * 0 + 3)) hC (hL.row ho rfl) g8 dX5_judge_64 ?_
      obtain ⟨v9, ev9, hf⟩ := bi_some hf
      refine V_invi (o := 6) (As := [.int x2, .int (gA d (32 * 0 + 3) (ix x3))]) (rest := []) hC (c_X0_canGo hL (show (0, 6, 0) ∈ yI Y from hL.obj (j := 0) (show (0, 2, 2) ∈ yI Y from hL.obj (j := 1) ho rfl) rfl) ev9) me_X0_canGo lk_X5_269 (show (0, 6, 0) ∈ yI Y from hL.obj (j := 0) (show (0, 2, 2) ∈ yI Y from hL.obj (j := 1) ho rfl) rfl) rfl rfl rfl (Nat.le_of_ble_eq_true rfl) ⟨by decide, by decide⟩ hkn dX5_judge_65 ?_
      refine V_if_ne (tgt := 73) hC dX5_judge_68 (by decide) (fun c10 => ?_) (fun c10 => ?_)
      · have hf := if_f hf c10
        refine V_aload_n 1 hC dX5_judge_73 rfl rfl ?_
        refine V_iload_n 2 hC dX5_judge_74 rfl rfl ?_
        refine V_aload_n 0 hC dX5_judge_75 rfl rfl ?_
        refine V_geta (o := 0) hC ho rfl fk_X5_16 dX5_judge_76 ?_
        refine V_iload_n 3 hC dX5_judge_79 rfl rfl ?_
        obtain ⟨g11, hf⟩ := gd_some hf
        refine V_iald (a := (32 * 0 + 3)) hC (hL.row ho rfl) g11 dX5_judge_80 ?_
        refine V_iconst (v := -1) hC dX5_judge_81 rfl ?_
        obtain ⟨v12, ev12, hf⟩ := bi_some hf
        refine V_invi (o := 6) (As := [.int x2, .int (gA d (32 * 0 + 3) (ix x3)), .int (-1)]) (rest := []) hC (c_X0_goOn hL (show (0, 6, 0) ∈ yI Y from hL.obj (j := 0) (show (0, 2, 2) ∈ yI Y from hL.obj (j := 1) ho rfl) rfl) ev12) me_X0_goOn lk_X5_272 (show (0, 6, 0) ∈ yI Y from hL.obj (j := 0) (show (0, 2, 2) ∈ yI Y from hL.obj (j := 1) ho rfl) rfl) rfl rfl rfl (Nat.le_of_ble_eq_true rfl) ⟨by decide, by decide⟩ hkn dX5_judge_82 ?_
        refine V_istore_n (lv' := [(2, .int v12), (0, .ref (yo Y 0)), (1, .ref (yo Y 6)), (3, .int x3)]) hC dX5_judge_85 rfl (by decide) rfl ?_
        refine V_iinc (v := x3 + 1) (lv' := [(3, .int (x3 + 1)), (2, .int v12), (0, .ref (yo Y 0)), (1, .ref (yo Y 6))]) 3 hC dX5_judge_86 rfl rfl (by decide) rfl ?_
        refine V_goto (tgt := 43) hC dX5_judge_89 (by decide) ?_
        exact V_sub [2, 3, 1, 0] rfl (hk43 v12 (x3 + 1) hf)
      · have hf := if_t hf c10
        refine V_iload_n 3 hC dX5_judge_71 rfl rfl ?_
        obtain rfl := so_inj hf
        exact V_iret hC hr hQ hA dX5_judge_72
def t_X5_judge (L : Nat → Nat) (d : Dt)  : Option (Int32) := if (gF d 0 4) = 0 then some (-1) else if (gF d 6 0) = 0 then some 0 else gd (inb 0 (L (32 * 0 + 3))) (if (gA d (32 * 0 + 3) (ix 0)) = 0 then (t_X0_beginning L d 6 (-1)).bind (fun v5 => lp (fun k x => t_X5_judge_43 L d  (fun x2 x3 => k (x2, x3)) x.1 x.2) FU (v5, 1)) else some 0)
set_option maxRecDepth 20000 in
theorem c_X5_judge {l : Launch} {Y : Yx} (hL : LAY Y) {z : Sh} {d : Dt}  (ho : (0, 0, 4) ∈ yI Y) {r : Int32} (hf : t_X5_judge z.1 d  = some r) : MM l yX5_judge cX5_judge 4 (some .int) 5 116 Y z [.ref (yo Y 0)] d (some (.int r)) d := by
  refine MM.ofV (by decide +kernel) hL (Nat.le_of_ble_eq_true rfl) (fun K hl hC hr hQ hA => ?_)
  have hC : CK K Y cX5_judge 4 RX5 5 116 := hC
  have hkn : 0 ≤ (kR K).cells ∧ 0 ≤ (kR K).slots := ⟨Nat.zero_le _, Nat.zero_le _⟩
  unfold t_X5_judge at hf
  show V K Y 4 0 0 z d 0 [(0, .ref (yo Y 0))] []
  refine V_aload_n 0 hC dX5_judge_0 rfl rfl ?_
  refine V_geti (o := 0) hC ho rfl fk_X5_20 dX5_judge_1 ?_
  refine V_if_ne (tgt := 9) hC dX5_judge_4 (by decide) (fun c1 => ?_) (fun c1 => ?_)
  · have hf := if_f hf c1
    refine V_aload_n 0 hC dX5_judge_9 rfl rfl ?_
    refine V_geto (o := 0) (o2 := 2) hC ho rfl fk_X5_45 rfl dX5_judge_10 ?_
    refine V_geto (o := 2) (o2 := 6) hC (show (0, 2, 2) ∈ yI Y from hL.obj (j := 1) ho rfl) rfl fk_X5_83 rfl dX5_judge_13 ?_
    refine V_astore_n (lv' := [(1, .ref (yo Y 6)), (0, .ref (yo Y 0))]) hC dX5_judge_16 rfl (by decide) rfl ?_
    refine V_aload_n 0 hC dX5_judge_17 rfl rfl ?_
    refine V_geti (o := 6) hC (show (0, 6, 0) ∈ yI Y from hL.obj (j := 0) (show (0, 2, 2) ∈ yI Y from hL.obj (j := 1) ho rfl) rfl) rfl fk_X5_86 dX5_judge_18 ?_
    refine V_if_eq (tgt := 33) hC dX5_judge_21 (by decide) (fun c2 => ?_) (fun c2 => ?_)
    · have hf := if_t hf c2
      refine V_iconst (v := 0) hC dX5_judge_33 rfl ?_
      obtain rfl := so_inj hf
      exact V_iret hC hr hQ hA dX5_judge_34
    · have hf := if_f hf c2
      refine V_aload_n 1 hC dX5_judge_24 rfl rfl ?_
      refine V_geta (o := 0) hC ho rfl fk_X5_16 dX5_judge_25 ?_
      refine V_iconst (v := 0) hC dX5_judge_28 rfl ?_
      obtain ⟨g3, hf⟩ := gd_some hf
      refine V_iald (a := (32 * 0 + 3)) hC (hL.row ho rfl) g3 dX5_judge_29 ?_
      refine V_if_eq (tgt := 35) hC dX5_judge_30 (by decide) (fun c4 => ?_) (fun c4 => ?_)
      · have hf := if_t hf c4
        refine V_aload_n 0 hC dX5_judge_35 rfl rfl ?_
        refine V_iconst (v := -1) hC dX5_judge_36 rfl ?_
        obtain ⟨v5, ev5, hf⟩ := bi_some hf
        refine V_invi (o := 6) (As := [.int (-1)]) (rest := []) hC (c_X0_beginning hL (show (0, 6, 0) ∈ yI Y from hL.obj (j := 0) (show (0, 2, 2) ∈ yI Y from hL.obj (j := 1) ho rfl) rfl) ev5) me_X0_beginning lk_X5_263 (show (0, 6, 0) ∈ yI Y from hL.obj (j := 0) (show (0, 2, 2) ∈ yI Y from hL.obj (j := 1) ho rfl) rfl) rfl rfl rfl (Nat.le_of_ble_eq_true rfl) ⟨by decide, by decide⟩ hkn dX5_judge_37 ?_
        refine V_istore_n (lv' := [(2, .int v5), (1, .ref (yo Y 6)), (0, .ref (yo Y 0))]) hC dX5_judge_40 rfl (by decide) rfl ?_
        refine V_iconst (v := 1) hC dX5_judge_41 rfl ?_
        refine V_istore_n (lv' := [(3, .int 1), (2, .int v5), (1, .ref (yo Y 6)), (0, .ref (yo Y 0))]) hC dX5_judge_42 rfl (by decide) rfl ?_
        exact V_sub [3, 2, 1, 0] rfl (lp_ind (X := Int32 × Int32) (P := fun x => V K Y 4 0 0 z d 43 [(0, .ref (yo Y 0)), (1, .ref (yo Y 6)), (2, .int x.1), (3, .int x.2)] []) (fun k x hk hx => b_X5_judge_43 hC hr hA ho hQ  (k43 := fun x2 x3 => k (x2, x3)) (fun x2 x3 hx => hk (x2, x3) hx) x.1 x.2 hx) FU (v5, 1) hf)
      · have hf := if_f hf c4
        refine V_iconst (v := 0) hC dX5_judge_33 rfl ?_
        obtain rfl := so_inj hf
        exact V_iret hC hr hQ hA dX5_judge_34
  · have hf := if_t hf c1
    refine V_iconst (v := -1) hC dX5_judge_7 rfl ?_
    obtain rfl := so_inj hf
    exact V_iret hC hr hQ hA dX5_judge_8
def t_X5_number (L : Nat → Nat) (d : Dt) (p1 : Int32) : Option (Int32) := (t_X0_hasPart L d 6 p1).bind (fun v1 => if v1 = 0 then some (-1000001) else gd (inb p1 (L (32 * 2 + 1))) (some (gA d (32 * 2 + 1) (ix p1))))
set_option maxRecDepth 20000 in
theorem c_X5_number {l : Launch} {Y : Yx} (hL : LAY Y) {z : Sh} {d : Dt} {p1 : Int32} (ho : (0, 0, 4) ∈ yI Y) {r : Int32} (hf : t_X5_number z.1 d p1 = some r) : MM l yX5_number cX5_number 2 (some .int) 1 21 Y z [.ref (yo Y 0), .int p1] d (some (.int r)) d := by
  refine MM.ofV (by decide +kernel) hL (Nat.le_of_ble_eq_true rfl) (fun K hl hC hr hQ hA => ?_)
  have hC : CK K Y cX5_number 2 RX5 1 21 := hC
  have hkn : 0 ≤ (kR K).cells ∧ 0 ≤ (kR K).slots := ⟨Nat.zero_le _, Nat.zero_le _⟩
  unfold t_X5_number at hf
  show V K Y 2 0 0 z d 0 [(0, .ref (yo Y 0)), (1, .int p1)] []
  refine V_aload_n 0 hC dX5_number_0 rfl rfl ?_
  refine V_geto (o := 0) (o2 := 2) hC ho rfl fk_X5_45 rfl dX5_number_1 ?_
  refine V_geto (o := 2) (o2 := 6) hC (show (0, 2, 2) ∈ yI Y from hL.obj (j := 1) ho rfl) rfl fk_X5_83 rfl dX5_number_4 ?_
  refine V_iload_n 1 hC dX5_number_7 rfl rfl ?_
  obtain ⟨v1, ev1, hf⟩ := bi_some hf
  refine V_invi (o := 6) (As := [.int p1]) (rest := []) hC (c_X0_hasPart hL (show (0, 6, 0) ∈ yI Y from hL.obj (j := 0) (show (0, 2, 2) ∈ yI Y from hL.obj (j := 1) ho rfl) rfl) ev1) me_X0_hasPart lk_X5_92 (show (0, 6, 0) ∈ yI Y from hL.obj (j := 0) (show (0, 2, 2) ∈ yI Y from hL.obj (j := 1) ho rfl) rfl) rfl rfl rfl (Nat.le_of_ble_eq_true rfl) ⟨by decide, by decide⟩ hkn dX5_number_8 ?_
  refine V_if_ne (tgt := 17) hC dX5_number_11 (by decide) (fun c2 => ?_) (fun c2 => ?_)
  · have hf := if_f hf c2
    refine V_aload_n 0 hC dX5_number_17 rfl rfl ?_
    refine V_geto (o := 0) (o2 := 2) hC ho rfl fk_X5_45 rfl dX5_number_18 ?_
    refine V_geta (o := 2) hC (show (0, 2, 2) ∈ yI Y from hL.obj (j := 1) ho rfl) rfl fk_X5_276 dX5_number_21 ?_
    refine V_iload_n 1 hC dX5_number_24 rfl rfl ?_
    obtain ⟨g3, hf⟩ := gd_some hf
    refine V_iald (a := (32 * 2 + 1)) hC (hL.row (show (0, 2, 2) ∈ yI Y from hL.obj (j := 1) ho rfl) rfl) g3 dX5_number_25 ?_
    obtain rfl := so_inj hf
    exact V_iret hC hr hQ hA dX5_number_26
  · have hf := if_t hf c2
    refine V_ldc hC ck_X5_96 dX5_number_14 ?_
    obtain rfl := so_inj hf
    exact V_iret hC hr hQ hA dX5_number_16
def t_X5_nearPairs_57 (L : Nat → Nat) (d : Dt) (a0 : Nat) (a1 : Nat) (p2 : Int32) (k5 : Int32 → Int32 → Option (Int32)) (k18 : Int32 → Int32 → Int32 → Option (Int32)) (x3 : Int32) (x4 : Int32) (x5 : Int32)  : Option (Int32) := k18 x3 x4 (x5 + 1)
set_option maxRecDepth 20000 in
theorem b_X5_nearPairs_57 {K : Kx} {Y : Yx} {z : Sh} {d : Dt} (hC : CK K Y cX5_nearPairs 6 RX5 1 21) (hr : (kme K).sig.returnType = some .int) (hA : kA K = aY Y z) {a0 : Nat} {a1 : Nat} {p2 : Int32} (ha0 : (1, a0, 0) ∈ yI Y) (ha1 : (1, a1, 0) ∈ yI Y) {r : Int32} (hQ : kQ K = MQ (kb K) (QM Y z (some (.int r)) d) (ka K) (ks K) 0 0 (aY Y z)) {k5 : Int32 → Int32 → Option (Int32)} {k18 : Int32 → Int32 → Int32 → Option (Int32)} (hk5 : ∀ (x3 : Int32) (x4 : Int32) , k5 x3 x4  = some r → V K Y 6 0 0 z d 5 [(0, .ref (gad z a0)), (1, .ref (gad z a1)), (2, .int p2), (3, .int x3), (4, .int x4)] []) (hk18 : ∀ (x3 : Int32) (x4 : Int32) (x5 : Int32) , k18 x3 x4 x5  = some r → V K Y 6 0 0 z d 18 [(0, .ref (gad z a0)), (1, .ref (gad z a1)), (2, .int p2), (3, .int x3), (4, .int x4), (5, .int x5)] []) (x3 : Int32) (x4 : Int32) (x5 : Int32)  (hf : t_X5_nearPairs_57 z.1 d a0 a1 p2 k5 k18 x3 x4 x5  = some r) : V K Y 6 0 0 z d 57 [(0, .ref (gad z a0)), (1, .ref (gad z a1)), (2, .int p2), (3, .int x3), (4, .int x4), (5, .int x5)] [] := by
  have hL := hC.2.2.2.2.2.2.1
  unfold t_X5_nearPairs_57 at hf
  refine V_iinc (v := x5 + 1) (lv' := [(5, .int (x5 + 1)), (0, .ref (gad z a0)), (1, .ref (gad z a1)), (2, .int p2), (3, .int x3), (4, .int x4)]) 5 hC dX5_nearPairs_57 rfl rfl (by decide) rfl ?_
  refine V_goto (tgt := 18) hC dX5_nearPairs_60 (by decide) ?_
  exact V_sub [1, 2, 3, 4, 5, 0] rfl (hk18 x3 x4 (x5 + 1) hf)
def t_X5_nearPairs_18 (L : Nat → Nat) (d : Dt) (a0 : Nat) (a1 : Nat) (p2 : Int32) (k5 : Int32 → Int32 → Option (Int32)) (k18 : Int32 → Int32 → Int32 → Option (Int32)) (x3 : Int32) (x4 : Int32) (x5 : Int32)  : Option (Int32) := if 24 ≤ x5 then k5 x3 (x4 + 1) else gd (inb x4 (L a0)) (if (((gA d a0 (ix x4)) >>> (x5 &&& 31)) &&& 1) = 1 then gd (inb x4 (L a1)) (gd (inb x5 (L a1)) (if p2 ≤ (if 0 ≤ ((gA d a1 (ix x4)) - (gA d a1 (ix x5))) then ((gA d a1 (ix x4)) - (gA d a1 (ix x5))) else 0 - ((gA d a1 (ix x4)) - (gA d a1 (ix x5)))) then t_X5_nearPairs_57 L d a0 a1 p2 k5 k18 x3 x4 x5 else t_X5_nearPairs_57 L d a0 a1 p2 k5 k18 (x3 + 1) x4 x5)) else t_X5_nearPairs_57 L d a0 a1 p2 k5 k18 x3 x4 x5)
set_option maxRecDepth 20000 in
theorem b_X5_nearPairs_18 {K : Kx} {Y : Yx} {z : Sh} {d : Dt} (hC : CK K Y cX5_nearPairs 6 RX5 1 21) (hr : (kme K).sig.returnType = some .int) (hA : kA K = aY Y z) {a0 : Nat} {a1 : Nat} {p2 : Int32} (ha0 : (1, a0, 0) ∈ yI Y) (ha1 : (1, a1, 0) ∈ yI Y) {r : Int32} (hQ : kQ K = MQ (kb K) (QM Y z (some (.int r)) d) (ka K) (ks K) 0 0 (aY Y z)) {k5 : Int32 → Int32 → Option (Int32)} {k18 : Int32 → Int32 → Int32 → Option (Int32)} (hk5 : ∀ (x3 : Int32) (x4 : Int32) , k5 x3 x4  = some r → V K Y 6 0 0 z d 5 [(0, .ref (gad z a0)), (1, .ref (gad z a1)), (2, .int p2), (3, .int x3), (4, .int x4)] []) (hk18 : ∀ (x3 : Int32) (x4 : Int32) (x5 : Int32) , k18 x3 x4 x5  = some r → V K Y 6 0 0 z d 18 [(0, .ref (gad z a0)), (1, .ref (gad z a1)), (2, .int p2), (3, .int x3), (4, .int x4), (5, .int x5)] []) (x3 : Int32) (x4 : Int32) (x5 : Int32)  (hf : t_X5_nearPairs_18 z.1 d a0 a1 p2 k5 k18 x3 x4 x5  = some r) : V K Y 6 0 0 z d 18 [(0, .ref (gad z a0)), (1, .ref (gad z a1)), (2, .int p2), (3, .int x3), (4, .int x4), (5, .int x5)] [] := by
  have hL := hC.2.2.2.2.2.2.1
  have hkn : 0 ≤ (kR K).cells ∧ 0 ≤ (kR K).slots := ⟨Nat.zero_le _, Nat.zero_le _⟩
  unfold t_X5_nearPairs_18 at hf
  refine V_iload 5 hC dX5_nearPairs_18 rfl ?_
  refine V_bipush (v := 24) hC dX5_nearPairs_20 rfl ?_
  refine V_icmp_ge (tgt := 63) hC dX5_nearPairs_22 (by decide) (fun c3 => ?_) (fun c3 => ?_)
  · have hf := if_t hf c3
    refine V_iinc (v := x4 + 1) (lv' := [(4, .int (x4 + 1)), (0, .ref (gad z a0)), (1, .ref (gad z a1)), (2, .int p2), (3, .int x3), (5, .int x5)]) 4 hC dX5_nearPairs_63 rfl rfl (by decide) rfl ?_
    refine V_goto (tgt := 5) hC dX5_nearPairs_66 (by decide) ?_
    exact V_sub [1, 2, 3, 4, 0] rfl (hk5 x3 (x4 + 1) hf)
  · have hf := if_f hf c3
    refine V_aload_n 0 hC dX5_nearPairs_25 rfl rfl ?_
    refine V_iload 4 hC dX5_nearPairs_26 rfl ?_
    obtain ⟨g4, hf⟩ := gd_some hf
    refine V_iald (a := a0) hC ha0 g4 dX5_nearPairs_28 ?_
    refine V_iload 5 hC dX5_nearPairs_29 rfl ?_
    refine V_ishr hC dX5_nearPairs_31 ?_
    refine V_iconst (v := 1) hC dX5_nearPairs_32 rfl ?_
    refine V_iand hC dX5_nearPairs_33 ?_
    refine V_iconst (v := 1) hC dX5_nearPairs_34 rfl ?_
    refine V_icmp_ne (tgt := 57) hC dX5_nearPairs_35 (by decide) (fun c5 => ?_) (fun c5 => ?_)
    · have hf := if_f hf c5
      exact b_X5_nearPairs_57 hC hr hA ha0 ha1 hQ hk5 hk18 x3 x4 x5 hf
    · have hf := if_t hf c5
      refine V_aload_n 1 hC dX5_nearPairs_38 rfl rfl ?_
      refine V_iload 4 hC dX5_nearPairs_39 rfl ?_
      obtain ⟨g6, hf⟩ := gd_some hf
      refine V_iald (a := a1) hC ha1 g6 dX5_nearPairs_41 ?_
      refine V_aload_n 1 hC dX5_nearPairs_42 rfl rfl ?_
      refine V_iload 5 hC dX5_nearPairs_43 rfl ?_
      obtain ⟨g7, hf⟩ := gd_some hf
      refine V_iald (a := a1) hC ha1 g7 dX5_nearPairs_45 ?_
      refine V_isub hC dX5_nearPairs_46 ?_
      refine V_mabs hC mm_X5_323 (by decide) (Nat.le_of_ble_eq_true rfl) hkn dX5_nearPairs_47 ?_
      refine V_iload_n 2 hC dX5_nearPairs_50 rfl rfl ?_
      refine V_icmp_ge (tgt := 57) hC dX5_nearPairs_51 (by decide) (fun c8 => ?_) (fun c8 => ?_)
      · have hf := if_t hf c8
        exact b_X5_nearPairs_57 hC hr hA ha0 ha1 hQ hk5 hk18 x3 x4 x5 hf
      · have hf := if_f hf c8
        refine V_iinc (v := x3 + 1) (lv' := [(3, .int (x3 + 1)), (0, .ref (gad z a0)), (1, .ref (gad z a1)), (2, .int p2), (4, .int x4), (5, .int x5)]) 3 hC dX5_nearPairs_54 rfl rfl (by decide) rfl ?_
        exact V_sub [1, 2, 3, 0, 4, 5] rfl (b_X5_nearPairs_57 hC hr hA ha0 ha1 hQ hk5 hk18 (x3 + 1) x4 x5 hf)
def t_X5_nearPairs_5 (L : Nat → Nat) (d : Dt) (a0 : Nat) (a1 : Nat) (p2 : Int32) (k5 : Int32 → Int32 → Option (Int32)) (x3 : Int32) (x4 : Int32)  : Option (Int32) := if 24 ≤ x4 then some x3 else bd (x4 + 1) (fun y2 => lp (fun k x => t_X5_nearPairs_18 L d a0 a1 p2 k5 (fun x3 x4 x5 => k (x3, x4, x5)) x.1 x.2.1 x.2.2) FU (x3, x4, y2))
set_option maxRecDepth 20000 in
theorem b_X5_nearPairs_5 {K : Kx} {Y : Yx} {z : Sh} {d : Dt} (hC : CK K Y cX5_nearPairs 6 RX5 1 21) (hr : (kme K).sig.returnType = some .int) (hA : kA K = aY Y z) {a0 : Nat} {a1 : Nat} {p2 : Int32} (ha0 : (1, a0, 0) ∈ yI Y) (ha1 : (1, a1, 0) ∈ yI Y) {r : Int32} (hQ : kQ K = MQ (kb K) (QM Y z (some (.int r)) d) (ka K) (ks K) 0 0 (aY Y z)) {k5 : Int32 → Int32 → Option (Int32)} (hk5 : ∀ (x3 : Int32) (x4 : Int32) , k5 x3 x4  = some r → V K Y 6 0 0 z d 5 [(0, .ref (gad z a0)), (1, .ref (gad z a1)), (2, .int p2), (3, .int x3), (4, .int x4)] []) (x3 : Int32) (x4 : Int32)  (hf : t_X5_nearPairs_5 z.1 d a0 a1 p2 k5 x3 x4  = some r) : V K Y 6 0 0 z d 5 [(0, .ref (gad z a0)), (1, .ref (gad z a1)), (2, .int p2), (3, .int x3), (4, .int x4)] [] := by
  have hL := hC.2.2.2.2.2.2.1
  unfold t_X5_nearPairs_5 at hf
  refine V_iload 4 hC dX5_nearPairs_5 rfl ?_
  refine V_bipush (v := 24) hC dX5_nearPairs_7 rfl ?_
  refine V_icmp_ge (tgt := 69) hC dX5_nearPairs_9 (by decide) (fun c1 => ?_) (fun c1 => ?_)
  · have hf := if_t hf c1
    refine V_iload_n 3 hC dX5_nearPairs_69 rfl rfl ?_
    obtain rfl := so_inj hf
    exact V_iret hC hr hQ hA dX5_nearPairs_70
  · have hf := if_f hf c1
    refine V_iload 4 hC dX5_nearPairs_12 rfl ?_
    refine V_iconst (v := 1) hC dX5_nearPairs_14 rfl ?_
    refine V_iadd hC dX5_nearPairs_15 ?_
    refine V_topi (fun y2 ey2 => ?_)
    have hf := bd_e hf y2 ey2
    refine V_istore (lv' := [(5, .int y2), (0, .ref (gad z a0)), (1, .ref (gad z a1)), (2, .int p2), (3, .int x3), (4, .int x4)]) hC dX5_nearPairs_16 (by decide) rfl ?_
    exact V_sub [1, 2, 3, 4, 5, 0] rfl (lp_ind (X := Int32 × Int32 × Int32) (P := fun x => V K Y 6 0 0 z d 18 [(0, .ref (gad z a0)), (1, .ref (gad z a1)), (2, .int p2), (3, .int x.1), (4, .int x.2.1), (5, .int x.2.2)] []) (fun k x hk hx => b_X5_nearPairs_18 hC hr hA ha0 ha1 hQ hk5 (k18 := fun x3 x4 x5 => k (x3, x4, x5)) (fun x3 x4 x5 hx => hk (x3, x4, x5) hx) x.1 x.2.1 x.2.2 hx) FU (x3, x4, y2) hf)
def t_X5_nearPairs (L : Nat → Nat) (d : Dt) (a0 : Nat) (a1 : Nat) (p2 : Int32) : Option (Int32) := lp (fun k x => t_X5_nearPairs_5 L d a0 a1 p2  (fun x3 x4 => k (x3, x4)) x.1 x.2) FU (0, 0)
set_option maxRecDepth 20000 in
theorem c_X5_nearPairs {l : Launch} {Y : Yx} (hL : LAY Y) {z : Sh} {d : Dt} {a0 : Nat} {a1 : Nat} {p2 : Int32} (ha0 : (1, a0, 0) ∈ yI Y) (ha1 : (1, a1, 0) ∈ yI Y) {r : Int32} (hf : t_X5_nearPairs z.1 d a0 a1 p2 = some r) : MM l yX5_nearPairs cX5_nearPairs 6 (some .int) 1 21 Y z [.ref (gad z a0), .ref (gad z a1), .int p2] d (some (.int r)) d := by
  refine MM.ofV (by decide +kernel) hL (Nat.le_of_ble_eq_true rfl) (fun K hl hC hr hQ hA => ?_)
  have hC : CK K Y cX5_nearPairs 6 RX5 1 21 := hC
  unfold t_X5_nearPairs at hf
  show V K Y 6 0 0 z d 0 [(0, .ref (gad z a0)), (1, .ref (gad z a1)), (2, .int p2)] []
  refine V_iconst (v := 0) hC dX5_nearPairs_0 rfl ?_
  refine V_istore_n (lv' := [(3, .int 0), (0, .ref (gad z a0)), (1, .ref (gad z a1)), (2, .int p2)]) hC dX5_nearPairs_1 rfl (by decide) rfl ?_
  refine V_iconst (v := 0) hC dX5_nearPairs_2 rfl ?_
  refine V_istore (lv' := [(4, .int 0), (3, .int 0), (0, .ref (gad z a0)), (1, .ref (gad z a1)), (2, .int p2)]) hC dX5_nearPairs_3 (by decide) rfl ?_
  exact V_sub [2, 3, 4, 1, 0] rfl (lp_ind (X := Int32 × Int32) (P := fun x => V K Y 6 0 0 z d 5 [(0, .ref (gad z a0)), (1, .ref (gad z a1)), (2, .int p2), (3, .int x.1), (4, .int x.2)] []) (fun k x hk hx => b_X5_nearPairs_5 hC hr hA ha0 ha1 hQ  (k5 := fun x3 x4 => k (x3, x4)) (fun x3 x4 hx => hk (x3, x4) hx) x.1 x.2 hx) FU (0, 0) hf)
def t_X5_near (L : Nat → Nat) (d : Dt) (p1 : Int32) : Option (Int32 × Dt) := if p1 < 1 then some ((-1000002), d) else if p1 ≤ 24 then (t_X0_findLinks L d 6 (32 * 0 + 8)).bind (fun d3 => (t_X5_nearPairs L d3 (32 * 0 + 8) (32 * 2 + 1) p1).bind (fun v4 => some (v4, d3))) else some ((-1000002), d)
set_option maxRecDepth 20000 in
theorem c_X5_near {l : Launch} {Y : Yx} (hL : LAY Y) {z : Sh} {d : Dt} {p1 : Int32} (ho : (0, 0, 4) ∈ yI Y) {r : Int32} {d' : Dt} (hf : t_X5_near z.1 d p1 = some (r, d')) : MM l yX5_near cX5_near 2 (some .int) 3 68 Y z [.ref (yo Y 0), .int p1] d (some (.int r)) d' := by
  refine MM.ofV (by decide +kernel) hL (Nat.le_of_ble_eq_true rfl) (fun K hl hC hr hQ hA => ?_)
  have hC : CK K Y cX5_near 2 RX5 3 68 := hC
  have hkn : 0 ≤ (kR K).cells ∧ 0 ≤ (kR K).slots := ⟨Nat.zero_le _, Nat.zero_le _⟩
  unfold t_X5_near at hf
  show V K Y 2 0 0 z d 0 [(0, .ref (yo Y 0)), (1, .int p1)] []
  refine V_iload_n 1 hC dX5_near_0 rfl rfl ?_
  refine V_iconst (v := 1) hC dX5_near_1 rfl ?_
  refine V_icmp_lt (tgt := 11) hC dX5_near_2 (by decide) (fun c1 => ?_) (fun c1 => ?_)
  · have hf := if_t hf c1
    refine V_ldc hC ck_X5_63 dX5_near_11 ?_
    obtain ⟨rfl, rfl⟩ := so_inj2 hf
    exact V_iret hC hr hQ hA dX5_near_13
  · have hf := if_f hf c1
    refine V_iload_n 1 hC dX5_near_5 rfl rfl ?_
    refine V_bipush (v := 24) hC dX5_near_6 rfl ?_
    refine V_icmp_le (tgt := 14) hC dX5_near_8 (by decide) (fun c2 => ?_) (fun c2 => ?_)
    · have hf := if_t hf c2
      refine V_aload_n 0 hC dX5_near_14 rfl rfl ?_
      refine V_geto (o := 0) (o2 := 2) hC ho rfl fk_X5_45 rfl dX5_near_15 ?_
      refine V_geto (o := 2) (o2 := 6) hC (show (0, 2, 2) ∈ yI Y from hL.obj (j := 1) ho rfl) rfl fk_X5_83 rfl dX5_near_18 ?_
      refine V_aload_n 0 hC dX5_near_21 rfl rfl ?_
      refine V_geta (o := 0) hC ho rfl fk_X5_28 dX5_near_22 ?_
      obtain ⟨d3, ed3, hf⟩ := bi_some hf
      refine V_invv (o := 6) (As := [.ref (gad z (32 * 0 + 8))]) (rest := []) hC (c_X0_findLinks hL (show (0, 6, 0) ∈ yI Y from hL.obj (j := 0) (show (0, 2, 2) ∈ yI Y from hL.obj (j := 1) ho rfl) rfl) (hL.row ho rfl) ed3) me_X0_findLinks lk_X5_279 (show (0, 6, 0) ∈ yI Y from hL.obj (j := 0) (show (0, 2, 2) ∈ yI Y from hL.obj (j := 1) ho rfl) rfl) rfl rfl rfl (Nat.le_of_ble_eq_true rfl) ⟨by decide, by decide⟩ hkn dX5_near_25 ?_
      refine V_aload_n 0 hC dX5_near_28 rfl rfl ?_
      refine V_geta (o := 0) hC ho rfl fk_X5_28 dX5_near_29 ?_
      refine V_aload_n 0 hC dX5_near_32 rfl rfl ?_
      refine V_geto (o := 0) (o2 := 2) hC ho rfl fk_X5_45 rfl dX5_near_33 ?_
      refine V_geta (o := 2) hC (show (0, 2, 2) ∈ yI Y from hL.obj (j := 1) ho rfl) rfl fk_X5_276 dX5_near_36 ?_
      refine V_iload_n 1 hC dX5_near_39 rfl rfl ?_
      obtain ⟨v4, ev4, hf⟩ := bi_some hf
      refine V_insi (As := [.ref (gad z (32 * 0 + 8)), .ref (gad z (32 * 2 + 1)), .int p1]) (rest := []) hC (c_X5_nearPairs hL (hL.row ho rfl) (hL.row (show (0, 2, 2) ∈ yI Y from hL.obj (j := 1) ho rfl) rfl) ev4) me_X5_nearPairs lk_X5_283 rfl rfl (Nat.le_of_ble_eq_true rfl) ⟨by decide, by decide⟩ hkn dX5_near_40 ?_
      obtain ⟨rfl, rfl⟩ := so_inj2 hf
      exact V_iret hC hr hQ hA dX5_near_43
    · have hf := if_f hf c2
      refine V_ldc hC ck_X5_63 dX5_near_11 ?_
      obtain ⟨rfl, rfl⟩ := so_inj2 hf
      exact V_iret hC hr hQ hA dX5_near_13
def t_X5_mixTriedNumbers_13 (L : Nat → Nat) (k13 : Int32 → (Dt) → Option (Dt)) (x1 : Int32) (d : Dt) : Option (Dt) := if x1 < 2 then some d else (t_X2_draw L d 2 x1).bind (fun q3 => bd (1 + q3.1) (fun y4 => gd (inb x1 (L (32 * 0 + 9))) (bd (gA q3.2 (32 * 0 + 9) (ix x1)) (fun y6 => gd (inb y4 (L (32 * 0 + 9))) (gd (inb x1 (L (32 * 0 + 9))) (bd (sA q3.2 (32 * 0 + 9) (ix x1) (gA q3.2 (32 * 0 + 9) (ix y4))) (fun d9 => gd (inb y4 (L (32 * 0 + 9))) (bd (sA d9 (32 * 0 + 9) (ix y4) y6) (fun d11 => k13 (x1 + (-1)) d11)))))))))
set_option maxRecDepth 20000 in
theorem b_X5_mixTriedNumbers_13 {K : Kx} {Y : Yx} {z : Sh}  (hC : CK K Y cX5_mixTriedNumbers 4 RX5 1 21) (hr : (kme K).sig.returnType = none) (hA : kA K = aY Y z)  (ho : (0, 0, 4) ∈ yI Y) {d' : Dt} (hQ : kQ K = MQ (kb K) (QM Y z (none) d') (ka K) (ks K) 0 0 (aY Y z)) {k13 : Int32 → (Dt) → Option (Dt)} (hk13 : ∀ (x1 : Int32) (d : Dt), k13 x1 d = some d' → V K Y 4 0 0 z d 13 [(0, .ref (yo Y 0)), (1, .int x1)] []) (x1 : Int32) (d : Dt) (hf : t_X5_mixTriedNumbers_13 z.1 k13 x1 d = some d') : V K Y 4 0 0 z d 13 [(0, .ref (yo Y 0)), (1, .int x1)] [] := by
  have hL := hC.2.2.2.2.2.2.1
  have hkn : 0 ≤ (kR K).cells ∧ 0 ≤ (kR K).slots := ⟨Nat.zero_le _, Nat.zero_le _⟩
  unfold t_X5_mixTriedNumbers_13 at hf
  refine V_iload_n 1 hC dX5_mixTriedNumbers_13 rfl rfl ?_
  refine V_iconst (v := 2) hC dX5_mixTriedNumbers_14 rfl ?_
  refine V_icmp_lt (tgt := 61) hC dX5_mixTriedNumbers_15 (by decide) (fun c2 => ?_) (fun c2 => ?_)
  · have hf := if_t hf c2
    obtain rfl := so_inj hf
    exact V_vret hC hr hQ hA dX5_mixTriedNumbers_61
  · have hf := if_f hf c2
    refine V_iconst (v := 1) hC dX5_mixTriedNumbers_18 rfl ?_
    refine V_aload_n 0 hC dX5_mixTriedNumbers_19 rfl rfl ?_
    refine V_geto (o := 0) (o2 := 2) hC ho rfl fk_X5_45 rfl dX5_mixTriedNumbers_20 ?_
    refine V_iload_n 1 hC dX5_mixTriedNumbers_23 rfl rfl ?_
    obtain ⟨q3, eq3, hf⟩ := bi_some hf
    refine V_invi (o := 2) (As := [.int x1]) (rest := [.int 1]) hC (c_X2_draw hL (show (0, 2, 2) ∈ yI Y from hL.obj (j := 1) ho rfl) eq3) me_X2_draw lk_X5_200 (show (0, 2, 2) ∈ yI Y from hL.obj (j := 1) ho rfl) rfl rfl rfl (Nat.le_of_ble_eq_true rfl) ⟨by decide, by decide⟩ hkn dX5_mixTriedNumbers_24 ?_
    refine V_iadd hC dX5_mixTriedNumbers_27 ?_
    refine V_topi (fun y4 ey4 => ?_)
    have hf := bd_e hf y4 ey4
    refine V_istore_n (lv' := [(2, .int y4), (0, .ref (yo Y 0)), (1, .int x1)]) hC dX5_mixTriedNumbers_28 rfl (by decide) rfl ?_
    refine V_aload_n 1 hC dX5_mixTriedNumbers_29 rfl rfl ?_
    refine V_geta (o := 0) hC ho rfl fk_X5_31 dX5_mixTriedNumbers_30 ?_
    refine V_iload_n 2 hC dX5_mixTriedNumbers_33 rfl rfl ?_
    obtain ⟨g5, hf⟩ := gd_some hf
    refine V_iald (a := (32 * 0 + 9)) hC (hL.row ho rfl) g5 dX5_mixTriedNumbers_34 ?_
    refine V_topi (fun y6 ey6 => ?_)
    have hf := bd_e hf y6 ey6
    refine V_istore_n (lv' := [(3, .int y6), (2, .int y4), (0, .ref (yo Y 0)), (1, .int x1)]) hC dX5_mixTriedNumbers_35 rfl (by decide) rfl ?_
    refine V_aload_n 2 hC dX5_mixTriedNumbers_36 rfl rfl ?_
    refine V_geta (o := 0) hC ho rfl fk_X5_31 dX5_mixTriedNumbers_37 ?_
    refine V_iload_n 3 hC dX5_mixTriedNumbers_40 rfl rfl ?_
    refine V_aload_n 2 hC dX5_mixTriedNumbers_41 rfl rfl ?_
    refine V_geta (o := 0) hC ho rfl fk_X5_31 dX5_mixTriedNumbers_42 ?_
    refine V_iload_n 1 hC dX5_mixTriedNumbers_45 rfl rfl ?_
    obtain ⟨g7, hf⟩ := gd_some hf
    refine V_iald (a := (32 * 0 + 9)) hC (hL.row ho rfl) g7 dX5_mixTriedNumbers_46 ?_
    obtain ⟨g8, hf⟩ := gd_some hf
    refine V_iast (a := (32 * 0 + 9)) hC (hL.row ho rfl) g8 dX5_mixTriedNumbers_47 (fun d9 ed9 => ?_)
    have hf := bd_e hf d9 ed9
    refine V_aload_n 2 hC dX5_mixTriedNumbers_48 rfl rfl ?_
    refine V_geta (o := 0) hC ho rfl fk_X5_31 dX5_mixTriedNumbers_49 ?_
    refine V_iload_n 1 hC dX5_mixTriedNumbers_52 rfl rfl ?_
    refine V_iload_n 0 hC dX5_mixTriedNumbers_53 rfl rfl ?_
    obtain ⟨g10, hf⟩ := gd_some hf
    refine V_iast (a := (32 * 0 + 9)) hC (hL.row ho rfl) g10 dX5_mixTriedNumbers_54 (fun d11 ed11 => ?_)
    have hf := bd_e hf d11 ed11
    refine V_iinc (v := x1 + (-1)) (lv' := [(1, .int (x1 + (-1))), (3, .int y6), (2, .int y4), (0, .ref (yo Y 0))]) 3 hC dX5_mixTriedNumbers_55 rfl rfl (by decide) rfl ?_
    refine V_goto (tgt := 13) hC dX5_mixTriedNumbers_58 (by decide) ?_
    exact V_sub [3, 0] rfl (hk13 (x1 + (-1)) d11 hf)
def t_X5_mixTriedNumbers (L : Nat → Nat) (d : Dt)  : Option (Dt) := bd ((gF d 6 0) - 1) (fun y1 => lp (fun k x => t_X5_mixTriedNumbers_13 L  (fun x1 d => k (x1, d)) x.1 x.2) FU (y1, d))
set_option maxRecDepth 20000 in
theorem c_X5_mixTriedNumbers {l : Launch} {Y : Yx} (hL : LAY Y) {z : Sh} {d : Dt}  (ho : (0, 0, 4) ∈ yI Y) {d' : Dt} (hf : t_X5_mixTriedNumbers z.1 d  = some d') : MM l yX5_mixTriedNumbers cX5_mixTriedNumbers 4 none 1 21 Y z [.ref (yo Y 0)] d (none) d' := by
  refine MM.ofV (by decide +kernel) hL (Nat.le_of_ble_eq_true rfl) (fun K hl hC hr hQ hA => ?_)
  have hC : CK K Y cX5_mixTriedNumbers 4 RX5 1 21 := hC
  unfold t_X5_mixTriedNumbers at hf
  show V K Y 4 0 0 z d 0 [(0, .ref (yo Y 0))] []
  refine V_aload_n 0 hC dX5_mixTriedNumbers_0 rfl rfl ?_
  refine V_geto (o := 0) (o2 := 2) hC ho rfl fk_X5_45 rfl dX5_mixTriedNumbers_1 ?_
  refine V_geto (o := 2) (o2 := 6) hC (show (0, 2, 2) ∈ yI Y from hL.obj (j := 1) ho rfl) rfl fk_X5_83 rfl dX5_mixTriedNumbers_4 ?_
  refine V_geti (o := 6) hC (show (0, 6, 0) ∈ yI Y from hL.obj (j := 0) (show (0, 2, 2) ∈ yI Y from hL.obj (j := 1) ho rfl) rfl) rfl fk_X5_86 dX5_mixTriedNumbers_7 ?_
  refine V_iconst (v := 1) hC dX5_mixTriedNumbers_10 rfl ?_
  refine V_isub hC dX5_mixTriedNumbers_11 ?_
  refine V_topi (fun y1 ey1 => ?_)
  have hf := bd_e hf y1 ey1
  refine V_istore_n (lv' := [(1, .int y1), (0, .ref (yo Y 0))]) hC dX5_mixTriedNumbers_12 rfl (by decide) rfl ?_
  exact V_sub [1, 0] rfl (lp_ind (X := Int32 × Dt) (P := fun x => V K Y 4 0 0 z x.2 13 [(0, .ref (yo Y 0)), (1, .int x.1)] []) (fun k x hk hx => b_X5_mixTriedNumbers_13 hC hr hA ho hQ  (k13 := fun x1 d => k (x1, d)) (fun x1 d hx => hk (x1, d) hx) x.1 x.2 hx) FU (y1, d) hf)
def t_X5_shuffle_127 (L : Nat → Nat) (p1 : Int32) (p2 : Int32) (k76 : Int32 → Int32 → (Dt) → Option (Int32 × Dt)) (x3 : Int32) (x4 : Int32) (d : Dt) : Option (Int32 × Dt) := k76 x3 (x4 + 1) d
set_option maxRecDepth 20000 in
theorem b_X5_shuffle_127 {K : Kx} {Y : Yx} {z : Sh}  (hC : CK K Y cX5_shuffle 6 RX5 3 68) (hr : (kme K).sig.returnType = some .int) (hA : kA K = aY Y z) {p1 : Int32} {p2 : Int32} (ho : (0, 0, 4) ∈ yI Y) {r : Int32} {d' : Dt} (hQ : kQ K = MQ (kb K) (QM Y z (some (.int r)) d') (ka K) (ks K) 0 0 (aY Y z)) {k76 : Int32 → Int32 → (Dt) → Option (Int32 × Dt)} (hk76 : ∀ (x3 : Int32) (x4 : Int32) (d : Dt), k76 x3 x4 d = some (r, d') → V K Y 6 0 0 z d 76 [(0, .ref (yo Y 0)), (1, .int p1), (2, .int p2), (3, .int x3), (4, .int x4)] []) (x3 : Int32) (x4 : Int32) (d : Dt) (hf : t_X5_shuffle_127 z.1 p1 p2 k76 x3 x4 d = some (r, d')) : V K Y 6 0 0 z d 127 [(0, .ref (yo Y 0)), (1, .int p1), (2, .int p2), (3, .int x3), (4, .int x4)] [] := by
  have hL := hC.2.2.2.2.2.2.1
  unfold t_X5_shuffle_127 at hf
  refine V_iinc (v := x4 + 1) (lv' := [(4, .int (x4 + 1)), (0, .ref (yo Y 0)), (1, .int p1), (2, .int p2), (3, .int x3)]) 4 hC dX5_shuffle_127 rfl rfl (by decide) rfl ?_
  refine V_goto (tgt := 76) hC dX5_shuffle_130 (by decide) ?_
  exact V_sub [1, 2, 3, 4, 0] rfl (hk76 x3 (x4 + 1) d hf)
def t_X5_shuffle_76 (L : Nat → Nat) (p1 : Int32) (p2 : Int32) (k76 : Int32 → Int32 → (Dt) → Option (Int32 × Dt)) (x3 : Int32) (x4 : Int32) (d : Dt) : Option (Int32 × Dt) := if p2 ≤ x4 then some (x3, d) else (t_X5_mixTriedNumbers L d ).bind (fun d10 => (t_X5_nearPairs L d10 (32 * 0 + 8) (32 * 0 + 9) p1).bind (fun v11 => if x3 ≤ v11 then t_X5_shuffle_127 L p1 p2 k76 x3 x4 d10 else gd (cpok (L (32 * 0 + 9)) (L (32 * 2 + 1)) 0 0 24) (bd (sR d10 (32 * 2 + 1) (va_cpy (gA d10 (32 * 0 + 9)) (gA d10 (32 * 2 + 1)) (ix 0) (ix 0) (ix 24))) (fun d14 => t_X5_shuffle_127 L p1 p2 k76 v11 x4 d14))))
set_option maxRecDepth 20000 in
theorem b_X5_shuffle_76 {K : Kx} {Y : Yx} {z : Sh}  (hC : CK K Y cX5_shuffle 6 RX5 3 68) (hr : (kme K).sig.returnType = some .int) (hA : kA K = aY Y z) {p1 : Int32} {p2 : Int32} (ho : (0, 0, 4) ∈ yI Y) {r : Int32} {d' : Dt} (hQ : kQ K = MQ (kb K) (QM Y z (some (.int r)) d') (ka K) (ks K) 0 0 (aY Y z)) {k76 : Int32 → Int32 → (Dt) → Option (Int32 × Dt)} (hk76 : ∀ (x3 : Int32) (x4 : Int32) (d : Dt), k76 x3 x4 d = some (r, d') → V K Y 6 0 0 z d 76 [(0, .ref (yo Y 0)), (1, .int p1), (2, .int p2), (3, .int x3), (4, .int x4)] []) (x3 : Int32) (x4 : Int32) (d : Dt) (hf : t_X5_shuffle_76 z.1 p1 p2 k76 x3 x4 d = some (r, d')) : V K Y 6 0 0 z d 76 [(0, .ref (yo Y 0)), (1, .int p1), (2, .int p2), (3, .int x3), (4, .int x4)] [] := by
  have hL := hC.2.2.2.2.2.2.1
  have hkn : 0 ≤ (kR K).cells ∧ 0 ≤ (kR K).slots := ⟨Nat.zero_le _, Nat.zero_le _⟩
  unfold t_X5_shuffle_76 at hf
  refine V_iload 4 hC dX5_shuffle_76 rfl ?_
  refine V_iload_n 2 hC dX5_shuffle_78 rfl rfl ?_
  refine V_icmp_ge (tgt := 133) hC dX5_shuffle_79 (by decide) (fun c9 => ?_) (fun c9 => ?_)
  · have hf := if_t hf c9
    refine V_iload_n 3 hC dX5_shuffle_133 rfl rfl ?_
    obtain ⟨rfl, rfl⟩ := so_inj2 hf
    exact V_iret hC hr hQ hA dX5_shuffle_134
  · have hf := if_f hf c9
    refine V_aload_n 0 hC dX5_shuffle_82 rfl rfl ?_
    obtain ⟨d10, ed10, hf⟩ := bi_some hf
    refine V_invv (o := 0) (As := []) (rest := []) hC (c_X5_mixTriedNumbers hL ho ed10) me_X5_mixTriedNumbers lk_X5_293 ho rfl rfl rfl (Nat.le_of_ble_eq_true rfl) ⟨by decide, by decide⟩ hkn dX5_shuffle_83 ?_
    refine V_aload_n 0 hC dX5_shuffle_86 rfl rfl ?_
    refine V_geta (o := 0) hC ho rfl fk_X5_28 dX5_shuffle_87 ?_
    refine V_aload_n 0 hC dX5_shuffle_90 rfl rfl ?_
    refine V_geta (o := 0) hC ho rfl fk_X5_31 dX5_shuffle_91 ?_
    refine V_iload_n 1 hC dX5_shuffle_94 rfl rfl ?_
    obtain ⟨v11, ev11, hf⟩ := bi_some hf
    refine V_insi (As := [.ref (gad z (32 * 0 + 8)), .ref (gad z (32 * 0 + 9)), .int p1]) (rest := []) hC (c_X5_nearPairs hL (hL.row ho rfl) (hL.row ho rfl) ev11) me_X5_nearPairs lk_X5_283 rfl rfl (Nat.le_of_ble_eq_true rfl) ⟨by decide, by decide⟩ hkn dX5_shuffle_95 ?_
    refine V_istore (lv' := [(5, .int v11), (0, .ref (yo Y 0)), (1, .int p1), (2, .int p2), (3, .int x3), (4, .int x4)]) hC dX5_shuffle_98 (by decide) rfl ?_
    refine V_iload 0 hC dX5_shuffle_100 rfl ?_
    refine V_iload_n 4 hC dX5_shuffle_102 rfl rfl ?_
    refine V_icmp_ge (tgt := 127) hC dX5_shuffle_103 (by decide) (fun c12 => ?_) (fun c12 => ?_)
    · have hf := if_t hf c12
      exact V_sub [1, 2, 3, 4, 5] rfl (b_X5_shuffle_127 hC hr hA ho hQ hk76 x3 x4 d10 hf)
    · have hf := if_f hf c12
      refine V_iload 0 hC dX5_shuffle_106 rfl ?_
      refine V_istore_n (lv' := [(3, .int v11), (5, .int v11), (0, .ref (yo Y 0)), (1, .int p1), (2, .int p2), (4, .int x4)]) hC dX5_shuffle_108 rfl (by decide) rfl ?_
      refine V_aload_n 2 hC dX5_shuffle_109 rfl rfl ?_
      refine V_geta (o := 0) hC ho rfl fk_X5_31 dX5_shuffle_110 ?_
      refine V_iconst (v := 0) hC dX5_shuffle_113 rfl ?_
      refine V_aload_n 2 hC dX5_shuffle_114 rfl rfl ?_
      refine V_geto (o := 0) (o2 := 2) hC ho rfl fk_X5_45 rfl dX5_shuffle_115 ?_
      refine V_geta (o := 2) hC (show (0, 2, 2) ∈ yI Y from hL.obj (j := 1) ho rfl) rfl fk_X5_276 dX5_shuffle_118 ?_
      refine V_iconst (v := 0) hC dX5_shuffle_121 rfl ?_
      refine V_bipush (v := 24) hC dX5_shuffle_122 rfl ?_
      obtain ⟨g13, hf⟩ := gd_some hf
      refine V_acopy (a := (32 * 0 + 9)) (b := (32 * 2 + 1)) hC ac_X5_287 (hL.row ho rfl) (hL.row (show (0, 2, 2) ∈ yI Y from hL.obj (j := 1) ho rfl) rfl) g13 (by decide) (Nat.le_of_ble_eq_true rfl) dX5_shuffle_124 (fun d14 ed14 => ?_)
      have hf := bd_e hf d14 ed14
      exact V_sub [2, 3, 4, 0, 5] rfl (b_X5_shuffle_127 hC hr hA ho hQ hk76 v11 x4 d14 hf)
def t_X5_shuffle (L : Nat → Nat) (d : Dt) (p1 : Int32) (p2 : Int32) : Option (Int32 × Dt) := if p1 < 1 then some ((-1000002), d) else if 24 < p1 then some ((-1000002), d) else if p2 < 1 then some ((-1000002), d) else if p2 ≤ 99 then (t_X0_findLinks L d 6 (32 * 0 + 8)).bind (fun d5 => (t_X5_nearPairs L d5 (32 * 0 + 8) (32 * 2 + 1) p1).bind (fun v6 => gd (cpok (L (32 * 2 + 1)) (L (32 * 0 + 9)) 0 0 24) (bd (sR d5 (32 * 0 + 9) (va_cpy (gA d5 (32 * 2 + 1)) (gA d5 (32 * 0 + 9)) (ix 0) (ix 0) (ix 24))) (fun d8 => lp (fun k x => t_X5_shuffle_76 L p1 p2  (fun x3 x4 d => k (x3, x4, d)) x.1 x.2.1 x.2.2) FU (v6, 0, d8))))) else some ((-1000002), d)
set_option maxRecDepth 20000 in
theorem c_X5_shuffle {l : Launch} {Y : Yx} (hL : LAY Y) {z : Sh} {d : Dt} {p1 : Int32} {p2 : Int32} (ho : (0, 0, 4) ∈ yI Y) {r : Int32} {d' : Dt} (hf : t_X5_shuffle z.1 d p1 p2 = some (r, d')) : MM l yX5_shuffle cX5_shuffle 6 (some .int) 3 68 Y z [.ref (yo Y 0), .int p1, .int p2] d (some (.int r)) d' := by
  refine MM.ofV (by decide +kernel) hL (Nat.le_of_ble_eq_true rfl) (fun K hl hC hr hQ hA => ?_)
  have hC : CK K Y cX5_shuffle 6 RX5 3 68 := hC
  have hkn : 0 ≤ (kR K).cells ∧ 0 ≤ (kR K).slots := ⟨Nat.zero_le _, Nat.zero_le _⟩
  unfold t_X5_shuffle at hf
  show V K Y 6 0 0 z d 0 [(0, .ref (yo Y 0)), (1, .int p1), (2, .int p2)] []
  refine V_iload_n 1 hC dX5_shuffle_0 rfl rfl ?_
  refine V_iconst (v := 1) hC dX5_shuffle_1 rfl ?_
  refine V_icmp_lt (tgt := 22) hC dX5_shuffle_2 (by decide) (fun c1 => ?_) (fun c1 => ?_)
  · have hf := if_t hf c1
    refine V_ldc hC ck_X5_63 dX5_shuffle_22 ?_
    obtain ⟨rfl, rfl⟩ := so_inj2 hf
    exact V_iret hC hr hQ hA dX5_shuffle_24
  · have hf := if_f hf c1
    refine V_iload_n 1 hC dX5_shuffle_5 rfl rfl ?_
    refine V_bipush (v := 24) hC dX5_shuffle_6 rfl ?_
    refine V_icmp_gt (tgt := 22) hC dX5_shuffle_8 (by decide) (fun c2 => ?_) (fun c2 => ?_)
    · have hf := if_t hf c2
      refine V_ldc hC ck_X5_63 dX5_shuffle_22 ?_
      obtain ⟨rfl, rfl⟩ := so_inj2 hf
      exact V_iret hC hr hQ hA dX5_shuffle_24
    · have hf := if_f hf c2
      refine V_iload_n 2 hC dX5_shuffle_11 rfl rfl ?_
      refine V_iconst (v := 1) hC dX5_shuffle_12 rfl ?_
      refine V_icmp_lt (tgt := 22) hC dX5_shuffle_13 (by decide) (fun c3 => ?_) (fun c3 => ?_)
      · have hf := if_t hf c3
        refine V_ldc hC ck_X5_63 dX5_shuffle_22 ?_
        obtain ⟨rfl, rfl⟩ := so_inj2 hf
        exact V_iret hC hr hQ hA dX5_shuffle_24
      · have hf := if_f hf c3
        refine V_iload_n 2 hC dX5_shuffle_16 rfl rfl ?_
        refine V_bipush (v := 99) hC dX5_shuffle_17 rfl ?_
        refine V_icmp_le (tgt := 25) hC dX5_shuffle_19 (by decide) (fun c4 => ?_) (fun c4 => ?_)
        · have hf := if_t hf c4
          refine V_aload_n 0 hC dX5_shuffle_25 rfl rfl ?_
          refine V_geto (o := 0) (o2 := 2) hC ho rfl fk_X5_45 rfl dX5_shuffle_26 ?_
          refine V_geto (o := 2) (o2 := 6) hC (show (0, 2, 2) ∈ yI Y from hL.obj (j := 1) ho rfl) rfl fk_X5_83 rfl dX5_shuffle_29 ?_
          refine V_aload_n 0 hC dX5_shuffle_32 rfl rfl ?_
          refine V_geta (o := 0) hC ho rfl fk_X5_28 dX5_shuffle_33 ?_
          obtain ⟨d5, ed5, hf⟩ := bi_some hf
          refine V_invv (o := 6) (As := [.ref (gad z (32 * 0 + 8))]) (rest := []) hC (c_X0_findLinks hL (show (0, 6, 0) ∈ yI Y from hL.obj (j := 0) (show (0, 2, 2) ∈ yI Y from hL.obj (j := 1) ho rfl) rfl) (hL.row ho rfl) ed5) me_X0_findLinks lk_X5_279 (show (0, 6, 0) ∈ yI Y from hL.obj (j := 0) (show (0, 2, 2) ∈ yI Y from hL.obj (j := 1) ho rfl) rfl) rfl rfl rfl (Nat.le_of_ble_eq_true rfl) ⟨by decide, by decide⟩ hkn dX5_shuffle_36 ?_
          refine V_aload_n 0 hC dX5_shuffle_39 rfl rfl ?_
          refine V_geta (o := 0) hC ho rfl fk_X5_28 dX5_shuffle_40 ?_
          refine V_aload_n 0 hC dX5_shuffle_43 rfl rfl ?_
          refine V_geto (o := 0) (o2 := 2) hC ho rfl fk_X5_45 rfl dX5_shuffle_44 ?_
          refine V_geta (o := 2) hC (show (0, 2, 2) ∈ yI Y from hL.obj (j := 1) ho rfl) rfl fk_X5_276 dX5_shuffle_47 ?_
          refine V_iload_n 1 hC dX5_shuffle_50 rfl rfl ?_
          obtain ⟨v6, ev6, hf⟩ := bi_some hf
          refine V_insi (As := [.ref (gad z (32 * 0 + 8)), .ref (gad z (32 * 2 + 1)), .int p1]) (rest := []) hC (c_X5_nearPairs hL (hL.row ho rfl) (hL.row (show (0, 2, 2) ∈ yI Y from hL.obj (j := 1) ho rfl) rfl) ev6) me_X5_nearPairs lk_X5_283 rfl rfl (Nat.le_of_ble_eq_true rfl) ⟨by decide, by decide⟩ hkn dX5_shuffle_51 ?_
          refine V_istore_n (lv' := [(3, .int v6), (0, .ref (yo Y 0)), (1, .int p1), (2, .int p2)]) hC dX5_shuffle_54 rfl (by decide) rfl ?_
          refine V_aload_n 1 hC dX5_shuffle_55 rfl rfl ?_
          refine V_geto (o := 0) (o2 := 2) hC ho rfl fk_X5_45 rfl dX5_shuffle_56 ?_
          refine V_geta (o := 2) hC (show (0, 2, 2) ∈ yI Y from hL.obj (j := 1) ho rfl) rfl fk_X5_276 dX5_shuffle_59 ?_
          refine V_iconst (v := 0) hC dX5_shuffle_62 rfl ?_
          refine V_aload_n 1 hC dX5_shuffle_63 rfl rfl ?_
          refine V_geta (o := 0) hC ho rfl fk_X5_31 dX5_shuffle_64 ?_
          refine V_iconst (v := 0) hC dX5_shuffle_67 rfl ?_
          refine V_bipush (v := 24) hC dX5_shuffle_68 rfl ?_
          obtain ⟨g7, hf⟩ := gd_some hf
          refine V_acopy (a := (32 * 2 + 1)) (b := (32 * 0 + 9)) hC ac_X5_287 (hL.row (show (0, 2, 2) ∈ yI Y from hL.obj (j := 1) ho rfl) rfl) (hL.row ho rfl) g7 (by decide) (Nat.le_of_ble_eq_true rfl) dX5_shuffle_70 (fun d8 ed8 => ?_)
          have hf := bd_e hf d8 ed8
          refine V_iconst (v := 0) hC dX5_shuffle_73 rfl ?_
          refine V_istore (lv' := [(4, .int 0), (3, .int v6), (0, .ref (yo Y 0)), (1, .int p1), (2, .int p2)]) hC dX5_shuffle_74 (by decide) rfl ?_
          exact V_sub [2, 3, 4, 1, 0] rfl (lp_ind (X := Int32 × Int32 × Dt) (P := fun x => V K Y 6 0 0 z x.2.2 76 [(0, .ref (yo Y 0)), (1, .int p1), (2, .int p2), (3, .int x.1), (4, .int x.2.1)] []) (fun k x hk hx => b_X5_shuffle_76 hC hr hA ho hQ  (k76 := fun x3 x4 d => k (x3, x4, d)) (fun x3 x4 d hx => hk (x3, x4, d) hx) x.1 x.2.1 x.2.2 hx) FU (v6, 0, d8) hf)
        · have hf := if_f hf c4
          refine V_ldc hC ck_X5_63 dX5_shuffle_22 ?_
          obtain ⟨rfl, rfl⟩ := so_inj2 hf
          exact V_iret hC hr hQ hA dX5_shuffle_24
def t_X5_page (L : Nat → Nat) (d : Dt) (p1 : Int32) (p2 : Int32) : Option (Int32 × Dt) := (t_X0_hasPart L d 6 p1).bind (fun v1 => if v1 = 0 then some ((-1000001), d) else if p2 < 10 then some ((-1000002), d) else if p2 ≤ 60 then (t_X2_layPages L d 2 p2 (32 * 0 + 10)).bind (fun d5 => gd (inb p1 (L (32 * 0 + 10))) (some (gA d5 (32 * 0 + 10) (ix p1), d5))) else some ((-1000002), d))
set_option maxRecDepth 20000 in
theorem c_X5_page {l : Launch} {Y : Yx} (hL : LAY Y) {z : Sh} {d : Dt} {p1 : Int32} {p2 : Int32} (ho : (0, 0, 4) ∈ yI Y) {r : Int32} {d' : Dt} (hf : t_X5_page z.1 d p1 p2 = some (r, d')) : MM l yX5_page cX5_page 3 (some .int) 3 69 Y z [.ref (yo Y 0), .int p1, .int p2] d (some (.int r)) d' := by
  refine MM.ofV (by decide +kernel) hL (Nat.le_of_ble_eq_true rfl) (fun K hl hC hr hQ hA => ?_)
  have hC : CK K Y cX5_page 3 RX5 3 69 := hC
  have hkn : 0 ≤ (kR K).cells ∧ 0 ≤ (kR K).slots := ⟨Nat.zero_le _, Nat.zero_le _⟩
  unfold t_X5_page at hf
  show V K Y 3 0 0 z d 0 [(0, .ref (yo Y 0)), (1, .int p1), (2, .int p2)] []
  refine V_aload_n 0 hC dX5_page_0 rfl rfl ?_
  refine V_geto (o := 0) (o2 := 2) hC ho rfl fk_X5_45 rfl dX5_page_1 ?_
  refine V_geto (o := 2) (o2 := 6) hC (show (0, 2, 2) ∈ yI Y from hL.obj (j := 1) ho rfl) rfl fk_X5_83 rfl dX5_page_4 ?_
  refine V_iload_n 1 hC dX5_page_7 rfl rfl ?_
  obtain ⟨v1, ev1, hf⟩ := bi_some hf
  refine V_invi (o := 6) (As := [.int p1]) (rest := []) hC (c_X0_hasPart hL (show (0, 6, 0) ∈ yI Y from hL.obj (j := 0) (show (0, 2, 2) ∈ yI Y from hL.obj (j := 1) ho rfl) rfl) ev1) me_X0_hasPart lk_X5_92 (show (0, 6, 0) ∈ yI Y from hL.obj (j := 0) (show (0, 2, 2) ∈ yI Y from hL.obj (j := 1) ho rfl) rfl) rfl rfl rfl (Nat.le_of_ble_eq_true rfl) ⟨by decide, by decide⟩ hkn dX5_page_8 ?_
  refine V_if_ne (tgt := 17) hC dX5_page_11 (by decide) (fun c2 => ?_) (fun c2 => ?_)
  · have hf := if_f hf c2
    refine V_iload_n 2 hC dX5_page_17 rfl rfl ?_
    refine V_bipush (v := 10) hC dX5_page_18 rfl ?_
    refine V_icmp_lt (tgt := 29) hC dX5_page_20 (by decide) (fun c3 => ?_) (fun c3 => ?_)
    · have hf := if_t hf c3
      refine V_ldc hC ck_X5_63 dX5_page_29 ?_
      obtain ⟨rfl, rfl⟩ := so_inj2 hf
      exact V_iret hC hr hQ hA dX5_page_31
    · have hf := if_f hf c3
      refine V_iload_n 2 hC dX5_page_23 rfl rfl ?_
      refine V_bipush (v := 60) hC dX5_page_24 rfl ?_
      refine V_icmp_le (tgt := 32) hC dX5_page_26 (by decide) (fun c4 => ?_) (fun c4 => ?_)
      · have hf := if_t hf c4
        refine V_aload_n 0 hC dX5_page_32 rfl rfl ?_
        refine V_geto (o := 0) (o2 := 2) hC ho rfl fk_X5_45 rfl dX5_page_33 ?_
        refine V_iload_n 2 hC dX5_page_36 rfl rfl ?_
        refine V_aload_n 0 hC dX5_page_37 rfl rfl ?_
        refine V_geta (o := 0) hC ho rfl fk_X5_34 dX5_page_38 ?_
        obtain ⟨d5, ed5, hf⟩ := bi_some hf
        refine V_invv (o := 2) (As := [.int p2, .ref (gad z (32 * 0 + 10))]) (rest := []) hC (c_X2_layPages hL (show (0, 2, 2) ∈ yI Y from hL.obj (j := 1) ho rfl) (hL.row ho rfl) ed5) me_X2_layPages lk_X5_296 (show (0, 2, 2) ∈ yI Y from hL.obj (j := 1) ho rfl) rfl rfl rfl (Nat.le_of_ble_eq_true rfl) ⟨by decide, by decide⟩ hkn dX5_page_41 ?_
        refine V_aload_n 0 hC dX5_page_44 rfl rfl ?_
        refine V_geta (o := 0) hC ho rfl fk_X5_34 dX5_page_45 ?_
        refine V_iload_n 1 hC dX5_page_48 rfl rfl ?_
        obtain ⟨g6, hf⟩ := gd_some hf
        refine V_iald (a := (32 * 0 + 10)) hC (hL.row ho rfl) g6 dX5_page_49 ?_
        obtain ⟨rfl, rfl⟩ := so_inj2 hf
        exact V_iret hC hr hQ hA dX5_page_50
      · have hf := if_f hf c4
        refine V_ldc hC ck_X5_63 dX5_page_29 ?_
        obtain ⟨rfl, rfl⟩ := so_inj2 hf
        exact V_iret hC hr hQ hA dX5_page_31
  · have hf := if_t hf c2
    refine V_ldc hC ck_X5_96 dX5_page_14 ?_
    obtain ⟨rfl, rfl⟩ := so_inj2 hf
    exact V_iret hC hr hQ hA dX5_page_16
def t_X5_flips (L : Nat → Nat) (d : Dt) (p1 : Int32) : Option (Int32 × Dt) := if p1 < 10 then some ((-1000002), d) else if p1 ≤ 60 then if (gF d 2 3) = 0 then some ((-1000003), d) else (t_X2_layPages L d 2 p1 (32 * 0 + 10)).bind (fun d4 => (t_X2_flipsOver L d4 2 (32 * 0 + 10)).bind (fun v5 => some (v5, d4))) else some ((-1000002), d)
set_option maxRecDepth 20000 in
theorem c_X5_flips {l : Launch} {Y : Yx} (hL : LAY Y) {z : Sh} {d : Dt} {p1 : Int32} (ho : (0, 0, 4) ∈ yI Y) {r : Int32} {d' : Dt} (hf : t_X5_flips z.1 d p1 = some (r, d')) : MM l yX5_flips cX5_flips 2 (some .int) 3 69 Y z [.ref (yo Y 0), .int p1] d (some (.int r)) d' := by
  refine MM.ofV (by decide +kernel) hL (Nat.le_of_ble_eq_true rfl) (fun K hl hC hr hQ hA => ?_)
  have hC : CK K Y cX5_flips 2 RX5 3 69 := hC
  have hkn : 0 ≤ (kR K).cells ∧ 0 ≤ (kR K).slots := ⟨Nat.zero_le _, Nat.zero_le _⟩
  unfold t_X5_flips at hf
  show V K Y 2 0 0 z d 0 [(0, .ref (yo Y 0)), (1, .int p1)] []
  refine V_iload_n 1 hC dX5_flips_0 rfl rfl ?_
  refine V_bipush (v := 10) hC dX5_flips_1 rfl ?_
  refine V_icmp_lt (tgt := 12) hC dX5_flips_3 (by decide) (fun c1 => ?_) (fun c1 => ?_)
  · have hf := if_t hf c1
    refine V_ldc hC ck_X5_63 dX5_flips_12 ?_
    obtain ⟨rfl, rfl⟩ := so_inj2 hf
    exact V_iret hC hr hQ hA dX5_flips_14
  · have hf := if_f hf c1
    refine V_iload_n 1 hC dX5_flips_6 rfl rfl ?_
    refine V_bipush (v := 60) hC dX5_flips_7 rfl ?_
    refine V_icmp_le (tgt := 15) hC dX5_flips_9 (by decide) (fun c2 => ?_) (fun c2 => ?_)
    · have hf := if_t hf c2
      refine V_aload_n 0 hC dX5_flips_15 rfl rfl ?_
      refine V_geto (o := 0) (o2 := 2) hC ho rfl fk_X5_45 rfl dX5_flips_16 ?_
      refine V_geti (o := 2) hC (show (0, 2, 2) ∈ yI Y from hL.obj (j := 1) ho rfl) rfl fk_X5_172 dX5_flips_19 ?_
      refine V_if_ne (tgt := 28) hC dX5_flips_22 (by decide) (fun c3 => ?_) (fun c3 => ?_)
      · have hf := if_f hf c3
        refine V_aload_n 0 hC dX5_flips_28 rfl rfl ?_
        refine V_geto (o := 0) (o2 := 2) hC ho rfl fk_X5_45 rfl dX5_flips_29 ?_
        refine V_iload_n 1 hC dX5_flips_32 rfl rfl ?_
        refine V_aload_n 0 hC dX5_flips_33 rfl rfl ?_
        refine V_geta (o := 0) hC ho rfl fk_X5_34 dX5_flips_34 ?_
        obtain ⟨d4, ed4, hf⟩ := bi_some hf
        refine V_invv (o := 2) (As := [.int p1, .ref (gad z (32 * 0 + 10))]) (rest := []) hC (c_X2_layPages hL (show (0, 2, 2) ∈ yI Y from hL.obj (j := 1) ho rfl) (hL.row ho rfl) ed4) me_X2_layPages lk_X5_296 (show (0, 2, 2) ∈ yI Y from hL.obj (j := 1) ho rfl) rfl rfl rfl (Nat.le_of_ble_eq_true rfl) ⟨by decide, by decide⟩ hkn dX5_flips_37 ?_
        refine V_aload_n 0 hC dX5_flips_40 rfl rfl ?_
        refine V_geto (o := 0) (o2 := 2) hC ho rfl fk_X5_45 rfl dX5_flips_41 ?_
        refine V_aload_n 0 hC dX5_flips_44 rfl rfl ?_
        refine V_geta (o := 0) hC ho rfl fk_X5_34 dX5_flips_45 ?_
        obtain ⟨v5, ev5, hf⟩ := bi_some hf
        refine V_invi (o := 2) (As := [.ref (gad z (32 * 0 + 10))]) (rest := []) hC (c_X2_flipsOver hL (show (0, 2, 2) ∈ yI Y from hL.obj (j := 1) ho rfl) (hL.row ho rfl) ev5) me_X2_flipsOver lk_X5_300 (show (0, 2, 2) ∈ yI Y from hL.obj (j := 1) ho rfl) rfl rfl rfl (Nat.le_of_ble_eq_true rfl) ⟨by decide, by decide⟩ hkn dX5_flips_48 ?_
        obtain ⟨rfl, rfl⟩ := so_inj2 hf
        exact V_iret hC hr hQ hA dX5_flips_51
      · have hf := if_t hf c3
        refine V_ldc hC ck_X5_144 dX5_flips_25 ?_
        obtain ⟨rfl, rfl⟩ := so_inj2 hf
        exact V_iret hC hr hQ hA dX5_flips_27
    · have hf := if_f hf c2
      refine V_ldc hC ck_X5_63 dX5_flips_12 ?_
      obtain ⟨rfl, rfl⟩ := so_inj2 hf
      exact V_iret hC hr hQ hA dX5_flips_14
def t_X5_seed (L : Nat → Nat) (d : Dt) (p1 : Int32) : Option (Int32 × Dt) := if 0 ≤ p1 then bd (gF d 2 2) (fun y2 => bd (sF d 2 2 p1) (fun d3 => some (y2, d3))) else some ((-1000002), d)
set_option maxRecDepth 20000 in
theorem c_X5_seed {l : Launch} {Y : Yx} (hL : LAY Y) {z : Sh} {d : Dt} {p1 : Int32} (ho : (0, 0, 4) ∈ yI Y) {r : Int32} {d' : Dt} (hf : t_X5_seed z.1 d p1 = some (r, d')) : MM l yX5_seed cX5_seed 3 (some .int) 0 0 Y z [.ref (yo Y 0), .int p1] d (some (.int r)) d' := by
  refine MM.ofV (by decide +kernel) hL (Nat.le_of_ble_eq_true rfl) (fun K hl hC hr hQ hA => ?_)
  have hC : CK K Y cX5_seed 3 RX5 0 0 := hC
  unfold t_X5_seed at hf
  show V K Y 3 0 0 z d 0 [(0, .ref (yo Y 0)), (1, .int p1)] []
  refine V_iload_n 1 hC dX5_seed_0 rfl rfl ?_
  refine V_if_ge (tgt := 7) hC dX5_seed_1 (by decide) (fun c1 => ?_) (fun c1 => ?_)
  · have hf := if_t hf c1
    refine V_aload_n 0 hC dX5_seed_7 rfl rfl ?_
    refine V_geto (o := 0) (o2 := 2) hC ho rfl fk_X5_45 rfl dX5_seed_8 ?_
    refine V_geti (o := 2) hC (show (0, 2, 2) ∈ yI Y from hL.obj (j := 1) ho rfl) rfl fk_X5_304 dX5_seed_11 ?_
    refine V_topi (fun y2 ey2 => ?_)
    have hf := bd_e hf y2 ey2
    refine V_istore_n (lv' := [(2, .int y2), (0, .ref (yo Y 0)), (1, .int p1)]) hC dX5_seed_14 rfl (by decide) rfl ?_
    refine V_aload_n 1 hC dX5_seed_15 rfl rfl ?_
    refine V_geto (o := 0) (o2 := 2) hC ho rfl fk_X5_45 rfl dX5_seed_16 ?_
    refine V_iload_n 2 hC dX5_seed_19 rfl rfl ?_
    refine V_puti (o := 2) hC (show (0, 2, 2) ∈ yI Y from hL.obj (j := 1) ho rfl) rfl fk_X5_304 pl_X2 rfl rfl dX5_seed_20 (fun d3 ed3 => ?_)
    have hf := bd_e hf d3 ed3
    refine V_iload_n 0 hC dX5_seed_23 rfl rfl ?_
    obtain ⟨rfl, rfl⟩ := so_inj2 hf
    exact V_iret hC hr hQ hA dX5_seed_24
  · have hf := if_f hf c1
    refine V_ldc hC ck_X5_63 dX5_seed_4 ?_
    obtain ⟨rfl, rfl⟩ := so_inj2 hf
    exact V_iret hC hr hQ hA dX5_seed_6
def t_X5_nthOf_28 (L : Nat → Nat) (d : Dt) (p0 : Int32) (p1 : Int32) (k4 : Int32 → Int32 → Option (Int32)) (x2 : Int32) (x3 : Int32)  : Option (Int32) := k4 x2 (x3 + 1)
set_option maxRecDepth 20000 in
theorem b_X5_nthOf_28 {K : Kx} {Y : Yx} {z : Sh} {d : Dt} (hC : CK K Y cX5_nthOf 4 RX5 0 0) (hr : (kme K).sig.returnType = some .int) (hA : kA K = aY Y z) {p0 : Int32} {p1 : Int32}  {r : Int32} (hQ : kQ K = MQ (kb K) (QM Y z (some (.int r)) d) (ka K) (ks K) 0 0 (aY Y z)) {k4 : Int32 → Int32 → Option (Int32)} (hk4 : ∀ (x2 : Int32) (x3 : Int32) , k4 x2 x3  = some r → V K Y 4 0 0 z d 4 [(0, .int p0), (2, .int x2), (3, .int x3)] []) (x2 : Int32) (x3 : Int32)  (hf : t_X5_nthOf_28 z.1 d p0 p1 k4 x2 x3  = some r) : V K Y 4 0 0 z d 28 [(0, .int p0), (2, .int x2), (3, .int x3)] [] := by
  have hL := hC.2.2.2.2.2.2.1
  unfold t_X5_nthOf_28 at hf
  refine V_iinc (v := x3 + 1) (lv' := [(3, .int (x3 + 1)), (0, .int p0), (2, .int x2)]) 2 hC dX5_nthOf_28 rfl rfl (by decide) rfl ?_
  refine V_goto (tgt := 4) hC dX5_nthOf_31 (by decide) ?_
  exact V_sub [1, 2, 0] rfl (hk4 x2 (x3 + 1) hf)
def t_X5_nthOf_4 (L : Nat → Nat) (d : Dt) (p0 : Int32) (p1 : Int32) (k4 : Int32 → Int32 → Option (Int32)) (x2 : Int32) (x3 : Int32)  : Option (Int32) := if 6 ≤ x3 then some 0 else if ((p0 >>> (x3 &&& 31)) &&& 1) = 1 then if x2 = 0 then some x3 else t_X5_nthOf_28 L d p0 p1 k4 (x2 + (-1)) x3 else t_X5_nthOf_28 L d p0 p1 k4 x2 x3
set_option maxRecDepth 20000 in
theorem b_X5_nthOf_4 {K : Kx} {Y : Yx} {z : Sh} {d : Dt} (hC : CK K Y cX5_nthOf 4 RX5 0 0) (hr : (kme K).sig.returnType = some .int) (hA : kA K = aY Y z) {p0 : Int32} {p1 : Int32}  {r : Int32} (hQ : kQ K = MQ (kb K) (QM Y z (some (.int r)) d) (ka K) (ks K) 0 0 (aY Y z)) {k4 : Int32 → Int32 → Option (Int32)} (hk4 : ∀ (x2 : Int32) (x3 : Int32) , k4 x2 x3  = some r → V K Y 4 0 0 z d 4 [(0, .int p0), (2, .int x2), (3, .int x3)] []) (x2 : Int32) (x3 : Int32)  (hf : t_X5_nthOf_4 z.1 d p0 p1 k4 x2 x3  = some r) : V K Y 4 0 0 z d 4 [(0, .int p0), (2, .int x2), (3, .int x3)] [] := by
  have hL := hC.2.2.2.2.2.2.1
  unfold t_X5_nthOf_4 at hf
  refine V_iload_n 2 hC dX5_nthOf_4 rfl rfl ?_
  refine V_bipush (v := 6) hC dX5_nthOf_5 rfl ?_
  refine V_icmp_ge (tgt := 34) hC dX5_nthOf_7 (by decide) (fun c1 => ?_) (fun c1 => ?_)
  · have hf := if_t hf c1
    refine V_iconst (v := 0) hC dX5_nthOf_34 rfl ?_
    obtain rfl := so_inj hf
    exact V_iret hC hr hQ hA dX5_nthOf_35
  · have hf := if_f hf c1
    refine V_iload_n 0 hC dX5_nthOf_10 rfl rfl ?_
    refine V_iload_n 2 hC dX5_nthOf_11 rfl rfl ?_
    refine V_ishr hC dX5_nthOf_12 ?_
    refine V_iconst (v := 1) hC dX5_nthOf_13 rfl ?_
    refine V_iand hC dX5_nthOf_14 ?_
    refine V_iconst (v := 1) hC dX5_nthOf_15 rfl ?_
    refine V_icmp_ne (tgt := 28) hC dX5_nthOf_16 (by decide) (fun c2 => ?_) (fun c2 => ?_)
    · have hf := if_f hf c2
      exact b_X5_nthOf_28 hC hr hA  hQ hk4 x2 x3 hf
    · have hf := if_t hf c2
      refine V_iload_n 1 hC dX5_nthOf_19 rfl rfl ?_
      refine V_if_ne (tgt := 25) hC dX5_nthOf_20 (by decide) (fun c3 => ?_) (fun c3 => ?_)
      · have hf := if_f hf c3
        refine V_iinc (v := x2 + (-1)) (lv' := [(2, .int (x2 + (-1))), (0, .int p0), (3, .int x3)]) 1 hC dX5_nthOf_25 rfl rfl (by decide) rfl ?_
        exact V_sub [1, 0, 2] rfl (b_X5_nthOf_28 hC hr hA  hQ hk4 (x2 + (-1)) x3 hf)
      · have hf := if_t hf c3
        refine V_iload_n 2 hC dX5_nthOf_23 rfl rfl ?_
        obtain rfl := so_inj hf
        exact V_iret hC hr hQ hA dX5_nthOf_24
def t_X5_nthOf (L : Nat → Nat) (d : Dt) (p0 : Int32) (p1 : Int32) : Option (Int32) := lp (fun k x => t_X5_nthOf_4 L d p0 p1  (fun x2 x3 => k (x2, x3)) x.1 x.2) FU (p1, 0)
set_option maxRecDepth 20000 in
theorem c_X5_nthOf {l : Launch} {Y : Yx} (hL : LAY Y) {z : Sh} {d : Dt} {p0 : Int32} {p1 : Int32}  {r : Int32} (hf : t_X5_nthOf z.1 d p0 p1 = some r) : MM l yX5_nthOf cX5_nthOf 4 (some .int) 0 0 Y z [.int p0, .int p1] d (some (.int r)) d := by
  refine MM.ofV (by decide +kernel) hL (Nat.le_of_ble_eq_true rfl) (fun K hl hC hr hQ hA => ?_)
  have hC : CK K Y cX5_nthOf 4 RX5 0 0 := hC
  unfold t_X5_nthOf at hf
  show V K Y 4 0 0 z d 0 [(0, .int p0), (1, .int p1)] []
  refine V_iload_n 1 hC dX5_nthOf_0 rfl rfl ?_
  refine V_istore_n (lv' := [(2, .int p1), (0, .int p0), (1, .int p1)]) hC dX5_nthOf_1 rfl (by decide) rfl ?_
  refine V_iconst (v := 0) hC dX5_nthOf_2 rfl ?_
  refine V_istore_n (lv' := [(3, .int 0), (2, .int p1), (0, .int p0), (1, .int p1)]) hC dX5_nthOf_3 rfl (by decide) rfl ?_
  exact V_sub [2, 1, 0] rfl (lp_ind (X := Int32 × Int32) (P := fun x => V K Y 4 0 0 z d 4 [(0, .int p0), (2, .int x.1), (3, .int x.2)] []) (fun k x hk hx => b_X5_nthOf_4 hC hr hA  hQ  (k4 := fun x2 x3 => k (x2, x3)) (fun x2 x3 hx => hk (x2, x3) hx) x.1 x.2 hx) FU (p1, 0) hf)
def t_X5_blindWay (L : Nat → Nat) (d : Dt) (p1 : Int32) : Option (Int32 × Dt) := (t_X3_isOver L d p1).bind (fun v1 => if v1 = 0 then (t_X3_partOf L d p1).bind (fun v3 => (t_X0_isRoll L d 6 v3).bind (fun v4 => if v4 = 0 then (t_X0_openChoices L d 6 p1).bind (fun v6 => if v6 = 0 then some ((-1), d) else (t_J6_bitCount_0f7a4 L d v6).bind (fun v8 => (t_X2_draw L d 2 v8).bind (fun q9 => (t_X5_nthOf L q9.2 v6 q9.1).bind (fun v10 => (t_X0_wayOut L q9.2 6 p1 v10).bind (fun v11 => some (v11, q9.2)))))) else (t_X3_partOf L d p1).bind (fun v12 => (t_X2_draw L d 2 6).bind (fun q13 => (t_X0_rollTarget L q13.2 6 v12 (q13.1 + 1)).bind (fun v14 => some (v14, q13.2)))))) else some ((-1), d))
set_option maxRecDepth 20000 in
theorem c_X5_blindWay {l : Launch} {Y : Yx} (hL : LAY Y) {z : Sh} {d : Dt} {p1 : Int32} (ho : (0, 0, 4) ∈ yI Y) {r : Int32} {d' : Dt} (hf : t_X5_blindWay z.1 d p1 = some (r, d')) : MM l yX5_blindWay cX5_blindWay 4 (some .int) 4 93 Y z [.ref (yo Y 0), .int p1] d (some (.int r)) d' := by
  refine MM.ofV (by decide +kernel) hL (Nat.le_of_ble_eq_true rfl) (fun K hl hC hr hQ hA => ?_)
  have hC : CK K Y cX5_blindWay 4 RX5 4 93 := hC
  have hkn : 0 ≤ (kR K).cells ∧ 0 ≤ (kR K).slots := ⟨Nat.zero_le _, Nat.zero_le _⟩
  unfold t_X5_blindWay at hf
  show V K Y 4 0 0 z d 0 [(0, .ref (yo Y 0)), (1, .int p1)] []
  refine V_aload_n 0 hC dX5_blindWay_0 rfl rfl ?_
  refine V_geto (o := 0) (o2 := 2) hC ho rfl fk_X5_45 rfl dX5_blindWay_1 ?_
  refine V_geto (o := 2) (o2 := 6) hC (show (0, 2, 2) ∈ yI Y from hL.obj (j := 1) ho rfl) rfl fk_X5_83 rfl dX5_blindWay_4 ?_
  refine V_astore_n (lv' := [(2, .ref (yo Y 6)), (0, .ref (yo Y 0)), (1, .int p1)]) hC dX5_blindWay_7 rfl (by decide) rfl ?_
  refine V_iload_n 2 hC dX5_blindWay_8 rfl rfl ?_
  obtain ⟨v1, ev1, hf⟩ := bi_some hf
  refine V_insi (As := [.int p1]) (rest := []) hC (c_X3_isOver hL  ev1) me_X3_isOver lk_X5_194 rfl rfl (Nat.le_of_ble_eq_true rfl) ⟨by decide, by decide⟩ hkn dX5_blindWay_9 ?_
  refine V_if_eq (tgt := 17) hC dX5_blindWay_12 (by decide) (fun c2 => ?_) (fun c2 => ?_)
  · have hf := if_t hf c2
    refine V_aload_n 0 hC dX5_blindWay_17 rfl rfl ?_
    refine V_iload_n 2 hC dX5_blindWay_18 rfl rfl ?_
    obtain ⟨v3, ev3, hf⟩ := bi_some hf
    refine V_insi (As := [.int p1]) (rest := [.ref (yo Y 6)]) hC (c_X3_partOf hL  ev3) me_X3_partOf lk_X5_178 rfl rfl (Nat.le_of_ble_eq_true rfl) ⟨by decide, by decide⟩ hkn dX5_blindWay_19 ?_
    obtain ⟨v4, ev4, hf⟩ := bi_some hf
    refine V_invi (o := 6) (As := [.int v3]) (rest := []) hC (c_X0_isRoll hL (show (0, 6, 0) ∈ yI Y from hL.obj (j := 0) (show (0, 2, 2) ∈ yI Y from hL.obj (j := 1) ho rfl) rfl) ev4) me_X0_isRoll lk_X5_197 (show (0, 6, 0) ∈ yI Y from hL.obj (j := 0) (show (0, 2, 2) ∈ yI Y from hL.obj (j := 1) ho rfl) rfl) rfl rfl rfl (Nat.le_of_ble_eq_true rfl) ⟨by decide, by decide⟩ hkn dX5_blindWay_22 ?_
    refine V_if_eq (tgt := 48) hC dX5_blindWay_25 (by decide) (fun c5 => ?_) (fun c5 => ?_)
    · have hf := if_t hf c5
      refine V_aload_n 0 hC dX5_blindWay_48 rfl rfl ?_
      refine V_iload_n 2 hC dX5_blindWay_49 rfl rfl ?_
      obtain ⟨v6, ev6, hf⟩ := bi_some hf
      refine V_invi (o := 6) (As := [.int p1]) (rest := []) hC (c_X0_openChoices hL (show (0, 6, 0) ∈ yI Y from hL.obj (j := 0) (show (0, 2, 2) ∈ yI Y from hL.obj (j := 1) ho rfl) rfl) ev6) me_X0_openChoices lk_X5_215 (show (0, 6, 0) ∈ yI Y from hL.obj (j := 0) (show (0, 2, 2) ∈ yI Y from hL.obj (j := 1) ho rfl) rfl) rfl rfl rfl (Nat.le_of_ble_eq_true rfl) ⟨by decide, by decide⟩ hkn dX5_blindWay_50 ?_
      refine V_istore_n (lv' := [(3, .int v6), (2, .ref (yo Y 6)), (0, .ref (yo Y 0)), (1, .int p1)]) hC dX5_blindWay_53 rfl (by decide) rfl ?_
      refine V_iload_n 0 hC dX5_blindWay_54 rfl rfl ?_
      refine V_if_ne (tgt := 60) hC dX5_blindWay_55 (by decide) (fun c7 => ?_) (fun c7 => ?_)
      · have hf := if_f hf c7
        refine V_aload_n 1 hC dX5_blindWay_60 rfl rfl ?_
        refine V_iload_n 3 hC dX5_blindWay_61 rfl rfl ?_
        refine V_iload_n 0 hC dX5_blindWay_62 rfl rfl ?_
        refine V_aload_n 2 hC dX5_blindWay_63 rfl rfl ?_
        refine V_geto (o := 0) (o2 := 2) hC ho rfl fk_X5_45 rfl dX5_blindWay_64 ?_
        refine V_iload_n 0 hC dX5_blindWay_67 rfl rfl ?_
        obtain ⟨v8, ev8, hf⟩ := bi_some hf
        refine V_insi (As := [.int v6]) (rest := [.ref (yo Y 2), .int v6, .int p1, .ref (yo Y 6)]) hC (c_J6_bitCount_0f7a4 hL  ev8) me_J6_bitCount_0f7a4 lk_X5_331 rfl rfl (Nat.le_of_ble_eq_true rfl) ⟨by decide, by decide⟩ hkn dX5_blindWay_68 ?_
        obtain ⟨q9, eq9, hf⟩ := bi_some hf
        refine V_invi (o := 2) (As := [.int v8]) (rest := [.int v6, .int p1, .ref (yo Y 6)]) hC (c_X2_draw hL (show (0, 2, 2) ∈ yI Y from hL.obj (j := 1) ho rfl) eq9) me_X2_draw lk_X5_200 (show (0, 2, 2) ∈ yI Y from hL.obj (j := 1) ho rfl) rfl rfl rfl (Nat.le_of_ble_eq_true rfl) ⟨by decide, by decide⟩ hkn dX5_blindWay_71 ?_
        obtain ⟨v10, ev10, hf⟩ := bi_some hf
        refine V_insi (As := [.int v6, .int q9.1]) (rest := [.int p1, .ref (yo Y 6)]) hC (c_X5_nthOf hL  ev10) me_X5_nthOf lk_X5_336 rfl rfl (Nat.le_of_ble_eq_true rfl) ⟨by decide, by decide⟩ hkn dX5_blindWay_74 ?_
        obtain ⟨v11, ev11, hf⟩ := bi_some hf
        refine V_invi (o := 6) (As := [.int p1, .int v10]) (rest := []) hC (c_X0_wayOut hL (show (0, 6, 0) ∈ yI Y from hL.obj (j := 0) (show (0, 2, 2) ∈ yI Y from hL.obj (j := 1) ho rfl) rfl) ev11) me_X0_wayOut lk_X5_186 (show (0, 6, 0) ∈ yI Y from hL.obj (j := 0) (show (0, 2, 2) ∈ yI Y from hL.obj (j := 1) ho rfl) rfl) rfl rfl rfl (Nat.le_of_ble_eq_true rfl) ⟨by decide, by decide⟩ hkn dX5_blindWay_77 ?_
        obtain ⟨rfl, rfl⟩ := so_inj2 hf
        exact V_iret hC hr hQ hA dX5_blindWay_80
      · have hf := if_t hf c7
        refine V_iconst (v := -1) hC dX5_blindWay_58 rfl ?_
        obtain ⟨rfl, rfl⟩ := so_inj2 hf
        exact V_iret hC hr hQ hA dX5_blindWay_59
    · have hf := if_f hf c5
      refine V_aload_n 0 hC dX5_blindWay_28 rfl rfl ?_
      refine V_iload_n 2 hC dX5_blindWay_29 rfl rfl ?_
      obtain ⟨v12, ev12, hf⟩ := bi_some hf
      refine V_insi (As := [.int p1]) (rest := [.ref (yo Y 6)]) hC (c_X3_partOf hL  ev12) me_X3_partOf lk_X5_178 rfl rfl (Nat.le_of_ble_eq_true rfl) ⟨by decide, by decide⟩ hkn dX5_blindWay_30 ?_
      refine V_aload_n 1 hC dX5_blindWay_33 rfl rfl ?_
      refine V_geto (o := 0) (o2 := 2) hC ho rfl fk_X5_45 rfl dX5_blindWay_34 ?_
      refine V_bipush (v := 6) hC dX5_blindWay_37 rfl ?_
      obtain ⟨q13, eq13, hf⟩ := bi_some hf
      refine V_invi (o := 2) (As := [.int 6]) (rest := [.int v12, .ref (yo Y 6)]) hC (c_X2_draw hL (show (0, 2, 2) ∈ yI Y from hL.obj (j := 1) ho rfl) eq13) me_X2_draw lk_X5_200 (show (0, 2, 2) ∈ yI Y from hL.obj (j := 1) ho rfl) rfl rfl rfl (Nat.le_of_ble_eq_true rfl) ⟨by decide, by decide⟩ hkn dX5_blindWay_39 ?_
      refine V_iconst (v := 1) hC dX5_blindWay_42 rfl ?_
      refine V_iadd hC dX5_blindWay_43 ?_
      obtain ⟨v14, ev14, hf⟩ := bi_some hf
      refine V_invi (o := 6) (As := [.int v12, .int (q13.1 + 1)]) (rest := []) hC (c_X0_rollTarget hL (show (0, 6, 0) ∈ yI Y from hL.obj (j := 0) (show (0, 2, 2) ∈ yI Y from hL.obj (j := 1) ho rfl) rfl) ev14) me_X0_rollTarget lk_X5_203 (show (0, 6, 0) ∈ yI Y from hL.obj (j := 0) (show (0, 2, 2) ∈ yI Y from hL.obj (j := 1) ho rfl) rfl) rfl rfl rfl (Nat.le_of_ble_eq_true rfl) ⟨by decide, by decide⟩ hkn dX5_blindWay_44 ?_
      obtain ⟨rfl, rfl⟩ := so_inj2 hf
      exact V_iret hC hr hQ hA dX5_blindWay_47
  · have hf := if_f hf c2
    refine V_iconst (v := -1) hC dX5_blindWay_15 rfl ?_
    obtain ⟨rfl, rfl⟩ := so_inj2 hf
    exact V_iret hC hr hQ hA dX5_blindWay_16
def t_X5_blindEnd_14 (L : Nat → Nat) (k14 : Int32 → Int32 → (Dt) → Option (Int32 × Dt)) (x1 : Int32) (x2 : Int32) (d : Dt) : Option (Int32 × Dt) := if 60 ≤ x2 then some (x1, d) else (t_X5_blindWay L d x1).bind (fun q3 => if q3.1 = (-1) then some (x1, q3.2) else (t_X0_goOn L q3.2 6 x1 q3.1 (-1)).bind (fun v5 => k14 v5 (x2 + 1) q3.2))
set_option maxRecDepth 20000 in
theorem b_X5_blindEnd_14 {K : Kx} {Y : Yx} {z : Sh}  (hC : CK K Y cX5_blindEnd 4 RX5 5 116) (hr : (kme K).sig.returnType = some .int) (hA : kA K = aY Y z)  (ho : (0, 0, 4) ∈ yI Y) {r : Int32} {d' : Dt} (hQ : kQ K = MQ (kb K) (QM Y z (some (.int r)) d') (ka K) (ks K) 0 0 (aY Y z)) {k14 : Int32 → Int32 → (Dt) → Option (Int32 × Dt)} (hk14 : ∀ (x1 : Int32) (x2 : Int32) (d : Dt), k14 x1 x2 d = some (r, d') → V K Y 4 0 0 z d 14 [(0, .ref (yo Y 0)), (1, .int x1), (2, .int x2)] []) (x1 : Int32) (x2 : Int32) (d : Dt) (hf : t_X5_blindEnd_14 z.1 k14 x1 x2 d = some (r, d')) : V K Y 4 0 0 z d 14 [(0, .ref (yo Y 0)), (1, .int x1), (2, .int x2)] [] := by
  have hL := hC.2.2.2.2.2.2.1
  have hkn : 0 ≤ (kR K).cells ∧ 0 ≤ (kR K).slots := ⟨Nat.zero_le _, Nat.zero_le _⟩
  unfold t_X5_blindEnd_14 at hf
  refine V_iload_n 2 hC dX5_blindEnd_14 rfl rfl ?_
  refine V_bipush (v := 60) hC dX5_blindEnd_15 rfl ?_
  refine V_icmp_ge (tgt := 53) hC dX5_blindEnd_17 (by decide) (fun c2 => ?_) (fun c2 => ?_)
  · have hf := if_t hf c2
    refine V_iload_n 1 hC dX5_blindEnd_53 rfl rfl ?_
    obtain ⟨rfl, rfl⟩ := so_inj2 hf
    exact V_iret hC hr hQ hA dX5_blindEnd_54
  · have hf := if_f hf c2
    refine V_aload_n 0 hC dX5_blindEnd_20 rfl rfl ?_
    refine V_iload_n 1 hC dX5_blindEnd_21 rfl rfl ?_
    obtain ⟨q3, eq3, hf⟩ := bi_some hf
    refine V_invi (o := 0) (As := [.int x1]) (rest := []) hC (c_X5_blindWay hL ho eq3) me_X5_blindWay lk_X5_328 ho rfl rfl rfl (Nat.le_of_ble_eq_true rfl) ⟨by decide, by decide⟩ hkn dX5_blindEnd_22 ?_
    refine V_istore_n (lv' := [(3, .int q3.1), (0, .ref (yo Y 0)), (1, .int x1), (2, .int x2)]) hC dX5_blindEnd_25 rfl (by decide) rfl ?_
    refine V_iload_n 0 hC dX5_blindEnd_26 rfl rfl ?_
    refine V_iconst (v := -1) hC dX5_blindEnd_27 rfl ?_
    refine V_icmp_ne (tgt := 33) hC dX5_blindEnd_28 (by decide) (fun c4 => ?_) (fun c4 => ?_)
    · have hf := if_f hf c4
      refine V_aload_n 1 hC dX5_blindEnd_33 rfl rfl ?_
      refine V_geto (o := 0) (o2 := 2) hC ho rfl fk_X5_45 rfl dX5_blindEnd_34 ?_
      refine V_geto (o := 2) (o2 := 6) hC (show (0, 2, 2) ∈ yI Y from hL.obj (j := 1) ho rfl) rfl fk_X5_83 rfl dX5_blindEnd_37 ?_
      refine V_iload_n 2 hC dX5_blindEnd_40 rfl rfl ?_
      refine V_iload_n 0 hC dX5_blindEnd_41 rfl rfl ?_
      refine V_iconst (v := -1) hC dX5_blindEnd_42 rfl ?_
      obtain ⟨v5, ev5, hf⟩ := bi_some hf
      refine V_invi (o := 6) (As := [.int x1, .int q3.1, .int (-1)]) (rest := []) hC (c_X0_goOn hL (show (0, 6, 0) ∈ yI Y from hL.obj (j := 0) (show (0, 2, 2) ∈ yI Y from hL.obj (j := 1) ho rfl) rfl) ev5) me_X0_goOn lk_X5_272 (show (0, 6, 0) ∈ yI Y from hL.obj (j := 0) (show (0, 2, 2) ∈ yI Y from hL.obj (j := 1) ho rfl) rfl) rfl rfl rfl (Nat.le_of_ble_eq_true rfl) ⟨by decide, by decide⟩ hkn dX5_blindEnd_43 ?_
      refine V_istore_n (lv' := [(1, .int v5), (3, .int q3.1), (0, .ref (yo Y 0)), (2, .int x2)]) hC dX5_blindEnd_46 rfl (by decide) rfl ?_
      refine V_iinc (v := x2 + 1) (lv' := [(2, .int (x2 + 1)), (1, .int v5), (3, .int q3.1), (0, .ref (yo Y 0))]) 3 hC dX5_blindEnd_47 rfl rfl (by decide) rfl ?_
      refine V_goto (tgt := 14) hC dX5_blindEnd_50 (by decide) ?_
      exact V_sub [3, 1, 0] rfl (hk14 v5 (x2 + 1) q3.2 hf)
    · have hf := if_t hf c4
      refine V_iload_n 2 hC dX5_blindEnd_31 rfl rfl ?_
      obtain ⟨rfl, rfl⟩ := so_inj2 hf
      exact V_iret hC hr hQ hA dX5_blindEnd_32
def t_X5_blindEnd (L : Nat → Nat) (d : Dt)  : Option (Int32 × Dt) := (t_X0_beginning L d 6 (-1)).bind (fun v1 => lp (fun k x => t_X5_blindEnd_14 L  (fun x1 x2 d => k (x1, x2, d)) x.1 x.2.1 x.2.2) FU (v1, 0, d))
set_option maxRecDepth 20000 in
theorem c_X5_blindEnd {l : Launch} {Y : Yx} (hL : LAY Y) {z : Sh} {d : Dt}  (ho : (0, 0, 4) ∈ yI Y) {r : Int32} {d' : Dt} (hf : t_X5_blindEnd z.1 d  = some (r, d')) : MM l yX5_blindEnd cX5_blindEnd 4 (some .int) 5 116 Y z [.ref (yo Y 0)] d (some (.int r)) d' := by
  refine MM.ofV (by decide +kernel) hL (Nat.le_of_ble_eq_true rfl) (fun K hl hC hr hQ hA => ?_)
  have hC : CK K Y cX5_blindEnd 4 RX5 5 116 := hC
  have hkn : 0 ≤ (kR K).cells ∧ 0 ≤ (kR K).slots := ⟨Nat.zero_le _, Nat.zero_le _⟩
  unfold t_X5_blindEnd at hf
  show V K Y 4 0 0 z d 0 [(0, .ref (yo Y 0))] []
  refine V_aload_n 0 hC dX5_blindEnd_0 rfl rfl ?_
  refine V_geto (o := 0) (o2 := 2) hC ho rfl fk_X5_45 rfl dX5_blindEnd_1 ?_
  refine V_geto (o := 2) (o2 := 6) hC (show (0, 2, 2) ∈ yI Y from hL.obj (j := 1) ho rfl) rfl fk_X5_83 rfl dX5_blindEnd_4 ?_
  refine V_iconst (v := -1) hC dX5_blindEnd_7 rfl ?_
  obtain ⟨v1, ev1, hf⟩ := bi_some hf
  refine V_invi (o := 6) (As := [.int (-1)]) (rest := []) hC (c_X0_beginning hL (show (0, 6, 0) ∈ yI Y from hL.obj (j := 0) (show (0, 2, 2) ∈ yI Y from hL.obj (j := 1) ho rfl) rfl) ev1) me_X0_beginning lk_X5_263 (show (0, 6, 0) ∈ yI Y from hL.obj (j := 0) (show (0, 2, 2) ∈ yI Y from hL.obj (j := 1) ho rfl) rfl) rfl rfl rfl (Nat.le_of_ble_eq_true rfl) ⟨by decide, by decide⟩ hkn dX5_blindEnd_8 ?_
  refine V_istore_n (lv' := [(1, .int v1), (0, .ref (yo Y 0))]) hC dX5_blindEnd_11 rfl (by decide) rfl ?_
  refine V_iconst (v := 0) hC dX5_blindEnd_12 rfl ?_
  refine V_istore_n (lv' := [(2, .int 0), (1, .int v1), (0, .ref (yo Y 0))]) hC dX5_blindEnd_13 rfl (by decide) rfl ?_
  exact V_sub [2, 1, 0] rfl (lp_ind (X := Int32 × Int32 × Dt) (P := fun x => V K Y 4 0 0 z x.2.2 14 [(0, .ref (yo Y 0)), (1, .int x.1), (2, .int x.2.1)] []) (fun k x hk hx => b_X5_blindEnd_14 hC hr hA ho hQ  (k14 := fun x1 x2 d => k (x1, x2, d)) (fun x1 x2 d hx => hk (x1, x2, d) hx) x.1 x.2.1 x.2.2 hx) FU (v1, 0, d) hf)
def t_X5_blind_53 (L : Nat → Nat) (p1 : Int32) (k34 : Int32 → Int32 → (Dt) → Option (Int32 × Dt)) (x2 : Int32) (x3 : Int32) (d : Dt) : Option (Int32 × Dt) := k34 x2 (x3 + 1) d
set_option maxRecDepth 20000 in
theorem b_X5_blind_53 {K : Kx} {Y : Yx} {z : Sh}  (hC : CK K Y cX5_blind 4 RX5 6 139) (hr : (kme K).sig.returnType = some .int) (hA : kA K = aY Y z) {p1 : Int32} (ho : (0, 0, 4) ∈ yI Y) {r : Int32} {d' : Dt} (hQ : kQ K = MQ (kb K) (QM Y z (some (.int r)) d') (ka K) (ks K) 0 0 (aY Y z)) {k34 : Int32 → Int32 → (Dt) → Option (Int32 × Dt)} (hk34 : ∀ (x2 : Int32) (x3 : Int32) (d : Dt), k34 x2 x3 d = some (r, d') → V K Y 4 0 0 z d 34 [(0, .ref (yo Y 0)), (1, .int p1), (2, .int x2), (3, .int x3)] []) (x2 : Int32) (x3 : Int32) (d : Dt) (hf : t_X5_blind_53 z.1 p1 k34 x2 x3 d = some (r, d')) : V K Y 4 0 0 z d 53 [(0, .ref (yo Y 0)), (1, .int p1), (2, .int x2), (3, .int x3)] [] := by
  have hL := hC.2.2.2.2.2.2.1
  unfold t_X5_blind_53 at hf
  refine V_iinc (v := x3 + 1) (lv' := [(3, .int (x3 + 1)), (0, .ref (yo Y 0)), (1, .int p1), (2, .int x2)]) 3 hC dX5_blind_53 rfl rfl (by decide) rfl ?_
  refine V_goto (tgt := 34) hC dX5_blind_56 (by decide) ?_
  exact V_sub [1, 2, 3, 0] rfl (hk34 x2 (x3 + 1) d hf)
def t_X5_blind_34 (L : Nat → Nat) (p1 : Int32) (k34 : Int32 → Int32 → (Dt) → Option (Int32 × Dt)) (x2 : Int32) (x3 : Int32) (d : Dt) : Option (Int32 × Dt) := if p1 ≤ x3 then some (x2, d) else (t_X5_blindEnd L d ).bind (fun q5 => (t_X3_fateOf L q5.2 q5.1).bind (fun v6 => if v6 = 1 then t_X5_blind_53 L p1 k34 (x2 + 1) x3 q5.2 else t_X5_blind_53 L p1 k34 x2 x3 q5.2))
set_option maxRecDepth 20000 in
theorem b_X5_blind_34 {K : Kx} {Y : Yx} {z : Sh}  (hC : CK K Y cX5_blind 4 RX5 6 139) (hr : (kme K).sig.returnType = some .int) (hA : kA K = aY Y z) {p1 : Int32} (ho : (0, 0, 4) ∈ yI Y) {r : Int32} {d' : Dt} (hQ : kQ K = MQ (kb K) (QM Y z (some (.int r)) d') (ka K) (ks K) 0 0 (aY Y z)) {k34 : Int32 → Int32 → (Dt) → Option (Int32 × Dt)} (hk34 : ∀ (x2 : Int32) (x3 : Int32) (d : Dt), k34 x2 x3 d = some (r, d') → V K Y 4 0 0 z d 34 [(0, .ref (yo Y 0)), (1, .int p1), (2, .int x2), (3, .int x3)] []) (x2 : Int32) (x3 : Int32) (d : Dt) (hf : t_X5_blind_34 z.1 p1 k34 x2 x3 d = some (r, d')) : V K Y 4 0 0 z d 34 [(0, .ref (yo Y 0)), (1, .int p1), (2, .int x2), (3, .int x3)] [] := by
  have hL := hC.2.2.2.2.2.2.1
  have hkn : 0 ≤ (kR K).cells ∧ 0 ≤ (kR K).slots := ⟨Nat.zero_le _, Nat.zero_le _⟩
  unfold t_X5_blind_34 at hf
  refine V_iload_n 3 hC dX5_blind_34 rfl rfl ?_
  refine V_iload_n 1 hC dX5_blind_35 rfl rfl ?_
  refine V_icmp_ge (tgt := 59) hC dX5_blind_36 (by decide) (fun c4 => ?_) (fun c4 => ?_)
  · have hf := if_t hf c4
    refine V_iload_n 2 hC dX5_blind_59 rfl rfl ?_
    obtain ⟨rfl, rfl⟩ := so_inj2 hf
    exact V_iret hC hr hQ hA dX5_blind_60
  · have hf := if_f hf c4
    refine V_aload_n 0 hC dX5_blind_39 rfl rfl ?_
    obtain ⟨q5, eq5, hf⟩ := bi_some hf
    refine V_invi (o := 0) (As := []) (rest := []) hC (c_X5_blindEnd hL ho eq5) me_X5_blindEnd lk_X5_307 ho rfl rfl rfl (Nat.le_of_ble_eq_true rfl) ⟨by decide, by decide⟩ hkn dX5_blind_40 ?_
    obtain ⟨v6, ev6, hf⟩ := bi_some hf
    refine V_insi (As := [.int q5.1]) (rest := []) hC (c_X3_fateOf hL  ev6) me_X3_fateOf lk_X5_310 rfl rfl (Nat.le_of_ble_eq_true rfl) ⟨by decide, by decide⟩ hkn dX5_blind_43 ?_
    refine V_iconst (v := 1) hC dX5_blind_46 rfl ?_
    refine V_icmp_ne (tgt := 53) hC dX5_blind_47 (by decide) (fun c7 => ?_) (fun c7 => ?_)
    · have hf := if_f hf c7
      exact b_X5_blind_53 hC hr hA ho hQ hk34 x2 x3 q5.2 hf
    · have hf := if_t hf c7
      refine V_iinc (v := x2 + 1) (lv' := [(2, .int (x2 + 1)), (0, .ref (yo Y 0)), (1, .int p1), (3, .int x3)]) 2 hC dX5_blind_50 rfl rfl (by decide) rfl ?_
      exact V_sub [1, 2, 0, 3] rfl (b_X5_blind_53 hC hr hA ho hQ hk34 (x2 + 1) x3 q5.2 hf)
def t_X5_blind (L : Nat → Nat) (d : Dt) (p1 : Int32) : Option (Int32 × Dt) := if p1 < 1 then some ((-1000002), d) else if p1 ≤ 99 then if (gF d 6 0) = 0 then some ((-1000003), d) else lp (fun k x => t_X5_blind_34 L p1  (fun x2 x3 d => k (x2, x3, d)) x.1 x.2.1 x.2.2) FU (0, 0, d) else some ((-1000002), d)
set_option maxRecDepth 20000 in
theorem c_X5_blind {l : Launch} {Y : Yx} (hL : LAY Y) {z : Sh} {d : Dt} {p1 : Int32} (ho : (0, 0, 4) ∈ yI Y) {r : Int32} {d' : Dt} (hf : t_X5_blind z.1 d p1 = some (r, d')) : MM l yX5_blind cX5_blind 4 (some .int) 6 139 Y z [.ref (yo Y 0), .int p1] d (some (.int r)) d' := by
  refine MM.ofV (by decide +kernel) hL (Nat.le_of_ble_eq_true rfl) (fun K hl hC hr hQ hA => ?_)
  have hC : CK K Y cX5_blind 4 RX5 6 139 := hC
  unfold t_X5_blind at hf
  show V K Y 4 0 0 z d 0 [(0, .ref (yo Y 0)), (1, .int p1)] []
  refine V_iload_n 1 hC dX5_blind_0 rfl rfl ?_
  refine V_iconst (v := 1) hC dX5_blind_1 rfl ?_
  refine V_icmp_lt (tgt := 11) hC dX5_blind_2 (by decide) (fun c1 => ?_) (fun c1 => ?_)
  · have hf := if_t hf c1
    refine V_ldc hC ck_X5_63 dX5_blind_11 ?_
    obtain ⟨rfl, rfl⟩ := so_inj2 hf
    exact V_iret hC hr hQ hA dX5_blind_13
  · have hf := if_f hf c1
    refine V_iload_n 1 hC dX5_blind_5 rfl rfl ?_
    refine V_bipush (v := 99) hC dX5_blind_6 rfl ?_
    refine V_icmp_le (tgt := 14) hC dX5_blind_8 (by decide) (fun c2 => ?_) (fun c2 => ?_)
    · have hf := if_t hf c2
      refine V_aload_n 0 hC dX5_blind_14 rfl rfl ?_
      refine V_geto (o := 0) (o2 := 2) hC ho rfl fk_X5_45 rfl dX5_blind_15 ?_
      refine V_geto (o := 2) (o2 := 6) hC (show (0, 2, 2) ∈ yI Y from hL.obj (j := 1) ho rfl) rfl fk_X5_83 rfl dX5_blind_18 ?_
      refine V_geti (o := 6) hC (show (0, 6, 0) ∈ yI Y from hL.obj (j := 0) (show (0, 2, 2) ∈ yI Y from hL.obj (j := 1) ho rfl) rfl) rfl fk_X5_86 dX5_blind_21 ?_
      refine V_if_ne (tgt := 30) hC dX5_blind_24 (by decide) (fun c3 => ?_) (fun c3 => ?_)
      · have hf := if_f hf c3
        refine V_iconst (v := 0) hC dX5_blind_30 rfl ?_
        refine V_istore_n (lv' := [(2, .int 0), (0, .ref (yo Y 0)), (1, .int p1)]) hC dX5_blind_31 rfl (by decide) rfl ?_
        refine V_iconst (v := 0) hC dX5_blind_32 rfl ?_
        refine V_istore_n (lv' := [(3, .int 0), (2, .int 0), (0, .ref (yo Y 0)), (1, .int p1)]) hC dX5_blind_33 rfl (by decide) rfl ?_
        exact V_sub [2, 3, 1, 0] rfl (lp_ind (X := Int32 × Int32 × Dt) (P := fun x => V K Y 4 0 0 z x.2.2 34 [(0, .ref (yo Y 0)), (1, .int p1), (2, .int x.1), (3, .int x.2.1)] []) (fun k x hk hx => b_X5_blind_34 hC hr hA ho hQ  (k34 := fun x2 x3 d => k (x2, x3, d)) (fun x2 x3 d hx => hk (x2, x3, d) hx) x.1 x.2.1 x.2.2 hx) FU (0, 0, d) hf)
      · have hf := if_t hf c3
        refine V_ldc hC ck_X5_144 dX5_blind_27 ?_
        obtain ⟨rfl, rfl⟩ := so_inj2 hf
        exact V_iret hC hr hQ hA dX5_blind_29
    · have hf := if_f hf c2
      refine V_ldc hC ck_X5_63 dX5_blind_11 ?_
      obtain ⟨rfl, rfl⟩ := so_inj2 hf
      exact V_iret hC hr hQ hA dX5_blind_13
def t_X5_keep (L : Nat → Nat) (d : Dt) (p1 : Int32) : Option (Int32 × Dt) := if p1 < 0 then some ((-1000001), d) else if p1 < 2 then gd (inb p1 2) ((t_X2_copyFrom L d (3 + ix p1) 2).bind (fun d4 => gd (inb p1 2) (bd (sF d4 (3 + ix p1) 6 1) (fun d6 => some (1, d6))))) else some ((-1000001), d)
set_option maxRecDepth 20000 in
theorem c_X5_keep {l : Launch} {Y : Yx} (hL : LAY Y) {z : Sh} {d : Dt} {p1 : Int32} (ho : (0, 0, 4) ∈ yI Y) {r : Int32} {d' : Dt} (hf : t_X5_keep z.1 d p1 = some (r, d')) : MM l yX5_keep cX5_keep 2 (some .int) 3 102 Y z [.ref (yo Y 0), .int p1] d (some (.int r)) d' := by
  refine MM.ofV (by decide +kernel) hL (Nat.le_of_ble_eq_true rfl) (fun K hl hC hr hQ hA => ?_)
  have hC : CK K Y cX5_keep 2 RX5 3 102 := hC
  have hkn : 0 ≤ (kR K).cells ∧ 0 ≤ (kR K).slots := ⟨Nat.zero_le _, Nat.zero_le _⟩
  unfold t_X5_keep at hf
  show V K Y 2 0 0 z d 0 [(0, .ref (yo Y 0)), (1, .int p1)] []
  refine V_iload_n 1 hC dX5_keep_0 rfl rfl ?_
  refine V_if_lt (tgt := 9) hC dX5_keep_1 (by decide) (fun c1 => ?_) (fun c1 => ?_)
  · have hf := if_t hf c1
    refine V_ldc hC ck_X5_96 dX5_keep_9 ?_
    obtain ⟨rfl, rfl⟩ := so_inj2 hf
    exact V_iret hC hr hQ hA dX5_keep_11
  · have hf := if_f hf c1
    refine V_iload_n 1 hC dX5_keep_4 rfl rfl ?_
    refine V_iconst (v := 2) hC dX5_keep_5 rfl ?_
    refine V_icmp_lt (tgt := 12) hC dX5_keep_6 (by decide) (fun c2 => ?_) (fun c2 => ?_)
    · have hf := if_t hf c2
      refine V_aload_n 0 hC dX5_keep_12 rfl rfl ?_
      refine V_getm (o := 0) hC ho rfl fk_X5_59 dX5_keep_13 ?_
      refine V_iload_n 1 hC dX5_keep_16 rfl rfl ?_
      obtain ⟨g3, hf⟩ := gd_some hf
      refine V_aald hC (hL.ims (j := 2) ho rfl) g3 dX5_keep_17 ?_
      refine V_aload_n 0 hC dX5_keep_18 rfl rfl ?_
      refine V_geto (o := 0) (o2 := 2) hC ho rfl fk_X5_45 rfl dX5_keep_19 ?_
      obtain ⟨d4, ed4, hf⟩ := bi_some hf
      refine V_invv (o := (3 + ix p1)) (As := [.ref (yo Y 2)]) (rest := []) hC (c_X2_copyFrom hL (hL.im (hL.ims (j := 2) ho rfl) g3) (show (0, 2, 2) ∈ yI Y from hL.obj (j := 1) ho rfl) ed4) me_X2_copyFrom lk_X5_313 (hL.im (hL.ims (j := 2) ho rfl) g3) rfl rfl rfl (Nat.le_of_ble_eq_true rfl) ⟨by decide, by decide⟩ hkn dX5_keep_22 ?_
      refine V_aload_n 0 hC dX5_keep_25 rfl rfl ?_
      refine V_getm (o := 0) hC ho rfl fk_X5_59 dX5_keep_26 ?_
      refine V_iload_n 1 hC dX5_keep_29 rfl rfl ?_
      obtain ⟨g5, hf⟩ := gd_some hf
      refine V_aald hC (hL.ims (j := 2) ho rfl) g5 dX5_keep_30 ?_
      refine V_iconst (v := 1) hC dX5_keep_31 rfl ?_
      refine V_putz (o := (3 + ix p1)) hC (hL.im (hL.ims (j := 2) ho rfl) g5) rfl fk_X5_317 pl_X2 rfl rfl rfl dX5_keep_32 (fun d6 ed6 => ?_)
      have hf := bd_e hf d6 ed6
      refine V_iconst (v := 1) hC dX5_keep_35 rfl ?_
      obtain ⟨rfl, rfl⟩ := so_inj2 hf
      exact V_iret hC hr hQ hA dX5_keep_36
    · have hf := if_f hf c2
      refine V_ldc hC ck_X5_96 dX5_keep_9 ?_
      obtain ⟨rfl, rfl⟩ := so_inj2 hf
      exact V_iret hC hr hQ hA dX5_keep_11
def t_X5_goBack (L : Nat → Nat) (d : Dt) (p1 : Int32) : Option (Int32 × Dt) := if p1 < 0 then some ((-1000001), d) else if p1 < 2 then gd (inb p1 2) (if (gF d (3 + ix p1) 6) = 0 then some ((-1000003), d) else gd (inb p1 2) ((t_X2_copyFrom L d 2 (3 + ix p1)).bind (fun d6 => bd (sF d6 0 7 0) (fun d7 => some (1, d7))))) else some ((-1000001), d)
set_option maxRecDepth 20000 in
theorem c_X5_goBack {l : Launch} {Y : Yx} (hL : LAY Y) {z : Sh} {d : Dt} {p1 : Int32} (ho : (0, 0, 4) ∈ yI Y) {r : Int32} {d' : Dt} (hf : t_X5_goBack z.1 d p1 = some (r, d')) : MM l yX5_goBack cX5_goBack 2 (some .int) 3 102 Y z [.ref (yo Y 0), .int p1] d (some (.int r)) d' := by
  refine MM.ofV (by decide +kernel) hL (Nat.le_of_ble_eq_true rfl) (fun K hl hC hr hQ hA => ?_)
  have hC : CK K Y cX5_goBack 2 RX5 3 102 := hC
  have hkn : 0 ≤ (kR K).cells ∧ 0 ≤ (kR K).slots := ⟨Nat.zero_le _, Nat.zero_le _⟩
  unfold t_X5_goBack at hf
  show V K Y 2 0 0 z d 0 [(0, .ref (yo Y 0)), (1, .int p1)] []
  refine V_iload_n 1 hC dX5_goBack_0 rfl rfl ?_
  refine V_if_lt (tgt := 9) hC dX5_goBack_1 (by decide) (fun c1 => ?_) (fun c1 => ?_)
  · have hf := if_t hf c1
    refine V_ldc hC ck_X5_96 dX5_goBack_9 ?_
    obtain ⟨rfl, rfl⟩ := so_inj2 hf
    exact V_iret hC hr hQ hA dX5_goBack_11
  · have hf := if_f hf c1
    refine V_iload_n 1 hC dX5_goBack_4 rfl rfl ?_
    refine V_iconst (v := 2) hC dX5_goBack_5 rfl ?_
    refine V_icmp_lt (tgt := 12) hC dX5_goBack_6 (by decide) (fun c2 => ?_) (fun c2 => ?_)
    · have hf := if_t hf c2
      refine V_aload_n 0 hC dX5_goBack_12 rfl rfl ?_
      refine V_getm (o := 0) hC ho rfl fk_X5_59 dX5_goBack_13 ?_
      refine V_iload_n 1 hC dX5_goBack_16 rfl rfl ?_
      obtain ⟨g3, hf⟩ := gd_some hf
      refine V_aald hC (hL.ims (j := 2) ho rfl) g3 dX5_goBack_17 ?_
      refine V_geti (o := (3 + ix p1)) hC (hL.im (hL.ims (j := 2) ho rfl) g3) rfl fk_X5_317 dX5_goBack_18 ?_
      refine V_if_ne (tgt := 27) hC dX5_goBack_21 (by decide) (fun c4 => ?_) (fun c4 => ?_)
      · have hf := if_f hf c4
        refine V_aload_n 0 hC dX5_goBack_27 rfl rfl ?_
        refine V_geto (o := 0) (o2 := 2) hC ho rfl fk_X5_45 rfl dX5_goBack_28 ?_
        refine V_aload_n 0 hC dX5_goBack_31 rfl rfl ?_
        refine V_getm (o := 0) hC ho rfl fk_X5_59 dX5_goBack_32 ?_
        refine V_iload_n 1 hC dX5_goBack_35 rfl rfl ?_
        obtain ⟨g5, hf⟩ := gd_some hf
        refine V_aald hC (hL.ims (j := 2) ho rfl) g5 dX5_goBack_36 ?_
        obtain ⟨d6, ed6, hf⟩ := bi_some hf
        refine V_invv (o := 2) (As := [.ref (yo Y (3 + ix p1))]) (rest := []) hC (c_X2_copyFrom hL (show (0, 2, 2) ∈ yI Y from hL.obj (j := 1) ho rfl) (hL.im (hL.ims (j := 2) ho rfl) g5) ed6) me_X2_copyFrom lk_X5_313 (show (0, 2, 2) ∈ yI Y from hL.obj (j := 1) ho rfl) rfl rfl rfl (Nat.le_of_ble_eq_true rfl) ⟨by decide, by decide⟩ hkn dX5_goBack_37 ?_
        refine V_aload_n 0 hC dX5_goBack_40 rfl rfl ?_
        refine V_iconst (v := 0) hC dX5_goBack_41 rfl ?_
        refine V_putz (o := 0) hC ho rfl fk_X5_24 pl_X5 rfl rfl rfl dX5_goBack_42 (fun d7 ed7 => ?_)
        have hf := bd_e hf d7 ed7
        refine V_iconst (v := 1) hC dX5_goBack_45 rfl ?_
        obtain ⟨rfl, rfl⟩ := so_inj2 hf
        exact V_iret hC hr hQ hA dX5_goBack_46
      · have hf := if_t hf c4
        refine V_ldc hC ck_X5_144 dX5_goBack_24 ?_
        obtain ⟨rfl, rfl⟩ := so_inj2 hf
        exact V_iret hC hr hQ hA dX5_goBack_26
    · have hf := if_f hf c2
      refine V_ldc hC ck_X5_96 dX5_goBack_9 ?_
      obtain ⟨rfl, rfl⟩ := so_inj2 hf
      exact V_iret hC hr hQ hA dX5_goBack_11
def t_X5_bestChoice_99 (L : Nat → Nat) (d : Dt) (o1 : Nat) (k7 : Int32 → Int32 → Int32 → Option (Int32)) (x2 : Int32) (x3 : Int32) (x4 : Int32)  : Option (Int32) := k7 x2 x3 (x4 + 1)
set_option maxRecDepth 20000 in
theorem b_X5_bestChoice_99 {K : Kx} {Y : Yx} {z : Sh} {d : Dt} (hC : CK K Y cX5_bestChoice 7 RX5 4 92) (hr : (kme K).sig.returnType = some .int) (hA : kA K = aY Y z) {o1 : Nat} (ho : (0, 0, 4) ∈ yI Y) (ho1 : (0, o1, 3) ∈ yI Y) {r : Int32} (hQ : kQ K = MQ (kb K) (QM Y z (some (.int r)) d) (ka K) (ks K) 0 0 (aY Y z)) {k7 : Int32 → Int32 → Int32 → Option (Int32)} (hk7 : ∀ (x2 : Int32) (x3 : Int32) (x4 : Int32) , k7 x2 x3 x4  = some r → V K Y 7 0 0 z d 7 [(0, .ref (yo Y 0)), (1, .ref (yo Y o1)), (2, .int x2), (3, .int x3), (4, .int x4)] []) (x2 : Int32) (x3 : Int32) (x4 : Int32)  (hf : t_X5_bestChoice_99 z.1 d o1 k7 x2 x3 x4  = some r) : V K Y 7 0 0 z d 99 [(0, .ref (yo Y 0)), (1, .ref (yo Y o1)), (2, .int x2), (3, .int x3), (4, .int x4)] [] := by
  have hL := hC.2.2.2.2.2.2.1
  unfold t_X5_bestChoice_99 at hf
  refine V_iinc (v := x4 + 1) (lv' := [(4, .int (x4 + 1)), (0, .ref (yo Y 0)), (1, .ref (yo Y o1)), (2, .int x2), (3, .int x3)]) 4 hC dX5_bestChoice_99 rfl rfl (by decide) rfl ?_
  refine V_goto (tgt := 7) hC dX5_bestChoice_102 (by decide) ?_
  exact V_sub [1, 2, 3, 4, 0] rfl (hk7 x2 x3 (x4 + 1) hf)
def t_X5_bestChoice_7 (L : Nat → Nat) (d : Dt) (o1 : Nat) (k7 : Int32 → Int32 → Int32 → Option (Int32)) (x2 : Int32) (x3 : Int32) (x4 : Int32)  : Option (Int32) := if 6 ≤ x4 then some x2 else (t_X0_isOpen L d 6 (gF d 2 4) x4).bind (fun v4 => if v4 = 0 then t_X5_bestChoice_99 L d o1 k7 x2 x3 x4 else (t_X0_wayOut L d 6 (gF d 2 4) x4).bind (fun v6 => (t_X0_goOn L d 6 (gF d 2 4) v6 (-1)).bind (fun v7 => (t_X4_find L d o1 v7).bind (fun v8 => (t_X4_oddsOf L d o1 v8).bind (fun v9 => if v9 ≤ x3 then t_X5_bestChoice_99 L d o1 k7 x2 x3 x4 else t_X5_bestChoice_99 L d o1 k7 x4 v9 x4)))))
set_option maxRecDepth 20000 in
theorem b_X5_bestChoice_7 {K : Kx} {Y : Yx} {z : Sh} {d : Dt} (hC : CK K Y cX5_bestChoice 7 RX5 4 92) (hr : (kme K).sig.returnType = some .int) (hA : kA K = aY Y z) {o1 : Nat} (ho : (0, 0, 4) ∈ yI Y) (ho1 : (0, o1, 3) ∈ yI Y) {r : Int32} (hQ : kQ K = MQ (kb K) (QM Y z (some (.int r)) d) (ka K) (ks K) 0 0 (aY Y z)) {k7 : Int32 → Int32 → Int32 → Option (Int32)} (hk7 : ∀ (x2 : Int32) (x3 : Int32) (x4 : Int32) , k7 x2 x3 x4  = some r → V K Y 7 0 0 z d 7 [(0, .ref (yo Y 0)), (1, .ref (yo Y o1)), (2, .int x2), (3, .int x3), (4, .int x4)] []) (x2 : Int32) (x3 : Int32) (x4 : Int32)  (hf : t_X5_bestChoice_7 z.1 d o1 k7 x2 x3 x4  = some r) : V K Y 7 0 0 z d 7 [(0, .ref (yo Y 0)), (1, .ref (yo Y o1)), (2, .int x2), (3, .int x3), (4, .int x4)] [] := by
  have hL := hC.2.2.2.2.2.2.1
  have hkn : 0 ≤ (kR K).cells ∧ 0 ≤ (kR K).slots := ⟨Nat.zero_le _, Nat.zero_le _⟩
  unfold t_X5_bestChoice_7 at hf
  refine V_iload 4 hC dX5_bestChoice_7 rfl ?_
  refine V_bipush (v := 6) hC dX5_bestChoice_9 rfl ?_
  refine V_icmp_ge (tgt := 105) hC dX5_bestChoice_11 (by decide) (fun c3 => ?_) (fun c3 => ?_)
  · have hf := if_t hf c3
    refine V_iload_n 2 hC dX5_bestChoice_105 rfl rfl ?_
    obtain rfl := so_inj hf
    exact V_iret hC hr hQ hA dX5_bestChoice_106
  · have hf := if_f hf c3
    refine V_aload_n 0 hC dX5_bestChoice_14 rfl rfl ?_
    refine V_geto (o := 0) (o2 := 2) hC ho rfl fk_X5_45 rfl dX5_bestChoice_15 ?_
    refine V_geto (o := 2) (o2 := 6) hC (show (0, 2, 2) ∈ yI Y from hL.obj (j := 1) ho rfl) rfl fk_X5_83 rfl dX5_bestChoice_18 ?_
    refine V_aload_n 0 hC dX5_bestChoice_21 rfl rfl ?_
    refine V_geto (o := 0) (o2 := 2) hC ho rfl fk_X5_45 rfl dX5_bestChoice_22 ?_
    refine V_geti (o := 2) hC (show (0, 2, 2) ∈ yI Y from hL.obj (j := 1) ho rfl) rfl fk_X5_175 dX5_bestChoice_25 ?_
    refine V_iload 4 hC dX5_bestChoice_28 rfl ?_
    obtain ⟨v4, ev4, hf⟩ := bi_some hf
    refine V_invi (o := 6) (As := [.int (gF d 2 4), .int x4]) (rest := []) hC (c_X0_isOpen hL (show (0, 6, 0) ∈ yI Y from hL.obj (j := 0) (show (0, 2, 2) ∈ yI Y from hL.obj (j := 1) ho rfl) rfl) ev4) me_X0_isOpen lk_X5_183 (show (0, 6, 0) ∈ yI Y from hL.obj (j := 0) (show (0, 2, 2) ∈ yI Y from hL.obj (j := 1) ho rfl) rfl) rfl rfl rfl (Nat.le_of_ble_eq_true rfl) ⟨by decide, by decide⟩ hkn dX5_bestChoice_30 ?_
    refine V_if_eq (tgt := 99) hC dX5_bestChoice_33 (by decide) (fun c5 => ?_) (fun c5 => ?_)
    · have hf := if_t hf c5
      exact b_X5_bestChoice_99 hC hr hA ho ho1 hQ hk7 x2 x3 x4 hf
    · have hf := if_f hf c5
      refine V_aload_n 0 hC dX5_bestChoice_36 rfl rfl ?_
      refine V_geto (o := 0) (o2 := 2) hC ho rfl fk_X5_45 rfl dX5_bestChoice_37 ?_
      refine V_geto (o := 2) (o2 := 6) hC (show (0, 2, 2) ∈ yI Y from hL.obj (j := 1) ho rfl) rfl fk_X5_83 rfl dX5_bestChoice_40 ?_
      refine V_aload_n 0 hC dX5_bestChoice_43 rfl rfl ?_
      refine V_geto (o := 0) (o2 := 2) hC ho rfl fk_X5_45 rfl dX5_bestChoice_44 ?_
      refine V_geti (o := 2) hC (show (0, 2, 2) ∈ yI Y from hL.obj (j := 1) ho rfl) rfl fk_X5_175 dX5_bestChoice_47 ?_
      refine V_aload_n 0 hC dX5_bestChoice_50 rfl rfl ?_
      refine V_geto (o := 0) (o2 := 2) hC ho rfl fk_X5_45 rfl dX5_bestChoice_51 ?_
      refine V_geto (o := 2) (o2 := 6) hC (show (0, 2, 2) ∈ yI Y from hL.obj (j := 1) ho rfl) rfl fk_X5_83 rfl dX5_bestChoice_54 ?_
      refine V_aload_n 0 hC dX5_bestChoice_57 rfl rfl ?_
      refine V_geto (o := 0) (o2 := 2) hC ho rfl fk_X5_45 rfl dX5_bestChoice_58 ?_
      refine V_geti (o := 2) hC (show (0, 2, 2) ∈ yI Y from hL.obj (j := 1) ho rfl) rfl fk_X5_175 dX5_bestChoice_61 ?_
      refine V_iload 4 hC dX5_bestChoice_64 rfl ?_
      obtain ⟨v6, ev6, hf⟩ := bi_some hf
      refine V_invi (o := 6) (As := [.int (gF d 2 4), .int x4]) (rest := [.int (gF d 2 4), .ref (yo Y 6)]) hC (c_X0_wayOut hL (show (0, 6, 0) ∈ yI Y from hL.obj (j := 0) (show (0, 2, 2) ∈ yI Y from hL.obj (j := 1) ho rfl) rfl) ev6) me_X0_wayOut lk_X5_186 (show (0, 6, 0) ∈ yI Y from hL.obj (j := 0) (show (0, 2, 2) ∈ yI Y from hL.obj (j := 1) ho rfl) rfl) rfl rfl rfl (Nat.le_of_ble_eq_true rfl) ⟨by decide, by decide⟩ hkn dX5_bestChoice_66 ?_
      refine V_iconst (v := -1) hC dX5_bestChoice_69 rfl ?_
      obtain ⟨v7, ev7, hf⟩ := bi_some hf
      refine V_invi (o := 6) (As := [.int (gF d 2 4), .int v6, .int (-1)]) (rest := []) hC (c_X0_goOn hL (show (0, 6, 0) ∈ yI Y from hL.obj (j := 0) (show (0, 2, 2) ∈ yI Y from hL.obj (j := 1) ho rfl) rfl) ev7) me_X0_goOn lk_X5_272 (show (0, 6, 0) ∈ yI Y from hL.obj (j := 0) (show (0, 2, 2) ∈ yI Y from hL.obj (j := 1) ho rfl) rfl) rfl rfl rfl (Nat.le_of_ble_eq_true rfl) ⟨by decide, by decide⟩ hkn dX5_bestChoice_70 ?_
      refine V_istore (lv' := [(5, .int v7), (0, .ref (yo Y 0)), (1, .ref (yo Y o1)), (2, .int x2), (3, .int x3), (4, .int x4)]) hC dX5_bestChoice_73 (by decide) rfl ?_
      refine V_aload_n 2 hC dX5_bestChoice_75 rfl rfl ?_
      refine V_aload_n 2 hC dX5_bestChoice_76 rfl rfl ?_
      refine V_iload 0 hC dX5_bestChoice_77 rfl ?_
      obtain ⟨v8, ev8, hf⟩ := bi_some hf
      refine V_invi (o := o1) (As := [.int v7]) (rest := [.ref (yo Y o1)]) hC (c_X4_find hL ho1 ev8) me_X4_find lk_X5_266 ho1 rfl rfl rfl (Nat.le_of_ble_eq_true rfl) ⟨by decide, by decide⟩ hkn dX5_bestChoice_79 ?_
      obtain ⟨v9, ev9, hf⟩ := bi_some hf
      refine V_invi (o := o1) (As := [.int v8]) (rest := []) hC (c_X4_oddsOf hL ho1 ev9) me_X4_oddsOf lk_X5_224 ho1 rfl rfl rfl (Nat.le_of_ble_eq_true rfl) ⟨by decide, by decide⟩ hkn dX5_bestChoice_82 ?_
      refine V_istore (lv' := [(6, .int v9), (5, .int v7), (0, .ref (yo Y 0)), (1, .ref (yo Y o1)), (2, .int x2), (3, .int x3), (4, .int x4)]) hC dX5_bestChoice_85 (by decide) rfl ?_
      refine V_iload 0 hC dX5_bestChoice_87 rfl ?_
      refine V_iload_n 5 hC dX5_bestChoice_89 rfl rfl ?_
      refine V_icmp_le (tgt := 99) hC dX5_bestChoice_90 (by decide) (fun c10 => ?_) (fun c10 => ?_)
      · have hf := if_t hf c10
        exact V_sub [2, 3, 4, 5, 6] rfl (b_X5_bestChoice_99 hC hr hA ho ho1 hQ hk7 x2 x3 x4 hf)
      · have hf := if_f hf c10
        refine V_iload 0 hC dX5_bestChoice_93 rfl ?_
        refine V_istore_n (lv' := [(3, .int v9), (6, .int v9), (5, .int v7), (0, .ref (yo Y 0)), (1, .ref (yo Y o1)), (2, .int x2), (4, .int x4)]) hC dX5_bestChoice_95 rfl (by decide) rfl ?_
        refine V_iload 6 hC dX5_bestChoice_96 rfl ?_
        refine V_istore_n (lv' := [(2, .int x4), (3, .int v9), (6, .int v9), (5, .int v7), (0, .ref (yo Y 0)), (1, .ref (yo Y o1)), (4, .int x4)]) hC dX5_bestChoice_98 rfl (by decide) rfl ?_
        exact V_sub [4, 5, 0, 1, 6] rfl (b_X5_bestChoice_99 hC hr hA ho ho1 hQ hk7 x4 v9 x4 hf)
def t_X5_bestChoice (L : Nat → Nat) (d : Dt) (o1 : Nat) : Option (Int32) := bd (-1) (fun y1 => bd (-1) (fun y2 => lp (fun k x => t_X5_bestChoice_7 L d o1  (fun x2 x3 x4 => k (x2, x3, x4)) x.1 x.2.1 x.2.2) FU (y1, y2, 0)))
set_option maxRecDepth 20000 in
theorem c_X5_bestChoice {l : Launch} {Y : Yx} (hL : LAY Y) {z : Sh} {d : Dt} {o1 : Nat} (ho : (0, 0, 4) ∈ yI Y) (ho1 : (0, o1, 3) ∈ yI Y) {r : Int32} (hf : t_X5_bestChoice z.1 d o1 = some r) : MM l yX5_bestChoice cX5_bestChoice 7 (some .int) 4 92 Y z [.ref (yo Y 0), .ref (yo Y o1)] d (some (.int r)) d := by
  refine MM.ofV (by decide +kernel) hL (Nat.le_of_ble_eq_true rfl) (fun K hl hC hr hQ hA => ?_)
  have hC : CK K Y cX5_bestChoice 7 RX5 4 92 := hC
  unfold t_X5_bestChoice at hf
  show V K Y 7 0 0 z d 0 [(0, .ref (yo Y 0)), (1, .ref (yo Y o1))] []
  refine V_iconst (v := -1) hC dX5_bestChoice_0 rfl ?_
  refine V_topi (fun y1 ey1 => ?_)
  have hf := bd_e hf y1 ey1
  refine V_istore_n (lv' := [(2, .int y1), (0, .ref (yo Y 0)), (1, .ref (yo Y o1))]) hC dX5_bestChoice_1 rfl (by decide) rfl ?_
  refine V_iconst (v := -1) hC dX5_bestChoice_2 rfl ?_
  refine V_topi (fun y2 ey2 => ?_)
  have hf := bd_e hf y2 ey2
  refine V_istore_n (lv' := [(3, .int y2), (2, .int y1), (0, .ref (yo Y 0)), (1, .ref (yo Y o1))]) hC dX5_bestChoice_3 rfl (by decide) rfl ?_
  refine V_iconst (v := 0) hC dX5_bestChoice_4 rfl ?_
  refine V_istore (lv' := [(4, .int 0), (3, .int y2), (2, .int y1), (0, .ref (yo Y 0)), (1, .ref (yo Y o1))]) hC dX5_bestChoice_5 (by decide) rfl ?_
  exact V_sub [3, 4, 2, 1, 0] rfl (lp_ind (X := Int32 × Int32 × Int32) (P := fun x => V K Y 7 0 0 z d 7 [(0, .ref (yo Y 0)), (1, .ref (yo Y o1)), (2, .int x.1), (3, .int x.2.1), (4, .int x.2.2)] []) (fun k x hk hx => b_X5_bestChoice_7 hC hr hA ho ho1 hQ  (k7 := fun x2 x3 x4 => k (x2, x3, x4)) (fun x2 x3 x4 hx => hk (x2, x3, x4) hx) x.1 x.2.1 x.2.2 hx) FU (y1, y2, 0) hf)
