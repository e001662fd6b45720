/-! ===== ChoiceBookModel: lifted and met ===== -/
theorem lk_X6_152 : Cond.methodLink RX6 152 yX6_noPart ∈ gt := gt_t 1055 (by decide +kernel) rfl
theorem me_X6_noPart : MEV RX6 yX6_noPart cX6_noPart 2 (some .boolean) 1 := ⟨⟨gt_t 1058 (by decide +kernel) rfl, gt_t 6 (by decide +kernel) rfl, by decide +kernel⟩, gt_t 1057 (by decide +kernel) rfl, gt_s (q := (yX6_noPart, 30)) 46 (by decide +kernel)⟩
theorem ck_X6_156 : Cond.constant RX6 156 (-1000001) ∈ gt := gt_t 1059 (by decide +kernel) rfl
theorem lk_X6_157 : Cond.methodLink RX6 157 yX6_linesOf ∈ gt := gt_t 1060 (by decide +kernel) rfl
theorem me_X6_linesOf : MEV RX6 yX6_linesOf cX6_linesOf 2 (some .int) 1 := ⟨⟨gt_t 1063 (by decide +kernel) rfl, gt_t 6 (by decide +kernel) rfl, by decide +kernel⟩, gt_t 1062 (by decide +kernel) rfl, gt_s (q := (yX6_linesOf, 30)) 47 (by decide +kernel)⟩
theorem cl_X6_161 : Cond.constantLong RX6 161 (7) ∈ gt := gt_t 1079 (by decide +kernel) rfl
theorem lk_X6_163 : Cond.methodLink RX6 163 yX6_noThing ∈ gt := gt_t 1076 (by decide +kernel) rfl
theorem me_X6_noThing : MES yX6_noThing cX6_noThing 1 (some .boolean) 1 := ⟨⟨gt_t 1078 (by decide +kernel) rfl, gt_t 6 (by decide +kernel) rfl, by decide +kernel⟩, gt_t 1077 (by decide +kernel) rfl⟩
theorem ck_X6_166 : Cond.constant RX6 166 (-1000003) ∈ gt := gt_t 1080 (by decide +kernel) rfl
theorem fk_X6_173 : FLK RX6 173 5 21 RX6 TX6 30 := ⟨rfl, uw_X6, by decide, rfl, gt_t 905 (by decide +kernel) rfl⟩
theorem fk_X6_225 : FLK RX6 225 5 22 RX6 TX6 30 := ⟨rfl, uw_X6, by decide, rfl, gt_t 906 (by decide +kernel) rfl⟩
theorem fk_X6_176 : FLK RX6 176 5 17 RX6 TX6 30 := ⟨rfl, uw_X6, by decide, rfl, gt_t 901 (by decide +kernel) rfl⟩
theorem fk_X6_179 : FLK RX6 179 5 18 RX6 TX6 30 := ⟨rfl, uw_X6, by decide, rfl, gt_t 902 (by decide +kernel) rfl⟩
theorem lk_X6_182 : Cond.methodLink RX6 182 yX6_come ∈ gt := gt_t 1105 (by decide +kernel) rfl
theorem me_X6_come : MEV RX6 yX6_come cX6_come 6 (some .boolean) 3 := ⟨⟨gt_t 1108 (by decide +kernel) rfl, gt_t 6 (by decide +kernel) rfl, by decide +kernel⟩, gt_t 1107 (by decide +kernel) rfl, gt_s (q := (yX6_come, 30)) 52 (by decide +kernel)⟩
theorem lk_X6_186 : Cond.methodLink RX6 186 yX6_stateOf ∈ gt := gt_t 1109 (by decide +kernel) rfl
theorem me_X6_stateOf : MES yX6_stateOf cX6_stateOf 3 (some .int) 3 := ⟨⟨gt_t 1111 (by decide +kernel) rfl, gt_t 6 (by decide +kernel) rfl, by decide +kernel⟩, gt_t 1110 (by decide +kernel) rfl⟩
theorem lk_X6_194 : Cond.methodLink RX6 194 yX6_partOf ∈ gt := gt_t 1124 (by decide +kernel) rfl
theorem me_X6_partOf : MES yX6_partOf cX6_partOf 1 (some .int) 1 := ⟨⟨gt_t 1126 (by decide +kernel) rfl, gt_t 6 (by decide +kernel) rfl, by decide +kernel⟩, gt_t 1125 (by decide +kernel) rfl⟩
theorem lk_X6_190 : Cond.methodLink RX6 190 yX6_has ∈ gt := gt_t 1146 (by decide +kernel) rfl
theorem me_X6_has : MES yX6_has cX6_has 2 (some .boolean) 2 := ⟨⟨gt_t 1148 (by decide +kernel) rfl, gt_t 6 (by decide +kernel) rfl, by decide +kernel⟩, gt_t 1147 (by decide +kernel) rfl⟩
theorem lk_X6_197 : Cond.methodLink RX6 197 yX6_thingsOf ∈ gt := gt_t 1139 (by decide +kernel) rfl
theorem me_X6_thingsOf : MES yX6_thingsOf cX6_thingsOf 1 (some .int) 1 := ⟨⟨gt_t 1141 (by decide +kernel) rfl, gt_t 6 (by decide +kernel) rfl, by decide +kernel⟩, gt_t 1140 (by decide +kernel) rfl⟩
theorem lk_X6_200 : Cond.methodLink RX6 200 yX6_isOpenChoice ∈ gt := gt_t 1142 (by decide +kernel) rfl
theorem me_X6_isOpenChoice : MEV RX6 yX6_isOpenChoice cX6_isOpenChoice 6 (some .boolean) 3 := ⟨⟨gt_t 1145 (by decide +kernel) rfl, gt_t 6 (by decide +kernel) rfl, by decide +kernel⟩, gt_t 1144 (by decide +kernel) rfl, gt_s (q := (yX6_isOpenChoice, 30)) 59 (by decide +kernel)⟩
theorem lk_X6_212 : Cond.methodLink RX6 212 yX6_waysOf ∈ gt := gt_t 1120 (by decide +kernel) rfl
theorem me_X6_waysOf : MEV RX6 yX6_waysOf cX6_waysOf 3 (some .int) 1 := ⟨⟨gt_t 1123 (by decide +kernel) rfl, gt_t 6 (by decide +kernel) rfl, by decide +kernel⟩, gt_t 1122 (by decide +kernel) rfl, gt_s (q := (yX6_waysOf, 30)) 55 (by decide +kernel)⟩
theorem lk_X6_215 : Cond.methodLink RX6 215 yX6_isWay ∈ gt := gt_t 1135 (by decide +kernel) rfl
theorem me_X6_isWay : MEV RX6 yX6_isWay cX6_isWay 4 (some .boolean) 2 := ⟨⟨gt_t 1138 (by decide +kernel) rfl, gt_t 6 (by decide +kernel) rfl, by decide +kernel⟩, gt_t 1137 (by decide +kernel) rfl, gt_s (q := (yX6_isWay, 30)) 58 (by decide +kernel)⟩
theorem lk_X6_218 : Cond.methodLink RX6 218 yX6_one ∈ gt := gt_t 1149 (by decide +kernel) rfl
theorem me_X6_one : MES yX6_one cX6_one 1 (some .int) 1 := ⟨⟨gt_t 1151 (by decide +kernel) rfl, gt_t 6 (by decide +kernel) rfl, by decide +kernel⟩, gt_t 1150 (by decide +kernel) rfl⟩
theorem lk_X6_222 : Cond.methodLink RX6 222 yX6_openWays ∈ gt := gt_t 1131 (by decide +kernel) rfl
theorem me_X6_openWays : MEV RX6 yX6_openWays cX6_openWays 4 (some .int) 1 := ⟨⟨gt_t 1134 (by decide +kernel) rfl, gt_t 6 (by decide +kernel) rfl, by decide +kernel⟩, gt_t 1133 (by decide +kernel) rfl, gt_s (q := (yX6_openWays, 30)) 57 (by decide +kernel)⟩
theorem lk_X6_203 : Cond.methodLink RX6 203 yX6_goalOf ∈ gt := gt_t 1156 (by decide +kernel) rfl
theorem me_X6_goalOf : MEV RX6 yX6_goalOf cX6_goalOf 4 (some .int) 2 := ⟨⟨gt_t 1159 (by decide +kernel) rfl, gt_t 6 (by decide +kernel) rfl, by decide +kernel⟩, gt_t 1158 (by decide +kernel) rfl, gt_s (q := (yX6_goalOf, 30)) 61 (by decide +kernel)⟩
theorem lk_X6_206 : Cond.methodLink RX6 206 yX6_healthOf ∈ gt := gt_t 1160 (by decide +kernel) rfl
theorem me_X6_healthOf : MES yX6_healthOf cX6_healthOf 1 (some .int) 1 := ⟨⟨gt_t 1162 (by decide +kernel) rfl, gt_t 6 (by decide +kernel) rfl, by decide +kernel⟩, gt_t 1161 (by decide +kernel) rfl⟩
theorem lk_X6_209 : Cond.methodLink RX6 209 yX6_stateAt ∈ gt := gt_t 1101 (by decide +kernel) rfl
theorem me_X6_stateAt : MEV RX6 yX6_stateAt cX6_stateAt 4 (some .int) 3 := ⟨⟨gt_t 1104 (by decide +kernel) rfl, gt_t 6 (by decide +kernel) rfl, by decide +kernel⟩, gt_t 1103 (by decide +kernel) rfl, gt_s (q := (yX6_stateAt, 30)) 51 (by decide +kernel)⟩
theorem lk_X6_228 : Cond.methodLink RX6 228 yX6_standsAt ∈ gt := gt_t 1127 (by decide +kernel) rfl
theorem me_X6_standsAt : MEV RX6 yX6_standsAt cX6_standsAt 2 (some .int) 1 := ⟨⟨gt_t 1130 (by decide +kernel) rfl, gt_t 6 (by decide +kernel) rfl, by decide +kernel⟩, gt_t 1129 (by decide +kernel) rfl, gt_s (q := (yX6_standsAt, 30)) 56 (by decide +kernel)⟩
theorem lk_X6_231 : Cond.methodLink RX6 231 yX6_wayTo ∈ gt := gt_t 1152 (by decide +kernel) rfl
theorem me_X6_wayTo : MEV RX6 yX6_wayTo cX6_wayTo 3 (some .int) 2 := ⟨⟨gt_t 1155 (by decide +kernel) rfl, gt_t 6 (by decide +kernel) rfl, by decide +kernel⟩, gt_t 1154 (by decide +kernel) rfl, gt_s (q := (yX6_wayTo, 30)) 60 (by decide +kernel)⟩
theorem lk_X6_234 : Cond.methodLink RX6 234 yX6_reach ∈ gt := gt_t 1112 (by decide +kernel) rfl
theorem me_X6_reach : MEV RX6 yX6_reach cX6_reach 3 none 2 := ⟨⟨gt_t 1115 (by decide +kernel) rfl, gt_t 6 (by decide +kernel) rfl, by decide +kernel⟩, gt_t 1114 (by decide +kernel) rfl, gt_s (q := (yX6_reach, 30)) 53 (by decide +kernel)⟩
theorem lk_X6_238 : Cond.methodLink RX6 238 yX6_beginSpread ∈ gt := gt_t 1097 (by decide +kernel) rfl
theorem me_X6_beginSpread : MEV RX6 yX6_beginSpread cX6_beginSpread 2 none 0 := ⟨⟨gt_t 1100 (by decide +kernel) rfl, gt_t 6 (by decide +kernel) rfl, by decide +kernel⟩, gt_t 1099 (by decide +kernel) rfl, gt_s (q := (yX6_beginSpread, 30)) 50 (by decide +kernel)⟩
theorem lk_X6_241 : Cond.methodLink RX6 241 yX6_spreadAll ∈ gt := gt_t 1116 (by decide +kernel) rfl
theorem me_X6_spreadAll : MEV RX6 yX6_spreadAll cX6_spreadAll 6 none 0 := ⟨⟨gt_t 1119 (by decide +kernel) rfl, gt_t 6 (by decide +kernel) rfl, by decide +kernel⟩, gt_t 1118 (by decide +kernel) rfl, gt_s (q := (yX6_spreadAll, 30)) 54 (by decide +kernel)⟩
theorem lk_X6_167 : Cond.methodLink RX6 167 yX6_choices ∈ gt := gt_t 1089 (by decide +kernel) rfl
theorem me_X6_choices : MEV RX6 yX6_choices cX6_choices 3 (some .int) 0 := ⟨⟨gt_t 1092 (by decide +kernel) rfl, gt_t 6 (by decide +kernel) rfl, by decide +kernel⟩, gt_t 1091 (by decide +kernel) rfl, gt_s (q := (yX6_choices, 30)) 48 (by decide +kernel)⟩
theorem lk_X6_170 : Cond.methodLink RX6 170 yX6_spreadFromBeginning ∈ gt := gt_t 1093 (by decide +kernel) rfl
theorem me_X6_spreadFromBeginning : MEV RX6 yX6_spreadFromBeginning cX6_spreadFromBeginning 2 none 0 := ⟨⟨gt_t 1096 (by decide +kernel) rfl, gt_t 6 (by decide +kernel) rfl, by decide +kernel⟩, gt_t 1095 (by decide +kernel) rfl, gt_s (q := (yX6_spreadFromBeginning, 30)) 49 (by decide +kernel)⟩
theorem lk_X6_244 : Cond.methodLink RX6 244 yX6_enter ∈ gt := gt_t 1171 (by decide +kernel) rfl
theorem me_X6_enter : MEV RX6 yX6_enter cX6_enter 3 none 1 := ⟨⟨gt_t 1174 (by decide +kernel) rfl, gt_t 6 (by decide +kernel) rfl, by decide +kernel⟩, gt_t 1173 (by decide +kernel) rfl, gt_s (q := (yX6_enter, 30)) 63 (by decide +kernel)⟩
theorem lk_X6_247 : Cond.methodLink RX6 247 yX6_begins ∈ gt := gt_t 1167 (by decide +kernel) rfl
theorem me_X6_begins : MEV RX6 yX6_begins cX6_begins 2 none 0 := ⟨⟨gt_t 1170 (by decide +kernel) rfl, gt_t 6 (by decide +kernel) rfl, by decide +kernel⟩, gt_t 1169 (by decide +kernel) rfl, gt_s (q := (yX6_begins, 30)) 62 (by decide +kernel)⟩
theorem lk_X6_250 : Cond.methodLink RX6 250 yX6_stands ∈ gt := gt_t 1175 (by decide +kernel) rfl
theorem me_X6_stands : MEV RX6 yX6_stands cX6_stands 2 (some .int) 0 := ⟨⟨gt_t 1178 (by decide +kernel) rfl, gt_t 6 (by decide +kernel) rfl, by decide +kernel⟩, gt_t 1177 (by decide +kernel) rfl, gt_s (q := (yX6_stands, 30)) 64 (by decide +kernel)⟩
def t_X6_part_29 (L : Nat → Nat) (d : Dt) (p1 : Int32) (p2 : Int32)  (s0 : Int32)  : Option (Int32) := if p2 = 0 then gd (inb (8 + p1) (L (32 * 0 + 0))) (some (gA d (32 * 0 + 0) (ix (8 + p1)))) else if p2 = 1 then gd (inb (32 + p1) (L (32 * 0 + 0))) (some (gA d (32 * 0 + 0) (ix (32 + p1)))) else if p2 = 2 then gd (inb (56 + p1) (L (32 * 0 + 0))) (some (gA d (32 * 0 + 0) (ix (56 + p1)))) else if p2 = 3 then (t_X6_linesOf L d p1).bind (fun v12 => some v12) else if p2 = 4 then if s0 = 0 then some (-1) else gd (inb (80 + p1) (L (32 * 0 + 0))) (some (gA d (32 * 0 + 0) (ix (80 + p1)))) else if p2 = 5 then if s0 = 0 then some (-1) else gd (inb (104 + p1) (L (32 * 0 + 0))) (some (gA d (32 * 0 + 0) (ix (104 + p1)))) else if p2 = 6 then if s0 = 0 then some (-1) else gd (inb (128 + p1) (L (32 * 0 + 0))) (some (gA d (32 * 0 + 0) (ix (128 + p1)))) else some (-1000002)
set_option maxRecDepth 20000 in
theorem b_X6_part_29 {K : Kx} {Y : Yx} {z : Sh} {d : Dt} (hC : CK K Y cX6_part 4 RX6 2 46) (hr : (kme K).sig.returnType = some .int) (hA : kA K = aY Y z) {p1 : Int32} {p2 : Int32} (ho : (0, 0, 5) ∈ yI Y) {r : Int32} (hQ : kQ K = MQ (kb K) (QM Y z (some (.int r)) d) (ka K) (ks K) 0 0 (aY Y z))   (s0 : Int32)  (hf : t_X6_part_29 z.1 d p1 p2  s0  = some r) : V K Y 4 0 0 z d 29 [(0, .ref (yo Y 0)), (1, .int p1), (2, .int p2)] [.int s0] := by
  have hL := hC.2.2.2.2.2.2.1
  have hkn : 0 ≤ (kR K).cells ∧ 0 ≤ (kR K).slots := ⟨Nat.zero_le _, Nat.zero_le _⟩
  unfold t_X6_part_29 at hf
  refine V_istore_n (lv' := [(3, .int s0), (0, .ref (yo Y 0)), (1, .int p1), (2, .int p2)]) hC dX6_part_29 rfl (by decide) rfl ?_
  refine V_iload_n 3 hC dX6_part_30 rfl rfl ?_
  by_cases c5 : p2 = 0
  · have hf := if_t hf c5
    refine V_tswIn (tgt := 72) hC dX6_part_31 0 c5 (by decide) (by decide) rfl (by decide) ?_
    refine V_aload_n 1 hC dX6_part_72 rfl rfl ?_
    refine V_geta (o := 0) hC ho rfl fk_X6_7 dX6_part_73 ?_
    refine V_bipush (v := 8) hC dX6_part_76 rfl ?_
    refine V_iload_n 2 hC dX6_part_78 rfl rfl ?_
    refine V_iadd hC dX6_part_79 ?_
    obtain ⟨g6, hf⟩ := gd_some hf
    refine V_iald (a := (32 * 0 + 0)) hC (hL.row ho rfl) g6 dX6_part_80 ?_
    obtain rfl := so_inj hf
    exact V_iret hC hr hQ hA dX6_part_81
  · have hf := if_f hf c5
    by_cases c7 : p2 = 1
    · have hf := if_t hf c7
      refine V_tswIn (tgt := 82) hC dX6_part_31 1 c7 (by decide) (by decide) rfl (by decide) ?_
      refine V_aload_n 1 hC dX6_part_82 rfl rfl ?_
      refine V_geta (o := 0) hC ho rfl fk_X6_7 dX6_part_83 ?_
      refine V_bipush (v := 32) hC dX6_part_86 rfl ?_
      refine V_iload_n 2 hC dX6_part_88 rfl rfl ?_
      refine V_iadd hC dX6_part_89 ?_
      obtain ⟨g8, hf⟩ := gd_some hf
      refine V_iald (a := (32 * 0 + 0)) hC (hL.row ho rfl) g8 dX6_part_90 ?_
      obtain rfl := so_inj hf
      exact V_iret hC hr hQ hA dX6_part_91
    · have hf := if_f hf c7
      by_cases c9 : p2 = 2
      · have hf := if_t hf c9
        refine V_tswIn (tgt := 92) hC dX6_part_31 2 c9 (by decide) (by decide) rfl (by decide) ?_
        refine V_aload_n 1 hC dX6_part_92 rfl rfl ?_
        refine V_geta (o := 0) hC ho rfl fk_X6_7 dX6_part_93 ?_
        refine V_bipush (v := 56) hC dX6_part_96 rfl ?_
        refine V_iload_n 2 hC dX6_part_98 rfl rfl ?_
        refine V_iadd hC dX6_part_99 ?_
        obtain ⟨g10, hf⟩ := gd_some hf
        refine V_iald (a := (32 * 0 + 0)) hC (hL.row ho rfl) g10 dX6_part_100 ?_
        obtain rfl := so_inj hf
        exact V_iret hC hr hQ hA dX6_part_101
      · have hf := if_f hf c9
        by_cases c11 : p2 = 3
        · have hf := if_t hf c11
          refine V_tswIn (tgt := 102) hC dX6_part_31 3 c11 (by decide) (by decide) rfl (by decide) ?_
          refine V_aload_n 1 hC dX6_part_102 rfl rfl ?_
          refine V_iload_n 2 hC dX6_part_103 rfl rfl ?_
          obtain ⟨v12, ev12, hf⟩ := bi_some hf
          refine V_invi (o := 0) (As := [.int p1]) (rest := []) hC (c_X6_linesOf hL ho ev12) me_X6_linesOf lk_X6_157 ho rfl rfl rfl (Nat.le_of_ble_eq_true rfl) ⟨by decide, by decide⟩ hkn dX6_part_104 ?_
          obtain rfl := so_inj hf
          exact V_iret hC hr hQ hA dX6_part_107
        · have hf := if_f hf c11
          by_cases c13 : p2 = 4
          · have hf := if_t hf c13
            refine V_tswIn (tgt := 108) hC dX6_part_31 4 c13 (by decide) (by decide) rfl (by decide) ?_
            refine V_iload_n 0 hC dX6_part_108 rfl rfl ?_
            refine V_if_eq (tgt := 124) hC dX6_part_109 (by decide) (fun c14 => ?_) (fun c14 => ?_)
            · have hf := if_t hf c14
              refine V_iconst (v := -1) hC dX6_part_124 rfl ?_
              obtain rfl := so_inj hf
              exact V_iret hC hr hQ hA dX6_part_125
            · have hf := if_f hf c14
              refine V_aload_n 1 hC dX6_part_112 rfl rfl ?_
              refine V_geta (o := 0) hC ho rfl fk_X6_7 dX6_part_113 ?_
              refine V_bipush (v := 80) hC dX6_part_116 rfl ?_
              refine V_iload_n 2 hC dX6_part_118 rfl rfl ?_
              refine V_iadd hC dX6_part_119 ?_
              obtain ⟨g15, hf⟩ := gd_some hf
              refine V_iald (a := (32 * 0 + 0)) hC (hL.row ho rfl) g15 dX6_part_120 ?_
              refine V_goto (tgt := 125) hC dX6_part_121 (by decide) ?_
              obtain rfl := so_inj hf
              exact V_iret hC hr hQ hA dX6_part_125
          · have hf := if_f hf c13
            by_cases c16 : p2 = 5
            · have hf := if_t hf c16
              refine V_tswIn (tgt := 126) hC dX6_part_31 5 c16 (by decide) (by decide) rfl (by decide) ?_
              refine V_iload_n 0 hC dX6_part_126 rfl rfl ?_
              refine V_if_eq (tgt := 142) hC dX6_part_127 (by decide) (fun c17 => ?_) (fun c17 => ?_)
              · have hf := if_t hf c17
                refine V_iconst (v := -1) hC dX6_part_142 rfl ?_
                obtain rfl := so_inj hf
                exact V_iret hC hr hQ hA dX6_part_143
              · have hf := if_f hf c17
                refine V_aload_n 1 hC dX6_part_130 rfl rfl ?_
                refine V_geta (o := 0) hC ho rfl fk_X6_7 dX6_part_131 ?_
                refine V_bipush (v := 104) hC dX6_part_134 rfl ?_
                refine V_iload_n 2 hC dX6_part_136 rfl rfl ?_
                refine V_iadd hC dX6_part_137 ?_
                obtain ⟨g18, hf⟩ := gd_some hf
                refine V_iald (a := (32 * 0 + 0)) hC (hL.row ho rfl) g18 dX6_part_138 ?_
                refine V_goto (tgt := 143) hC dX6_part_139 (by decide) ?_
                obtain rfl := so_inj hf
                exact V_iret hC hr hQ hA dX6_part_143
            · have hf := if_f hf c16
              by_cases c19 : p2 = 6
              · have hf := if_t hf c19
                refine V_tswIn (tgt := 144) hC dX6_part_31 6 c19 (by decide) (by decide) rfl (by decide) ?_
                refine V_iload_n 0 hC dX6_part_144 rfl rfl ?_
                refine V_if_eq (tgt := 161) hC dX6_part_145 (by decide) (fun c20 => ?_) (fun c20 => ?_)
                · have hf := if_t hf c20
                  refine V_iconst (v := -1) hC dX6_part_161 rfl ?_
                  obtain rfl := so_inj hf
                  exact V_iret hC hr hQ hA dX6_part_162
                · have hf := if_f hf c20
                  refine V_aload_n 1 hC dX6_part_148 rfl rfl ?_
                  refine V_geta (o := 0) hC ho rfl fk_X6_7 dX6_part_149 ?_
                  refine V_sipush (v := 128) hC dX6_part_152 rfl ?_
                  refine V_iload_n 2 hC dX6_part_155 rfl rfl ?_
                  refine V_iadd hC dX6_part_156 ?_
                  obtain ⟨g21, hf⟩ := gd_some hf
                  refine V_iald (a := (32 * 0 + 0)) hC (hL.row ho rfl) g21 dX6_part_157 ?_
                  refine V_goto (tgt := 162) hC dX6_part_158 (by decide) ?_
                  obtain rfl := so_inj hf
                  exact V_iret hC hr hQ hA dX6_part_162
              · have hf := if_f hf c19
                refine V_tswOut (tgt := 163) hC dX6_part_31 (by have hc5 := lv_neT c5 (show (0 : Int32).toInt = 0 from rfl); have hc7 := lv_neT c7 (show (1 : Int32).toInt = 1 from rfl); have hc9 := lv_neT c9 (show (2 : Int32).toInt = 2 from rfl); have hc11 := lv_neT c11 (show (3 : Int32).toInt = 3 from rfl); have hc13 := lv_neT c13 (show (4 : Int32).toInt = 4 from rfl); have hc16 := lv_neT c16 (show (5 : Int32).toInt = 5 from rfl); have hc19 := lv_neT c19 (show (6 : Int32).toInt = 6 from rfl); omega) (by decide) ?_
                refine V_ldc hC ck_X6_70 dX6_part_163 ?_
                obtain rfl := so_inj hf
                exact V_iret hC hr hQ hA dX6_part_165
def t_X6_part (L : Nat → Nat) (d : Dt) (p1 : Int32) (p2 : Int32) : Option (Int32) := (t_X6_noPart L d p1).bind (fun v1 => if v1 = 0 then gd (inb (8 + p1) (L (32 * 0 + 0))) (if (gA d (32 * 0 + 0) (ix (8 + p1))) = 3 then t_X6_part_29 L d p1 p2  1 else t_X6_part_29 L d p1 p2  0) else some (-1000001))
set_option maxRecDepth 20000 in
theorem c_X6_part {l : Launch} {Y : Yx} (hL : LAY Y) {z : Sh} {d : Dt} {p1 : Int32} {p2 : Int32} (ho : (0, 0, 5) ∈ yI Y) {r : Int32} (hf : t_X6_part z.1 d p1 p2 = some r) : MM l yX6_part cX6_part 4 (some .int) 2 46 Y z [.ref (yo Y 0), .int p1, .int p2] d (some (.int r)) d := by
  refine MM.ofV (by decide +kernel) hL (Nat.le_of_ble_eq_true rfl) (fun K hl hC hr hQ hA => ?_)
  have hC : CK K Y cX6_part 4 RX6 2 46 := hC
  have hkn : 0 ≤ (kR K).cells ∧ 0 ≤ (kR K).slots := ⟨Nat.zero_le _, Nat.zero_le _⟩
  unfold t_X6_part at hf
  show V K Y 4 0 0 z d 0 [(0, .ref (yo Y 0)), (1, .int p1), (2, .int p2)] []
  refine V_aload_n 0 hC dX6_part_0 rfl rfl ?_
  refine V_iload_n 1 hC dX6_part_1 rfl rfl ?_
  obtain ⟨v1, ev1, hf⟩ := bi_some hf
  refine V_invi (o := 0) (As := [.int p1]) (rest := []) hC (c_X6_noPart hL ho ev1) me_X6_noPart lk_X6_152 ho rfl rfl rfl (Nat.le_of_ble_eq_true rfl) ⟨by decide, by decide⟩ hkn dX6_part_2 ?_
  refine V_if_eq (tgt := 11) hC dX6_part_5 (by decide) (fun c2 => ?_) (fun c2 => ?_)
  · have hf := if_t hf c2
    refine V_aload_n 0 hC dX6_part_11 rfl rfl ?_
    refine V_geta (o := 0) hC ho rfl fk_X6_7 dX6_part_12 ?_
    refine V_bipush (v := 8) hC dX6_part_15 rfl ?_
    refine V_iload_n 1 hC dX6_part_17 rfl rfl ?_
    refine V_iadd hC dX6_part_18 ?_
    obtain ⟨g3, hf⟩ := gd_some hf
    refine V_iald (a := (32 * 0 + 0)) hC (hL.row ho rfl) g3 dX6_part_19 ?_
    refine V_iconst (v := 3) hC dX6_part_20 rfl ?_
    refine V_icmp_ne (tgt := 28) hC dX6_part_21 (by decide) (fun c4 => ?_) (fun c4 => ?_)
    · have hf := if_f hf c4
      refine V_iconst (v := 0) hC dX6_part_28 rfl ?_
      exact b_X6_part_29 hC hr hA ho hQ  0 hf
    · have hf := if_t hf c4
      refine V_iconst (v := 1) hC dX6_part_24 rfl ?_
      refine V_goto (tgt := 29) hC dX6_part_25 (by decide) ?_
      exact b_X6_part_29 hC hr hA ho hQ  1 hf
  · have hf := if_f hf c2
    refine V_ldc hC ck_X6_156 dX6_part_8 ?_
    obtain rfl := so_inj hf
    exact V_iret hC hr hQ hA dX6_part_10
def t_X6_effect (L : Nat → Nat) (d : Dt) (p1 : Int32) (p2 : Int32) (p3 : Int32) : Option (Int32) := (t_X6_noPart L d p1).bind (fun v1 => if v1 = 0 then gd (inb (32 + p1) (L (32 * 0 + 0))) ((t_X6_in L d (p2.toInt64) 0 (((gA d (32 * 0 + 0) (ix (32 + p1))) - 1 : Int32).toInt64)).bind (fun v4 => if v4 = 0 then some (-1000001) else bd ((4 * p1) + p2) (fun y6 => if p3 = 0 then gd (inb (176 + y6) (L (32 * 0 + 0))) (some (gA d (32 * 0 + 0) (ix (176 + y6)))) else if p3 = 1 then gd (inb (272 + y6) (L (32 * 0 + 0))) (some (gA d (32 * 0 + 0) (ix (272 + y6)))) else some (-1000002)))) else some (-1000001))
set_option maxRecDepth 20000 in
theorem c_X6_effect {l : Launch} {Y : Yx} (hL : LAY Y) {z : Sh} {d : Dt} {p1 : Int32} {p2 : Int32} {p3 : Int32} (ho : (0, 0, 5) ∈ yI Y) {r : Int32} (hf : t_X6_effect z.1 d p1 p2 p3 = some r) : MM l yX6_effect cX6_effect 5 (some .int) 2 46 Y z [.ref (yo Y 0), .int p1, .int p2, .int p3] d (some (.int r)) d := by
  refine MM.ofV (by decide +kernel) hL (Nat.le_of_ble_eq_true rfl) (fun K hl hC hr hQ hA => ?_)
  have hC : CK K Y cX6_effect 5 RX6 2 46 := hC
  have hkn : 0 ≤ (kR K).cells ∧ 0 ≤ (kR K).slots := ⟨Nat.zero_le _, Nat.zero_le _⟩
  unfold t_X6_effect at hf
  show V K Y 5 0 0 z d 0 [(0, .ref (yo Y 0)), (1, .int p1), (2, .int p2), (3, .int p3)] []
  refine V_aload_n 0 hC dX6_effect_0 rfl rfl ?_
  refine V_iload_n 1 hC dX6_effect_1 rfl rfl ?_
  obtain ⟨v1, ev1, hf⟩ := bi_some hf
  refine V_invi (o := 0) (As := [.int p1]) (rest := []) hC (c_X6_noPart hL ho ev1) me_X6_noPart lk_X6_152 ho rfl rfl rfl (Nat.le_of_ble_eq_true rfl) ⟨by decide, by decide⟩ hkn dX6_effect_2 ?_
  refine V_if_ne (tgt := 29) hC dX6_effect_5 (by decide) (fun c2 => ?_) (fun c2 => ?_)
  · have hf := if_f hf c2
    refine V_ldc hC ck_X6_156 dX6_effect_29 ?_
    obtain rfl := so_inj hf
    exact V_iret hC hr hQ hA dX6_effect_31
  · have hf := if_t hf c2
    refine V_iload_n 2 hC dX6_effect_8 rfl rfl ?_
    refine V_i2l hC dX6_effect_9 ?_
    refine V_lconst (v := 0) hC dX6_effect_10 rfl ?_
    refine V_aload_n 0 hC dX6_effect_11 rfl rfl ?_
    refine V_geta (o := 0) hC ho rfl fk_X6_7 dX6_effect_12 ?_
    refine V_bipush (v := 32) hC dX6_effect_15 rfl ?_
    refine V_iload_n 1 hC dX6_effect_17 rfl rfl ?_
    refine V_iadd hC dX6_effect_18 ?_
    obtain ⟨g3, hf⟩ := gd_some hf
    refine V_iald (a := (32 * 0 + 0)) hC (hL.row ho rfl) g3 dX6_effect_19 ?_
    refine V_iconst (v := 1) hC dX6_effect_20 rfl ?_
    refine V_isub hC dX6_effect_21 ?_
    refine V_i2l hC dX6_effect_22 ?_
    obtain ⟨v4, ev4, hf⟩ := bi_some hf
    refine V_insi (As := [.long (p2.toInt64), .long 0, .long (((gA d (32 * 0 + 0) (ix (32 + p1))) - 1 : Int32).toInt64)]) (rest := []) hC (c_X6_in hL  ev4) me_X6_in lk_X6_66 rfl rfl (Nat.le_of_ble_eq_true rfl) ⟨by decide, by decide⟩ hkn dX6_effect_23 ?_
    refine V_if_ne (tgt := 32) hC dX6_effect_26 (by decide) (fun c5 => ?_) (fun c5 => ?_)
    · have hf := if_f hf c5
      refine V_iconst (v := 4) hC dX6_effect_32 rfl ?_
      refine V_iload_n 1 hC dX6_effect_33 rfl rfl ?_
      refine V_imul hC dX6_effect_34 ?_
      refine V_iload_n 2 hC dX6_effect_35 rfl rfl ?_
      refine V_iadd hC dX6_effect_36 ?_
      refine V_topi (fun y6 ey6 => ?_)
      have hf := bd_e hf y6 ey6
      refine V_istore (lv' := [(4, .int y6), (0, .ref (yo Y 0)), (1, .int p1), (2, .int p2), (3, .int p3)]) hC dX6_effect_37 (by decide) rfl ?_
      refine V_iload_n 4 hC dX6_effect_39 rfl rfl ?_
      refine V_if_ne (tgt := 57) hC dX6_effect_40 (by decide) (fun c7 => ?_) (fun c7 => ?_)
      · have hf := if_f hf c7
        refine V_iload_n 4 hC dX6_effect_57 rfl rfl ?_
        refine V_iconst (v := 1) hC dX6_effect_58 rfl ?_
        refine V_icmp_ne (tgt := 76) hC dX6_effect_59 (by decide) (fun c8 => ?_) (fun c8 => ?_)
        · have hf := if_f hf c8
          refine V_ldc hC ck_X6_70 dX6_effect_76 ?_
          obtain rfl := so_inj hf
          exact V_iret hC hr hQ hA dX6_effect_78
        · have hf := if_t hf c8
          refine V_aload_n 1 hC dX6_effect_62 rfl rfl ?_
          refine V_geta (o := 0) hC ho rfl fk_X6_7 dX6_effect_63 ?_
          refine V_sipush (v := 272) hC dX6_effect_66 rfl ?_
          refine V_iload 0 hC dX6_effect_69 rfl ?_
          refine V_iadd hC dX6_effect_71 ?_
          obtain ⟨g9, hf⟩ := gd_some hf
          refine V_iald (a := (32 * 0 + 0)) hC (hL.row ho rfl) g9 dX6_effect_72 ?_
          refine V_goto (tgt := 78) hC dX6_effect_73 (by decide) ?_
          obtain rfl := so_inj hf
          exact V_iret hC hr hQ hA dX6_effect_78
      · have hf := if_t hf c7
        refine V_aload_n 1 hC dX6_effect_43 rfl rfl ?_
        refine V_geta (o := 0) hC ho rfl fk_X6_7 dX6_effect_44 ?_
        refine V_sipush (v := 176) hC dX6_effect_47 rfl ?_
        refine V_iload 0 hC dX6_effect_50 rfl ?_
        refine V_iadd hC dX6_effect_52 ?_
        obtain ⟨g10, hf⟩ := gd_some hf
        refine V_iald (a := (32 * 0 + 0)) hC (hL.row ho rfl) g10 dX6_effect_53 ?_
        refine V_goto (tgt := 78) hC dX6_effect_54 (by decide) ?_
        obtain rfl := so_inj hf
        exact V_iret hC hr hQ hA dX6_effect_78
    · have hf := if_t hf c5
      refine V_ldc hC ck_X6_156 dX6_effect_29 ?_
      obtain rfl := so_inj hf
      exact V_iret hC hr hQ hA dX6_effect_31
def t_X6_choice (L : Nat → Nat) (d : Dt) (p1 : Int32) (p2 : Int32) (p3 : Int32) : Option (Int32) := (t_X6_noPart L d p1).bind (fun v1 => if v1 = 0 then gd (inb (56 + p1) (L (32 * 0 + 0))) ((t_X6_in L d (p2.toInt64) 0 (((gA d (32 * 0 + 0) (ix (56 + p1))) - 1 : Int32).toInt64)).bind (fun v4 => if v4 = 0 then some (-1000001) else bd ((6 * p1) + p2) (fun y6 => if p3 = 0 then gd (inb (368 + y6) (L (32 * 0 + 0))) (some (gA d (32 * 0 + 0) (ix (368 + y6)))) else if p3 = 1 then gd (inb (512 + y6) (L (32 * 0 + 0))) (some (gA d (32 * 0 + 0) (ix (512 + y6)))) else if p3 = 2 then gd (inb (656 + y6) (L (32 * 0 + 0))) (some (gA d (32 * 0 + 0) (ix (656 + y6)))) else some (-1000002)))) else some (-1000001))
set_option maxRecDepth 20000 in
theorem c_X6_choice {l : Launch} {Y : Yx} (hL : LAY Y) {z : Sh} {d : Dt} {p1 : Int32} {p2 : Int32} {p3 : Int32} (ho : (0, 0, 5) ∈ yI Y) {r : Int32} (hf : t_X6_choice z.1 d p1 p2 p3 = some r) : MM l yX6_choice cX6_choice 5 (some .int) 2 46 Y z [.ref (yo Y 0), .int p1, .int p2, .int p3] d (some (.int r)) d := by
  refine MM.ofV (by decide +kernel) hL (Nat.le_of_ble_eq_true rfl) (fun K hl hC hr hQ hA => ?_)
  have hC : CK K Y cX6_choice 5 RX6 2 46 := hC
  have hkn : 0 ≤ (kR K).cells ∧ 0 ≤ (kR K).slots := ⟨Nat.zero_le _, Nat.zero_le _⟩
  unfold t_X6_choice at hf
  show V K Y 5 0 0 z d 0 [(0, .ref (yo Y 0)), (1, .int p1), (2, .int p2), (3, .int p3)] []
  refine V_aload_n 0 hC dX6_choice_0 rfl rfl ?_
  refine V_iload_n 1 hC dX6_choice_1 rfl rfl ?_
  obtain ⟨v1, ev1, hf⟩ := bi_some hf
  refine V_invi (o := 0) (As := [.int p1]) (rest := []) hC (c_X6_noPart hL ho ev1) me_X6_noPart lk_X6_152 ho rfl rfl rfl (Nat.le_of_ble_eq_true rfl) ⟨by decide, by decide⟩ hkn dX6_choice_2 ?_
  refine V_if_ne (tgt := 29) hC dX6_choice_5 (by decide) (fun c2 => ?_) (fun c2 => ?_)
  · have hf := if_f hf c2
    refine V_ldc hC ck_X6_156 dX6_choice_29 ?_
    obtain rfl := so_inj hf
    exact V_iret hC hr hQ hA dX6_choice_31
  · have hf := if_t hf c2
    refine V_iload_n 2 hC dX6_choice_8 rfl rfl ?_
    refine V_i2l hC dX6_choice_9 ?_
    refine V_lconst (v := 0) hC dX6_choice_10 rfl ?_
    refine V_aload_n 0 hC dX6_choice_11 rfl rfl ?_
    refine V_geta (o := 0) hC ho rfl fk_X6_7 dX6_choice_12 ?_
    refine V_bipush (v := 56) hC dX6_choice_15 rfl ?_
    refine V_iload_n 1 hC dX6_choice_17 rfl rfl ?_
    refine V_iadd hC dX6_choice_18 ?_
    obtain ⟨g3, hf⟩ := gd_some hf
    refine V_iald (a := (32 * 0 + 0)) hC (hL.row ho rfl) g3 dX6_choice_19 ?_
    refine V_iconst (v := 1) hC dX6_choice_20 rfl ?_
    refine V_isub hC dX6_choice_21 ?_
    refine V_i2l hC dX6_choice_22 ?_
    obtain ⟨v4, ev4, hf⟩ := bi_some hf
    refine V_insi (As := [.long (p2.toInt64), .long 0, .long (((gA d (32 * 0 + 0) (ix (56 + p1))) - 1 : Int32).toInt64)]) (rest := []) hC (c_X6_in hL  ev4) me_X6_in lk_X6_66 rfl rfl (Nat.le_of_ble_eq_true rfl) ⟨by decide, by decide⟩ hkn dX6_choice_23 ?_
    refine V_if_ne (tgt := 32) hC dX6_choice_26 (by decide) (fun c5 => ?_) (fun c5 => ?_)
    · have hf := if_f hf c5
      refine V_bipush (v := 6) hC dX6_choice_32 rfl ?_
      refine V_iload_n 1 hC dX6_choice_34 rfl rfl ?_
      refine V_imul hC dX6_choice_35 ?_
      refine V_iload_n 2 hC dX6_choice_36 rfl rfl ?_
      refine V_iadd hC dX6_choice_37 ?_
      refine V_topi (fun y6 ey6 => ?_)
      have hf := bd_e hf y6 ey6
      refine V_istore (lv' := [(4, .int y6), (0, .ref (yo Y 0)), (1, .int p1), (2, .int p2), (3, .int p3)]) hC dX6_choice_38 (by decide) rfl ?_
      refine V_iload_n 4 hC dX6_choice_40 rfl rfl ?_
      refine V_if_ne (tgt := 58) hC dX6_choice_41 (by decide) (fun c7 => ?_) (fun c7 => ?_)
      · have hf := if_f hf c7
        refine V_iload_n 4 hC dX6_choice_58 rfl rfl ?_
        refine V_iconst (v := 1) hC dX6_choice_59 rfl ?_
        refine V_icmp_ne (tgt := 77) hC dX6_choice_60 (by decide) (fun c8 => ?_) (fun c8 => ?_)
        · have hf := if_f hf c8
          refine V_iload_n 4 hC dX6_choice_77 rfl rfl ?_
          refine V_iconst (v := 2) hC dX6_choice_78 rfl ?_
          refine V_icmp_ne (tgt := 96) hC dX6_choice_79 (by decide) (fun c9 => ?_) (fun c9 => ?_)
          · have hf := if_f hf c9
            refine V_ldc hC ck_X6_70 dX6_choice_96 ?_
            obtain rfl := so_inj hf
            exact V_iret hC hr hQ hA dX6_choice_98
          · have hf := if_t hf c9
            refine V_aload_n 1 hC dX6_choice_82 rfl rfl ?_
            refine V_geta (o := 0) hC ho rfl fk_X6_7 dX6_choice_83 ?_
            refine V_sipush (v := 656) hC dX6_choice_86 rfl ?_
            refine V_iload 0 hC dX6_choice_89 rfl ?_
            refine V_iadd hC dX6_choice_91 ?_
            obtain ⟨g10, hf⟩ := gd_some hf
            refine V_iald (a := (32 * 0 + 0)) hC (hL.row ho rfl) g10 dX6_choice_92 ?_
            refine V_goto (tgt := 98) hC dX6_choice_93 (by decide) ?_
            obtain rfl := so_inj hf
            exact V_iret hC hr hQ hA dX6_choice_98
        · have hf := if_t hf c8
          refine V_aload_n 1 hC dX6_choice_63 rfl rfl ?_
          refine V_geta (o := 0) hC ho rfl fk_X6_7 dX6_choice_64 ?_
          refine V_sipush (v := 512) hC dX6_choice_67 rfl ?_
          refine V_iload 0 hC dX6_choice_70 rfl ?_
          refine V_iadd hC dX6_choice_72 ?_
          obtain ⟨g11, hf⟩ := gd_some hf
          refine V_iald (a := (32 * 0 + 0)) hC (hL.row ho rfl) g11 dX6_choice_73 ?_
          refine V_goto (tgt := 98) hC dX6_choice_74 (by decide) ?_
          obtain rfl := so_inj hf
          exact V_iret hC hr hQ hA dX6_choice_98
      · have hf := if_t hf c7
        refine V_aload_n 1 hC dX6_choice_44 rfl rfl ?_
        refine V_geta (o := 0) hC ho rfl fk_X6_7 dX6_choice_45 ?_
        refine V_sipush (v := 368) hC dX6_choice_48 rfl ?_
        refine V_iload 0 hC dX6_choice_51 rfl ?_
        refine V_iadd hC dX6_choice_53 ?_
        obtain ⟨g12, hf⟩ := gd_some hf
        refine V_iald (a := (32 * 0 + 0)) hC (hL.row ho rfl) g12 dX6_choice_54 ?_
        refine V_goto (tgt := 98) hC dX6_choice_55 (by decide) ?_
        obtain rfl := so_inj hf
        exact V_iret hC hr hQ hA dX6_choice_98
    · have hf := if_t hf c5
      refine V_ldc hC ck_X6_156 dX6_choice_29 ?_
      obtain rfl := so_inj hf
      exact V_iret hC hr hQ hA dX6_choice_31
def t_X6_noThing (L : Nat → Nat) (d : Dt) (p0 : Int32) : Option (Int32) := if p0 = (-1) then some 0 else (t_X6_in L d (p0.toInt64) 0 7).bind (fun v2 => if v2 = 0 then some 1 else some 0)
set_option maxRecDepth 20000 in
theorem c_X6_noThing {l : Launch} {Y : Yx} (hL : LAY Y) {z : Sh} {d : Dt} {p0 : Int32}  {r : Int32} (hf : t_X6_noThing z.1 d p0 = some r) : MM l yX6_noThing cX6_noThing 1 (some .boolean) 1 25 Y z [.int p0] d (some (.int r)) d := by
  refine MM.ofV (by decide +kernel) hL (Nat.le_of_ble_eq_true rfl) (fun K hl hC hr hQ hA => ?_)
  have hC : CK K Y cX6_noThing 1 RX6 1 25 := hC
  have hkn : 0 ≤ (kR K).cells ∧ 0 ≤ (kR K).slots := ⟨Nat.zero_le _, Nat.zero_le _⟩
  unfold t_X6_noThing at hf
  show V K Y 1 0 0 z d 0 [(0, .int p0)] []
  refine V_iload_n 0 hC dX6_noThing_0 rfl rfl ?_
  refine V_iconst (v := -1) hC dX6_noThing_1 rfl ?_
  refine V_icmp_eq (tgt := 21) hC dX6_noThing_2 (by decide) (fun c1 => ?_) (fun c1 => ?_)
  · have hf := if_t hf c1
    refine V_iconst (v := 0) hC dX6_noThing_21 rfl ?_
    obtain rfl := so_inj hf
    exact V_zret hC hr rfl hQ hA dX6_noThing_22
  · have hf := if_f hf c1
    refine V_iload_n 0 hC dX6_noThing_5 rfl rfl ?_
    refine V_i2l hC dX6_noThing_6 ?_
    refine V_lconst (v := 0) hC dX6_noThing_7 rfl ?_
    refine V_ldc2 hC cl_X6_161 dX6_noThing_8 ?_
    obtain ⟨v2, ev2, hf⟩ := bi_some hf
    refine V_insi (As := [.long (p0.toInt64), .long 0, .long 7]) (rest := []) hC (c_X6_in hL  ev2) me_X6_in lk_X6_66 rfl rfl (Nat.le_of_ble_eq_true rfl) ⟨by decide, by decide⟩ hkn dX6_noThing_11 ?_
    refine V_if_ne (tgt := 21) hC dX6_noThing_14 (by decide) (fun c3 => ?_) (fun c3 => ?_)
    · have hf := if_f hf c3
      refine V_iconst (v := 0) hC dX6_noThing_21 rfl ?_
      obtain rfl := so_inj hf
      exact V_zret hC hr rfl hQ hA dX6_noThing_22
    · have hf := if_t hf c3
      refine V_iconst (v := 1) hC dX6_noThing_17 rfl ?_
      refine V_goto (tgt := 22) hC dX6_noThing_18 (by decide) ?_
      obtain rfl := so_inj hf
      exact V_zret hC hr rfl hQ hA dX6_noThing_22
def t_X6_link (L : Nat → Nat) (d : Dt) (p1 : Int32) (p2 : Int32) (p3 : Int32) (p4 : Int32) : Option (Int32 × Dt) := (t_X6_noPart L d p1).bind (fun v1 => if v1 = 0 then (t_X6_noPart L d p2).bind (fun v3 => if v3 = 0 then (t_X6_noThing L d p3).bind (fun v5 => if v5 = 0 then (t_X6_noThing L d p4).bind (fun v7 => if v7 = 0 then gd (inb (8 + p1) (L (32 * 0 + 0))) (if (gA d (32 * 0 + 0) (ix (8 + p1))) = 0 then gd (inb (56 + p1) (L (32 * 0 + 0))) (bd (gA d (32 * 0 + 0) (ix (56 + p1))) (fun y12 => if y12 = 6 then some ((-1000004), d) else bd ((6 * p1) + y12) (fun y14 => gd (inb (368 + y14) (L (32 * 0 + 0))) (bd (sA d (32 * 0 + 0) (ix (368 + y14)) p2) (fun d16 => gd (inb (512 + y14) (L (32 * 0 + 0))) (bd (sA d16 (32 * 0 + 0) (ix (512 + y14)) p3) (fun d18 => gd (inb (656 + y14) (L (32 * 0 + 0))) (bd (sA d18 (32 * 0 + 0) (ix (656 + y14)) p4) (fun d20 => gd (inb (56 + p1) (L (32 * 0 + 0))) (bd (sA d20 (32 * 0 + 0) (ix (56 + p1)) (y12 + 1)) (fun d22 => some (y12 + 1, d22)))))))))))) else some ((-1000003), d)) else some ((-1000001), d)) else some ((-1000001), d)) else some ((-1000001), d)) else some ((-1000001), d))
set_option maxRecDepth 20000 in
theorem c_X6_link {l : Launch} {Y : Yx} (hL : LAY Y) {z : Sh} {d : Dt} {p1 : Int32} {p2 : Int32} {p3 : Int32} {p4 : Int32} (ho : (0, 0, 5) ∈ yI Y) {r : Int32} {d' : Dt} (hf : t_X6_link z.1 d p1 p2 p3 p4 = some (r, d')) : MM l yX6_link cX6_link 7 (some .int) 2 46 Y z [.ref (yo Y 0), .int p1, .int p2, .int p3, .int p4] d (some (.int r)) d' := by
  refine MM.ofV (by decide +kernel) hL (Nat.le_of_ble_eq_true rfl) (fun K hl hC hr hQ hA => ?_)
  have hC : CK K Y cX6_link 7 RX6 2 46 := hC
  have hkn : 0 ≤ (kR K).cells ∧ 0 ≤ (kR K).slots := ⟨Nat.zero_le _, Nat.zero_le _⟩
  unfold t_X6_link at hf
  show V K Y 7 0 0 z d 0 [(0, .ref (yo Y 0)), (1, .int p1), (2, .int p2), (3, .int p3), (4, .int p4)] []
  refine V_aload_n 0 hC dX6_link_0 rfl rfl ?_
  refine V_iload_n 1 hC dX6_link_1 rfl rfl ?_
  obtain ⟨v1, ev1, hf⟩ := bi_some hf
  refine V_invi (o := 0) (As := [.int p1]) (rest := []) hC (c_X6_noPart hL ho ev1) me_X6_noPart lk_X6_152 ho rfl rfl rfl (Nat.le_of_ble_eq_true rfl) ⟨by decide, by decide⟩ hkn dX6_link_2 ?_
  refine V_if_ne (tgt := 31) hC dX6_link_5 (by decide) (fun c2 => ?_) (fun c2 => ?_)
  · have hf := if_f hf c2
    refine V_ldc hC ck_X6_156 dX6_link_31 ?_
    obtain ⟨rfl, rfl⟩ := so_inj2 hf
    exact V_iret hC hr hQ hA dX6_link_33
  · have hf := if_t hf c2
    refine V_aload_n 0 hC dX6_link_8 rfl rfl ?_
    refine V_iload_n 2 hC dX6_link_9 rfl rfl ?_
    obtain ⟨v3, ev3, hf⟩ := bi_some hf
    refine V_invi (o := 0) (As := [.int p2]) (rest := []) hC (c_X6_noPart hL ho ev3) me_X6_noPart lk_X6_152 ho rfl rfl rfl (Nat.le_of_ble_eq_true rfl) ⟨by decide, by decide⟩ hkn dX6_link_10 ?_
    refine V_if_ne (tgt := 31) hC dX6_link_13 (by decide) (fun c4 => ?_) (fun c4 => ?_)
    · have hf := if_f hf c4
      refine V_ldc hC ck_X6_156 dX6_link_31 ?_
      obtain ⟨rfl, rfl⟩ := so_inj2 hf
      exact V_iret hC hr hQ hA dX6_link_33
    · have hf := if_t hf c4
      refine V_iload_n 3 hC dX6_link_16 rfl rfl ?_
      obtain ⟨v5, ev5, hf⟩ := bi_some hf
      refine V_insi (As := [.int p3]) (rest := []) hC (c_X6_noThing hL  ev5) me_X6_noThing lk_X6_163 rfl rfl (Nat.le_of_ble_eq_true rfl) ⟨by decide, by decide⟩ hkn dX6_link_17 ?_
      refine V_if_ne (tgt := 31) hC dX6_link_20 (by decide) (fun c6 => ?_) (fun c6 => ?_)
      · have hf := if_f hf c6
        refine V_ldc hC ck_X6_156 dX6_link_31 ?_
        obtain ⟨rfl, rfl⟩ := so_inj2 hf
        exact V_iret hC hr hQ hA dX6_link_33
      · have hf := if_t hf c6
        refine V_iload 4 hC dX6_link_23 rfl ?_
        obtain ⟨v7, ev7, hf⟩ := bi_some hf
        refine V_insi (As := [.int p4]) (rest := []) hC (c_X6_noThing hL  ev7) me_X6_noThing lk_X6_163 rfl rfl (Nat.le_of_ble_eq_true rfl) ⟨by decide, by decide⟩ hkn dX6_link_25 ?_
        refine V_if_eq (tgt := 34) hC dX6_link_28 (by decide) (fun c8 => ?_) (fun c8 => ?_)
        · have hf := if_t hf c8
          refine V_aload_n 0 hC dX6_link_34 rfl rfl ?_
          refine V_geta (o := 0) hC ho rfl fk_X6_7 dX6_link_35 ?_
          refine V_bipush (v := 8) hC dX6_link_38 rfl ?_
          refine V_iload_n 1 hC dX6_link_40 rfl rfl ?_
          refine V_iadd hC dX6_link_41 ?_
          obtain ⟨g9, hf⟩ := gd_some hf
          refine V_iald (a := (32 * 0 + 0)) hC (hL.row ho rfl) g9 dX6_link_42 ?_
          refine V_if_eq (tgt := 49) hC dX6_link_43 (by decide) (fun c10 => ?_) (fun c10 => ?_)
          · have hf := if_t hf c10
            refine V_aload_n 0 hC dX6_link_49 rfl rfl ?_
            refine V_geta (o := 0) hC ho rfl fk_X6_7 dX6_link_50 ?_
            refine V_bipush (v := 56) hC dX6_link_53 rfl ?_
            refine V_iload_n 1 hC dX6_link_55 rfl rfl ?_
            refine V_iadd hC dX6_link_56 ?_
            obtain ⟨g11, hf⟩ := gd_some hf
            refine V_iald (a := (32 * 0 + 0)) hC (hL.row ho rfl) g11 dX6_link_57 ?_
            refine V_topi (fun y12 ey12 => ?_)
            have hf := bd_e hf y12 ey12
            refine V_istore (lv' := [(5, .int y12), (0, .ref (yo Y 0)), (1, .int p1), (2, .int p2), (3, .int p3), (4, .int p4)]) hC dX6_link_58 (by decide) rfl ?_
            refine V_iload 0 hC dX6_link_60 rfl ?_
            refine V_bipush (v := 6) hC dX6_link_62 rfl ?_
            refine V_icmp_ne (tgt := 70) hC dX6_link_64 (by decide) (fun c13 => ?_) (fun c13 => ?_)
            · have hf := if_f hf c13
              refine V_bipush (v := 6) hC dX6_link_70 rfl ?_
              refine V_iload_n 2 hC dX6_link_72 rfl rfl ?_
              refine V_imul hC dX6_link_73 ?_
              refine V_iload 0 hC dX6_link_74 rfl ?_
              refine V_iadd hC dX6_link_76 ?_
              refine V_topi (fun y14 ey14 => ?_)
              have hf := bd_e hf y14 ey14
              refine V_istore (lv' := [(6, .int y14), (5, .int y12), (0, .ref (yo Y 0)), (1, .int p1), (2, .int p2), (3, .int p3), (4, .int p4)]) hC dX6_link_77 (by decide) rfl ?_
              refine V_aload_n 2 hC dX6_link_79 rfl rfl ?_
              refine V_geta (o := 0) hC ho rfl fk_X6_7 dX6_link_80 ?_
              refine V_sipush (v := 368) hC dX6_link_83 rfl ?_
              refine V_iload 0 hC dX6_link_86 rfl ?_
              refine V_iadd hC dX6_link_88 ?_
              refine V_iload_n 4 hC dX6_link_89 rfl rfl ?_
              obtain ⟨g15, hf⟩ := gd_some hf
              refine V_iast (a := (32 * 0 + 0)) hC (hL.row ho rfl) g15 dX6_link_90 (fun d16 ed16 => ?_)
              have hf := bd_e hf d16 ed16
              refine V_aload_n 2 hC dX6_link_91 rfl rfl ?_
              refine V_geta (o := 0) hC ho rfl fk_X6_7 dX6_link_92 ?_
              refine V_sipush (v := 512) hC dX6_link_95 rfl ?_
              refine V_iload 0 hC dX6_link_98 rfl ?_
              refine V_iadd hC dX6_link_100 ?_
              refine V_iload_n 5 hC dX6_link_101 rfl rfl ?_
              obtain ⟨g17, hf⟩ := gd_some hf
              refine V_iast (a := (32 * 0 + 0)) hC (hL.row ho rfl) g17 dX6_link_102 (fun d18 ed18 => ?_)
              have hf := bd_e hf d18 ed18
              refine V_aload_n 2 hC dX6_link_103 rfl rfl ?_
              refine V_geta (o := 0) hC ho rfl fk_X6_7 dX6_link_104 ?_
              refine V_sipush (v := 656) hC dX6_link_107 rfl ?_
              refine V_iload 0 hC dX6_link_110 rfl ?_
              refine V_iadd hC dX6_link_112 ?_
              refine V_iload 6 hC dX6_link_113 rfl ?_
              obtain ⟨g19, hf⟩ := gd_some hf
              refine V_iast (a := (32 * 0 + 0)) hC (hL.row ho rfl) g19 dX6_link_115 (fun d20 ed20 => ?_)
              have hf := bd_e hf d20 ed20
              refine V_aload_n 2 hC dX6_link_116 rfl rfl ?_
              refine V_geta (o := 0) hC ho rfl fk_X6_7 dX6_link_117 ?_
              refine V_bipush (v := 56) hC dX6_link_120 rfl ?_
              refine V_iload_n 3 hC dX6_link_122 rfl rfl ?_
              refine V_iadd hC dX6_link_123 ?_
              refine V_iload 1 hC dX6_link_124 rfl ?_
              refine V_iconst (v := 1) hC dX6_link_126 rfl ?_
              refine V_iadd hC dX6_link_127 ?_
              obtain ⟨g21, hf⟩ := gd_some hf
              refine V_iast (a := (32 * 0 + 0)) hC (hL.row ho rfl) g21 dX6_link_128 (fun d22 ed22 => ?_)
              have hf := bd_e hf d22 ed22
              refine V_iload 1 hC dX6_link_129 rfl ?_
              refine V_iconst (v := 1) hC dX6_link_131 rfl ?_
              refine V_iadd hC dX6_link_132 ?_
              obtain ⟨rfl, rfl⟩ := so_inj2 hf
              exact V_iret hC hr hQ hA dX6_link_133
            · have hf := if_t hf c13
              refine V_ldc hC ck_X6_74 dX6_link_67 ?_
              obtain ⟨rfl, rfl⟩ := so_inj2 hf
              exact V_iret hC hr hQ hA dX6_link_69
          · have hf := if_f hf c10
            refine V_ldc hC ck_X6_166 dX6_link_46 ?_
            obtain ⟨rfl, rfl⟩ := so_inj2 hf
            exact V_iret hC hr hQ hA dX6_link_48
        · have hf := if_f hf c8
          refine V_ldc hC ck_X6_156 dX6_link_31 ?_
          obtain ⟨rfl, rfl⟩ := so_inj2 hf
          exact V_iret hC hr hQ hA dX6_link_33
def t_X6_unlink_39 (L : Nat → Nat) (p1 : Int32) (p2 : Int32) (k39 : Int32 → (Dt) → Option (Int32 × Dt)) (x3 : Int32) (d : Dt) : Option (Int32 × Dt) := gd (inb (56 + p1) (L (32 * 0 + 0))) (if ((6 * p1) + (gA d (32 * 0 + 0) (ix (56 + p1)))) ≤ (x3 + 1) then gd (inb (56 + p1) (L (32 * 0 + 0))) (gd (inb (56 + p1) (L (32 * 0 + 0))) (bd (sA d (32 * 0 + 0) (ix (56 + p1)) ((gA d (32 * 0 + 0) (ix (56 + p1))) - 1)) (fun d11 => gd (inb (56 + p1) (L (32 * 0 + 0))) (some (gA d11 (32 * 0 + 0) (ix (56 + p1)), d11))))) else gd (inb ((368 + x3) + 1) (L (32 * 0 + 0))) (gd (inb (368 + x3) (L (32 * 0 + 0))) (bd (sA d (32 * 0 + 0) (ix (368 + x3)) (gA d (32 * 0 + 0) (ix ((368 + x3) + 1)))) (fun d15 => gd (inb ((512 + x3) + 1) (L (32 * 0 + 0))) (gd (inb (512 + x3) (L (32 * 0 + 0))) (bd (sA d15 (32 * 0 + 0) (ix (512 + x3)) (gA d15 (32 * 0 + 0) (ix ((512 + x3) + 1)))) (fun d18 => gd (inb ((656 + x3) + 1) (L (32 * 0 + 0))) (gd (inb (656 + x3) (L (32 * 0 + 0))) (bd (sA d18 (32 * 0 + 0) (ix (656 + x3)) (gA d18 (32 * 0 + 0) (ix ((656 + x3) + 1)))) (fun d21 => k39 (x3 + 1) d21))))))))))
set_option maxRecDepth 20000 in
theorem b_X6_unlink_39 {K : Kx} {Y : Yx} {z : Sh}  (hC : CK K Y cX6_unlink 4 RX6 2 46) (hr : (kme K).sig.returnType = some .int) (hA : kA K = aY Y z) {p1 : Int32} {p2 : Int32} (ho : (0, 0, 5) ∈ yI Y) {r : Int32} {d' : Dt} (hQ : kQ K = MQ (kb K) (QM Y z (some (.int r)) d') (ka K) (ks K) 0 0 (aY Y z)) {k39 : Int32 → (Dt) → Option (Int32 × Dt)} (hk39 : ∀ (x3 : Int32) (d : Dt), k39 x3 d = some (r, d') → V K Y 4 0 0 z d 39 [(0, .ref (yo Y 0)), (1, .int p1), (3, .int x3)] []) (x3 : Int32) (d : Dt) (hf : t_X6_unlink_39 z.1 p1 p2 k39 x3 d = some (r, d')) : V K Y 4 0 0 z d 39 [(0, .ref (yo Y 0)), (1, .int p1), (3, .int x3)] [] := by
  have hL := hC.2.2.2.2.2.2.1
  unfold t_X6_unlink_39 at hf
  refine V_iload_n 2 hC dX6_unlink_39 rfl rfl ?_
  refine V_iconst (v := 1) hC dX6_unlink_40 rfl ?_
  refine V_iadd hC dX6_unlink_41 ?_
  refine V_bipush (v := 6) hC dX6_unlink_42 rfl ?_
  refine V_iload_n 1 hC dX6_unlink_44 rfl rfl ?_
  refine V_imul hC dX6_unlink_45 ?_
  refine V_aload_n 0 hC dX6_unlink_46 rfl rfl ?_
  refine V_geta (o := 0) hC ho rfl fk_X6_7 dX6_unlink_47 ?_
  refine V_bipush (v := 56) hC dX6_unlink_50 rfl ?_
  refine V_iload_n 1 hC dX6_unlink_52 rfl rfl ?_
  refine V_iadd hC dX6_unlink_53 ?_
  obtain ⟨g7, hf⟩ := gd_some hf
  refine V_iald (a := (32 * 0 + 0)) hC (hL.row ho rfl) g7 dX6_unlink_54 ?_
  refine V_iadd hC dX6_unlink_55 ?_
  refine V_icmp_ge (tgt := 131) hC dX6_unlink_56 (by decide) (fun c8 => ?_) (fun c8 => ?_)
  · have hf := if_t hf c8
    refine V_aload_n 0 hC dX6_unlink_131 rfl rfl ?_
    refine V_geta (o := 0) hC ho rfl fk_X6_7 dX6_unlink_132 ?_
    refine V_bipush (v := 56) hC dX6_unlink_135 rfl ?_
    refine V_iload_n 1 hC dX6_unlink_137 rfl rfl ?_
    refine V_iadd hC dX6_unlink_138 ?_
    refine V_dup2 hC dX6_unlink_139 rfl rfl ?_
    obtain ⟨g9, hf⟩ := gd_some hf
    refine V_iald (a := (32 * 0 + 0)) hC (hL.row ho rfl) g9 dX6_unlink_140 ?_
    refine V_iconst (v := 1) hC dX6_unlink_141 rfl ?_
    refine V_isub hC dX6_unlink_142 ?_
    obtain ⟨g10, hf⟩ := gd_some hf
    refine V_iast (a := (32 * 0 + 0)) hC (hL.row ho rfl) g10 dX6_unlink_143 (fun d11 ed11 => ?_)
    have hf := bd_e hf d11 ed11
    refine V_aload_n 0 hC dX6_unlink_144 rfl rfl ?_
    refine V_geta (o := 0) hC ho rfl fk_X6_7 dX6_unlink_145 ?_
    refine V_bipush (v := 56) hC dX6_unlink_148 rfl ?_
    refine V_iload_n 1 hC dX6_unlink_150 rfl rfl ?_
    refine V_iadd hC dX6_unlink_151 ?_
    obtain ⟨g12, hf⟩ := gd_some hf
    refine V_iald (a := (32 * 0 + 0)) hC (hL.row ho rfl) g12 dX6_unlink_152 ?_
    obtain ⟨rfl, rfl⟩ := so_inj2 hf
    exact V_iret hC hr hQ hA dX6_unlink_153
  · have hf := if_f hf c8
    refine V_aload_n 0 hC dX6_unlink_59 rfl rfl ?_
    refine V_geta (o := 0) hC ho rfl fk_X6_7 dX6_unlink_60 ?_
    refine V_sipush (v := 368) hC dX6_unlink_63 rfl ?_
    refine V_iload_n 2 hC dX6_unlink_66 rfl rfl ?_
    refine V_iadd hC dX6_unlink_67 ?_
    refine V_aload_n 0 hC dX6_unlink_68 rfl rfl ?_
    refine V_geta (o := 0) hC ho rfl fk_X6_7 dX6_unlink_69 ?_
    refine V_sipush (v := 368) hC dX6_unlink_72 rfl ?_
    refine V_iload_n 2 hC dX6_unlink_75 rfl rfl ?_
    refine V_iadd hC dX6_unlink_76 ?_
    refine V_iconst (v := 1) hC dX6_unlink_77 rfl ?_
    refine V_iadd hC dX6_unlink_78 ?_
    obtain ⟨g13, hf⟩ := gd_some hf
    refine V_iald (a := (32 * 0 + 0)) hC (hL.row ho rfl) g13 dX6_unlink_79 ?_
    obtain ⟨g14, hf⟩ := gd_some hf
    refine V_iast (a := (32 * 0 + 0)) hC (hL.row ho rfl) g14 dX6_unlink_80 (fun d15 ed15 => ?_)
    have hf := bd_e hf d15 ed15
    refine V_aload_n 0 hC dX6_unlink_81 rfl rfl ?_
    refine V_geta (o := 0) hC ho rfl fk_X6_7 dX6_unlink_82 ?_
    refine V_sipush (v := 512) hC dX6_unlink_85 rfl ?_
    refine V_iload_n 2 hC dX6_unlink_88 rfl rfl ?_
    refine V_iadd hC dX6_unlink_89 ?_
    refine V_aload_n 0 hC dX6_unlink_90 rfl rfl ?_
    refine V_geta (o := 0) hC ho rfl fk_X6_7 dX6_unlink_91 ?_
    refine V_sipush (v := 512) hC dX6_unlink_94 rfl ?_
    refine V_iload_n 2 hC dX6_unlink_97 rfl rfl ?_
    refine V_iadd hC dX6_unlink_98 ?_
    refine V_iconst (v := 1) hC dX6_unlink_99 rfl ?_
    refine V_iadd hC dX6_unlink_100 ?_
    obtain ⟨g16, hf⟩ := gd_some hf
    refine V_iald (a := (32 * 0 + 0)) hC (hL.row ho rfl) g16 dX6_unlink_101 ?_
    obtain ⟨g17, hf⟩ := gd_some hf
    refine V_iast (a := (32 * 0 + 0)) hC (hL.row ho rfl) g17 dX6_unlink_102 (fun d18 ed18 => ?_)
    have hf := bd_e hf d18 ed18
    refine V_aload_n 0 hC dX6_unlink_103 rfl rfl ?_
    refine V_geta (o := 0) hC ho rfl fk_X6_7 dX6_unlink_104 ?_
    refine V_sipush (v := 656) hC dX6_unlink_107 rfl ?_
    refine V_iload_n 2 hC dX6_unlink_110 rfl rfl ?_
    refine V_iadd hC dX6_unlink_111 ?_
    refine V_aload_n 0 hC dX6_unlink_112 rfl rfl ?_
    refine V_geta (o := 0) hC ho rfl fk_X6_7 dX6_unlink_113 ?_
    refine V_sipush (v := 656) hC dX6_unlink_116 rfl ?_
    refine V_iload_n 2 hC dX6_unlink_119 rfl rfl ?_
    refine V_iadd hC dX6_unlink_120 ?_
    refine V_iconst (v := 1) hC dX6_unlink_121 rfl ?_
    refine V_iadd hC dX6_unlink_122 ?_
    obtain ⟨g19, hf⟩ := gd_some hf
    refine V_iald (a := (32 * 0 + 0)) hC (hL.row ho rfl) g19 dX6_unlink_123 ?_
    obtain ⟨g20, hf⟩ := gd_some hf
    refine V_iast (a := (32 * 0 + 0)) hC (hL.row ho rfl) g20 dX6_unlink_124 (fun d21 ed21 => ?_)
    have hf := bd_e hf d21 ed21
    refine V_iinc (v := x3 + 1) (lv' := [(3, .int (x3 + 1)), (0, .ref (yo Y 0)), (1, .int p1)]) 2 hC dX6_unlink_125 rfl rfl (by decide) rfl ?_
    refine V_goto (tgt := 39) hC dX6_unlink_128 (by decide) ?_
    exact V_sub [1, 2, 0] rfl (hk39 (x3 + 1) d21 hf)
def t_X6_unlink (L : Nat → Nat) (d : Dt) (p1 : Int32) (p2 : Int32) : Option (Int32 × Dt) := (t_X6_noPart L d p1).bind (fun v1 => if v1 = 0 then gd (inb (56 + p1) (L (32 * 0 + 0))) ((t_X6_in L d (p2.toInt64) 0 (((gA d (32 * 0 + 0) (ix (56 + p1))) - 1 : Int32).toInt64)).bind (fun v4 => if v4 = 0 then some ((-1000001), d) else bd ((6 * p1) + p2) (fun y6 => lp (fun k x => t_X6_unlink_39 L p1 p2  (fun x3 d => k (x3, d)) x.1 x.2) FU (y6, d)))) else some ((-1000001), d))
set_option maxRecDepth 20000 in
theorem c_X6_unlink {l : Launch} {Y : Yx} (hL : LAY Y) {z : Sh} {d : Dt} {p1 : Int32} {p2 : Int32} (ho : (0, 0, 5) ∈ yI Y) {r : Int32} {d' : Dt} (hf : t_X6_unlink z.1 d p1 p2 = some (r, d')) : MM l yX6_unlink cX6_unlink 4 (some .int) 2 46 Y z [.ref (yo Y 0), .int p1, .int p2] d (some (.int r)) d' := by
  refine MM.ofV (by decide +kernel) hL (Nat.le_of_ble_eq_true rfl) (fun K hl hC hr hQ hA => ?_)
  have hC : CK K Y cX6_unlink 4 RX6 2 46 := hC
  have hkn : 0 ≤ (kR K).cells ∧ 0 ≤ (kR K).slots := ⟨Nat.zero_le _, Nat.zero_le _⟩
  unfold t_X6_unlink at hf
  show V K Y 4 0 0 z d 0 [(0, .ref (yo Y 0)), (1, .int p1), (2, .int p2)] []
  refine V_aload_n 0 hC dX6_unlink_0 rfl rfl ?_
  refine V_iload_n 1 hC dX6_unlink_1 rfl rfl ?_
  obtain ⟨v1, ev1, hf⟩ := bi_some hf
  refine V_invi (o := 0) (As := [.int p1]) (rest := []) hC (c_X6_noPart hL ho ev1) me_X6_noPart lk_X6_152 ho rfl rfl rfl (Nat.le_of_ble_eq_true rfl) ⟨by decide, by decide⟩ hkn dX6_unlink_2 ?_
  refine V_if_ne (tgt := 29) hC dX6_unlink_5 (by decide) (fun c2 => ?_) (fun c2 => ?_)
  · have hf := if_f hf c2
    refine V_ldc hC ck_X6_156 dX6_unlink_29 ?_
    obtain ⟨rfl, rfl⟩ := so_inj2 hf
    exact V_iret hC hr hQ hA dX6_unlink_31
  · have hf := if_t hf c2
    refine V_iload_n 2 hC dX6_unlink_8 rfl rfl ?_
    refine V_i2l hC dX6_unlink_9 ?_
    refine V_lconst (v := 0) hC dX6_unlink_10 rfl ?_
    refine V_aload_n 0 hC dX6_unlink_11 rfl rfl ?_
    refine V_geta (o := 0) hC ho rfl fk_X6_7 dX6_unlink_12 ?_
    refine V_bipush (v := 56) hC dX6_unlink_15 rfl ?_
    refine V_iload_n 1 hC dX6_unlink_17 rfl rfl ?_
    refine V_iadd hC dX6_unlink_18 ?_
    obtain ⟨g3, hf⟩ := gd_some hf
    refine V_iald (a := (32 * 0 + 0)) hC (hL.row ho rfl) g3 dX6_unlink_19 ?_
    refine V_iconst (v := 1) hC dX6_unlink_20 rfl ?_
    refine V_isub hC dX6_unlink_21 ?_
    refine V_i2l hC dX6_unlink_22 ?_
    obtain ⟨v4, ev4, hf⟩ := bi_some hf
    refine V_insi (As := [.long (p2.toInt64), .long 0, .long (((gA d (32 * 0 + 0) (ix (56 + p1))) - 1 : Int32).toInt64)]) (rest := []) hC (c_X6_in hL  ev4) me_X6_in lk_X6_66 rfl rfl (Nat.le_of_ble_eq_true rfl) ⟨by decide, by decide⟩ hkn dX6_unlink_23 ?_
    refine V_if_ne (tgt := 32) hC dX6_unlink_26 (by decide) (fun c5 => ?_) (fun c5 => ?_)
    · have hf := if_f hf c5
      refine V_bipush (v := 6) hC dX6_unlink_32 rfl ?_
      refine V_iload_n 1 hC dX6_unlink_34 rfl rfl ?_
      refine V_imul hC dX6_unlink_35 ?_
      refine V_iload_n 2 hC dX6_unlink_36 rfl rfl ?_
      refine V_iadd hC dX6_unlink_37 ?_
      refine V_topi (fun y6 ey6 => ?_)
      have hf := bd_e hf y6 ey6
      refine V_istore_n (lv' := [(3, .int y6), (0, .ref (yo Y 0)), (1, .int p1), (2, .int p2)]) hC dX6_unlink_38 rfl (by decide) rfl ?_
      exact V_sub [1, 2, 0] rfl (lp_ind (X := Int32 × Dt) (P := fun x => V K Y 4 0 0 z x.2 39 [(0, .ref (yo Y 0)), (1, .int p1), (3, .int x.1)] []) (fun k x hk hx => b_X6_unlink_39 hC hr hA ho hQ  (k39 := fun x3 d => k (x3, d)) (fun x3 d hx => hk (x3, d) hx) x.1 x.2 hx) FU (y6, d) hf)
    · have hf := if_t hf c5
      refine V_ldc hC ck_X6_156 dX6_unlink_29 ?_
      obtain ⟨rfl, rfl⟩ := so_inj2 hf
      exact V_iret hC hr hQ hA dX6_unlink_31
def t_X6_choices_4 (L : Nat → Nat) (d : Dt) (k4 : Int32 → Int32 → Option (Int32)) (x1 : Int32) (x2 : Int32)  : Option (Int32) := gd (inb 0 (L (32 * 0 + 0))) (if (gA d (32 * 0 + 0) (ix 0)) ≤ x2 then some x1 else gd (inb (56 + x2) (L (32 * 0 + 0))) (bd (x1 + (gA d (32 * 0 + 0) (ix (56 + x2)))) (fun y4 => k4 y4 (x2 + 1))))
set_option maxRecDepth 20000 in
theorem b_X6_choices_4 {K : Kx} {Y : Yx} {z : Sh} {d : Dt} (hC : CK K Y cX6_choices 3 RX6 0 0) (hr : (kme K).sig.returnType = some .int) (hA : kA K = aY Y z)  (ho : (0, 0, 5) ∈ yI Y) {r : Int32} (hQ : kQ K = MQ (kb K) (QM Y z (some (.int r)) d) (ka K) (ks K) 0 0 (aY Y z)) {k4 : Int32 → Int32 → Option (Int32)} (hk4 : ∀ (x1 : Int32) (x2 : Int32) , k4 x1 x2  = some r → V K Y 3 0 0 z d 4 [(0, .ref (yo Y 0)), (1, .int x1), (2, .int x2)] []) (x1 : Int32) (x2 : Int32)  (hf : t_X6_choices_4 z.1 d k4 x1 x2  = some r) : V K Y 3 0 0 z d 4 [(0, .ref (yo Y 0)), (1, .int x1), (2, .int x2)] [] := by
  have hL := hC.2.2.2.2.2.2.1
  unfold t_X6_choices_4 at hf
  refine V_iload_n 2 hC dX6_choices_4 rfl rfl ?_
  refine V_aload_n 0 hC dX6_choices_5 rfl rfl ?_
  refine V_geta (o := 0) hC ho rfl fk_X6_7 dX6_choices_6 ?_
  refine V_iconst (v := 0) hC dX6_choices_9 rfl ?_
  obtain ⟨g1, hf⟩ := gd_some hf
  refine V_iald (a := (32 * 0 + 0)) hC (hL.row ho rfl) g1 dX6_choices_10 ?_
  refine V_icmp_ge (tgt := 32) hC dX6_choices_11 (by decide) (fun c2 => ?_) (fun c2 => ?_)
  · have hf := if_t hf c2
    refine V_iload_n 1 hC dX6_choices_32 rfl rfl ?_
    obtain rfl := so_inj hf
    exact V_iret hC hr hQ hA dX6_choices_33
  · have hf := if_f hf c2
    refine V_iload_n 1 hC dX6_choices_14 rfl rfl ?_
    refine V_aload_n 0 hC dX6_choices_15 rfl rfl ?_
    refine V_geta (o := 0) hC ho rfl fk_X6_7 dX6_choices_16 ?_
    refine V_bipush (v := 56) hC dX6_choices_19 rfl ?_
    refine V_iload_n 2 hC dX6_choices_21 rfl rfl ?_
    refine V_iadd hC dX6_choices_22 ?_
    obtain ⟨g3, hf⟩ := gd_some hf
    refine V_iald (a := (32 * 0 + 0)) hC (hL.row ho rfl) g3 dX6_choices_23 ?_
    refine V_iadd hC dX6_choices_24 ?_
    refine V_topi (fun y4 ey4 => ?_)
    have hf := bd_e hf y4 ey4
    refine V_istore_n (lv' := [(1, .int y4), (0, .ref (yo Y 0)), (2, .int x2)]) hC dX6_choices_25 rfl (by decide) rfl ?_
    refine V_iinc (v := x2 + 1) (lv' := [(2, .int (x2 + 1)), (1, .int y4), (0, .ref (yo Y 0))]) 2 hC dX6_choices_26 rfl rfl (by decide) rfl ?_
    refine V_goto (tgt := 4) hC dX6_choices_29 (by decide) ?_
    exact V_sub [2, 1, 0] rfl (hk4 y4 (x2 + 1) hf)
def t_X6_choices (L : Nat → Nat) (d : Dt)  : Option (Int32) := lp (fun k x => t_X6_choices_4 L d  (fun x1 x2 => k (x1, x2)) x.1 x.2) FU (0, 0)
set_option maxRecDepth 20000 in
theorem c_X6_choices {l : Launch} {Y : Yx} (hL : LAY Y) {z : Sh} {d : Dt}  (ho : (0, 0, 5) ∈ yI Y) {r : Int32} (hf : t_X6_choices z.1 d  = some r) : MM l yX6_choices cX6_choices 3 (some .int) 0 0 Y z [.ref (yo Y 0)] d (some (.int r)) d := by
  refine MM.ofV (by decide +kernel) hL (Nat.le_of_ble_eq_true rfl) (fun K hl hC hr hQ hA => ?_)
  have hC : CK K Y cX6_choices 3 RX6 0 0 := hC
  unfold t_X6_choices at hf
  show V K Y 3 0 0 z d 0 [(0, .ref (yo Y 0))] []
  refine V_iconst (v := 0) hC dX6_choices_0 rfl ?_
  refine V_istore_n (lv' := [(1, .int 0), (0, .ref (yo Y 0))]) hC dX6_choices_1 rfl (by decide) rfl ?_
  refine V_iconst (v := 0) hC dX6_choices_2 rfl ?_
  refine V_istore_n (lv' := [(2, .int 0), (1, .int 0), (0, .ref (yo Y 0))]) hC dX6_choices_3 rfl (by decide) rfl ?_
  exact V_sub [2, 1, 0] rfl (lp_ind (X := Int32 × Int32) (P := fun x => V K Y 3 0 0 z d 4 [(0, .ref (yo Y 0)), (1, .int x.1), (2, .int x.2)] []) (fun k x hk hx => b_X6_choices_4 hC hr hA ho hQ  (k4 := fun x1 x2 => k (x1, x2)) (fun x1 x2 hx => hk (x1, x2) hx) x.1 x.2 hx) FU (0, 0) hf)
def t_X6_beginSpread_2 (L : Nat → Nat) (k2 : Int32 → (Dt) → Option (Dt)) (x1 : Int32) (d : Dt) : Option (Dt) := if (gF d 0 21) ≤ x1 then bd (sF d 0 21 0) (fun d2 => bd (sF d2 0 22 0) (fun d3 => some d3)) else gd (inb x1 (L (32 * 0 + 19))) (gd (inb (gA d (32 * 0 + 19) (ix x1)) (L (32 * 0 + 20))) (bd (sA d (32 * 0 + 20) (ix (gA d (32 * 0 + 19) (ix x1))) 0) (fun d6 => k2 (x1 + 1) d6)))
set_option maxRecDepth 20000 in
theorem b_X6_beginSpread_2 {K : Kx} {Y : Yx} {z : Sh}  (hC : CK K Y cX6_beginSpread 2 RX6 0 0) (hr : (kme K).sig.returnType = none) (hA : kA K = aY Y z)  (ho : (0, 0, 5) ∈ yI Y) {d' : Dt} (hQ : kQ K = MQ (kb K) (QM Y z (none) d') (ka K) (ks K) 0 0 (aY Y z)) {k2 : Int32 → (Dt) → Option (Dt)} (hk2 : ∀ (x1 : Int32) (d : Dt), k2 x1 d = some d' → V K Y 2 0 0 z d 2 [(0, .ref (yo Y 0)), (1, .int x1)] []) (x1 : Int32) (d : Dt) (hf : t_X6_beginSpread_2 z.1 k2 x1 d = some d') : V K Y 2 0 0 z d 2 [(0, .ref (yo Y 0)), (1, .int x1)] [] := by
  have hL := hC.2.2.2.2.2.2.1
  unfold t_X6_beginSpread_2 at hf
  refine V_iload_n 1 hC dX6_beginSpread_2 rfl rfl ?_
  refine V_aload_n 0 hC dX6_beginSpread_3 rfl rfl ?_
  refine V_geti (o := 0) hC ho rfl fk_X6_173 dX6_beginSpread_4 ?_
  refine V_icmp_ge (tgt := 28) hC dX6_beginSpread_7 (by decide) (fun c1 => ?_) (fun c1 => ?_)
  · have hf := if_t hf c1
    refine V_aload_n 0 hC dX6_beginSpread_28 rfl rfl ?_
    refine V_iconst (v := 0) hC dX6_beginSpread_29 rfl ?_
    refine V_puti (o := 0) hC ho rfl fk_X6_173 pl_X6 rfl rfl dX6_beginSpread_30 (fun d2 ed2 => ?_)
    have hf := bd_e hf d2 ed2
    refine V_aload_n 0 hC dX6_beginSpread_33 rfl rfl ?_
    refine V_iconst (v := 0) hC dX6_beginSpread_34 rfl ?_
    refine V_puti (o := 0) hC ho rfl fk_X6_225 pl_X6 rfl rfl dX6_beginSpread_35 (fun d3 ed3 => ?_)
    have hf := bd_e hf d3 ed3
    obtain rfl := so_inj hf
    exact V_vret hC hr hQ hA dX6_beginSpread_38
  · have hf := if_f hf c1
    refine V_aload_n 0 hC dX6_beginSpread_10 rfl rfl ?_
    refine V_geta (o := 0) hC ho rfl fk_X6_43 dX6_beginSpread_11 ?_
    refine V_aload_n 0 hC dX6_beginSpread_14 rfl rfl ?_
    refine V_geta (o := 0) hC ho rfl fk_X6_40 dX6_beginSpread_15 ?_
    refine V_iload_n 1 hC dX6_beginSpread_18 rfl rfl ?_
    obtain ⟨g4, hf⟩ := gd_some hf
    refine V_iald (a := (32 * 0 + 19)) hC (hL.row ho rfl) g4 dX6_beginSpread_19 ?_
    refine V_iconst (v := 0) hC dX6_beginSpread_20 rfl ?_
    obtain ⟨g5, hf⟩ := gd_some hf
    refine V_iast (a := (32 * 0 + 20)) hC (hL.row ho rfl) g5 dX6_beginSpread_21 (fun d6 ed6 => ?_)
    have hf := bd_e hf d6 ed6
    refine V_iinc (v := x1 + 1) (lv' := [(1, .int (x1 + 1)), (0, .ref (yo Y 0))]) 1 hC dX6_beginSpread_22 rfl rfl (by decide) rfl ?_
    refine V_goto (tgt := 2) hC dX6_beginSpread_25 (by decide) ?_
    exact V_sub [1, 0] rfl (hk2 (x1 + 1) d6 hf)
def t_X6_beginSpread (L : Nat → Nat) (d : Dt)  : Option (Dt) := lp (fun k x => t_X6_beginSpread_2 L  (fun x1 d => k (x1, d)) x.1 x.2) FU (0, d)
set_option maxRecDepth 20000 in
theorem c_X6_beginSpread {l : Launch} {Y : Yx} (hL : LAY Y) {z : Sh} {d : Dt}  (ho : (0, 0, 5) ∈ yI Y) {d' : Dt} (hf : t_X6_beginSpread z.1 d  = some d') : MM l yX6_beginSpread cX6_beginSpread 2 none 0 0 Y z [.ref (yo Y 0)] d (none) d' := by
  refine MM.ofV (by decide +kernel) hL (Nat.le_of_ble_eq_true rfl) (fun K hl hC hr hQ hA => ?_)
  have hC : CK K Y cX6_beginSpread 2 RX6 0 0 := hC
  unfold t_X6_beginSpread at hf
  show V K Y 2 0 0 z d 0 [(0, .ref (yo Y 0))] []
  refine V_iconst (v := 0) hC dX6_beginSpread_0 rfl ?_
  refine V_istore_n (lv' := [(1, .int 0), (0, .ref (yo Y 0))]) hC dX6_beginSpread_1 rfl (by decide) rfl ?_
  exact V_sub [1, 0] rfl (lp_ind (X := Int32 × Dt) (P := fun x => V K Y 2 0 0 z x.2 2 [(0, .ref (yo Y 0)), (1, .int x.1)] []) (fun k x hk hx => b_X6_beginSpread_2 hC hr hA ho hQ  (k2 := fun x1 d => k (x1, d)) (fun x1 d hx => hk (x1, d) hx) x.1 x.2 hx) FU (0, d) hf)
def t_X6_come_201 (L : Nat → Nat) (p1 : Int32) (p2 : Int32) (p3 : Int32)   (d : Dt) : Option (Int32 × Dt) := if (gF d 0 18) ≤ 0 then some (0, d) else some (1, d)
set_option maxRecDepth 20000 in
theorem b_X6_come_201 {K : Kx} {Y : Yx} {z : Sh}  (hC : CK K Y cX6_come 6 RX6 0 0) (hr : (kme K).sig.returnType = some .boolean) (hA : kA K = aY Y z) {p1 : Int32} {p2 : Int32} {p3 : Int32} (ho : (0, 0, 5) ∈ yI Y) {r : Int32} {d' : Dt} (hQ : kQ K = MQ (kb K) (QM Y z (some (.int r)) d') (ka K) (ks K) 0 0 (aY Y z))    (d : Dt) (hf : t_X6_come_201 z.1 p1 p2 p3   d = some (r, d')) : V K Y 6 0 0 z d 201 [(0, .ref (yo Y 0))] [] := by
  have hL := hC.2.2.2.2.2.2.1
  unfold t_X6_come_201 at hf
  refine V_aload_n 0 hC dX6_come_201 rfl rfl ?_
  refine V_geti (o := 0) hC ho rfl fk_X6_179 dX6_come_202 ?_
  refine V_if_le (tgt := 212) hC dX6_come_205 (by decide) (fun c16 => ?_) (fun c16 => ?_)
  · have hf := if_t hf c16
    refine V_iconst (v := 0) hC dX6_come_212 rfl ?_
    obtain ⟨rfl, rfl⟩ := so_inj2 hf
    exact V_zret hC hr rfl hQ hA dX6_come_213
  · have hf := if_f hf c16
    refine V_iconst (v := 1) hC dX6_come_208 rfl ?_
    refine V_goto (tgt := 213) hC dX6_come_209 (by decide) ?_
    obtain ⟨rfl, rfl⟩ := so_inj2 hf
    exact V_zret hC hr rfl hQ hA dX6_come_213
def t_X6_come_195 (L : Nat → Nat) (p1 : Int32) (p2 : Int32) (p3 : Int32) (k13 : Int32 → (Dt) → Option (Int32 × Dt)) (x4 : Int32) (d : Dt) : Option (Int32 × Dt) := k13 (x4 + 1) d
set_option maxRecDepth 20000 in
theorem b_X6_come_195 {K : Kx} {Y : Yx} {z : Sh}  (hC : CK K Y cX6_come 6 RX6 0 0) (hr : (kme K).sig.returnType = some .boolean) (hA : kA K = aY Y z) {p1 : Int32} {p2 : Int32} {p3 : Int32} (ho : (0, 0, 5) ∈ yI Y) {r : Int32} {d' : Dt} (hQ : kQ K = MQ (kb K) (QM Y z (some (.int r)) d') (ka K) (ks K) 0 0 (aY Y z)) {k13 : Int32 → (Dt) → Option (Int32 × Dt)} (hk13 : ∀ (x4 : Int32) (d : Dt), k13 x4 d = some (r, d') → V K Y 6 0 0 z d 13 [(0, .ref (yo Y 0)), (1, .int p1), (4, .int x4)] []) (x4 : Int32) (d : Dt) (hf : t_X6_come_195 z.1 p1 p2 p3 k13 x4 d = some (r, d')) : V K Y 6 0 0 z d 195 [(0, .ref (yo Y 0)), (1, .int p1), (4, .int x4)] [] := by
  have hL := hC.2.2.2.2.2.2.1
  unfold t_X6_come_195 at hf
  refine V_iinc (v := x4 + 1) (lv' := [(4, .int (x4 + 1)), (0, .ref (yo Y 0)), (1, .int p1)]) 2 hC dX6_come_195 rfl rfl (by decide) rfl ?_
  refine V_goto (tgt := 13) hC dX6_come_198 (by decide) ?_
  exact V_sub [1, 2, 0] rfl (hk13 (x4 + 1) d hf)
def t_X6_come_192 (L : Nat → Nat) (p1 : Int32) (p2 : Int32) (p3 : Int32) (k13 : Int32 → (Dt) → Option (Int32 × Dt)) (x4 : Int32) (s0 : Int32) (d : Dt) : Option (Int32 × Dt) := bd (sF d 0 18 s0) (fun d19 => t_X6_come_195 L p1 p2 p3 k13 x4 d19)
set_option maxRecDepth 20000 in
theorem b_X6_come_192 {K : Kx} {Y : Yx} {z : Sh}  (hC : CK K Y cX6_come 6 RX6 0 0) (hr : (kme K).sig.returnType = some .boolean) (hA : kA K = aY Y z) {p1 : Int32} {p2 : Int32} {p3 : Int32} (ho : (0, 0, 5) ∈ yI Y) {r : Int32} {d' : Dt} (hQ : kQ K = MQ (kb K) (QM Y z (some (.int r)) d') (ka K) (ks K) 0 0 (aY Y z)) {k13 : Int32 → (Dt) → Option (Int32 × Dt)} (hk13 : ∀ (x4 : Int32) (d : Dt), k13 x4 d = some (r, d') → V K Y 6 0 0 z d 13 [(0, .ref (yo Y 0)), (1, .int p1), (4, .int x4)] []) (x4 : Int32) (s0 : Int32) (d : Dt) (hf : t_X6_come_192 z.1 p1 p2 p3 k13 x4 s0 d = some (r, d')) : V K Y 6 0 0 z d 192 [(0, .ref (yo Y 0)), (1, .int p1), (4, .int x4)] [.int s0, .ref (yo Y 0)] := by
  have hL := hC.2.2.2.2.2.2.1
  unfold t_X6_come_192 at hf
  refine V_puti (o := 0) hC ho rfl fk_X6_179 pl_X6 rfl rfl dX6_come_192 (fun d19 ed19 => ?_)
  have hf := bd_e hf d19 ed19
  exact b_X6_come_195 hC hr hA ho hQ hk13 x4 d19 hf
def t_X6_come_161 (L : Nat → Nat) (p1 : Int32) (p2 : Int32) (p3 : Int32) (k13 : Int32 → (Dt) → Option (Int32 × Dt)) (x4 : Int32) (s0 : Int32) (d : Dt) : Option (Int32 × Dt) := bd (sF d 0 18 s0) (fun d18 => t_X6_come_195 L p1 p2 p3 k13 x4 d18)
set_option maxRecDepth 20000 in
theorem b_X6_come_161 {K : Kx} {Y : Yx} {z : Sh}  (hC : CK K Y cX6_come 6 RX6 0 0) (hr : (kme K).sig.returnType = some .boolean) (hA : kA K = aY Y z) {p1 : Int32} {p2 : Int32} {p3 : Int32} (ho : (0, 0, 5) ∈ yI Y) {r : Int32} {d' : Dt} (hQ : kQ K = MQ (kb K) (QM Y z (some (.int r)) d') (ka K) (ks K) 0 0 (aY Y z)) {k13 : Int32 → (Dt) → Option (Int32 × Dt)} (hk13 : ∀ (x4 : Int32) (d : Dt), k13 x4 d = some (r, d') → V K Y 6 0 0 z d 13 [(0, .ref (yo Y 0)), (1, .int p1), (4, .int x4)] []) (x4 : Int32) (s0 : Int32) (d : Dt) (hf : t_X6_come_161 z.1 p1 p2 p3 k13 x4 s0 d = some (r, d')) : V K Y 6 0 0 z d 161 [(0, .ref (yo Y 0)), (1, .int p1), (4, .int x4)] [.int s0, .ref (yo Y 0)] := by
  have hL := hC.2.2.2.2.2.2.1
  unfold t_X6_come_161 at hf
  refine V_puti (o := 0) hC ho rfl fk_X6_179 pl_X6 rfl rfl dX6_come_161 (fun d18 ed18 => ?_)
  have hf := bd_e hf d18 ed18
  refine V_goto (tgt := 195) hC dX6_come_164 (by decide) ?_
  exact b_X6_come_195 hC hr hA ho hQ hk13 x4 d18 hf
def t_X6_come_114 (L : Nat → Nat) (p1 : Int32) (p2 : Int32) (p3 : Int32) (k13 : Int32 → (Dt) → Option (Int32 × Dt)) (x4 : Int32) (s0 : Int32) (s1 : Int32) (d : Dt) : Option (Int32 × Dt) := bd (sF d 0 17 (s1 ||| s0)) (fun d17 => t_X6_come_195 L p1 p2 p3 k13 x4 d17)
set_option maxRecDepth 20000 in
theorem b_X6_come_114 {K : Kx} {Y : Yx} {z : Sh}  (hC : CK K Y cX6_come 6 RX6 0 0) (hr : (kme K).sig.returnType = some .boolean) (hA : kA K = aY Y z) {p1 : Int32} {p2 : Int32} {p3 : Int32} (ho : (0, 0, 5) ∈ yI Y) {r : Int32} {d' : Dt} (hQ : kQ K = MQ (kb K) (QM Y z (some (.int r)) d') (ka K) (ks K) 0 0 (aY Y z)) {k13 : Int32 → (Dt) → Option (Int32 × Dt)} (hk13 : ∀ (x4 : Int32) (d : Dt), k13 x4 d = some (r, d') → V K Y 6 0 0 z d 13 [(0, .ref (yo Y 0)), (1, .int p1), (4, .int x4)] []) (x4 : Int32) (s0 : Int32) (s1 : Int32) (d : Dt) (hf : t_X6_come_114 z.1 p1 p2 p3 k13 x4 s0 s1 d = some (r, d')) : V K Y 6 0 0 z d 114 [(0, .ref (yo Y 0)), (1, .int p1), (4, .int x4)] [.int s0, .int s1, .ref (yo Y 0)] := by
  have hL := hC.2.2.2.2.2.2.1
  unfold t_X6_come_114 at hf
  refine V_ior hC dX6_come_114 ?_
  refine V_puti (o := 0) hC ho rfl fk_X6_176 pl_X6 rfl rfl dX6_come_115 (fun d17 ed17 => ?_)
  have hf := bd_e hf d17 ed17
  refine V_goto (tgt := 195) hC dX6_come_118 (by decide) ?_
  exact b_X6_come_195 hC hr hA ho hQ hk13 x4 d17 hf
def t_X6_come_13 (L : Nat → Nat) (p1 : Int32) (p2 : Int32) (p3 : Int32) (k13 : Int32 → (Dt) → Option (Int32 × Dt)) (x4 : Int32) (d : Dt) : Option (Int32 × Dt) := gd (inb (32 + p1) (L (32 * 0 + 0))) (if (gA d (32 * 0 + 0) (ix (32 + p1))) ≤ x4 then t_X6_come_201 L p1 p2 p3  d else if (gF d 0 18) ≤ 0 then t_X6_come_201 L p1 p2 p3  d else gd (inb ((272 + (4 * p1)) + x4) (L (32 * 0 + 0))) (bd (gA d (32 * 0 + 0) (ix ((272 + (4 * p1)) + x4))) (fun y7 => gd (inb ((176 + (4 * p1)) + x4) (L (32 * 0 + 0))) (if (gA d (32 * 0 + 0) (ix ((176 + (4 * p1)) + x4))) = 0 then if y7 = (gF d 0 16) then t_X6_come_114 L p1 p2 p3 k13 x4 0 (gF d 0 17) d else t_X6_come_114 L p1 p2 p3 k13 x4 ((1 : Int32) <<< (y7 &&& 31)) (gF d 0 17) d else if (gA d (32 * 0 + 0) (ix ((176 + (4 * p1)) + x4))) = 1 then bd (sF d 0 17 ((gF d 0 17) &&& (((1 : Int32) <<< (y7 &&& 31)) ^^^ (-1)))) (fun d12 => t_X6_come_195 L p1 p2 p3 k13 x4 d12) else if (gA d (32 * 0 + 0) (ix ((176 + (4 * p1)) + x4))) = 2 then if 0 ≤ ((gF d 0 18) - y7) then t_X6_come_161 L p1 p2 p3 k13 x4 ((gF d 0 18) - y7) d else t_X6_come_161 L p1 p2 p3 k13 x4 0 d else if ((gF d 0 18) + y7) ≤ 9 then t_X6_come_192 L p1 p2 p3 k13 x4 ((gF d 0 18) + y7) d else t_X6_come_192 L p1 p2 p3 k13 x4 9 d))))
set_option maxRecDepth 20000 in
theorem b_X6_come_13 {K : Kx} {Y : Yx} {z : Sh}  (hC : CK K Y cX6_come 6 RX6 0 0) (hr : (kme K).sig.returnType = some .boolean) (hA : kA K = aY Y z) {p1 : Int32} {p2 : Int32} {p3 : Int32} (ho : (0, 0, 5) ∈ yI Y) {r : Int32} {d' : Dt} (hQ : kQ K = MQ (kb K) (QM Y z (some (.int r)) d') (ka K) (ks K) 0 0 (aY Y z)) {k13 : Int32 → (Dt) → Option (Int32 × Dt)} (hk13 : ∀ (x4 : Int32) (d : Dt), k13 x4 d = some (r, d') → V K Y 6 0 0 z d 13 [(0, .ref (yo Y 0)), (1, .int p1), (4, .int x4)] []) (x4 : Int32) (d : Dt) (hf : t_X6_come_13 z.1 p1 p2 p3 k13 x4 d = some (r, d')) : V K Y 6 0 0 z d 13 [(0, .ref (yo Y 0)), (1, .int p1), (4, .int x4)] [] := by
  have hL := hC.2.2.2.2.2.2.1
  unfold t_X6_come_13 at hf
  refine V_iload 2 hC dX6_come_13 rfl ?_
  refine V_aload_n 0 hC dX6_come_15 rfl rfl ?_
  refine V_geta (o := 0) hC ho rfl fk_X6_7 dX6_come_16 ?_
  refine V_bipush (v := 32) hC dX6_come_19 rfl ?_
  refine V_iload_n 1 hC dX6_come_21 rfl rfl ?_
  refine V_iadd hC dX6_come_22 ?_
  obtain ⟨g3, hf⟩ := gd_some hf
  refine V_iald (a := (32 * 0 + 0)) hC (hL.row ho rfl) g3 dX6_come_23 ?_
  refine V_icmp_ge (tgt := 201) hC dX6_come_24 (by decide) (fun c4 => ?_) (fun c4 => ?_)
  · have hf := if_t hf c4
    exact V_sub [0] rfl (b_X6_come_201 hC hr hA ho hQ  d hf)
  · have hf := if_f hf c4
    refine V_aload_n 0 hC dX6_come_27 rfl rfl ?_
    refine V_geti (o := 0) hC ho rfl fk_X6_179 dX6_come_28 ?_
    refine V_if_le (tgt := 201) hC dX6_come_31 (by decide) (fun c5 => ?_) (fun c5 => ?_)
    · have hf := if_t hf c5
      exact V_sub [0] rfl (b_X6_come_201 hC hr hA ho hQ  d hf)
    · have hf := if_f hf c5
      refine V_aload_n 0 hC dX6_come_34 rfl rfl ?_
      refine V_geta (o := 0) hC ho rfl fk_X6_7 dX6_come_35 ?_
      refine V_sipush (v := 272) hC dX6_come_38 rfl ?_
      refine V_iconst (v := 4) hC dX6_come_41 rfl ?_
      refine V_iload_n 1 hC dX6_come_42 rfl rfl ?_
      refine V_imul hC dX6_come_43 ?_
      refine V_iadd hC dX6_come_44 ?_
      refine V_iload 2 hC dX6_come_45 rfl ?_
      refine V_iadd hC dX6_come_47 ?_
      obtain ⟨g6, hf⟩ := gd_some hf
      refine V_iald (a := (32 * 0 + 0)) hC (hL.row ho rfl) g6 dX6_come_48 ?_
      refine V_topi (fun y7 ey7 => ?_)
      have hf := bd_e hf y7 ey7
      refine V_istore (lv' := [(5, .int y7), (0, .ref (yo Y 0)), (1, .int p1), (4, .int x4)]) hC dX6_come_49 (by decide) rfl ?_
      refine V_aload_n 1 hC dX6_come_51 rfl rfl ?_
      refine V_geta (o := 0) hC ho rfl fk_X6_7 dX6_come_52 ?_
      refine V_sipush (v := 176) hC dX6_come_55 rfl ?_
      refine V_iconst (v := 4) hC dX6_come_58 rfl ?_
      refine V_iload_n 2 hC dX6_come_59 rfl rfl ?_
      refine V_imul hC dX6_come_60 ?_
      refine V_iadd hC dX6_come_61 ?_
      refine V_iload 3 hC dX6_come_62 rfl ?_
      refine V_iadd hC dX6_come_64 ?_
      obtain ⟨g8, hf⟩ := gd_some hf
      refine V_iald (a := (32 * 0 + 0)) hC (hL.row ho rfl) g8 dX6_come_65 ?_
      by_cases c9 : (gA d (32 * 0 + 0) (ix ((176 + (4 * p1)) + x4))) = 0
      · have hf := if_t hf c9
        refine V_tswIn (tgt := 92) hC dX6_come_66 0 c9 (by decide) (by decide) rfl (by decide) ?_
        refine V_aload_n 1 hC dX6_come_92 rfl rfl ?_
        refine V_dup hC dX6_come_93 rfl ?_
        refine V_geti (o := 0) hC ho rfl fk_X6_176 dX6_come_94 ?_
        refine V_iload 0 hC dX6_come_97 rfl ?_
        refine V_aload_n 1 hC dX6_come_99 rfl rfl ?_
        refine V_geti (o := 0) hC ho rfl fk_X6_36 dX6_come_100 ?_
        refine V_icmp_ne (tgt := 110) hC dX6_come_103 (by decide) (fun c10 => ?_) (fun c10 => ?_)
        · have hf := if_f hf c10
          refine V_iconst (v := 1) hC dX6_come_110 rfl ?_
          refine V_iload 0 hC dX6_come_111 rfl ?_
          refine V_ishl hC dX6_come_113 ?_
          exact V_sub [1, 2, 3] rfl (b_X6_come_114 hC hr hA ho hQ hk13 x4 ((1 : Int32) <<< (y7 &&& 31)) (gF d 0 17) d hf)
        · have hf := if_t hf c10
          refine V_iconst (v := 0) hC dX6_come_106 rfl ?_
          refine V_goto (tgt := 114) hC dX6_come_107 (by decide) ?_
          exact V_sub [1, 2, 3] rfl (b_X6_come_114 hC hr hA ho hQ hk13 x4 0 (gF d 0 17) d hf)
      · have hf := if_f hf c9
        by_cases c11 : (gA d (32 * 0 + 0) (ix ((176 + (4 * p1)) + x4))) = 1
        · have hf := if_t hf c11
          refine V_tswIn (tgt := 121) hC dX6_come_66 1 c11 (by decide) (by decide) rfl (by decide) ?_
          refine V_aload_n 1 hC dX6_come_121 rfl rfl ?_
          refine V_dup hC dX6_come_122 rfl ?_
          refine V_geti (o := 0) hC ho rfl fk_X6_176 dX6_come_123 ?_
          refine V_iconst (v := 1) hC dX6_come_126 rfl ?_
          refine V_iload 0 hC dX6_come_127 rfl ?_
          refine V_ishl hC dX6_come_129 ?_
          refine V_iconst (v := -1) hC dX6_come_130 rfl ?_
          refine V_ixor hC dX6_come_131 ?_
          refine V_iand hC dX6_come_132 ?_
          refine V_puti (o := 0) hC ho rfl fk_X6_176 pl_X6 rfl rfl dX6_come_133 (fun d12 ed12 => ?_)
          have hf := bd_e hf d12 ed12
          refine V_goto (tgt := 195) hC dX6_come_136 (by decide) ?_
          exact V_sub [1, 2, 3] rfl (b_X6_come_195 hC hr hA ho hQ hk13 x4 d12 hf)
        · have hf := if_f hf c11
          by_cases c13 : (gA d (32 * 0 + 0) (ix ((176 + (4 * p1)) + x4))) = 2
          · have hf := if_t hf c13
            refine V_tswIn (tgt := 139) hC dX6_come_66 2 c13 (by decide) (by decide) rfl (by decide) ?_
            refine V_aload_n 1 hC dX6_come_139 rfl rfl ?_
            refine V_aload_n 1 hC dX6_come_140 rfl rfl ?_
            refine V_geti (o := 0) hC ho rfl fk_X6_179 dX6_come_141 ?_
            refine V_iload 0 hC dX6_come_144 rfl ?_
            refine V_isub hC dX6_come_146 ?_
            refine V_if_ge (tgt := 154) hC dX6_come_147 (by decide) (fun c14 => ?_) (fun c14 => ?_)
            · have hf := if_t hf c14
              refine V_aload_n 1 hC dX6_come_154 rfl rfl ?_
              refine V_geti (o := 0) hC ho rfl fk_X6_179 dX6_come_155 ?_
              refine V_iload 0 hC dX6_come_158 rfl ?_
              refine V_isub hC dX6_come_160 ?_
              exact V_sub [1, 2, 3] rfl (b_X6_come_161 hC hr hA ho hQ hk13 x4 ((gF d 0 18) - y7) d hf)
            · have hf := if_f hf c14
              refine V_iconst (v := 0) hC dX6_come_150 rfl ?_
              refine V_goto (tgt := 161) hC dX6_come_151 (by decide) ?_
              exact V_sub [1, 2, 3] rfl (b_X6_come_161 hC hr hA ho hQ hk13 x4 0 d hf)
          · have hf := if_f hf c13
            refine V_tswOut (tgt := 167) hC dX6_come_66 (by have hc9 := lv_neT c9 (show (0 : Int32).toInt = 0 from rfl); have hc11 := lv_neT c11 (show (1 : Int32).toInt = 1 from rfl); have hc13 := lv_neT c13 (show (2 : Int32).toInt = 2 from rfl); omega) (by decide) ?_
            refine V_aload_n 1 hC dX6_come_167 rfl rfl ?_
            refine V_aload_n 1 hC dX6_come_168 rfl rfl ?_
            refine V_geti (o := 0) hC ho rfl fk_X6_179 dX6_come_169 ?_
            refine V_iload 0 hC dX6_come_172 rfl ?_
            refine V_iadd hC dX6_come_174 ?_
            refine V_bipush (v := 9) hC dX6_come_175 rfl ?_
            refine V_icmp_le (tgt := 185) hC dX6_come_177 (by decide) (fun c15 => ?_) (fun c15 => ?_)
            · have hf := if_t hf c15
              refine V_aload_n 1 hC dX6_come_185 rfl rfl ?_
              refine V_geti (o := 0) hC ho rfl fk_X6_179 dX6_come_186 ?_
              refine V_iload 0 hC dX6_come_189 rfl ?_
              refine V_iadd hC dX6_come_191 ?_
              exact V_sub [1, 2, 3] rfl (b_X6_come_192 hC hr hA ho hQ hk13 x4 ((gF d 0 18) + y7) d hf)
            · have hf := if_f hf c15
              refine V_bipush (v := 9) hC dX6_come_180 rfl ?_
              refine V_goto (tgt := 192) hC dX6_come_182 (by decide) ?_
              exact V_sub [1, 2, 3] rfl (b_X6_come_192 hC hr hA ho hQ hk13 x4 9 d hf)
def t_X6_come (L : Nat → Nat) (d : Dt) (p1 : Int32) (p2 : Int32) (p3 : Int32) : Option (Int32 × Dt) := bd (sF d 0 17 p2) (fun d1 => bd (sF d1 0 18 p3) (fun d2 => lp (fun k x => t_X6_come_13 L p1 p2 p3  (fun x4 d => k (x4, d)) x.1 x.2) FU (0, d2)))
set_option maxRecDepth 20000 in
theorem c_X6_come {l : Launch} {Y : Yx} (hL : LAY Y) {z : Sh} {d : Dt} {p1 : Int32} {p2 : Int32} {p3 : Int32} (ho : (0, 0, 5) ∈ yI Y) {r : Int32} {d' : Dt} (hf : t_X6_come z.1 d p1 p2 p3 = some (r, d')) : MM l yX6_come cX6_come 6 (some .boolean) 0 0 Y z [.ref (yo Y 0), .int p1, .int p2, .int p3] d (some (.int r)) d' := by
  refine MM.ofV (by decide +kernel) hL (Nat.le_of_ble_eq_true rfl) (fun K hl hC hr hQ hA => ?_)
  have hC : CK K Y cX6_come 6 RX6 0 0 := hC
  unfold t_X6_come at hf
  show V K Y 6 0 0 z d 0 [(0, .ref (yo Y 0)), (1, .int p1), (2, .int p2), (3, .int p3)] []
  refine V_aload_n 0 hC dX6_come_0 rfl rfl ?_
  refine V_iload_n 2 hC dX6_come_1 rfl rfl ?_
  refine V_puti (o := 0) hC ho rfl fk_X6_176 pl_X6 rfl rfl dX6_come_2 (fun d1 ed1 => ?_)
  have hf := bd_e hf d1 ed1
  refine V_aload_n 0 hC dX6_come_5 rfl rfl ?_
  refine V_iload_n 3 hC dX6_come_6 rfl rfl ?_
  refine V_puti (o := 0) hC ho rfl fk_X6_179 pl_X6 rfl rfl dX6_come_7 (fun d2 ed2 => ?_)
  have hf := bd_e hf d2 ed2
  refine V_iconst (v := 0) hC dX6_come_10 rfl ?_
  refine V_istore (lv' := [(4, .int 0), (0, .ref (yo Y 0)), (1, .int p1), (2, .int p2), (3, .int p3)]) hC dX6_come_11 (by decide) rfl ?_
  exact V_sub [1, 2, 0] rfl (lp_ind (X := Int32 × Dt) (P := fun x => V K Y 6 0 0 z x.2 13 [(0, .ref (yo Y 0)), (1, .int p1), (4, .int x.1)] []) (fun k x hk hx => b_X6_come_13 hC hr hA ho hQ  (k13 := fun x4 d => k (x4, d)) (fun x4 d hx => hk (x4, d) hx) x.1 x.2 hx) FU (0, d2) hf)
def t_X6_stateOf (L : Nat → Nat) (d : Dt) (p0 : Int32) (p1 : Int32) (p2 : Int32) : Option (Int32) := some ((((p0 * 256) + p1) * 10) + p2)
set_option maxRecDepth 20000 in
theorem c_X6_stateOf {l : Launch} {Y : Yx} (hL : LAY Y) {z : Sh} {d : Dt} {p0 : Int32} {p1 : Int32} {p2 : Int32}  {r : Int32} (hf : t_X6_stateOf z.1 d p0 p1 p2 = some r) : MM l yX6_stateOf cX6_stateOf 3 (some .int) 0 0 Y z [.int p0, .int p1, .int p2] d (some (.int r)) d := by
  refine MM.ofV (by decide +kernel) hL (Nat.le_of_ble_eq_true rfl) (fun K hl hC hr hQ hA => ?_)
  have hC : CK K Y cX6_stateOf 3 RX6 0 0 := hC
  unfold t_X6_stateOf at hf
  show V K Y 3 0 0 z d 0 [(0, .int p0), (1, .int p1), (2, .int p2)] []
  refine V_iload_n 0 hC dX6_stateOf_0 rfl rfl ?_
  refine V_sipush (v := 256) hC dX6_stateOf_1 rfl ?_
  refine V_imul hC dX6_stateOf_4 ?_
  refine V_iload_n 1 hC dX6_stateOf_5 rfl rfl ?_
  refine V_iadd hC dX6_stateOf_6 ?_
  refine V_bipush (v := 10) hC dX6_stateOf_7 rfl ?_
  refine V_imul hC dX6_stateOf_9 ?_
  refine V_iload_n 2 hC dX6_stateOf_10 rfl rfl ?_
  refine V_iadd hC dX6_stateOf_11 ?_
  obtain rfl := so_inj hf
  exact V_iret hC hr hQ hA dX6_stateOf_12
def t_X6_stateAt (L : Nat → Nat) (d : Dt) (p1 : Int32) (p2 : Int32) (p3 : Int32) : Option (Int32 × Dt) := if p1 = (gF d 0 15) then some ((-2), d) else (t_X6_come L d p1 p2 p3).bind (fun q2 => if q2.1 = 0 then some ((-2), q2.2) else gd (inb (8 + p1) (L (32 * 0 + 0))) (if (gA q2.2 (32 * 0 + 0) (ix (8 + p1))) = 2 then some ((-2), q2.2) else (t_X6_stateOf L q2.2 p1 (gF q2.2 0 17) (gF q2.2 0 18)).bind (fun v6 => some (v6, q2.2))))
set_option maxRecDepth 20000 in
theorem c_X6_stateAt {l : Launch} {Y : Yx} (hL : LAY Y) {z : Sh} {d : Dt} {p1 : Int32} {p2 : Int32} {p3 : Int32} (ho : (0, 0, 5) ∈ yI Y) {r : Int32} {d' : Dt} (hf : t_X6_stateAt z.1 d p1 p2 p3 = some (r, d')) : MM l yX6_stateAt cX6_stateAt 4 (some .int) 1 25 Y z [.ref (yo Y 0), .int p1, .int p2, .int p3] d (some (.int r)) d' := by
  refine MM.ofV (by decide +kernel) hL (Nat.le_of_ble_eq_true rfl) (fun K hl hC hr hQ hA => ?_)
  have hC : CK K Y cX6_stateAt 4 RX6 1 25 := hC
  have hkn : 0 ≤ (kR K).cells ∧ 0 ≤ (kR K).slots := ⟨Nat.zero_le _, Nat.zero_le _⟩
  unfold t_X6_stateAt at hf
  show V K Y 4 0 0 z d 0 [(0, .ref (yo Y 0)), (1, .int p1), (2, .int p2), (3, .int p3)] []
  refine V_iload_n 1 hC dX6_stateAt_0 rfl rfl ?_
  refine V_aload_n 0 hC dX6_stateAt_1 rfl rfl ?_
  refine V_geti (o := 0) hC ho rfl fk_X6_33 dX6_stateAt_2 ?_
  refine V_icmp_eq (tgt := 31) hC dX6_stateAt_5 (by decide) (fun c1 => ?_) (fun c1 => ?_)
  · have hf := if_t hf c1
    refine V_bipush (v := -2) hC dX6_stateAt_31 rfl ?_
    obtain ⟨rfl, rfl⟩ := so_inj2 hf
    exact V_iret hC hr hQ hA dX6_stateAt_33
  · have hf := if_f hf c1
    refine V_aload_n 0 hC dX6_stateAt_8 rfl rfl ?_
    refine V_iload_n 1 hC dX6_stateAt_9 rfl rfl ?_
    refine V_iload_n 2 hC dX6_stateAt_10 rfl rfl ?_
    refine V_iload_n 3 hC dX6_stateAt_11 rfl rfl ?_
    obtain ⟨q2, eq2, hf⟩ := bi_some hf
    refine V_invi (o := 0) (As := [.int p1, .int p2, .int p3]) (rest := []) hC (c_X6_come hL ho eq2) me_X6_come lk_X6_182 ho rfl rfl rfl (Nat.le_of_ble_eq_true rfl) ⟨by decide, by decide⟩ hkn dX6_stateAt_12 ?_
    refine V_if_eq (tgt := 31) hC dX6_stateAt_15 (by decide) (fun c3 => ?_) (fun c3 => ?_)
    · have hf := if_t hf c3
      refine V_bipush (v := -2) hC dX6_stateAt_31 rfl ?_
      obtain ⟨rfl, rfl⟩ := so_inj2 hf
      exact V_iret hC hr hQ hA dX6_stateAt_33
    · have hf := if_f hf c3
      refine V_aload_n 0 hC dX6_stateAt_18 rfl rfl ?_
      refine V_geta (o := 0) hC ho rfl fk_X6_7 dX6_stateAt_19 ?_
      refine V_bipush (v := 8) hC dX6_stateAt_22 rfl ?_
      refine V_iload_n 1 hC dX6_stateAt_24 rfl rfl ?_
      refine V_iadd hC dX6_stateAt_25 ?_
      obtain ⟨g4, hf⟩ := gd_some hf
      refine V_iald (a := (32 * 0 + 0)) hC (hL.row ho rfl) g4 dX6_stateAt_26 ?_
      refine V_iconst (v := 2) hC dX6_stateAt_27 rfl ?_
      refine V_icmp_ne (tgt := 34) hC dX6_stateAt_28 (by decide) (fun c5 => ?_) (fun c5 => ?_)
      · have hf := if_f hf c5
        refine V_iload_n 1 hC dX6_stateAt_34 rfl rfl ?_
        refine V_aload_n 0 hC dX6_stateAt_35 rfl rfl ?_
        refine V_geti (o := 0) hC ho rfl fk_X6_176 dX6_stateAt_36 ?_
        refine V_aload_n 0 hC dX6_stateAt_39 rfl rfl ?_
        refine V_geti (o := 0) hC ho rfl fk_X6_179 dX6_stateAt_40 ?_
        obtain ⟨v6, ev6, hf⟩ := bi_some hf
        refine V_insi (As := [.int p1, .int (gF q2.2 0 17), .int (gF q2.2 0 18)]) (rest := []) hC (c_X6_stateOf hL  ev6) me_X6_stateOf lk_X6_186 rfl rfl (Nat.le_of_ble_eq_true rfl) ⟨by decide, by decide⟩ hkn dX6_stateAt_43 ?_
        obtain ⟨rfl, rfl⟩ := so_inj2 hf
        exact V_iret hC hr hQ hA dX6_stateAt_46
      · have hf := if_t hf c5
        refine V_bipush (v := -2) hC dX6_stateAt_31 rfl ?_
        obtain ⟨rfl, rfl⟩ := so_inj2 hf
        exact V_iret hC hr hQ hA dX6_stateAt_33
def t_X6_reach (L : Nat → Nat) (d : Dt) (p1 : Int32) (p2 : Int32) : Option (Dt) := if p1 = (-2) then some d else gd (inb p1 (L (32 * 0 + 20))) (if (gA d (32 * 0 + 20) (ix p1)) = 0 then gd (inb p1 (L (32 * 0 + 20))) (bd (sA d (32 * 0 + 20) (ix p1) (p2 + 1)) (fun d5 => gd (inb (gF d5 0 21) (L (32 * 0 + 19))) (bd (sA d5 (32 * 0 + 19) (ix (gF d5 0 21)) p1) (fun d7 => bd (sF d7 0 21 ((gF d7 0 21) + 1)) (fun d8 => some d8))))) else some d)
set_option maxRecDepth 20000 in
theorem c_X6_reach {l : Launch} {Y : Yx} (hL : LAY Y) {z : Sh} {d : Dt} {p1 : Int32} {p2 : Int32} (ho : (0, 0, 5) ∈ yI Y) {d' : Dt} (hf : t_X6_reach z.1 d p1 p2 = some d') : MM l yX6_reach cX6_reach 3 none 0 0 Y z [.ref (yo Y 0), .int p1, .int p2] d (none) d' := by
  refine MM.ofV (by decide +kernel) hL (Nat.le_of_ble_eq_true rfl) (fun K hl hC hr hQ hA => ?_)
  have hC : CK K Y cX6_reach 3 RX6 0 0 := hC
  unfold t_X6_reach at hf
  show V K Y 3 0 0 z d 0 [(0, .ref (yo Y 0)), (1, .int p1), (2, .int p2)] []
  refine V_iload_n 1 hC dX6_reach_0 rfl rfl ?_
  refine V_bipush (v := -2) hC dX6_reach_1 rfl ?_
  refine V_icmp_eq (tgt := 44) hC dX6_reach_3 (by decide) (fun c1 => ?_) (fun c1 => ?_)
  · have hf := if_t hf c1
    obtain rfl := so_inj hf
    exact V_vret hC hr hQ hA dX6_reach_44
  · have hf := if_f hf c1
    refine V_aload_n 0 hC dX6_reach_6 rfl rfl ?_
    refine V_geta (o := 0) hC ho rfl fk_X6_43 dX6_reach_7 ?_
    refine V_iload_n 1 hC dX6_reach_10 rfl rfl ?_
    obtain ⟨g2, hf⟩ := gd_some hf
    refine V_iald (a := (32 * 0 + 20)) hC (hL.row ho rfl) g2 dX6_reach_11 ?_
    refine V_if_ne (tgt := 44) hC dX6_reach_12 (by decide) (fun c3 => ?_) (fun c3 => ?_)
    · have hf := if_f hf c3
      obtain rfl := so_inj hf
      exact V_vret hC hr hQ hA dX6_reach_44
    · have hf := if_t hf c3
      refine V_aload_n 0 hC dX6_reach_15 rfl rfl ?_
      refine V_geta (o := 0) hC ho rfl fk_X6_43 dX6_reach_16 ?_
      refine V_iload_n 1 hC dX6_reach_19 rfl rfl ?_
      refine V_iload_n 2 hC dX6_reach_20 rfl rfl ?_
      refine V_iconst (v := 1) hC dX6_reach_21 rfl ?_
      refine V_iadd hC dX6_reach_22 ?_
      obtain ⟨g4, hf⟩ := gd_some hf
      refine V_iast (a := (32 * 0 + 20)) hC (hL.row ho rfl) g4 dX6_reach_23 (fun d5 ed5 => ?_)
      have hf := bd_e hf d5 ed5
      refine V_aload_n 0 hC dX6_reach_24 rfl rfl ?_
      refine V_geta (o := 0) hC ho rfl fk_X6_40 dX6_reach_25 ?_
      refine V_aload_n 0 hC dX6_reach_28 rfl rfl ?_
      refine V_geti (o := 0) hC ho rfl fk_X6_173 dX6_reach_29 ?_
      refine V_iload_n 1 hC dX6_reach_32 rfl rfl ?_
      obtain ⟨g6, hf⟩ := gd_some hf
      refine V_iast (a := (32 * 0 + 19)) hC (hL.row ho rfl) g6 dX6_reach_33 (fun d7 ed7 => ?_)
      have hf := bd_e hf d7 ed7
      refine V_aload_n 0 hC dX6_reach_34 rfl rfl ?_
      refine V_dup hC dX6_reach_35 rfl ?_
      refine V_geti (o := 0) hC ho rfl fk_X6_173 dX6_reach_36 ?_
      refine V_iconst (v := 1) hC dX6_reach_39 rfl ?_
      refine V_iadd hC dX6_reach_40 ?_
      refine V_puti (o := 0) hC ho rfl fk_X6_173 pl_X6 rfl rfl dX6_reach_41 (fun d8 ed8 => ?_)
      have hf := bd_e hf d8 ed8
      obtain rfl := so_inj hf
      exact V_vret hC hr hQ hA dX6_reach_44
def t_X6_partOf (L : Nat → Nat) (d : Dt) (p0 : Int32) : Option (Int32) := some (p0 / 2560)
set_option maxRecDepth 20000 in
theorem c_X6_partOf {l : Launch} {Y : Yx} (hL : LAY Y) {z : Sh} {d : Dt} {p0 : Int32}  {r : Int32} (hf : t_X6_partOf z.1 d p0 = some r) : MM l yX6_partOf cX6_partOf 1 (some .int) 0 0 Y z [.int p0] d (some (.int r)) d := by
  refine MM.ofV (by decide +kernel) hL (Nat.le_of_ble_eq_true rfl) (fun K hl hC hr hQ hA => ?_)
  have hC : CK K Y cX6_partOf 1 RX6 0 0 := hC
  unfold t_X6_partOf at hf
  show V K Y 1 0 0 z d 0 [(0, .int p0)] []
  refine V_iload_n 0 hC dX6_partOf_0 rfl rfl ?_
  refine V_sipush (v := 2560) hC dX6_partOf_1 rfl ?_
  refine V_idiv hC dX6_partOf_4 (by decide) ?_
  obtain rfl := so_inj hf
  exact V_iret hC hr hQ hA dX6_partOf_5
def t_X6_waysOf (L : Nat → Nat) (d : Dt) (p1 : Int32) : Option (Int32) := (t_X6_partOf L d p1).bind (fun v1 => gd (inb (8 + v1) (L (32 * 0 + 0))) (if (gA d (32 * 0 + 0) (ix (8 + v1))) = 3 then some 2 else gd (inb (8 + v1) (L (32 * 0 + 0))) (if (gA d (32 * 0 + 0) (ix (8 + v1))) = 0 then gd (inb (56 + v1) (L (32 * 0 + 0))) (some (gA d (32 * 0 + 0) (ix (56 + v1)))) else some 0)))
set_option maxRecDepth 20000 in
theorem c_X6_waysOf {l : Launch} {Y : Yx} (hL : LAY Y) {z : Sh} {d : Dt} {p1 : Int32} (ho : (0, 0, 5) ∈ yI Y) {r : Int32} (hf : t_X6_waysOf z.1 d p1 = some r) : MM l yX6_waysOf cX6_waysOf 3 (some .int) 1 20 Y z [.ref (yo Y 0), .int p1] d (some (.int r)) d := by
  refine MM.ofV (by decide +kernel) hL (Nat.le_of_ble_eq_true rfl) (fun K hl hC hr hQ hA => ?_)
  have hC : CK K Y cX6_waysOf 3 RX6 1 20 := hC
  have hkn : 0 ≤ (kR K).cells ∧ 0 ≤ (kR K).slots := ⟨Nat.zero_le _, Nat.zero_le _⟩
  unfold t_X6_waysOf at hf
  show V K Y 3 0 0 z d 0 [(0, .ref (yo Y 0)), (1, .int p1)] []
  refine V_iload_n 1 hC dX6_waysOf_0 rfl rfl ?_
  obtain ⟨v1, ev1, hf⟩ := bi_some hf
  refine V_insi (As := [.int p1]) (rest := []) hC (c_X6_partOf hL  ev1) me_X6_partOf lk_X6_194 rfl rfl (Nat.le_of_ble_eq_true rfl) ⟨by decide, by decide⟩ hkn dX6_waysOf_1 ?_
  refine V_istore_n (lv' := [(2, .int v1), (0, .ref (yo Y 0)), (1, .int p1)]) hC dX6_waysOf_4 rfl (by decide) rfl ?_
  refine V_aload_n 1 hC dX6_waysOf_5 rfl rfl ?_
  refine V_geta (o := 0) hC ho rfl fk_X6_7 dX6_waysOf_6 ?_
  refine V_bipush (v := 8) hC dX6_waysOf_9 rfl ?_
  refine V_iload_n 0 hC dX6_waysOf_11 rfl rfl ?_
  refine V_iadd hC dX6_waysOf_12 ?_
  obtain ⟨g2, hf⟩ := gd_some hf
  refine V_iald (a := (32 * 0 + 0)) hC (hL.row ho rfl) g2 dX6_waysOf_13 ?_
  refine V_iconst (v := 3) hC dX6_waysOf_14 rfl ?_
  refine V_icmp_ne (tgt := 22) hC dX6_waysOf_15 (by decide) (fun c3 => ?_) (fun c3 => ?_)
  · have hf := if_f hf c3
    refine V_aload_n 1 hC dX6_waysOf_22 rfl rfl ?_
    refine V_geta (o := 0) hC ho rfl fk_X6_7 dX6_waysOf_23 ?_
    refine V_bipush (v := 8) hC dX6_waysOf_26 rfl ?_
    refine V_iload_n 0 hC dX6_waysOf_28 rfl rfl ?_
    refine V_iadd hC dX6_waysOf_29 ?_
    obtain ⟨g4, hf⟩ := gd_some hf
    refine V_iald (a := (32 * 0 + 0)) hC (hL.row ho rfl) g4 dX6_waysOf_30 ?_
    refine V_if_ne (tgt := 46) hC dX6_waysOf_31 (by decide) (fun c5 => ?_) (fun c5 => ?_)
    · have hf := if_f hf c5
      refine V_iconst (v := 0) hC dX6_waysOf_46 rfl ?_
      obtain rfl := so_inj hf
      exact V_iret hC hr hQ hA dX6_waysOf_47
    · have hf := if_t hf c5
      refine V_aload_n 1 hC dX6_waysOf_34 rfl rfl ?_
      refine V_geta (o := 0) hC ho rfl fk_X6_7 dX6_waysOf_35 ?_
      refine V_bipush (v := 56) hC dX6_waysOf_38 rfl ?_
      refine V_iload_n 0 hC dX6_waysOf_40 rfl rfl ?_
      refine V_iadd hC dX6_waysOf_41 ?_
      obtain ⟨g6, hf⟩ := gd_some hf
      refine V_iald (a := (32 * 0 + 0)) hC (hL.row ho rfl) g6 dX6_waysOf_42 ?_
      refine V_goto (tgt := 47) hC dX6_waysOf_43 (by decide) ?_
      obtain rfl := so_inj hf
      exact V_iret hC hr hQ hA dX6_waysOf_47
  · have hf := if_t hf c3
    refine V_iconst (v := 2) hC dX6_waysOf_18 rfl ?_
    refine V_goto (tgt := 47) hC dX6_waysOf_19 (by decide) ?_
    obtain rfl := so_inj hf
    exact V_iret hC hr hQ hA dX6_waysOf_47
def t_X6_thingsOf (L : Nat → Nat) (d : Dt) (p0 : Int32) : Option (Int32) := some ((p0 / 10) - (p0 / 10) / 256 * 256)
set_option maxRecDepth 20000 in
theorem c_X6_thingsOf {l : Launch} {Y : Yx} (hL : LAY Y) {z : Sh} {d : Dt} {p0 : Int32}  {r : Int32} (hf : t_X6_thingsOf z.1 d p0 = some r) : MM l yX6_thingsOf cX6_thingsOf 1 (some .int) 0 0 Y z [.int p0] d (some (.int r)) d := by
  refine MM.ofV (by decide +kernel) hL (Nat.le_of_ble_eq_true rfl) (fun K hl hC hr hQ hA => ?_)
  have hC : CK K Y cX6_thingsOf 1 RX6 0 0 := hC
  unfold t_X6_thingsOf at hf
  show V K Y 1 0 0 z d 0 [(0, .int p0)] []
  refine V_iload_n 0 hC dX6_thingsOf_0 rfl rfl ?_
  refine V_bipush (v := 10) hC dX6_thingsOf_1 rfl ?_
  refine V_idiv hC dX6_thingsOf_3 (by decide) ?_
  refine V_sipush (v := 256) hC dX6_thingsOf_4 rfl ?_
  refine V_irem hC dX6_thingsOf_7 (by decide) ?_
  obtain rfl := so_inj hf
  exact V_iret hC hr hQ hA dX6_thingsOf_8
def t_X6_isOpenChoice_48 (L : Nat → Nat) (d : Dt) (p1 : Int32) (p2 : Int32) (p3 : Int32)  (x5 : Int32)  : Option (Int32) := if x5 < 0 then some 1 else (t_X6_has L d p3 x5).bind (fun v9 => if v9 = 0 then some 1 else some 0)
set_option maxRecDepth 20000 in
theorem b_X6_isOpenChoice_48 {K : Kx} {Y : Yx} {z : Sh} {d : Dt} (hC : CK K Y cX6_isOpenChoice 6 RX6 1 21) (hr : (kme K).sig.returnType = some .boolean) (hA : kA K = aY Y z) {p1 : Int32} {p2 : Int32} {p3 : Int32} (ho : (0, 0, 5) ∈ yI Y) {r : Int32} (hQ : kQ K = MQ (kb K) (QM Y z (some (.int r)) d) (ka K) (ks K) 0 0 (aY Y z))   (x5 : Int32)  (hf : t_X6_isOpenChoice_48 z.1 d p1 p2 p3  x5  = some r) : V K Y 6 0 0 z d 48 [(3, .int p3), (5, .int x5)] [] := by
  have hL := hC.2.2.2.2.2.2.1
  have hkn : 0 ≤ (kR K).cells ∧ 0 ≤ (kR K).slots := ⟨Nat.zero_le _, Nat.zero_le _⟩
  unfold t_X6_isOpenChoice_48 at hf
  refine V_iload 1 hC dX6_isOpenChoice_48 rfl ?_
  refine V_if_lt (tgt := 62) hC dX6_isOpenChoice_50 (by decide) (fun c8 => ?_) (fun c8 => ?_)
  · have hf := if_t hf c8
    refine V_iconst (v := 1) hC dX6_isOpenChoice_62 rfl ?_
    refine V_goto (tgt := 67) hC dX6_isOpenChoice_63 (by decide) ?_
    obtain rfl := so_inj hf
    exact V_zret hC hr rfl hQ hA dX6_isOpenChoice_67
  · have hf := if_f hf c8
    refine V_iload_n 0 hC dX6_isOpenChoice_53 rfl rfl ?_
    refine V_iload 1 hC dX6_isOpenChoice_54 rfl ?_
    obtain ⟨v9, ev9, hf⟩ := bi_some hf
    refine V_insi (As := [.int p3, .int x5]) (rest := []) hC (c_X6_has hL  ev9) me_X6_has lk_X6_190 rfl rfl (Nat.le_of_ble_eq_true rfl) ⟨by decide, by decide⟩ hkn dX6_isOpenChoice_56 ?_
    refine V_if_ne (tgt := 66) hC dX6_isOpenChoice_59 (by decide) (fun c10 => ?_) (fun c10 => ?_)
    · have hf := if_f hf c10
      refine V_iconst (v := 0) hC dX6_isOpenChoice_66 rfl ?_
      obtain rfl := so_inj hf
      exact V_zret hC hr rfl hQ hA dX6_isOpenChoice_67
    · have hf := if_t hf c10
      refine V_iconst (v := 1) hC dX6_isOpenChoice_62 rfl ?_
      refine V_goto (tgt := 67) hC dX6_isOpenChoice_63 (by decide) ?_
      obtain rfl := so_inj hf
      exact V_zret hC hr rfl hQ hA dX6_isOpenChoice_67
def t_X6_isOpenChoice (L : Nat → Nat) (d : Dt) (p1 : Int32) (p2 : Int32) (p3 : Int32) : Option (Int32) := gd (inb ((512 + (6 * p1)) + p2) (L (32 * 0 + 0))) (bd (gA d (32 * 0 + 0) (ix ((512 + (6 * p1)) + p2))) (fun y2 => gd (inb ((656 + (6 * p1)) + p2) (L (32 * 0 + 0))) (bd (gA d (32 * 0 + 0) (ix ((656 + (6 * p1)) + p2))) (fun y4 => if y2 < 0 then t_X6_isOpenChoice_48 L d p1 p2 p3  y4 else (t_X6_has L d p3 y2).bind (fun v6 => if v6 = 0 then some 0 else t_X6_isOpenChoice_48 L d p1 p2 p3  y4)))))
set_option maxRecDepth 20000 in
theorem c_X6_isOpenChoice {l : Launch} {Y : Yx} (hL : LAY Y) {z : Sh} {d : Dt} {p1 : Int32} {p2 : Int32} {p3 : Int32} (ho : (0, 0, 5) ∈ yI Y) {r : Int32} (hf : t_X6_isOpenChoice z.1 d p1 p2 p3 = some r) : MM l yX6_isOpenChoice cX6_isOpenChoice 6 (some .boolean) 1 21 Y z [.ref (yo Y 0), .int p1, .int p2, .int p3] d (some (.int r)) d := by
  refine MM.ofV (by decide +kernel) hL (Nat.le_of_ble_eq_true rfl) (fun K hl hC hr hQ hA => ?_)
  have hC : CK K Y cX6_isOpenChoice 6 RX6 1 21 := hC
  have hkn : 0 ≤ (kR K).cells ∧ 0 ≤ (kR K).slots := ⟨Nat.zero_le _, Nat.zero_le _⟩
  unfold t_X6_isOpenChoice at hf
  show V K Y 6 0 0 z d 0 [(0, .ref (yo Y 0)), (1, .int p1), (2, .int p2), (3, .int p3)] []
  refine V_aload_n 0 hC dX6_isOpenChoice_0 rfl rfl ?_
  refine V_geta (o := 0) hC ho rfl fk_X6_7 dX6_isOpenChoice_1 ?_
  refine V_sipush (v := 512) hC dX6_isOpenChoice_4 rfl ?_
  refine V_bipush (v := 6) hC dX6_isOpenChoice_7 rfl ?_
  refine V_iload_n 1 hC dX6_isOpenChoice_9 rfl rfl ?_
  refine V_imul hC dX6_isOpenChoice_10 ?_
  refine V_iadd hC dX6_isOpenChoice_11 ?_
  refine V_iload_n 2 hC dX6_isOpenChoice_12 rfl rfl ?_
  refine V_iadd hC dX6_isOpenChoice_13 ?_
  obtain ⟨g1, hf⟩ := gd_some hf
  refine V_iald (a := (32 * 0 + 0)) hC (hL.row ho rfl) g1 dX6_isOpenChoice_14 ?_
  refine V_topi (fun y2 ey2 => ?_)
  have hf := bd_e hf y2 ey2
  refine V_istore (lv' := [(4, .int y2), (0, .ref (yo Y 0)), (1, .int p1), (2, .int p2), (3, .int p3)]) hC dX6_isOpenChoice_15 (by decide) rfl ?_
  refine V_aload_n 1 hC dX6_isOpenChoice_17 rfl rfl ?_
  refine V_geta (o := 0) hC ho rfl fk_X6_7 dX6_isOpenChoice_18 ?_
  refine V_sipush (v := 656) hC dX6_isOpenChoice_21 rfl ?_
  refine V_bipush (v := 6) hC dX6_isOpenChoice_24 rfl ?_
  refine V_iload_n 2 hC dX6_isOpenChoice_26 rfl rfl ?_
  refine V_imul hC dX6_isOpenChoice_27 ?_
  refine V_iadd hC dX6_isOpenChoice_28 ?_
  refine V_iload_n 3 hC dX6_isOpenChoice_29 rfl rfl ?_
  refine V_iadd hC dX6_isOpenChoice_30 ?_
  obtain ⟨g3, hf⟩ := gd_some hf
  refine V_iald (a := (32 * 0 + 0)) hC (hL.row ho rfl) g3 dX6_isOpenChoice_31 ?_
  refine V_topi (fun y4 ey4 => ?_)
  have hf := bd_e hf y4 ey4
  refine V_istore (lv' := [(5, .int y4), (4, .int y2), (0, .ref (yo Y 0)), (1, .int p1), (2, .int p2), (3, .int p3)]) hC dX6_isOpenChoice_32 (by decide) rfl ?_
  refine V_iload 1 hC dX6_isOpenChoice_34 rfl ?_
  refine V_if_lt (tgt := 48) hC dX6_isOpenChoice_36 (by decide) (fun c5 => ?_) (fun c5 => ?_)
  · have hf := if_t hf c5
    exact V_sub [5, 0] rfl (b_X6_isOpenChoice_48 hC hr hA ho hQ  y4 hf)
  · have hf := if_f hf c5
    refine V_iload_n 5 hC dX6_isOpenChoice_39 rfl rfl ?_
    refine V_iload 1 hC dX6_isOpenChoice_40 rfl ?_
    obtain ⟨v6, ev6, hf⟩ := bi_some hf
    refine V_insi (As := [.int p3, .int y2]) (rest := []) hC (c_X6_has hL  ev6) me_X6_has lk_X6_190 rfl rfl (Nat.le_of_ble_eq_true rfl) ⟨by decide, by decide⟩ hkn dX6_isOpenChoice_42 ?_
    refine V_if_eq (tgt := 66) hC dX6_isOpenChoice_45 (by decide) (fun c7 => ?_) (fun c7 => ?_)
    · have hf := if_t hf c7
      refine V_iconst (v := 0) hC dX6_isOpenChoice_66 rfl ?_
      obtain rfl := so_inj hf
      exact V_zret hC hr rfl hQ hA dX6_isOpenChoice_67
    · have hf := if_f hf c7
      exact V_sub [5, 0] rfl (b_X6_isOpenChoice_48 hC hr hA ho hQ  y4 hf)
def t_X6_isWay (L : Nat → Nat) (d : Dt) (p1 : Int32) (p2 : Int32) : Option (Int32) := (t_X6_partOf L d p1).bind (fun v1 => gd (inb (8 + v1) (L (32 * 0 + 0))) (if (gA d (32 * 0 + 0) (ix (8 + v1))) = 3 then some 1 else (t_X6_thingsOf L d p1).bind (fun v4 => (t_X6_isOpenChoice L d v1 p2 v4).bind (fun v5 => if v5 = 0 then some 0 else some 1))))
set_option maxRecDepth 20000 in
theorem c_X6_isWay {l : Launch} {Y : Yx} (hL : LAY Y) {z : Sh} {d : Dt} {p1 : Int32} {p2 : Int32} (ho : (0, 0, 5) ∈ yI Y) {r : Int32} (hf : t_X6_isWay z.1 d p1 p2 = some r) : MM l yX6_isWay cX6_isWay 4 (some .boolean) 2 46 Y z [.ref (yo Y 0), .int p1, .int p2] d (some (.int r)) d := by
  refine MM.ofV (by decide +kernel) hL (Nat.le_of_ble_eq_true rfl) (fun K hl hC hr hQ hA => ?_)
  have hC : CK K Y cX6_isWay 4 RX6 2 46 := hC
  have hkn : 0 ≤ (kR K).cells ∧ 0 ≤ (kR K).slots := ⟨Nat.zero_le _, Nat.zero_le _⟩
  unfold t_X6_isWay at hf
  show V K Y 4 0 0 z d 0 [(0, .ref (yo Y 0)), (1, .int p1), (2, .int p2)] []
  refine V_iload_n 1 hC dX6_isWay_0 rfl rfl ?_
  obtain ⟨v1, ev1, hf⟩ := bi_some hf
  refine V_insi (As := [.int p1]) (rest := []) hC (c_X6_partOf hL  ev1) me_X6_partOf lk_X6_194 rfl rfl (Nat.le_of_ble_eq_true rfl) ⟨by decide, by decide⟩ hkn dX6_isWay_1 ?_
  refine V_istore_n (lv' := [(3, .int v1), (0, .ref (yo Y 0)), (1, .int p1), (2, .int p2)]) hC dX6_isWay_4 rfl (by decide) rfl ?_
  refine V_aload_n 1 hC dX6_isWay_5 rfl rfl ?_
  refine V_geta (o := 0) hC ho rfl fk_X6_7 dX6_isWay_6 ?_
  refine V_bipush (v := 8) hC dX6_isWay_9 rfl ?_
  refine V_iload_n 0 hC dX6_isWay_11 rfl rfl ?_
  refine V_iadd hC dX6_isWay_12 ?_
  obtain ⟨g2, hf⟩ := gd_some hf
  refine V_iald (a := (32 * 0 + 0)) hC (hL.row ho rfl) g2 dX6_isWay_13 ?_
  refine V_iconst (v := 3) hC dX6_isWay_14 rfl ?_
  refine V_icmp_eq (tgt := 31) hC dX6_isWay_15 (by decide) (fun c3 => ?_) (fun c3 => ?_)
  · have hf := if_t hf c3
    refine V_iconst (v := 1) hC dX6_isWay_31 rfl ?_
    refine V_goto (tgt := 36) hC dX6_isWay_32 (by decide) ?_
    obtain rfl := so_inj hf
    exact V_zret hC hr rfl hQ hA dX6_isWay_36
  · have hf := if_f hf c3
    refine V_aload_n 1 hC dX6_isWay_18 rfl rfl ?_
    refine V_iload_n 0 hC dX6_isWay_19 rfl rfl ?_
    refine V_iload_n 3 hC dX6_isWay_20 rfl rfl ?_
    refine V_iload_n 2 hC dX6_isWay_21 rfl rfl ?_
    obtain ⟨v4, ev4, hf⟩ := bi_some hf
    refine V_insi (As := [.int p1]) (rest := [.int p2, .int v1, .ref (yo Y 0)]) hC (c_X6_thingsOf hL  ev4) me_X6_thingsOf lk_X6_197 rfl rfl (Nat.le_of_ble_eq_true rfl) ⟨by decide, by decide⟩ hkn dX6_isWay_22 ?_
    obtain ⟨v5, ev5, hf⟩ := bi_some hf
    refine V_invi (o := 0) (As := [.int v1, .int p2, .int v4]) (rest := []) hC (c_X6_isOpenChoice hL ho ev5) me_X6_isOpenChoice lk_X6_200 ho rfl rfl rfl (Nat.le_of_ble_eq_true rfl) ⟨by decide, by decide⟩ hkn dX6_isWay_25 ?_
    refine V_if_eq (tgt := 35) hC dX6_isWay_28 (by decide) (fun c6 => ?_) (fun c6 => ?_)
    · have hf := if_t hf c6
      refine V_iconst (v := 0) hC dX6_isWay_35 rfl ?_
      obtain rfl := so_inj hf
      exact V_zret hC hr rfl hQ hA dX6_isWay_36
    · have hf := if_f hf c6
      refine V_iconst (v := 1) hC dX6_isWay_31 rfl ?_
      refine V_goto (tgt := 36) hC dX6_isWay_32 (by decide) ?_
      obtain rfl := so_inj hf
      exact V_zret hC hr rfl hQ hA dX6_isWay_36
def t_X6_openWays_4 (L : Nat → Nat) (d : Dt) (p1 : Int32) (k4 : Int32 → Int32 → Option (Int32)) (x2 : Int32) (x3 : Int32)  : Option (Int32) := (t_X6_waysOf L d p1).bind (fun v1 => if v1 ≤ x3 then some x2 else (t_X6_isWay L d p1 x3).bind (fun v3 => (t_X6_one L d v3).bind (fun v4 => bd (x2 ||| (v4 <<< (x3 &&& 31))) (fun y5 => k4 y5 (x3 + 1)))))
set_option maxRecDepth 20000 in
theorem b_X6_openWays_4 {K : Kx} {Y : Yx} {z : Sh} {d : Dt} (hC : CK K Y cX6_openWays 4 RX6 3 69) (hr : (kme K).sig.returnType = some .int) (hA : kA K = aY Y z) {p1 : Int32} (ho : (0, 0, 5) ∈ yI Y) {r : Int32} (hQ : kQ K = MQ (kb K) (QM Y z (some (.int r)) d) (ka K) (ks K) 0 0 (aY Y z)) {k4 : Int32 → Int32 → Option (Int32)} (hk4 : ∀ (x2 : Int32) (x3 : Int32) , k4 x2 x3  = some r → V K Y 4 0 0 z d 4 [(0, .ref (yo Y 0)), (1, .int p1), (2, .int x2), (3, .int x3)] []) (x2 : Int32) (x3 : Int32)  (hf : t_X6_openWays_4 z.1 d p1 k4 x2 x3  = some r) : V K Y 4 0 0 z d 4 [(0, .ref (yo Y 0)), (1, .int p1), (2, .int x2), (3, .int x3)] [] := by
  have hL := hC.2.2.2.2.2.2.1
  have hkn : 0 ≤ (kR K).cells ∧ 0 ≤ (kR K).slots := ⟨Nat.zero_le _, Nat.zero_le _⟩
  unfold t_X6_openWays_4 at hf
  refine V_iload_n 3 hC dX6_openWays_4 rfl rfl ?_
  refine V_aload_n 0 hC dX6_openWays_5 rfl rfl ?_
  refine V_iload_n 1 hC dX6_openWays_6 rfl rfl ?_
  obtain ⟨v1, ev1, hf⟩ := bi_some hf
  refine V_invi (o := 0) (As := [.int p1]) (rest := [.int x3]) hC (c_X6_waysOf hL ho ev1) me_X6_waysOf lk_X6_212 ho rfl rfl rfl (Nat.le_of_ble_eq_true rfl) ⟨by decide, by decide⟩ hkn dX6_openWays_7 ?_
  refine V_icmp_ge (tgt := 33) hC dX6_openWays_10 (by decide) (fun c2 => ?_) (fun c2 => ?_)
  · have hf := if_t hf c2
    refine V_iload_n 2 hC dX6_openWays_33 rfl rfl ?_
    obtain rfl := so_inj hf
    exact V_iret hC hr hQ hA dX6_openWays_34
  · have hf := if_f hf c2
    refine V_iload_n 2 hC dX6_openWays_13 rfl rfl ?_
    refine V_aload_n 0 hC dX6_openWays_14 rfl rfl ?_
    refine V_iload_n 1 hC dX6_openWays_15 rfl rfl ?_
    refine V_iload_n 3 hC dX6_openWays_16 rfl rfl ?_
    obtain ⟨v3, ev3, hf⟩ := bi_some hf
    refine V_invi (o := 0) (As := [.int p1, .int x3]) (rest := [.int x2]) hC (c_X6_isWay hL ho ev3) me_X6_isWay lk_X6_215 ho rfl rfl rfl (Nat.le_of_ble_eq_true rfl) ⟨by decide, by decide⟩ hkn dX6_openWays_17 ?_
    obtain ⟨v4, ev4, hf⟩ := bi_some hf
    refine V_insi (As := [.int v3]) (rest := [.int x2]) hC (c_X6_one hL  ev4) me_X6_one lk_X6_218 rfl rfl (Nat.le_of_ble_eq_true rfl) ⟨by decide, by decide⟩ hkn dX6_openWays_20 ?_
    refine V_iload_n 3 hC dX6_openWays_23 rfl rfl ?_
    refine V_ishl hC dX6_openWays_24 ?_
    refine V_ior hC dX6_openWays_25 ?_
    refine V_topi (fun y5 ey5 => ?_)
    have hf := bd_e hf y5 ey5
    refine V_istore_n (lv' := [(2, .int y5), (0, .ref (yo Y 0)), (1, .int p1), (3, .int x3)]) hC dX6_openWays_26 rfl (by decide) rfl ?_
    refine V_iinc (v := x3 + 1) (lv' := [(3, .int (x3 + 1)), (2, .int y5), (0, .ref (yo Y 0)), (1, .int p1)]) 3 hC dX6_openWays_27 rfl rfl (by decide) rfl ?_
    refine V_goto (tgt := 4) hC dX6_openWays_30 (by decide) ?_
    exact V_sub [2, 3, 1, 0] rfl (hk4 y5 (x3 + 1) hf)
def t_X6_openWays (L : Nat → Nat) (d : Dt) (p1 : Int32) : Option (Int32) := lp (fun k x => t_X6_openWays_4 L d p1  (fun x2 x3 => k (x2, x3)) x.1 x.2) FU (0, 0)
set_option maxRecDepth 20000 in
theorem c_X6_openWays {l : Launch} {Y : Yx} (hL : LAY Y) {z : Sh} {d : Dt} {p1 : Int32} (ho : (0, 0, 5) ∈ yI Y) {r : Int32} (hf : t_X6_openWays z.1 d p1 = some r) : MM l yX6_openWays cX6_openWays 4 (some .int) 3 69 Y z [.ref (yo Y 0), .int p1] d (some (.int r)) d := by
  refine MM.ofV (by decide +kernel) hL (Nat.le_of_ble_eq_true rfl) (fun K hl hC hr hQ hA => ?_)
  have hC : CK K Y cX6_openWays 4 RX6 3 69 := hC
  unfold t_X6_openWays at hf
  show V K Y 4 0 0 z d 0 [(0, .ref (yo Y 0)), (1, .int p1)] []
  refine V_iconst (v := 0) hC dX6_openWays_0 rfl ?_
  refine V_istore_n (lv' := [(2, .int 0), (0, .ref (yo Y 0)), (1, .int p1)]) hC dX6_openWays_1 rfl (by decide) rfl ?_
  refine V_iconst (v := 0) hC dX6_openWays_2 rfl ?_
  refine V_istore_n (lv' := [(3, .int 0), (2, .int 0), (0, .ref (yo Y 0)), (1, .int p1)]) hC dX6_openWays_3 rfl (by decide) rfl ?_
  exact V_sub [2, 3, 1, 0] rfl (lp_ind (X := Int32 × Int32) (P := fun x => V K Y 4 0 0 z d 4 [(0, .ref (yo Y 0)), (1, .int p1), (2, .int x.1), (3, .int x.2)] []) (fun k x hk hx => b_X6_openWays_4 hC hr hA ho hQ  (k4 := fun x2 x3 => k (x2, x3)) (fun x2 x3 hx => hk (x2, x3) hx) x.1 x.2 hx) FU (0, 0) hf)
def t_X6_standsAt (L : Nat → Nat) (d : Dt) (p1 : Int32) : Option (Int32) := (t_X6_partOf L d p1).bind (fun v1 => gd (inb (8 + v1) (L (32 * 0 + 0))) (if (gA d (32 * 0 + 0) (ix (8 + v1))) = 1 then some 1 else (t_X6_openWays L d p1).bind (fun v4 => if v4 = 0 then some 3 else some 0)))
set_option maxRecDepth 20000 in
theorem c_X6_standsAt {l : Launch} {Y : Yx} (hL : LAY Y) {z : Sh} {d : Dt} {p1 : Int32} (ho : (0, 0, 5) ∈ yI Y) {r : Int32} (hf : t_X6_standsAt z.1 d p1 = some r) : MM l yX6_standsAt cX6_standsAt 2 (some .int) 4 92 Y z [.ref (yo Y 0), .int p1] d (some (.int r)) d := by
  refine MM.ofV (by decide +kernel) hL (Nat.le_of_ble_eq_true rfl) (fun K hl hC hr hQ hA => ?_)
  have hC : CK K Y cX6_standsAt 2 RX6 4 92 := hC
  have hkn : 0 ≤ (kR K).cells ∧ 0 ≤ (kR K).slots := ⟨Nat.zero_le _, Nat.zero_le _⟩
  unfold t_X6_standsAt at hf
  show V K Y 2 0 0 z d 0 [(0, .ref (yo Y 0)), (1, .int p1)] []
  refine V_aload_n 0 hC dX6_standsAt_0 rfl rfl ?_
  refine V_geta (o := 0) hC ho rfl fk_X6_7 dX6_standsAt_1 ?_
  refine V_bipush (v := 8) hC dX6_standsAt_4 rfl ?_
  refine V_iload_n 1 hC dX6_standsAt_6 rfl rfl ?_
  obtain ⟨v1, ev1, hf⟩ := bi_some hf
  refine V_insi (As := [.int p1]) (rest := [.int 8, .ref (gad z (32 * 0 + 0))]) hC (c_X6_partOf hL  ev1) me_X6_partOf lk_X6_194 rfl rfl (Nat.le_of_ble_eq_true rfl) ⟨by decide, by decide⟩ hkn dX6_standsAt_7 ?_
  refine V_iadd hC dX6_standsAt_10 ?_
  obtain ⟨g2, hf⟩ := gd_some hf
  refine V_iald (a := (32 * 0 + 0)) hC (hL.row ho rfl) g2 dX6_standsAt_11 ?_
  refine V_iconst (v := 1) hC dX6_standsAt_12 rfl ?_
  refine V_icmp_ne (tgt := 20) hC dX6_standsAt_13 (by decide) (fun c3 => ?_) (fun c3 => ?_)
  · have hf := if_f hf c3
    refine V_aload_n 0 hC dX6_standsAt_20 rfl rfl ?_
    refine V_iload_n 1 hC dX6_standsAt_21 rfl rfl ?_
    obtain ⟨v4, ev4, hf⟩ := bi_some hf
    refine V_invi (o := 0) (As := [.int p1]) (rest := []) hC (c_X6_openWays hL ho ev4) me_X6_openWays lk_X6_222 ho rfl rfl rfl (Nat.le_of_ble_eq_true rfl) ⟨by decide, by decide⟩ hkn dX6_standsAt_22 ?_
    refine V_if_ne (tgt := 32) hC dX6_standsAt_25 (by decide) (fun c5 => ?_) (fun c5 => ?_)
    · have hf := if_f hf c5
      refine V_iconst (v := 0) hC dX6_standsAt_32 rfl ?_
      obtain rfl := so_inj hf
      exact V_iret hC hr hQ hA dX6_standsAt_33
    · have hf := if_t hf c5
      refine V_iconst (v := 3) hC dX6_standsAt_28 rfl ?_
      refine V_goto (tgt := 33) hC dX6_standsAt_29 (by decide) ?_
      obtain rfl := so_inj hf
      exact V_iret hC hr hQ hA dX6_standsAt_33
  · have hf := if_t hf c3
    refine V_iconst (v := 1) hC dX6_standsAt_16 rfl ?_
    refine V_goto (tgt := 33) hC dX6_standsAt_17 (by decide) ?_
    obtain rfl := so_inj hf
    exact V_iret hC hr hQ hA dX6_standsAt_33
def t_X6_goalOf (L : Nat → Nat) (d : Dt) (p1 : Int32) (p2 : Int32) : Option (Int32) := (t_X6_partOf L d p1).bind (fun v1 => gd (inb (8 + v1) (L (32 * 0 + 0))) (if (gA d (32 * 0 + 0) (ix (8 + v1))) = 3 then if p2 = 0 then gd (inb (104 + v1) (L (32 * 0 + 0))) (some (gA d (32 * 0 + 0) (ix (104 + v1)))) else gd (inb (128 + v1) (L (32 * 0 + 0))) (some (gA d (32 * 0 + 0) (ix (128 + v1)))) else gd (inb ((368 + (6 * v1)) + p2) (L (32 * 0 + 0))) (some (gA d (32 * 0 + 0) (ix ((368 + (6 * v1)) + p2))))))
set_option maxRecDepth 20000 in
theorem c_X6_goalOf {l : Launch} {Y : Yx} (hL : LAY Y) {z : Sh} {d : Dt} {p1 : Int32} {p2 : Int32} (ho : (0, 0, 5) ∈ yI Y) {r : Int32} (hf : t_X6_goalOf z.1 d p1 p2 = some r) : MM l yX6_goalOf cX6_goalOf 4 (some .int) 1 20 Y z [.ref (yo Y 0), .int p1, .int p2] d (some (.int r)) d := by
  refine MM.ofV (by decide +kernel) hL (Nat.le_of_ble_eq_true rfl) (fun K hl hC hr hQ hA => ?_)
  have hC : CK K Y cX6_goalOf 4 RX6 1 20 := hC
  have hkn : 0 ≤ (kR K).cells ∧ 0 ≤ (kR K).slots := ⟨Nat.zero_le _, Nat.zero_le _⟩
  unfold t_X6_goalOf at hf
  show V K Y 4 0 0 z d 0 [(0, .ref (yo Y 0)), (1, .int p1), (2, .int p2)] []
  refine V_iload_n 1 hC dX6_goalOf_0 rfl rfl ?_
  obtain ⟨v1, ev1, hf⟩ := bi_some hf
  refine V_insi (As := [.int p1]) (rest := []) hC (c_X6_partOf hL  ev1) me_X6_partOf lk_X6_194 rfl rfl (Nat.le_of_ble_eq_true rfl) ⟨by decide, by decide⟩ hkn dX6_goalOf_1 ?_
  refine V_istore_n (lv' := [(3, .int v1), (0, .ref (yo Y 0)), (1, .int p1), (2, .int p2)]) hC dX6_goalOf_4 rfl (by decide) rfl ?_
  refine V_aload_n 1 hC dX6_goalOf_5 rfl rfl ?_
  refine V_geta (o := 0) hC ho rfl fk_X6_7 dX6_goalOf_6 ?_
  refine V_bipush (v := 8) hC dX6_goalOf_9 rfl ?_
  refine V_iload_n 0 hC dX6_goalOf_11 rfl rfl ?_
  refine V_iadd hC dX6_goalOf_12 ?_
  obtain ⟨g2, hf⟩ := gd_some hf
  refine V_iald (a := (32 * 0 + 0)) hC (hL.row ho rfl) g2 dX6_goalOf_13 ?_
  refine V_iconst (v := 3) hC dX6_goalOf_14 rfl ?_
  refine V_icmp_ne (tgt := 47) hC dX6_goalOf_15 (by decide) (fun c3 => ?_) (fun c3 => ?_)
  · have hf := if_f hf c3
    refine V_aload_n 1 hC dX6_goalOf_47 rfl rfl ?_
    refine V_geta (o := 0) hC ho rfl fk_X6_7 dX6_goalOf_48 ?_
    refine V_sipush (v := 368) hC dX6_goalOf_51 rfl ?_
    refine V_bipush (v := 6) hC dX6_goalOf_54 rfl ?_
    refine V_iload_n 0 hC dX6_goalOf_56 rfl rfl ?_
    refine V_imul hC dX6_goalOf_57 ?_
    refine V_iadd hC dX6_goalOf_58 ?_
    refine V_iload_n 3 hC dX6_goalOf_59 rfl rfl ?_
    refine V_iadd hC dX6_goalOf_60 ?_
    obtain ⟨g4, hf⟩ := gd_some hf
    refine V_iald (a := (32 * 0 + 0)) hC (hL.row ho rfl) g4 dX6_goalOf_61 ?_
    obtain rfl := so_inj hf
    exact V_iret hC hr hQ hA dX6_goalOf_62
  · have hf := if_t hf c3
    refine V_iload_n 3 hC dX6_goalOf_18 rfl rfl ?_
    refine V_if_ne (tgt := 34) hC dX6_goalOf_19 (by decide) (fun c5 => ?_) (fun c5 => ?_)
    · have hf := if_f hf c5
      refine V_aload_n 1 hC dX6_goalOf_34 rfl rfl ?_
      refine V_geta (o := 0) hC ho rfl fk_X6_7 dX6_goalOf_35 ?_
      refine V_sipush (v := 128) hC dX6_goalOf_38 rfl ?_
      refine V_iload_n 0 hC dX6_goalOf_41 rfl rfl ?_
      refine V_iadd hC dX6_goalOf_42 ?_
      obtain ⟨g6, hf⟩ := gd_some hf
      refine V_iald (a := (32 * 0 + 0)) hC (hL.row ho rfl) g6 dX6_goalOf_43 ?_
      refine V_goto (tgt := 62) hC dX6_goalOf_44 (by decide) ?_
      obtain rfl := so_inj hf
      exact V_iret hC hr hQ hA dX6_goalOf_62
    · have hf := if_t hf c5
      refine V_aload_n 1 hC dX6_goalOf_22 rfl rfl ?_
      refine V_geta (o := 0) hC ho rfl fk_X6_7 dX6_goalOf_23 ?_
      refine V_bipush (v := 104) hC dX6_goalOf_26 rfl ?_
      refine V_iload_n 0 hC dX6_goalOf_28 rfl rfl ?_
      refine V_iadd hC dX6_goalOf_29 ?_
      obtain ⟨g7, hf⟩ := gd_some hf
      refine V_iald (a := (32 * 0 + 0)) hC (hL.row ho rfl) g7 dX6_goalOf_30 ?_
      refine V_goto (tgt := 62) hC dX6_goalOf_31 (by decide) ?_
      obtain rfl := so_inj hf
      exact V_iret hC hr hQ hA dX6_goalOf_62
def t_X6_healthOf (L : Nat → Nat) (d : Dt) (p0 : Int32) : Option (Int32) := some (p0 - p0 / 10 * 10)
set_option maxRecDepth 20000 in
theorem c_X6_healthOf {l : Launch} {Y : Yx} (hL : LAY Y) {z : Sh} {d : Dt} {p0 : Int32}  {r : Int32} (hf : t_X6_healthOf z.1 d p0 = some r) : MM l yX6_healthOf cX6_healthOf 1 (some .int) 0 0 Y z [.int p0] d (some (.int r)) d := by
  refine MM.ofV (by decide +kernel) hL (Nat.le_of_ble_eq_true rfl) (fun K hl hC hr hQ hA => ?_)
  have hC : CK K Y cX6_healthOf 1 RX6 0 0 := hC
  unfold t_X6_healthOf at hf
  show V K Y 1 0 0 z d 0 [(0, .int p0)] []
  refine V_iload_n 0 hC dX6_healthOf_0 rfl rfl ?_
  refine V_bipush (v := 10) hC dX6_healthOf_1 rfl ?_
  refine V_irem hC dX6_healthOf_3 (by decide) ?_
  obtain rfl := so_inj hf
  exact V_iret hC hr hQ hA dX6_healthOf_4
def t_X6_wayTo (L : Nat → Nat) (d : Dt) (p1 : Int32) (p2 : Int32) : Option (Int32 × Dt) := (t_X6_goalOf L d p1 p2).bind (fun v1 => (t_X6_thingsOf L d p1).bind (fun v2 => (t_X6_healthOf L d p1).bind (fun v3 => (t_X6_stateAt L d v1 v2 v3).bind (fun q4 => some (q4.1, q4.2)))))
set_option maxRecDepth 20000 in
theorem c_X6_wayTo {l : Launch} {Y : Yx} (hL : LAY Y) {z : Sh} {d : Dt} {p1 : Int32} {p2 : Int32} (ho : (0, 0, 5) ∈ yI Y) {r : Int32} {d' : Dt} (hf : t_X6_wayTo z.1 d p1 p2 = some (r, d')) : MM l yX6_wayTo cX6_wayTo 3 (some .int) 2 48 Y z [.ref (yo Y 0), .int p1, .int p2] d (some (.int r)) d' := by
  refine MM.ofV (by decide +kernel) hL (Nat.le_of_ble_eq_true rfl) (fun K hl hC hr hQ hA => ?_)
  have hC : CK K Y cX6_wayTo 3 RX6 2 48 := hC
  have hkn : 0 ≤ (kR K).cells ∧ 0 ≤ (kR K).slots := ⟨Nat.zero_le _, Nat.zero_le _⟩
  unfold t_X6_wayTo at hf
  show V K Y 3 0 0 z d 0 [(0, .ref (yo Y 0)), (1, .int p1), (2, .int p2)] []
  refine V_aload_n 0 hC dX6_wayTo_0 rfl rfl ?_
  refine V_aload_n 0 hC dX6_wayTo_1 rfl rfl ?_
  refine V_iload_n 1 hC dX6_wayTo_2 rfl rfl ?_
  refine V_iload_n 2 hC dX6_wayTo_3 rfl rfl ?_
  obtain ⟨v1, ev1, hf⟩ := bi_some hf
  refine V_invi (o := 0) (As := [.int p1, .int p2]) (rest := [.ref (yo Y 0)]) hC (c_X6_goalOf hL ho ev1) me_X6_goalOf lk_X6_203 ho rfl rfl rfl (Nat.le_of_ble_eq_true rfl) ⟨by decide, by decide⟩ hkn dX6_wayTo_4 ?_
  refine V_iload_n 1 hC dX6_wayTo_7 rfl rfl ?_
  obtain ⟨v2, ev2, hf⟩ := bi_some hf
  refine V_insi (As := [.int p1]) (rest := [.int v1, .ref (yo Y 0)]) hC (c_X6_thingsOf hL  ev2) me_X6_thingsOf lk_X6_197 rfl rfl (Nat.le_of_ble_eq_true rfl) ⟨by decide, by decide⟩ hkn dX6_wayTo_8 ?_
  refine V_iload_n 1 hC dX6_wayTo_11 rfl rfl ?_
  obtain ⟨v3, ev3, hf⟩ := bi_some hf
  refine V_insi (As := [.int p1]) (rest := [.int v2, .int v1, .ref (yo Y 0)]) hC (c_X6_healthOf hL  ev3) me_X6_healthOf lk_X6_206 rfl rfl (Nat.le_of_ble_eq_true rfl) ⟨by decide, by decide⟩ hkn dX6_wayTo_12 ?_
  obtain ⟨q4, eq4, hf⟩ := bi_some hf
  refine V_invi (o := 0) (As := [.int v1, .int v2, .int v3]) (rest := []) hC (c_X6_stateAt hL ho eq4) me_X6_stateAt lk_X6_209 ho rfl rfl rfl (Nat.le_of_ble_eq_true rfl) ⟨by decide, by decide⟩ hkn dX6_wayTo_15 ?_
  obtain ⟨rfl, rfl⟩ := so_inj2 hf
  exact V_iret hC hr hQ hA dX6_wayTo_18
def t_X6_spreadAll_112 (L : Nat → Nat) (k2 : Int32 → (Dt) → Option (Dt)) (x1 : Int32) (d : Dt) : Option (Dt) := k2 (x1 + 1) d
set_option maxRecDepth 20000 in
theorem b_X6_spreadAll_112 {K : Kx} {Y : Yx} {z : Sh}  (hC : CK K Y cX6_spreadAll 6 RX6 5 113) (hr : (kme K).sig.returnType = none) (hA : kA K = aY Y z)  (ho : (0, 0, 5) ∈ yI Y) {d' : Dt} (hQ : kQ K = MQ (kb K) (QM Y z (none) d') (ka K) (ks K) 0 0 (aY Y z)) {k2 : Int32 → (Dt) → Option (Dt)} (hk2 : ∀ (x1 : Int32) (d : Dt), k2 x1 d = some d' → V K Y 6 0 0 z d 2 [(0, .ref (yo Y 0)), (1, .int x1)] []) (x1 : Int32) (d : Dt) (hf : t_X6_spreadAll_112 z.1 k2 x1 d = some d') : V K Y 6 0 0 z d 112 [(0, .ref (yo Y 0)), (1, .int x1)] [] := by
  have hL := hC.2.2.2.2.2.2.1
  unfold t_X6_spreadAll_112 at hf
  refine V_iinc (v := x1 + 1) (lv' := [(1, .int (x1 + 1)), (0, .ref (yo Y 0))]) 1 hC dX6_spreadAll_112 rfl rfl (by decide) rfl ?_
  refine V_goto (tgt := 2) hC dX6_spreadAll_115 (by decide) ?_
  exact V_sub [1, 0] rfl (hk2 (x1 + 1) d hf)
def t_X6_spreadAll_106 (L : Nat → Nat) (k2 : Int32 → (Dt) → Option (Dt)) (k19 : Int32 → Int32 → Int32 → (Dt) → Option (Dt)) (x1 : Int32) (x2 : Int32) (x3 : Int32) (d : Dt) : Option (Dt) := k19 x1 x2 (x3 + 1) d
set_option maxRecDepth 20000 in
theorem b_X6_spreadAll_106 {K : Kx} {Y : Yx} {z : Sh}  (hC : CK K Y cX6_spreadAll 6 RX6 5 113) (hr : (kme K).sig.returnType = none) (hA : kA K = aY Y z)  (ho : (0, 0, 5) ∈ yI Y) {d' : Dt} (hQ : kQ K = MQ (kb K) (QM Y z (none) d') (ka K) (ks K) 0 0 (aY Y z)) {k2 : Int32 → (Dt) → Option (Dt)} {k19 : Int32 → Int32 → Int32 → (Dt) → Option (Dt)} (hk2 : ∀ (x1 : Int32) (d : Dt), k2 x1 d = some d' → V K Y 6 0 0 z d 2 [(0, .ref (yo Y 0)), (1, .int x1)] []) (hk19 : ∀ (x1 : Int32) (x2 : Int32) (x3 : Int32) (d : Dt), k19 x1 x2 x3 d = some d' → V K Y 6 0 0 z d 19 [(0, .ref (yo Y 0)), (1, .int x1), (2, .int x2), (3, .int x3)] []) (x1 : Int32) (x2 : Int32) (x3 : Int32) (d : Dt) (hf : t_X6_spreadAll_106 z.1 k2 k19 x1 x2 x3 d = some d') : V K Y 6 0 0 z d 106 [(0, .ref (yo Y 0)), (1, .int x1), (2, .int x2), (3, .int x3)] [] := by
  have hL := hC.2.2.2.2.2.2.1
  unfold t_X6_spreadAll_106 at hf
  refine V_iinc (v := x3 + 1) (lv' := [(3, .int (x3 + 1)), (0, .ref (yo Y 0)), (1, .int x1), (2, .int x2)]) 3 hC dX6_spreadAll_106 rfl rfl (by decide) rfl ?_
  refine V_goto (tgt := 19) hC dX6_spreadAll_109 (by decide) ?_
  exact V_sub [1, 2, 3, 0] rfl (hk19 x1 x2 (x3 + 1) d hf)
def t_X6_spreadAll_90 (L : Nat → Nat) (k2 : Int32 → (Dt) → Option (Dt)) (k19 : Int32 → Int32 → Int32 → (Dt) → Option (Dt)) (x1 : Int32) (x2 : Int32) (x3 : Int32) (x4 : Int32) (s0 : Int32) (s1 : Int32) (d : Dt) : Option (Dt) := bd (sF d 0 22 (s1 ||| s0)) (fun d14 => gd (inb x2 (L (32 * 0 + 20))) ((t_X6_reach L d14 x4 (gA d14 (32 * 0 + 20) (ix x2))).bind (fun d16 => t_X6_spreadAll_106 L k2 k19 x1 x2 x3 d16)))
set_option maxRecDepth 20000 in
theorem b_X6_spreadAll_90 {K : Kx} {Y : Yx} {z : Sh}  (hC : CK K Y cX6_spreadAll 6 RX6 5 113) (hr : (kme K).sig.returnType = none) (hA : kA K = aY Y z)  (ho : (0, 0, 5) ∈ yI Y) {d' : Dt} (hQ : kQ K = MQ (kb K) (QM Y z (none) d') (ka K) (ks K) 0 0 (aY Y z)) {k2 : Int32 → (Dt) → Option (Dt)} {k19 : Int32 → Int32 → Int32 → (Dt) → Option (Dt)} (hk2 : ∀ (x1 : Int32) (d : Dt), k2 x1 d = some d' → V K Y 6 0 0 z d 2 [(0, .ref (yo Y 0)), (1, .int x1)] []) (hk19 : ∀ (x1 : Int32) (x2 : Int32) (x3 : Int32) (d : Dt), k19 x1 x2 x3 d = some d' → V K Y 6 0 0 z d 19 [(0, .ref (yo Y 0)), (1, .int x1), (2, .int x2), (3, .int x3)] []) (x1 : Int32) (x2 : Int32) (x3 : Int32) (x4 : Int32) (s0 : Int32) (s1 : Int32) (d : Dt) (hf : t_X6_spreadAll_90 z.1 k2 k19 x1 x2 x3 x4 s0 s1 d = some d') : V K Y 6 0 0 z d 90 [(0, .ref (yo Y 0)), (1, .int x1), (2, .int x2), (3, .int x3), (4, .int x4)] [.int s0, .int s1, .ref (yo Y 0)] := by
  have hL := hC.2.2.2.2.2.2.1
  have hkn : 0 ≤ (kR K).cells ∧ 0 ≤ (kR K).slots := ⟨Nat.zero_le _, Nat.zero_le _⟩
  unfold t_X6_spreadAll_90 at hf
  refine V_ior hC dX6_spreadAll_90 ?_
  refine V_puti (o := 0) hC ho rfl fk_X6_225 pl_X6 rfl rfl dX6_spreadAll_91 (fun d14 ed14 => ?_)
  have hf := bd_e hf d14 ed14
  refine V_aload_n 0 hC dX6_spreadAll_94 rfl rfl ?_
  refine V_iload 4 hC dX6_spreadAll_95 rfl ?_
  refine V_aload_n 0 hC dX6_spreadAll_97 rfl rfl ?_
  refine V_geta (o := 0) hC ho rfl fk_X6_43 dX6_spreadAll_98 ?_
  refine V_iload_n 2 hC dX6_spreadAll_101 rfl rfl ?_
  obtain ⟨g15, hf⟩ := gd_some hf
  refine V_iald (a := (32 * 0 + 20)) hC (hL.row ho rfl) g15 dX6_spreadAll_102 ?_
  obtain ⟨d16, ed16, hf⟩ := bi_some hf
  refine V_invv (o := 0) (As := [.int x4, .int (gA d14 (32 * 0 + 20) (ix x2))]) (rest := []) hC (c_X6_reach hL ho ed16) me_X6_reach lk_X6_234 ho rfl rfl rfl (Nat.le_of_ble_eq_true rfl) ⟨by decide, by decide⟩ hkn dX6_spreadAll_103 ?_
  exact V_sub [0, 1, 2, 3] rfl (b_X6_spreadAll_106 hC hr hA ho hQ hk2 hk19 x1 x2 x3 d16 hf)
def t_X6_spreadAll_89 (L : Nat → Nat) (k2 : Int32 → (Dt) → Option (Dt)) (k19 : Int32 → Int32 → Int32 → (Dt) → Option (Dt)) (x1 : Int32) (x2 : Int32) (x3 : Int32) (x4 : Int32) (s0 : Int32) (d : Dt) : Option (Dt) := t_X6_spreadAll_90 L k2 k19 x1 x2 x3 x4 0 s0 d
set_option maxRecDepth 20000 in
theorem b_X6_spreadAll_89 {K : Kx} {Y : Yx} {z : Sh}  (hC : CK K Y cX6_spreadAll 6 RX6 5 113) (hr : (kme K).sig.returnType = none) (hA : kA K = aY Y z)  (ho : (0, 0, 5) ∈ yI Y) {d' : Dt} (hQ : kQ K = MQ (kb K) (QM Y z (none) d') (ka K) (ks K) 0 0 (aY Y z)) {k2 : Int32 → (Dt) → Option (Dt)} {k19 : Int32 → Int32 → Int32 → (Dt) → Option (Dt)} (hk2 : ∀ (x1 : Int32) (d : Dt), k2 x1 d = some d' → V K Y 6 0 0 z d 2 [(0, .ref (yo Y 0)), (1, .int x1)] []) (hk19 : ∀ (x1 : Int32) (x2 : Int32) (x3 : Int32) (d : Dt), k19 x1 x2 x3 d = some d' → V K Y 6 0 0 z d 19 [(0, .ref (yo Y 0)), (1, .int x1), (2, .int x2), (3, .int x3)] []) (x1 : Int32) (x2 : Int32) (x3 : Int32) (x4 : Int32) (s0 : Int32) (d : Dt) (hf : t_X6_spreadAll_89 z.1 k2 k19 x1 x2 x3 x4 s0 d = some d') : V K Y 6 0 0 z d 89 [(0, .ref (yo Y 0)), (1, .int x1), (2, .int x2), (3, .int x3), (4, .int x4)] [.int s0, .ref (yo Y 0)] := by
  have hL := hC.2.2.2.2.2.2.1
  unfold t_X6_spreadAll_89 at hf
  refine V_iconst (v := 0) hC dX6_spreadAll_89 rfl ?_
  exact b_X6_spreadAll_90 hC hr hA ho hQ hk2 hk19 x1 x2 x3 x4 0 s0 d hf
def t_X6_spreadAll_19 (L : Nat → Nat) (k2 : Int32 → (Dt) → Option (Dt)) (k19 : Int32 → Int32 → Int32 → (Dt) → Option (Dt)) (x1 : Int32) (x2 : Int32) (x3 : Int32) (d : Dt) : Option (Dt) := (t_X6_waysOf L d x2).bind (fun v4 => if v4 ≤ x3 then t_X6_spreadAll_112 L k2 x1 d else (t_X6_standsAt L d x2).bind (fun v6 => if v6 = 0 then (t_X6_isWay L d x2 x3).bind (fun v8 => if v8 = 0 then t_X6_spreadAll_106 L k2 k19 x1 x2 x3 d else (t_X6_wayTo L d x2 x3).bind (fun q10 => (t_X6_goalOf L q10.2 x2 x3).bind (fun v11 => if q10.1 = (-2) then if v11 = (gF q10.2 0 15) then t_X6_spreadAll_89 L k2 k19 x1 x2 x3 q10.1 (gF q10.2 0 22) q10.2 else t_X6_spreadAll_90 L k2 k19 x1 x2 x3 q10.1 ((1 : Int32) <<< (v11 &&& 31)) (gF q10.2 0 22) q10.2 else t_X6_spreadAll_89 L k2 k19 x1 x2 x3 q10.1 (gF q10.2 0 22) q10.2))) else t_X6_spreadAll_112 L k2 x1 d))
set_option maxRecDepth 20000 in
theorem b_X6_spreadAll_19 {K : Kx} {Y : Yx} {z : Sh}  (hC : CK K Y cX6_spreadAll 6 RX6 5 113) (hr : (kme K).sig.returnType = none) (hA : kA K = aY Y z)  (ho : (0, 0, 5) ∈ yI Y) {d' : Dt} (hQ : kQ K = MQ (kb K) (QM Y z (none) d') (ka K) (ks K) 0 0 (aY Y z)) {k2 : Int32 → (Dt) → Option (Dt)} {k19 : Int32 → Int32 → Int32 → (Dt) → Option (Dt)} (hk2 : ∀ (x1 : Int32) (d : Dt), k2 x1 d = some d' → V K Y 6 0 0 z d 2 [(0, .ref (yo Y 0)), (1, .int x1)] []) (hk19 : ∀ (x1 : Int32) (x2 : Int32) (x3 : Int32) (d : Dt), k19 x1 x2 x3 d = some d' → V K Y 6 0 0 z d 19 [(0, .ref (yo Y 0)), (1, .int x1), (2, .int x2), (3, .int x3)] []) (x1 : Int32) (x2 : Int32) (x3 : Int32) (d : Dt) (hf : t_X6_spreadAll_19 z.1 k2 k19 x1 x2 x3 d = some d') : V K Y 6 0 0 z d 19 [(0, .ref (yo Y 0)), (1, .int x1), (2, .int x2), (3, .int x3)] [] := by
  have hL := hC.2.2.2.2.2.2.1
  have hkn : 0 ≤ (kR K).cells ∧ 0 ≤ (kR K).slots := ⟨Nat.zero_le _, Nat.zero_le _⟩
  unfold t_X6_spreadAll_19 at hf
  refine V_iload_n 3 hC dX6_spreadAll_19 rfl rfl ?_
  refine V_aload_n 0 hC dX6_spreadAll_20 rfl rfl ?_
  refine V_iload_n 2 hC dX6_spreadAll_21 rfl rfl ?_
  obtain ⟨v4, ev4, hf⟩ := bi_some hf
  refine V_invi (o := 0) (As := [.int x2]) (rest := [.int x3]) hC (c_X6_waysOf hL ho ev4) me_X6_waysOf lk_X6_212 ho rfl rfl rfl (Nat.le_of_ble_eq_true rfl) ⟨by decide, by decide⟩ hkn dX6_spreadAll_22 ?_
  refine V_icmp_ge (tgt := 112) hC dX6_spreadAll_25 (by decide) (fun c5 => ?_) (fun c5 => ?_)
  · have hf := if_t hf c5
    exact V_sub [0, 1] rfl (b_X6_spreadAll_112 hC hr hA ho hQ hk2 x1 d hf)
  · have hf := if_f hf c5
    refine V_aload_n 0 hC dX6_spreadAll_28 rfl rfl ?_
    refine V_iload_n 2 hC dX6_spreadAll_29 rfl rfl ?_
    obtain ⟨v6, ev6, hf⟩ := bi_some hf
    refine V_invi (o := 0) (As := [.int x2]) (rest := []) hC (c_X6_standsAt hL ho ev6) me_X6_standsAt lk_X6_228 ho rfl rfl rfl (Nat.le_of_ble_eq_true rfl) ⟨by decide, by decide⟩ hkn dX6_spreadAll_30 ?_
    refine V_if_ne (tgt := 112) hC dX6_spreadAll_33 (by decide) (fun c7 => ?_) (fun c7 => ?_)
    · have hf := if_f hf c7
      exact V_sub [0, 1] rfl (b_X6_spreadAll_112 hC hr hA ho hQ hk2 x1 d hf)
    · have hf := if_t hf c7
      refine V_aload_n 0 hC dX6_spreadAll_36 rfl rfl ?_
      refine V_iload_n 2 hC dX6_spreadAll_37 rfl rfl ?_
      refine V_iload_n 3 hC dX6_spreadAll_38 rfl rfl ?_
      obtain ⟨v8, ev8, hf⟩ := bi_some hf
      refine V_invi (o := 0) (As := [.int x2, .int x3]) (rest := []) hC (c_X6_isWay hL ho ev8) me_X6_isWay lk_X6_215 ho rfl rfl rfl (Nat.le_of_ble_eq_true rfl) ⟨by decide, by decide⟩ hkn dX6_spreadAll_39 ?_
      refine V_if_eq (tgt := 106) hC dX6_spreadAll_42 (by decide) (fun c9 => ?_) (fun c9 => ?_)
      · have hf := if_t hf c9
        exact b_X6_spreadAll_106 hC hr hA ho hQ hk2 hk19 x1 x2 x3 d hf
      · have hf := if_f hf c9
        refine V_aload_n 0 hC dX6_spreadAll_45 rfl rfl ?_
        refine V_iload_n 2 hC dX6_spreadAll_46 rfl rfl ?_
        refine V_iload_n 3 hC dX6_spreadAll_47 rfl rfl ?_
        obtain ⟨q10, eq10, hf⟩ := bi_some hf
        refine V_invi (o := 0) (As := [.int x2, .int x3]) (rest := []) hC (c_X6_wayTo hL ho eq10) me_X6_wayTo lk_X6_231 ho rfl rfl rfl (Nat.le_of_ble_eq_true rfl) ⟨by decide, by decide⟩ hkn dX6_spreadAll_48 ?_
        refine V_istore (lv' := [(4, .int q10.1), (0, .ref (yo Y 0)), (1, .int x1), (2, .int x2), (3, .int x3)]) hC dX6_spreadAll_51 (by decide) rfl ?_
        refine V_aload_n 1 hC dX6_spreadAll_53 rfl rfl ?_
        refine V_iload_n 3 hC dX6_spreadAll_54 rfl rfl ?_
        refine V_iload_n 4 hC dX6_spreadAll_55 rfl rfl ?_
        obtain ⟨v11, ev11, hf⟩ := bi_some hf
        refine V_invi (o := 0) (As := [.int x2, .int x3]) (rest := []) hC (c_X6_goalOf hL ho ev11) me_X6_goalOf lk_X6_203 ho rfl rfl rfl (Nat.le_of_ble_eq_true rfl) ⟨by decide, by decide⟩ hkn dX6_spreadAll_56 ?_
        refine V_istore (lv' := [(5, .int v11), (4, .int q10.1), (0, .ref (yo Y 0)), (1, .int x1), (2, .int x2), (3, .int x3)]) hC dX6_spreadAll_59 (by decide) rfl ?_
        refine V_aload_n 2 hC dX6_spreadAll_61 rfl rfl ?_
        refine V_dup hC dX6_spreadAll_62 rfl ?_
        refine V_geti (o := 0) hC ho rfl fk_X6_225 dX6_spreadAll_63 ?_
        refine V_iload 1 hC dX6_spreadAll_66 rfl ?_
        refine V_bipush (v := -2) hC dX6_spreadAll_68 rfl ?_
        refine V_icmp_ne (tgt := 89) hC dX6_spreadAll_70 (by decide) (fun c12 => ?_) (fun c12 => ?_)
        · have hf := if_f hf c12
          exact V_sub [2, 3, 4, 5, 1] rfl (b_X6_spreadAll_89 hC hr hA ho hQ hk2 hk19 x1 x2 x3 q10.1 (gF q10.2 0 22) q10.2 hf)
        · have hf := if_t hf c12
          refine V_iload 0 hC dX6_spreadAll_73 rfl ?_
          refine V_aload_n 2 hC dX6_spreadAll_75 rfl rfl ?_
          refine V_geti (o := 0) hC ho rfl fk_X6_33 dX6_spreadAll_76 ?_
          refine V_icmp_eq (tgt := 89) hC dX6_spreadAll_79 (by decide) (fun c13 => ?_) (fun c13 => ?_)
          · have hf := if_t hf c13
            exact V_sub [2, 3, 4, 5, 1] rfl (b_X6_spreadAll_89 hC hr hA ho hQ hk2 hk19 x1 x2 x3 q10.1 (gF q10.2 0 22) q10.2 hf)
          · have hf := if_f hf c13
            refine V_iconst (v := 1) hC dX6_spreadAll_82 rfl ?_
            refine V_iload 0 hC dX6_spreadAll_83 rfl ?_
            refine V_ishl hC dX6_spreadAll_85 ?_
            refine V_goto (tgt := 90) hC dX6_spreadAll_86 (by decide) ?_
            exact V_sub [2, 3, 4, 5, 1] rfl (b_X6_spreadAll_90 hC hr hA ho hQ hk2 hk19 x1 x2 x3 q10.1 ((1 : Int32) <<< (v11 &&& 31)) (gF q10.2 0 22) q10.2 hf)
def t_X6_spreadAll_2 (L : Nat → Nat) (k2 : Int32 → (Dt) → Option (Dt)) (x1 : Int32) (d : Dt) : Option (Dt) := if (gF d 0 21) ≤ x1 then some d else gd (inb x1 (L (32 * 0 + 19))) (bd (gA d (32 * 0 + 19) (ix x1)) (fun y3 => lp (fun k x => t_X6_spreadAll_19 L k2 (fun x1 x2 x3 d => k (x1, x2, x3, d)) x.1 x.2.1 x.2.2.1 x.2.2.2) FU (x1, y3, 0, d)))
set_option maxRecDepth 20000 in
theorem b_X6_spreadAll_2 {K : Kx} {Y : Yx} {z : Sh}  (hC : CK K Y cX6_spreadAll 6 RX6 5 113) (hr : (kme K).sig.returnType = none) (hA : kA K = aY Y z)  (ho : (0, 0, 5) ∈ yI Y) {d' : Dt} (hQ : kQ K = MQ (kb K) (QM Y z (none) d') (ka K) (ks K) 0 0 (aY Y z)) {k2 : Int32 → (Dt) → Option (Dt)} (hk2 : ∀ (x1 : Int32) (d : Dt), k2 x1 d = some d' → V K Y 6 0 0 z d 2 [(0, .ref (yo Y 0)), (1, .int x1)] []) (x1 : Int32) (d : Dt) (hf : t_X6_spreadAll_2 z.1 k2 x1 d = some d') : V K Y 6 0 0 z d 2 [(0, .ref (yo Y 0)), (1, .int x1)] [] := by
  have hL := hC.2.2.2.2.2.2.1
  unfold t_X6_spreadAll_2 at hf
  refine V_iload_n 1 hC dX6_spreadAll_2 rfl rfl ?_
  refine V_aload_n 0 hC dX6_spreadAll_3 rfl rfl ?_
  refine V_geti (o := 0) hC ho rfl fk_X6_173 dX6_spreadAll_4 ?_
  refine V_icmp_ge (tgt := 118) hC dX6_spreadAll_7 (by decide) (fun c1 => ?_) (fun c1 => ?_)
  · have hf := if_t hf c1
    obtain rfl := so_inj hf
    exact V_vret hC hr hQ hA dX6_spreadAll_118
  · have hf := if_f hf c1
    refine V_aload_n 0 hC dX6_spreadAll_10 rfl rfl ?_
    refine V_geta (o := 0) hC ho rfl fk_X6_40 dX6_spreadAll_11 ?_
    refine V_iload_n 1 hC dX6_spreadAll_14 rfl rfl ?_
    obtain ⟨g2, hf⟩ := gd_some hf
    refine V_iald (a := (32 * 0 + 19)) hC (hL.row ho rfl) g2 dX6_spreadAll_15 ?_
    refine V_topi (fun y3 ey3 => ?_)
    have hf := bd_e hf y3 ey3
    refine V_istore_n (lv' := [(2, .int y3), (0, .ref (yo Y 0)), (1, .int x1)]) hC dX6_spreadAll_16 rfl (by decide) rfl ?_
    refine V_iconst (v := 0) hC dX6_spreadAll_17 rfl ?_
    refine V_istore_n (lv' := [(3, .int 0), (2, .int y3), (0, .ref (yo Y 0)), (1, .int x1)]) hC dX6_spreadAll_18 rfl (by decide) rfl ?_
    exact V_sub [2, 3, 1, 0] rfl (lp_ind (X := Int32 × Int32 × Int32 × Dt) (P := fun x => V K Y 6 0 0 z x.2.2.2 19 [(0, .ref (yo Y 0)), (1, .int x.1), (2, .int x.2.1), (3, .int x.2.2.1)] []) (fun k x hk hx => b_X6_spreadAll_19 hC hr hA ho hQ hk2 (k19 := fun x1 x2 x3 d => k (x1, x2, x3, d)) (fun x1 x2 x3 d hx => hk (x1, x2, x3, d) hx) x.1 x.2.1 x.2.2.1 x.2.2.2 hx) FU (x1, y3, 0, d) hf)
def t_X6_spreadAll (L : Nat → Nat) (d : Dt)  : Option (Dt) := lp (fun k x => t_X6_spreadAll_2 L  (fun x1 d => k (x1, d)) x.1 x.2) FU (0, d)
set_option maxRecDepth 20000 in
theorem c_X6_spreadAll {l : Launch} {Y : Yx} (hL : LAY Y) {z : Sh} {d : Dt}  (ho : (0, 0, 5) ∈ yI Y) {d' : Dt} (hf : t_X6_spreadAll z.1 d  = some d') : MM l yX6_spreadAll cX6_spreadAll 6 none 5 113 Y z [.ref (yo Y 0)] d (none) d' := by
  refine MM.ofV (by decide +kernel) hL (Nat.le_of_ble_eq_true rfl) (fun K hl hC hr hQ hA => ?_)
  have hC : CK K Y cX6_spreadAll 6 RX6 5 113 := hC
  unfold t_X6_spreadAll at hf
  show V K Y 6 0 0 z d 0 [(0, .ref (yo Y 0))] []
  refine V_iconst (v := 0) hC dX6_spreadAll_0 rfl ?_
  refine V_istore_n (lv' := [(1, .int 0), (0, .ref (yo Y 0))]) hC dX6_spreadAll_1 rfl (by decide) rfl ?_
  exact V_sub [1, 0] rfl (lp_ind (X := Int32 × Dt) (P := fun x => V K Y 6 0 0 z x.2 2 [(0, .ref (yo Y 0)), (1, .int x.1)] []) (fun k x hk hx => b_X6_spreadAll_2 hC hr hA ho hQ  (k2 := fun x1 d => k (x1, d)) (fun x1 d hx => hk (x1, d) hx) x.1 x.2 hx) FU (0, d) hf)
def t_X6_spreadFromBeginning_45 (L : Nat → Nat)  (x1 : Int32) (s0 : Int32) (d : Dt) : Option (Dt) := bd (sF d 0 22 s0) (fun d8 => (t_X6_reach L d8 x1 0).bind (fun d9 => (t_X6_spreadAll L d9 ).bind (fun d10 => some d10)))
set_option maxRecDepth 20000 in
theorem b_X6_spreadFromBeginning_45 {K : Kx} {Y : Yx} {z : Sh}  (hC : CK K Y cX6_spreadFromBeginning 2 RX6 6 138) (hr : (kme K).sig.returnType = none) (hA : kA K = aY Y z)  (ho : (0, 0, 5) ∈ yI Y) {d' : Dt} (hQ : kQ K = MQ (kb K) (QM Y z (none) d') (ka K) (ks K) 0 0 (aY Y z))   (x1 : Int32) (s0 : Int32) (d : Dt) (hf : t_X6_spreadFromBeginning_45 z.1  x1 s0 d = some d') : V K Y 2 0 0 z d 45 [(0, .ref (yo Y 0)), (1, .int x1)] [.int s0, .ref (yo Y 0)] := by
  have hL := hC.2.2.2.2.2.2.1
  have hkn : 0 ≤ (kR K).cells ∧ 0 ≤ (kR K).slots := ⟨Nat.zero_le _, Nat.zero_le _⟩
  unfold t_X6_spreadFromBeginning_45 at hf
  refine V_puti (o := 0) hC ho rfl fk_X6_225 pl_X6 rfl rfl dX6_spreadFromBeginning_45 (fun d8 ed8 => ?_)
  have hf := bd_e hf d8 ed8
  refine V_aload_n 0 hC dX6_spreadFromBeginning_48 rfl rfl ?_
  refine V_iload_n 1 hC dX6_spreadFromBeginning_49 rfl rfl ?_
  refine V_iconst (v := 0) hC dX6_spreadFromBeginning_50 rfl ?_
  obtain ⟨d9, ed9, hf⟩ := bi_some hf
  refine V_invv (o := 0) (As := [.int x1, .int 0]) (rest := []) hC (c_X6_reach hL ho ed9) me_X6_reach lk_X6_234 ho rfl rfl rfl (Nat.le_of_ble_eq_true rfl) ⟨by decide, by decide⟩ hkn dX6_spreadFromBeginning_51 ?_
  refine V_aload_n 0 hC dX6_spreadFromBeginning_54 rfl rfl ?_
  obtain ⟨d10, ed10, hf⟩ := bi_some hf
  refine V_invv (o := 0) (As := []) (rest := []) hC (c_X6_spreadAll hL ho ed10) me_X6_spreadAll lk_X6_241 ho rfl rfl rfl (Nat.le_of_ble_eq_true rfl) ⟨by decide, by decide⟩ hkn dX6_spreadFromBeginning_55 ?_
  obtain rfl := so_inj hf
  exact V_vret hC hr hQ hA dX6_spreadFromBeginning_58
def t_X6_spreadFromBeginning_44 (L : Nat → Nat)  (x1 : Int32) (d : Dt) : Option (Dt) := t_X6_spreadFromBeginning_45 L  x1 0 d
set_option maxRecDepth 20000 in
theorem b_X6_spreadFromBeginning_44 {K : Kx} {Y : Yx} {z : Sh}  (hC : CK K Y cX6_spreadFromBeginning 2 RX6 6 138) (hr : (kme K).sig.returnType = none) (hA : kA K = aY Y z)  (ho : (0, 0, 5) ∈ yI Y) {d' : Dt} (hQ : kQ K = MQ (kb K) (QM Y z (none) d') (ka K) (ks K) 0 0 (aY Y z))   (x1 : Int32) (d : Dt) (hf : t_X6_spreadFromBeginning_44 z.1  x1 d = some d') : V K Y 2 0 0 z d 44 [(0, .ref (yo Y 0)), (1, .int x1)] [.ref (yo Y 0)] := by
  have hL := hC.2.2.2.2.2.2.1
  unfold t_X6_spreadFromBeginning_44 at hf
  refine V_iconst (v := 0) hC dX6_spreadFromBeginning_44 rfl ?_
  exact b_X6_spreadFromBeginning_45 hC hr hA ho hQ  x1 0 d hf
def t_X6_spreadFromBeginning (L : Nat → Nat) (d : Dt)  : Option (Dt) := (t_X6_beginSpread L d ).bind (fun d1 => gd (inb 0 (L (32 * 0 + 0))) (if (gA d1 (32 * 0 + 0) (ix 0)) ≤ 0 then some d1 else gd (inb 1 (L (32 * 0 + 0))) ((t_X6_stateAt L d1 0 0 (gA d1 (32 * 0 + 0) (ix 1))).bind (fun q5 => if q5.1 = (-2) then if (gF q5.2 0 15) = 0 then t_X6_spreadFromBeginning_44 L  q5.1 q5.2 else t_X6_spreadFromBeginning_45 L  q5.1 1 q5.2 else t_X6_spreadFromBeginning_44 L  q5.1 q5.2))))
set_option maxRecDepth 20000 in
theorem c_X6_spreadFromBeginning {l : Launch} {Y : Yx} (hL : LAY Y) {z : Sh} {d : Dt}  (ho : (0, 0, 5) ∈ yI Y) {d' : Dt} (hf : t_X6_spreadFromBeginning z.1 d  = some d') : MM l yX6_spreadFromBeginning cX6_spreadFromBeginning 2 none 6 138 Y z [.ref (yo Y 0)] d (none) d' := by
  refine MM.ofV (by decide +kernel) hL (Nat.le_of_ble_eq_true rfl) (fun K hl hC hr hQ hA => ?_)
  have hC : CK K Y cX6_spreadFromBeginning 2 RX6 6 138 := hC
  have hkn : 0 ≤ (kR K).cells ∧ 0 ≤ (kR K).slots := ⟨Nat.zero_le _, Nat.zero_le _⟩
  unfold t_X6_spreadFromBeginning at hf
  show V K Y 2 0 0 z d 0 [(0, .ref (yo Y 0))] []
  refine V_aload_n 0 hC dX6_spreadFromBeginning_0 rfl rfl ?_
  obtain ⟨d1, ed1, hf⟩ := bi_some hf
  refine V_invv (o := 0) (As := []) (rest := []) hC (c_X6_beginSpread hL ho ed1) me_X6_beginSpread lk_X6_238 ho rfl rfl rfl (Nat.le_of_ble_eq_true rfl) ⟨by decide, by decide⟩ hkn dX6_spreadFromBeginning_1 ?_
  refine V_aload_n 0 hC dX6_spreadFromBeginning_4 rfl rfl ?_
  refine V_geta (o := 0) hC ho rfl fk_X6_7 dX6_spreadFromBeginning_5 ?_
  refine V_iconst (v := 0) hC dX6_spreadFromBeginning_8 rfl ?_
  obtain ⟨g2, hf⟩ := gd_some hf
  refine V_iald (a := (32 * 0 + 0)) hC (hL.row ho rfl) g2 dX6_spreadFromBeginning_9 ?_
  refine V_if_le (tgt := 58) hC dX6_spreadFromBeginning_10 (by decide) (fun c3 => ?_) (fun c3 => ?_)
  · have hf := if_t hf c3
    obtain rfl := so_inj hf
    exact V_vret hC hr hQ hA dX6_spreadFromBeginning_58
  · have hf := if_f hf c3
    refine V_aload_n 0 hC dX6_spreadFromBeginning_13 rfl rfl ?_
    refine V_iconst (v := 0) hC dX6_spreadFromBeginning_14 rfl ?_
    refine V_iconst (v := 0) hC dX6_spreadFromBeginning_15 rfl ?_
    refine V_aload_n 0 hC dX6_spreadFromBeginning_16 rfl rfl ?_
    refine V_geta (o := 0) hC ho rfl fk_X6_7 dX6_spreadFromBeginning_17 ?_
    refine V_iconst (v := 1) hC dX6_spreadFromBeginning_20 rfl ?_
    obtain ⟨g4, hf⟩ := gd_some hf
    refine V_iald (a := (32 * 0 + 0)) hC (hL.row ho rfl) g4 dX6_spreadFromBeginning_21 ?_
    obtain ⟨q5, eq5, hf⟩ := bi_some hf
    refine V_invi (o := 0) (As := [.int 0, .int 0, .int (gA d1 (32 * 0 + 0) (ix 1))]) (rest := []) hC (c_X6_stateAt hL ho eq5) me_X6_stateAt lk_X6_209 ho rfl rfl rfl (Nat.le_of_ble_eq_true rfl) ⟨by decide, by decide⟩ hkn dX6_spreadFromBeginning_22 ?_
    refine V_istore_n (lv' := [(1, .int q5.1), (0, .ref (yo Y 0))]) hC dX6_spreadFromBeginning_25 rfl (by decide) rfl ?_
    refine V_aload_n 1 hC dX6_spreadFromBeginning_26 rfl rfl ?_
    refine V_iload_n 0 hC dX6_spreadFromBeginning_27 rfl rfl ?_
    refine V_bipush (v := -2) hC dX6_spreadFromBeginning_28 rfl ?_
    refine V_icmp_ne (tgt := 44) hC dX6_spreadFromBeginning_30 (by decide) (fun c6 => ?_) (fun c6 => ?_)
    · have hf := if_f hf c6
      exact V_sub [1, 0] rfl (b_X6_spreadFromBeginning_44 hC hr hA ho hQ  q5.1 q5.2 hf)
    · have hf := if_t hf c6
      refine V_aload_n 1 hC dX6_spreadFromBeginning_33 rfl rfl ?_
      refine V_geti (o := 0) hC ho rfl fk_X6_33 dX6_spreadFromBeginning_34 ?_
      refine V_if_eq (tgt := 44) hC dX6_spreadFromBeginning_37 (by decide) (fun c7 => ?_) (fun c7 => ?_)
      · have hf := if_t hf c7
        exact V_sub [1, 0] rfl (b_X6_spreadFromBeginning_44 hC hr hA ho hQ  q5.1 q5.2 hf)
      · have hf := if_f hf c7
        refine V_iconst (v := 1) hC dX6_spreadFromBeginning_40 rfl ?_
        refine V_goto (tgt := 45) hC dX6_spreadFromBeginning_41 (by decide) ?_
        exact V_sub [1, 0] rfl (b_X6_spreadFromBeginning_45 hC hr hA ho hQ  q5.1 1 q5.2 hf)
def t_X6_count (L : Nat → Nat) (d : Dt) (p1 : Int32) : Option (Int32 × Dt) := if p1 = 0 then gd (inb 0 (L (32 * 0 + 0))) (some (gA d (32 * 0 + 0) (ix 0), d)) else if p1 = 1 then (t_X6_choices L d ).bind (fun v4 => some (v4, d)) else if p1 = 2 then gd (inb 1 (L (32 * 0 + 0))) (some (gA d (32 * 0 + 0) (ix 1), d)) else if p1 = 3 then some (gF d 0 23, d) else if p1 = 4 then some (gF d 0 4, d) else if p1 = 5 then (t_X6_spreadFromBeginning L d ).bind (fun d10 => some (gF d10 0 21, d10)) else some ((-1000002), d)
set_option maxRecDepth 20000 in
theorem c_X6_count {l : Launch} {Y : Yx} (hL : LAY Y) {z : Sh} {d : Dt} {p1 : Int32} (ho : (0, 0, 5) ∈ yI Y) {r : Int32} {d' : Dt} (hf : t_X6_count z.1 d p1 = some (r, d')) : MM l yX6_count cX6_count 2 (some .int) 7 159 Y z [.ref (yo Y 0), .int p1] d (some (.int r)) d' := by
  refine MM.ofV (by decide +kernel) hL (Nat.le_of_ble_eq_true rfl) (fun K hl hC hr hQ hA => ?_)
  have hC : CK K Y cX6_count 2 RX6 7 159 := hC
  have hkn : 0 ≤ (kR K).cells ∧ 0 ≤ (kR K).slots := ⟨Nat.zero_le _, Nat.zero_le _⟩
  unfold t_X6_count at hf
  show V K Y 2 0 0 z d 0 [(0, .ref (yo Y 0)), (1, .int p1)] []
  refine V_iload_n 1 hC dX6_count_0 rfl rfl ?_
  by_cases c1 : p1 = 0
  · have hf := if_t hf c1
    refine V_tswIn (tgt := 40) hC dX6_count_1 0 c1 (by decide) (by decide) rfl (by decide) ?_
    refine V_aload_n 0 hC dX6_count_40 rfl rfl ?_
    refine V_geta (o := 0) hC ho rfl fk_X6_7 dX6_count_41 ?_
    refine V_iconst (v := 0) hC dX6_count_44 rfl ?_
    obtain ⟨g2, hf⟩ := gd_some hf
    refine V_iald (a := (32 * 0 + 0)) hC (hL.row ho rfl) g2 dX6_count_45 ?_
    obtain ⟨rfl, rfl⟩ := so_inj2 hf
    exact V_iret hC hr hQ hA dX6_count_46
  · have hf := if_f hf c1
    by_cases c3 : p1 = 1
    · have hf := if_t hf c3
      refine V_tswIn (tgt := 47) hC dX6_count_1 1 c3 (by decide) (by decide) rfl (by decide) ?_
      refine V_aload_n 0 hC dX6_count_47 rfl rfl ?_
      obtain ⟨v4, ev4, hf⟩ := bi_some hf
      refine V_invi (o := 0) (As := []) (rest := []) hC (c_X6_choices hL ho ev4) me_X6_choices lk_X6_167 ho rfl rfl rfl (Nat.le_of_ble_eq_true rfl) ⟨by decide, by decide⟩ hkn dX6_count_48 ?_
      obtain ⟨rfl, rfl⟩ := so_inj2 hf
      exact V_iret hC hr hQ hA dX6_count_51
    · have hf := if_f hf c3
      by_cases c5 : p1 = 2
      · have hf := if_t hf c5
        refine V_tswIn (tgt := 52) hC dX6_count_1 2 c5 (by decide) (by decide) rfl (by decide) ?_
        refine V_aload_n 0 hC dX6_count_52 rfl rfl ?_
        refine V_geta (o := 0) hC ho rfl fk_X6_7 dX6_count_53 ?_
        refine V_iconst (v := 1) hC dX6_count_56 rfl ?_
        obtain ⟨g6, hf⟩ := gd_some hf
        refine V_iald (a := (32 * 0 + 0)) hC (hL.row ho rfl) g6 dX6_count_57 ?_
        obtain ⟨rfl, rfl⟩ := so_inj2 hf
        exact V_iret hC hr hQ hA dX6_count_58
      · have hf := if_f hf c5
        by_cases c7 : p1 = 3
        · have hf := if_t hf c7
          refine V_tswIn (tgt := 59) hC dX6_count_1 3 c7 (by decide) (by decide) rfl (by decide) ?_
          refine V_aload_n 0 hC dX6_count_59 rfl rfl ?_
          refine V_geti (o := 0) hC ho rfl fk_X6_149 dX6_count_60 ?_
          obtain ⟨rfl, rfl⟩ := so_inj2 hf
          exact V_iret hC hr hQ hA dX6_count_63
        · have hf := if_f hf c7
          by_cases c8 : p1 = 4
          · have hf := if_t hf c8
            refine V_tswIn (tgt := 64) hC dX6_count_1 4 c8 (by decide) (by decide) rfl (by decide) ?_
            refine V_aload_n 0 hC dX6_count_64 rfl rfl ?_
            refine V_geti (o := 0) hC ho rfl fk_X6_71 dX6_count_65 ?_
            obtain ⟨rfl, rfl⟩ := so_inj2 hf
            exact V_iret hC hr hQ hA dX6_count_68
          · have hf := if_f hf c8
            by_cases c9 : p1 = 5
            · have hf := if_t hf c9
              refine V_tswIn (tgt := 69) hC dX6_count_1 5 c9 (by decide) (by decide) rfl (by decide) ?_
              refine V_aload_n 0 hC dX6_count_69 rfl rfl ?_
              obtain ⟨d10, ed10, hf⟩ := bi_some hf
              refine V_invv (o := 0) (As := []) (rest := []) hC (c_X6_spreadFromBeginning hL ho ed10) me_X6_spreadFromBeginning lk_X6_170 ho rfl rfl rfl (Nat.le_of_ble_eq_true rfl) ⟨by decide, by decide⟩ hkn dX6_count_70 ?_
              refine V_aload_n 0 hC dX6_count_73 rfl rfl ?_
              refine V_geti (o := 0) hC ho rfl fk_X6_173 dX6_count_74 ?_
              obtain ⟨rfl, rfl⟩ := so_inj2 hf
              exact V_iret hC hr hQ hA dX6_count_77
            · have hf := if_f hf c9
              refine V_tswOut (tgt := 78) hC dX6_count_1 (by have hc1 := lv_neT c1 (show (0 : Int32).toInt = 0 from rfl); have hc3 := lv_neT c3 (show (1 : Int32).toInt = 1 from rfl); have hc5 := lv_neT c5 (show (2 : Int32).toInt = 2 from rfl); have hc7 := lv_neT c7 (show (3 : Int32).toInt = 3 from rfl); have hc8 := lv_neT c8 (show (4 : Int32).toInt = 4 from rfl); have hc9 := lv_neT c9 (show (5 : Int32).toInt = 5 from rfl); omega) (by decide) ?_
              refine V_ldc hC ck_X6_70 dX6_count_78 ?_
              obtain ⟨rfl, rfl⟩ := so_inj2 hf
              exact V_iret hC hr hQ hA dX6_count_80
def t_X6_spreadFrom (L : Nat → Nat) (d : Dt) (p1 : Int32) : Option (Dt) := (t_X6_beginSpread L d ).bind (fun d1 => (t_X6_reach L d1 p1 0).bind (fun d2 => (t_X6_spreadAll L d2 ).bind (fun d3 => some d3)))
set_option maxRecDepth 20000 in
theorem c_X6_spreadFrom {l : Launch} {Y : Yx} (hL : LAY Y) {z : Sh} {d : Dt} {p1 : Int32} (ho : (0, 0, 5) ∈ yI Y) {d' : Dt} (hf : t_X6_spreadFrom z.1 d p1 = some d') : MM l yX6_spreadFrom cX6_spreadFrom 2 none 6 138 Y z [.ref (yo Y 0), .int p1] d (none) d' := by
  refine MM.ofV (by decide +kernel) hL (Nat.le_of_ble_eq_true rfl) (fun K hl hC hr hQ hA => ?_)
  have hC : CK K Y cX6_spreadFrom 2 RX6 6 138 := hC
  have hkn : 0 ≤ (kR K).cells ∧ 0 ≤ (kR K).slots := ⟨Nat.zero_le _, Nat.zero_le _⟩
  unfold t_X6_spreadFrom at hf
  show V K Y 2 0 0 z d 0 [(0, .ref (yo Y 0)), (1, .int p1)] []
  refine V_aload_n 0 hC dX6_spreadFrom_0 rfl rfl ?_
  obtain ⟨d1, ed1, hf⟩ := bi_some hf
  refine V_invv (o := 0) (As := []) (rest := []) hC (c_X6_beginSpread hL ho ed1) me_X6_beginSpread lk_X6_238 ho rfl rfl rfl (Nat.le_of_ble_eq_true rfl) ⟨by decide, by decide⟩ hkn dX6_spreadFrom_1 ?_
  refine V_aload_n 0 hC dX6_spreadFrom_4 rfl rfl ?_
  refine V_iload_n 1 hC dX6_spreadFrom_5 rfl rfl ?_
  refine V_iconst (v := 0) hC dX6_spreadFrom_6 rfl ?_
  obtain ⟨d2, ed2, hf⟩ := bi_some hf
  refine V_invv (o := 0) (As := [.int p1, .int 0]) (rest := []) hC (c_X6_reach hL ho ed2) me_X6_reach lk_X6_234 ho rfl rfl rfl (Nat.le_of_ble_eq_true rfl) ⟨by decide, by decide⟩ hkn dX6_spreadFrom_7 ?_
  refine V_aload_n 0 hC dX6_spreadFrom_10 rfl rfl ?_
  obtain ⟨d3, ed3, hf⟩ := bi_some hf
  refine V_invv (o := 0) (As := []) (rest := []) hC (c_X6_spreadAll hL ho ed3) me_X6_spreadAll lk_X6_241 ho rfl rfl rfl (Nat.le_of_ble_eq_true rfl) ⟨by decide, by decide⟩ hkn dX6_spreadFrom_11 ?_
  obtain rfl := so_inj hf
  exact V_vret hC hr hQ hA dX6_spreadFrom_14
def t_X6_hasWon_35 (L : Nat → Nat) (d : Dt) (k4 : Int32 → Int32 → Option (Int32)) (x2 : Int32) (s0 : Int32)  : Option (Int32) := k4 s0 (x2 + 1)
set_option maxRecDepth 20000 in
theorem b_X6_hasWon_35 {K : Kx} {Y : Yx} {z : Sh} {d : Dt} (hC : CK K Y cX6_hasWon 3 RX6 5 113) (hr : (kme K).sig.returnType = some .boolean) (hA : kA K = aY Y z)  (ho : (0, 0, 5) ∈ yI Y) {r : Int32} (hQ : kQ K = MQ (kb K) (QM Y z (some (.int r)) d) (ka K) (ks K) 0 0 (aY Y z)) {k4 : Int32 → Int32 → Option (Int32)} (hk4 : ∀ (x1 : Int32) (x2 : Int32) , k4 x1 x2  = some r → V K Y 3 0 0 z d 4 [(0, .ref (yo Y 0)), (1, .int x1), (2, .int x2)] []) (x2 : Int32) (s0 : Int32)  (hf : t_X6_hasWon_35 z.1 d k4 x2 s0  = some r) : V K Y 3 0 0 z d 35 [(0, .ref (yo Y 0)), (2, .int x2)] [.int s0] := by
  have hL := hC.2.2.2.2.2.2.1
  unfold t_X6_hasWon_35 at hf
  refine V_istore_n (lv' := [(1, .int s0), (0, .ref (yo Y 0)), (2, .int x2)]) hC dX6_hasWon_35 rfl (by decide) rfl ?_
  refine V_iinc (v := x2 + 1) (lv' := [(2, .int (x2 + 1)), (1, .int s0), (0, .ref (yo Y 0))]) 2 hC dX6_hasWon_36 rfl rfl (by decide) rfl ?_
  refine V_goto (tgt := 4) hC dX6_hasWon_39 (by decide) ?_
  exact V_sub [2, 1, 0] rfl (hk4 s0 (x2 + 1) hf)
def t_X6_hasWon_30 (L : Nat → Nat) (d : Dt) (k4 : Int32 → Int32 → Option (Int32)) (x2 : Int32)  : Option (Int32) := t_X6_hasWon_35 L d k4 x2 1
set_option maxRecDepth 20000 in
theorem b_X6_hasWon_30 {K : Kx} {Y : Yx} {z : Sh} {d : Dt} (hC : CK K Y cX6_hasWon 3 RX6 5 113) (hr : (kme K).sig.returnType = some .boolean) (hA : kA K = aY Y z)  (ho : (0, 0, 5) ∈ yI Y) {r : Int32} (hQ : kQ K = MQ (kb K) (QM Y z (some (.int r)) d) (ka K) (ks K) 0 0 (aY Y z)) {k4 : Int32 → Int32 → Option (Int32)} (hk4 : ∀ (x1 : Int32) (x2 : Int32) , k4 x1 x2  = some r → V K Y 3 0 0 z d 4 [(0, .ref (yo Y 0)), (1, .int x1), (2, .int x2)] []) (x2 : Int32)  (hf : t_X6_hasWon_30 z.1 d k4 x2  = some r) : V K Y 3 0 0 z d 30 [(0, .ref (yo Y 0)), (2, .int x2)] [] := by
  have hL := hC.2.2.2.2.2.2.1
  unfold t_X6_hasWon_30 at hf
  refine V_iconst (v := 1) hC dX6_hasWon_30 rfl ?_
  refine V_goto (tgt := 35) hC dX6_hasWon_31 (by decide) ?_
  exact b_X6_hasWon_35 hC hr hA ho hQ hk4 x2 1 hf
def t_X6_hasWon_4 (L : Nat → Nat) (d : Dt) (k4 : Int32 → Int32 → Option (Int32)) (x1 : Int32) (x2 : Int32)  : Option (Int32) := if (gF d 0 21) ≤ x2 then gd (isB x1) (some x1) else if x1 = 0 then gd (inb x2 (L (32 * 0 + 19))) ((t_X6_standsAt L d (gA d (32 * 0 + 19) (ix x2))).bind (fun v5 => if v5 = 1 then t_X6_hasWon_30 L d k4 x2 else t_X6_hasWon_35 L d k4 x2 0)) else t_X6_hasWon_30 L d k4 x2
set_option maxRecDepth 20000 in
theorem b_X6_hasWon_4 {K : Kx} {Y : Yx} {z : Sh} {d : Dt} (hC : CK K Y cX6_hasWon 3 RX6 5 113) (hr : (kme K).sig.returnType = some .boolean) (hA : kA K = aY Y z)  (ho : (0, 0, 5) ∈ yI Y) {r : Int32} (hQ : kQ K = MQ (kb K) (QM Y z (some (.int r)) d) (ka K) (ks K) 0 0 (aY Y z)) {k4 : Int32 → Int32 → Option (Int32)} (hk4 : ∀ (x1 : Int32) (x2 : Int32) , k4 x1 x2  = some r → V K Y 3 0 0 z d 4 [(0, .ref (yo Y 0)), (1, .int x1), (2, .int x2)] []) (x1 : Int32) (x2 : Int32)  (hf : t_X6_hasWon_4 z.1 d k4 x1 x2  = some r) : V K Y 3 0 0 z d 4 [(0, .ref (yo Y 0)), (1, .int x1), (2, .int x2)] [] := by
  have hL := hC.2.2.2.2.2.2.1
  have hkn : 0 ≤ (kR K).cells ∧ 0 ≤ (kR K).slots := ⟨Nat.zero_le _, Nat.zero_le _⟩
  unfold t_X6_hasWon_4 at hf
  refine V_iload_n 2 hC dX6_hasWon_4 rfl rfl ?_
  refine V_aload_n 0 hC dX6_hasWon_5 rfl rfl ?_
  refine V_geti (o := 0) hC ho rfl fk_X6_173 dX6_hasWon_6 ?_
  refine V_icmp_ge (tgt := 42) hC dX6_hasWon_9 (by decide) (fun c1 => ?_) (fun c1 => ?_)
  · have hf := if_t hf c1
    refine V_iload_n 1 hC dX6_hasWon_42 rfl rfl ?_
    obtain ⟨g2, hf⟩ := gd_some hf
    obtain rfl := so_inj hf
    exact V_zret hC hr (nar_b g2) hQ hA dX6_hasWon_43
  · have hf := if_f hf c1
    refine V_iload_n 1 hC dX6_hasWon_12 rfl rfl ?_
    refine V_if_ne (tgt := 30) hC dX6_hasWon_13 (by decide) (fun c3 => ?_) (fun c3 => ?_)
    · have hf := if_f hf c3
      exact V_sub [0, 2] rfl (b_X6_hasWon_30 hC hr hA ho hQ hk4 x2 hf)
    · have hf := if_t hf c3
      refine V_aload_n 0 hC dX6_hasWon_16 rfl rfl ?_
      refine V_aload_n 0 hC dX6_hasWon_17 rfl rfl ?_
      refine V_geta (o := 0) hC ho rfl fk_X6_40 dX6_hasWon_18 ?_
      refine V_iload_n 2 hC dX6_hasWon_21 rfl rfl ?_
      obtain ⟨g4, hf⟩ := gd_some hf
      refine V_iald (a := (32 * 0 + 19)) hC (hL.row ho rfl) g4 dX6_hasWon_22 ?_
      obtain ⟨v5, ev5, hf⟩ := bi_some hf
      refine V_invi (o := 0) (As := [.int (gA d (32 * 0 + 19) (ix x2))]) (rest := []) hC (c_X6_standsAt hL ho ev5) me_X6_standsAt lk_X6_228 ho rfl rfl rfl (Nat.le_of_ble_eq_true rfl) ⟨by decide, by decide⟩ hkn dX6_hasWon_23 ?_
      refine V_iconst (v := 1) hC dX6_hasWon_26 rfl ?_
      refine V_icmp_ne (tgt := 34) hC dX6_hasWon_27 (by decide) (fun c6 => ?_) (fun c6 => ?_)
      · have hf := if_f hf c6
        refine V_iconst (v := 0) hC dX6_hasWon_34 rfl ?_
        exact V_sub [0, 2] rfl (b_X6_hasWon_35 hC hr hA ho hQ hk4 x2 0 hf)
      · have hf := if_t hf c6
        exact V_sub [0, 2] rfl (b_X6_hasWon_30 hC hr hA ho hQ hk4 x2 hf)
def t_X6_hasWon (L : Nat → Nat) (d : Dt)  : Option (Int32) := lp (fun k x => t_X6_hasWon_4 L d  (fun x1 x2 => k (x1, x2)) x.1 x.2) FU (0, 0)
set_option maxRecDepth 20000 in
theorem c_X6_hasWon {l : Launch} {Y : Yx} (hL : LAY Y) {z : Sh} {d : Dt}  (ho : (0, 0, 5) ∈ yI Y) {r : Int32} (hf : t_X6_hasWon z.1 d  = some r) : MM l yX6_hasWon cX6_hasWon 3 (some .boolean) 5 113 Y z [.ref (yo Y 0)] d (some (.int r)) d := by
  refine MM.ofV (by decide +kernel) hL (Nat.le_of_ble_eq_true rfl) (fun K hl hC hr hQ hA => ?_)
  have hC : CK K Y cX6_hasWon 3 RX6 5 113 := hC
  unfold t_X6_hasWon at hf
  show V K Y 3 0 0 z d 0 [(0, .ref (yo Y 0))] []
  refine V_iconst (v := 0) hC dX6_hasWon_0 rfl ?_
  refine V_istore_n (lv' := [(1, .int 0), (0, .ref (yo Y 0))]) hC dX6_hasWon_1 rfl (by decide) rfl ?_
  refine V_iconst (v := 0) hC dX6_hasWon_2 rfl ?_
  refine V_istore_n (lv' := [(2, .int 0), (1, .int 0), (0, .ref (yo Y 0))]) hC dX6_hasWon_3 rfl (by decide) rfl ?_
  exact V_sub [2, 1, 0] rfl (lp_ind (X := Int32 × Int32) (P := fun x => V K Y 3 0 0 z d 4 [(0, .ref (yo Y 0)), (1, .int x.1), (2, .int x.2)] []) (fun k x hk hx => b_X6_hasWon_4 hC hr hA ho hQ  (k4 := fun x1 x2 => k (x1, x2)) (fun x1 x2 hx => hk (x1, x2) hx) x.1 x.2 hx) FU (0, 0) hf)
def t_X6_stands (L : Nat → Nat) (d : Dt)  : Option (Int32) := gd (inb 3 (L (32 * 0 + 0))) (bd (gA d (32 * 0 + 0) (ix 3)) (fun y2 => gd (inb 5 (L (32 * 0 + 0))) (if (gA d (32 * 0 + 0) (ix 5)) = 0 then some 2 else gd (inb (8 + y2) (L (32 * 0 + 0))) (if (gA d (32 * 0 + 0) (ix (8 + y2))) = 2 then some 2 else gd (inb 4 (L (32 * 0 + 0))) (gd (inb 5 (L (32 * 0 + 0))) ((t_X6_stateOf L d y2 (gA d (32 * 0 + 0) (ix 4)) (gA d (32 * 0 + 0) (ix 5))).bind (fun v9 => (t_X6_standsAt L d v9).bind (fun v10 => some v10))))))))
set_option maxRecDepth 20000 in
theorem c_X6_stands {l : Launch} {Y : Yx} (hL : LAY Y) {z : Sh} {d : Dt}  (ho : (0, 0, 5) ∈ yI Y) {r : Int32} (hf : t_X6_stands z.1 d  = some r) : MM l yX6_stands cX6_stands 2 (some .int) 5 113 Y z [.ref (yo Y 0)] d (some (.int r)) d := by
  refine MM.ofV (by decide +kernel) hL (Nat.le_of_ble_eq_true rfl) (fun K hl hC hr hQ hA => ?_)
  have hC : CK K Y cX6_stands 2 RX6 5 113 := hC
  have hkn : 0 ≤ (kR K).cells ∧ 0 ≤ (kR K).slots := ⟨Nat.zero_le _, Nat.zero_le _⟩
  unfold t_X6_stands at hf
  show V K Y 2 0 0 z d 0 [(0, .ref (yo Y 0))] []
  refine V_aload_n 0 hC dX6_stands_0 rfl rfl ?_
  refine V_geta (o := 0) hC ho rfl fk_X6_7 dX6_stands_1 ?_
  refine V_iconst (v := 3) hC dX6_stands_4 rfl ?_
  obtain ⟨g1, hf⟩ := gd_some hf
  refine V_iald (a := (32 * 0 + 0)) hC (hL.row ho rfl) g1 dX6_stands_5 ?_
  refine V_topi (fun y2 ey2 => ?_)
  have hf := bd_e hf y2 ey2
  refine V_istore_n (lv' := [(1, .int y2), (0, .ref (yo Y 0))]) hC dX6_stands_6 rfl (by decide) rfl ?_
  refine V_aload_n 1 hC dX6_stands_7 rfl rfl ?_
  refine V_geta (o := 0) hC ho rfl fk_X6_7 dX6_stands_8 ?_
  refine V_iconst (v := 5) hC dX6_stands_11 rfl ?_
  obtain ⟨g3, hf⟩ := gd_some hf
  refine V_iald (a := (32 * 0 + 0)) hC (hL.row ho rfl) g3 dX6_stands_12 ?_
  refine V_if_eq (tgt := 29) hC dX6_stands_13 (by decide) (fun c4 => ?_) (fun c4 => ?_)
  · have hf := if_t hf c4
    refine V_iconst (v := 2) hC dX6_stands_29 rfl ?_
    obtain rfl := so_inj hf
    exact V_iret hC hr hQ hA dX6_stands_30
  · have hf := if_f hf c4
    refine V_aload_n 1 hC dX6_stands_16 rfl rfl ?_
    refine V_geta (o := 0) hC ho rfl fk_X6_7 dX6_stands_17 ?_
    refine V_bipush (v := 8) hC dX6_stands_20 rfl ?_
    refine V_iload_n 0 hC dX6_stands_22 rfl rfl ?_
    refine V_iadd hC dX6_stands_23 ?_
    obtain ⟨g5, hf⟩ := gd_some hf
    refine V_iald (a := (32 * 0 + 0)) hC (hL.row ho rfl) g5 dX6_stands_24 ?_
    refine V_iconst (v := 2) hC dX6_stands_25 rfl ?_
    refine V_icmp_ne (tgt := 31) hC dX6_stands_26 (by decide) (fun c6 => ?_) (fun c6 => ?_)
    · have hf := if_f hf c6
      refine V_aload_n 1 hC dX6_stands_31 rfl rfl ?_
      refine V_iload_n 0 hC dX6_stands_32 rfl rfl ?_
      refine V_aload_n 1 hC dX6_stands_33 rfl rfl ?_
      refine V_geta (o := 0) hC ho rfl fk_X6_7 dX6_stands_34 ?_
      refine V_iconst (v := 4) hC dX6_stands_37 rfl ?_
      obtain ⟨g7, hf⟩ := gd_some hf
      refine V_iald (a := (32 * 0 + 0)) hC (hL.row ho rfl) g7 dX6_stands_38 ?_
      refine V_aload_n 1 hC dX6_stands_39 rfl rfl ?_
      refine V_geta (o := 0) hC ho rfl fk_X6_7 dX6_stands_40 ?_
      refine V_iconst (v := 5) hC dX6_stands_43 rfl ?_
      obtain ⟨g8, hf⟩ := gd_some hf
      refine V_iald (a := (32 * 0 + 0)) hC (hL.row ho rfl) g8 dX6_stands_44 ?_
      obtain ⟨v9, ev9, hf⟩ := bi_some hf
      refine V_insi (As := [.int y2, .int (gA d (32 * 0 + 0) (ix 4)), .int (gA d (32 * 0 + 0) (ix 5))]) (rest := [.ref (yo Y 0)]) hC (c_X6_stateOf hL  ev9) me_X6_stateOf lk_X6_186 rfl rfl (Nat.le_of_ble_eq_true rfl) ⟨by decide, by decide⟩ hkn dX6_stands_45 ?_
      obtain ⟨v10, ev10, hf⟩ := bi_some hf
      refine V_invi (o := 0) (As := [.int v9]) (rest := []) hC (c_X6_standsAt hL ho ev10) me_X6_standsAt lk_X6_228 ho rfl rfl rfl (Nat.le_of_ble_eq_true rfl) ⟨by decide, by decide⟩ hkn dX6_stands_48 ?_
      obtain rfl := so_inj hf
      exact V_iret hC hr hQ hA dX6_stands_51
    · have hf := if_t hf c6
      refine V_iconst (v := 2) hC dX6_stands_29 rfl ?_
      obtain rfl := so_inj hf
      exact V_iret hC hr hQ hA dX6_stands_30
def t_X6_enter (L : Nat → Nat) (d : Dt) (p1 : Int32) : Option (Dt) := gd (inb 4 (L (32 * 0 + 0))) (gd (inb 5 (L (32 * 0 + 0))) ((t_X6_come L d p1 (gA d (32 * 0 + 0) (ix 4)) (gA d (32 * 0 + 0) (ix 5))).bind (fun q3 => gd (inb 4 (L (32 * 0 + 0))) (bd (sA q3.2 (32 * 0 + 0) (ix 4) (gF q3.2 0 17)) (fun d5 => gd (inb 5 (L (32 * 0 + 0))) (bd (sA d5 (32 * 0 + 0) (ix 5) (gF d5 0 18)) (fun d7 => gd (inb 3 (L (32 * 0 + 0))) (bd (sA d7 (32 * 0 + 0) (ix 3) p1) (fun d9 => some d9)))))))))
set_option maxRecDepth 20000 in
theorem c_X6_enter {l : Launch} {Y : Yx} (hL : LAY Y) {z : Sh} {d : Dt} {p1 : Int32} (ho : (0, 0, 5) ∈ yI Y) {d' : Dt} (hf : t_X6_enter z.1 d p1 = some d') : MM l yX6_enter cX6_enter 3 none 1 25 Y z [.ref (yo Y 0), .int p1] d (none) d' := by
  refine MM.ofV (by decide +kernel) hL (Nat.le_of_ble_eq_true rfl) (fun K hl hC hr hQ hA => ?_)
  have hC : CK K Y cX6_enter 3 RX6 1 25 := hC
  have hkn : 0 ≤ (kR K).cells ∧ 0 ≤ (kR K).slots := ⟨Nat.zero_le _, Nat.zero_le _⟩
  unfold t_X6_enter at hf
  show V K Y 3 0 0 z d 0 [(0, .ref (yo Y 0)), (1, .int p1)] []
  refine V_aload_n 0 hC dX6_enter_0 rfl rfl ?_
  refine V_iload_n 1 hC dX6_enter_1 rfl rfl ?_
  refine V_aload_n 0 hC dX6_enter_2 rfl rfl ?_
  refine V_geta (o := 0) hC ho rfl fk_X6_7 dX6_enter_3 ?_
  refine V_iconst (v := 4) hC dX6_enter_6 rfl ?_
  obtain ⟨g1, hf⟩ := gd_some hf
  refine V_iald (a := (32 * 0 + 0)) hC (hL.row ho rfl) g1 dX6_enter_7 ?_
  refine V_aload_n 0 hC dX6_enter_8 rfl rfl ?_
  refine V_geta (o := 0) hC ho rfl fk_X6_7 dX6_enter_9 ?_
  refine V_iconst (v := 5) hC dX6_enter_12 rfl ?_
  obtain ⟨g2, hf⟩ := gd_some hf
  refine V_iald (a := (32 * 0 + 0)) hC (hL.row ho rfl) g2 dX6_enter_13 ?_
  obtain ⟨q3, eq3, hf⟩ := bi_some hf
  refine V_invi (o := 0) (As := [.int p1, .int (gA d (32 * 0 + 0) (ix 4)), .int (gA d (32 * 0 + 0) (ix 5))]) (rest := []) hC (c_X6_come hL ho eq3) me_X6_come lk_X6_182 ho rfl rfl rfl (Nat.le_of_ble_eq_true rfl) ⟨by decide, by decide⟩ hkn dX6_enter_14 ?_
  refine V_istore_n (lv' := [(2, .int q3.1), (0, .ref (yo Y 0)), (1, .int p1)]) hC dX6_enter_17 rfl (by decide) rfl ?_
  refine V_aload_n 1 hC dX6_enter_18 rfl rfl ?_
  refine V_geta (o := 0) hC ho rfl fk_X6_7 dX6_enter_19 ?_
  refine V_iconst (v := 4) hC dX6_enter_22 rfl ?_
  refine V_aload_n 1 hC dX6_enter_23 rfl rfl ?_
  refine V_geti (o := 0) hC ho rfl fk_X6_176 dX6_enter_24 ?_
  obtain ⟨g4, hf⟩ := gd_some hf
  refine V_iast (a := (32 * 0 + 0)) hC (hL.row ho rfl) g4 dX6_enter_27 (fun d5 ed5 => ?_)
  have hf := bd_e hf d5 ed5
  refine V_aload_n 1 hC dX6_enter_28 rfl rfl ?_
  refine V_geta (o := 0) hC ho rfl fk_X6_7 dX6_enter_29 ?_
  refine V_iconst (v := 5) hC dX6_enter_32 rfl ?_
  refine V_aload_n 1 hC dX6_enter_33 rfl rfl ?_
  refine V_geti (o := 0) hC ho rfl fk_X6_179 dX6_enter_34 ?_
  obtain ⟨g6, hf⟩ := gd_some hf
  refine V_iast (a := (32 * 0 + 0)) hC (hL.row ho rfl) g6 dX6_enter_37 (fun d7 ed7 => ?_)
  have hf := bd_e hf d7 ed7
  refine V_aload_n 1 hC dX6_enter_38 rfl rfl ?_
  refine V_geta (o := 0) hC ho rfl fk_X6_7 dX6_enter_39 ?_
  refine V_iconst (v := 3) hC dX6_enter_42 rfl ?_
  refine V_iload_n 2 hC dX6_enter_43 rfl rfl ?_
  obtain ⟨g8, hf⟩ := gd_some hf
  refine V_iast (a := (32 * 0 + 0)) hC (hL.row ho rfl) g8 dX6_enter_44 (fun d9 ed9 => ?_)
  have hf := bd_e hf d9 ed9
  obtain rfl := so_inj hf
  exact V_vret hC hr hQ hA dX6_enter_45
def t_X6_begins_29 (L : Nat → Nat) (k29 : Int32 → (Dt) → Option (Dt)) (x1 : Int32) (d : Dt) : Option (Dt) := if 576 ≤ x1 then (t_X6_enter L d 0).bind (fun d9 => some d9) else gd (inb (800 + x1) (L (32 * 0 + 0))) (bd (sA d (32 * 0 + 0) (ix (800 + x1)) 0) (fun d11 => k29 (x1 + 1) d11))
set_option maxRecDepth 20000 in
theorem b_X6_begins_29 {K : Kx} {Y : Yx} {z : Sh}  (hC : CK K Y cX6_begins 2 RX6 2 47) (hr : (kme K).sig.returnType = none) (hA : kA K = aY Y z)  (ho : (0, 0, 5) ∈ yI Y) {d' : Dt} (hQ : kQ K = MQ (kb K) (QM Y z (none) d') (ka K) (ks K) 0 0 (aY Y z)) {k29 : Int32 → (Dt) → Option (Dt)} (hk29 : ∀ (x1 : Int32) (d : Dt), k29 x1 d = some d' → V K Y 2 0 0 z d 29 [(0, .ref (yo Y 0)), (1, .int x1)] []) (x1 : Int32) (d : Dt) (hf : t_X6_begins_29 z.1 k29 x1 d = some d') : V K Y 2 0 0 z d 29 [(0, .ref (yo Y 0)), (1, .int x1)] [] := by
  have hL := hC.2.2.2.2.2.2.1
  have hkn : 0 ≤ (kR K).cells ∧ 0 ≤ (kR K).slots := ⟨Nat.zero_le _, Nat.zero_le _⟩
  unfold t_X6_begins_29 at hf
  refine V_iload_n 1 hC dX6_begins_29 rfl rfl ?_
  refine V_sipush (v := 576) hC dX6_begins_30 rfl ?_
  refine V_icmp_ge (tgt := 53) hC dX6_begins_33 (by decide) (fun c8 => ?_) (fun c8 => ?_)
  · have hf := if_t hf c8
    refine V_aload_n 0 hC dX6_begins_53 rfl rfl ?_
    refine V_iconst (v := 0) hC dX6_begins_54 rfl ?_
    obtain ⟨d9, ed9, hf⟩ := bi_some hf
    refine V_invv (o := 0) (As := [.int 0]) (rest := []) hC (c_X6_enter hL ho ed9) me_X6_enter lk_X6_244 ho rfl rfl rfl (Nat.le_of_ble_eq_true rfl) ⟨by decide, by decide⟩ hkn dX6_begins_55 ?_
    obtain rfl := so_inj hf
    exact V_vret hC hr hQ hA dX6_begins_58
  · have hf := if_f hf c8
    refine V_aload_n 0 hC dX6_begins_36 rfl rfl ?_
    refine V_geta (o := 0) hC ho rfl fk_X6_7 dX6_begins_37 ?_
    refine V_sipush (v := 800) hC dX6_begins_40 rfl ?_
    refine V_iload_n 1 hC dX6_begins_43 rfl rfl ?_
    refine V_iadd hC dX6_begins_44 ?_
    refine V_iconst (v := 0) hC dX6_begins_45 rfl ?_
    obtain ⟨g10, hf⟩ := gd_some hf
    refine V_iast (a := (32 * 0 + 0)) hC (hL.row ho rfl) g10 dX6_begins_46 (fun d11 ed11 => ?_)
    have hf := bd_e hf d11 ed11
    refine V_iinc (v := x1 + 1) (lv' := [(1, .int (x1 + 1)), (0, .ref (yo Y 0))]) 1 hC dX6_begins_47 rfl rfl (by decide) rfl ?_
    refine V_goto (tgt := 29) hC dX6_begins_50 (by decide) ?_
    exact V_sub [1, 0] rfl (hk29 (x1 + 1) d11 hf)
def t_X6_begins (L : Nat → Nat) (d : Dt)  : Option (Dt) := gd (inb 4 (L (32 * 0 + 0))) (bd (sA d (32 * 0 + 0) (ix 4) 0) (fun d2 => gd (inb 1 (L (32 * 0 + 0))) (gd (inb 5 (L (32 * 0 + 0))) (bd (sA d2 (32 * 0 + 0) (ix 5) (gA d2 (32 * 0 + 0) (ix 1))) (fun d5 => gd (inb 6 (L (32 * 0 + 0))) (bd (sA d5 (32 * 0 + 0) (ix 6) 0) (fun d7 => lp (fun k x => t_X6_begins_29 L  (fun x1 d => k (x1, d)) x.1 x.2) FU (0, d7))))))))
set_option maxRecDepth 20000 in
theorem c_X6_begins {l : Launch} {Y : Yx} (hL : LAY Y) {z : Sh} {d : Dt}  (ho : (0, 0, 5) ∈ yI Y) {d' : Dt} (hf : t_X6_begins z.1 d  = some d') : MM l yX6_begins cX6_begins 2 none 2 47 Y z [.ref (yo Y 0)] d (none) d' := by
  refine MM.ofV (by decide +kernel) hL (Nat.le_of_ble_eq_true rfl) (fun K hl hC hr hQ hA => ?_)
  have hC : CK K Y cX6_begins 2 RX6 2 47 := hC
  unfold t_X6_begins at hf
  show V K Y 2 0 0 z d 0 [(0, .ref (yo Y 0))] []
  refine V_aload_n 0 hC dX6_begins_0 rfl rfl ?_
  refine V_geta (o := 0) hC ho rfl fk_X6_7 dX6_begins_1 ?_
  refine V_iconst (v := 4) hC dX6_begins_4 rfl ?_
  refine V_iconst (v := 0) hC dX6_begins_5 rfl ?_
  obtain ⟨g1, hf⟩ := gd_some hf
  refine V_iast (a := (32 * 0 + 0)) hC (hL.row ho rfl) g1 dX6_begins_6 (fun d2 ed2 => ?_)
  have hf := bd_e hf d2 ed2
  refine V_aload_n 0 hC dX6_begins_7 rfl rfl ?_
  refine V_geta (o := 0) hC ho rfl fk_X6_7 dX6_begins_8 ?_
  refine V_iconst (v := 5) hC dX6_begins_11 rfl ?_
  refine V_aload_n 0 hC dX6_begins_12 rfl rfl ?_
  refine V_geta (o := 0) hC ho rfl fk_X6_7 dX6_begins_13 ?_
  refine V_iconst (v := 1) hC dX6_begins_16 rfl ?_
  obtain ⟨g3, hf⟩ := gd_some hf
  refine V_iald (a := (32 * 0 + 0)) hC (hL.row ho rfl) g3 dX6_begins_17 ?_
  obtain ⟨g4, hf⟩ := gd_some hf
  refine V_iast (a := (32 * 0 + 0)) hC (hL.row ho rfl) g4 dX6_begins_18 (fun d5 ed5 => ?_)
  have hf := bd_e hf d5 ed5
  refine V_aload_n 0 hC dX6_begins_19 rfl rfl ?_
  refine V_geta (o := 0) hC ho rfl fk_X6_7 dX6_begins_20 ?_
  refine V_bipush (v := 6) hC dX6_begins_23 rfl ?_
  refine V_iconst (v := 0) hC dX6_begins_25 rfl ?_
  obtain ⟨g6, hf⟩ := gd_some hf
  refine V_iast (a := (32 * 0 + 0)) hC (hL.row ho rfl) g6 dX6_begins_26 (fun d7 ed7 => ?_)
  have hf := bd_e hf d7 ed7
  refine V_iconst (v := 0) hC dX6_begins_27 rfl ?_
  refine V_istore_n (lv' := [(1, .int 0), (0, .ref (yo Y 0))]) hC dX6_begins_28 rfl (by decide) rfl ?_
  exact V_sub [1, 0] rfl (lp_ind (X := Int32 × Dt) (P := fun x => V K Y 2 0 0 z x.2 29 [(0, .ref (yo Y 0)), (1, .int x.1)] []) (fun k x hk hx => b_X6_begins_29 hC hr hA ho hQ  (k29 := fun x1 d => k (x1, d)) (fun x1 d hx => hk (x1, d) hx) x.1 x.2 hx) FU (0, d7) hf)
def t_X6_begin (L : Nat → Nat) (d : Dt)  : Option (Int32 × Dt) := gd (inb 0 (L (32 * 0 + 0))) (if (gA d (32 * 0 + 0) (ix 0)) = 0 then some ((-1000003), d) else (t_X6_begins L d ).bind (fun d3 => (t_X6_stands L d3 ).bind (fun v4 => some (v4, d3))))
set_option maxRecDepth 20000 in
theorem c_X6_begin {l : Launch} {Y : Yx} (hL : LAY Y) {z : Sh} {d : Dt}  (ho : (0, 0, 5) ∈ yI Y) {r : Int32} {d' : Dt} (hf : t_X6_begin z.1 d  = some (r, d')) : MM l yX6_begin cX6_begin 1 (some .int) 6 134 Y z [.ref (yo Y 0)] d (some (.int r)) d' := by
  refine MM.ofV (by decide +kernel) hL (Nat.le_of_ble_eq_true rfl) (fun K hl hC hr hQ hA => ?_)
  have hC : CK K Y cX6_begin 1 RX6 6 134 := hC
  have hkn : 0 ≤ (kR K).cells ∧ 0 ≤ (kR K).slots := ⟨Nat.zero_le _, Nat.zero_le _⟩
  unfold t_X6_begin at hf
  show V K Y 1 0 0 z d 0 [(0, .ref (yo Y 0))] []
  refine V_aload_n 0 hC dX6_begin_0 rfl rfl ?_
  refine V_geta (o := 0) hC ho rfl fk_X6_7 dX6_begin_1 ?_
  refine V_iconst (v := 0) hC dX6_begin_4 rfl ?_
  obtain ⟨g1, hf⟩ := gd_some hf
  refine V_iald (a := (32 * 0 + 0)) hC (hL.row ho rfl) g1 dX6_begin_5 ?_
  refine V_if_ne (tgt := 12) hC dX6_begin_6 (by decide) (fun c2 => ?_) (fun c2 => ?_)
  · have hf := if_f hf c2
    refine V_aload_n 0 hC dX6_begin_12 rfl rfl ?_
    obtain ⟨d3, ed3, hf⟩ := bi_some hf
    refine V_invv (o := 0) (As := []) (rest := []) hC (c_X6_begins hL ho ed3) me_X6_begins lk_X6_247 ho rfl rfl rfl (Nat.le_of_ble_eq_true rfl) ⟨by decide, by decide⟩ hkn dX6_begin_13 ?_
    refine V_aload_n 0 hC dX6_begin_16 rfl rfl ?_
    obtain ⟨v4, ev4, hf⟩ := bi_some hf
    refine V_invi (o := 0) (As := []) (rest := []) hC (c_X6_stands hL ho ev4) me_X6_stands lk_X6_250 ho rfl rfl rfl (Nat.le_of_ble_eq_true rfl) ⟨by decide, by decide⟩ hkn dX6_begin_17 ?_
    obtain ⟨rfl, rfl⟩ := so_inj2 hf
    exact V_iret hC hr hQ hA dX6_begin_20
  · have hf := if_t hf c2
    refine V_ldc hC ck_X6_166 dX6_begin_9 ?_
    obtain ⟨rfl, rfl⟩ := so_inj2 hf
    exact V_iret hC hr hQ hA dX6_begin_11
def t_X6_goTo (L : Nat → Nat) (d : Dt) (p1 : Int32) : Option (Dt) := gd (inb 3 (L (32 * 0 + 0))) (gd (inb ((800 + (24 * (gA d (32 * 0 + 0) (ix 3)))) + p1) (L (32 * 0 + 0))) (gd (inb ((800 + (24 * (gA d (32 * 0 + 0) (ix 3)))) + p1) (L (32 * 0 + 0))) (bd (sA d (32 * 0 + 0) (ix ((800 + (24 * (gA d (32 * 0 + 0) (ix 3)))) + p1)) ((gA d (32 * 0 + 0) (ix ((800 + (24 * (gA d (32 * 0 + 0) (ix 3)))) + p1))) + 1)) (fun d4 => gd (inb 6 (L (32 * 0 + 0))) (gd (inb 6 (L (32 * 0 + 0))) (bd (sA d4 (32 * 0 + 0) (ix 6) ((gA d4 (32 * 0 + 0) (ix 6)) + 1)) (fun d7 => (t_X6_enter L d7 p1).bind (fun d8 => some d8))))))))
set_option maxRecDepth 20000 in
theorem c_X6_goTo {l : Launch} {Y : Yx} (hL : LAY Y) {z : Sh} {d : Dt} {p1 : Int32} (ho : (0, 0, 5) ∈ yI Y) {d' : Dt} (hf : t_X6_goTo z.1 d p1 = some d') : MM l yX6_goTo cX6_goTo 2 none 2 47 Y z [.ref (yo Y 0), .int p1] d (none) d' := by
  refine MM.ofV (by decide +kernel) hL (Nat.le_of_ble_eq_true rfl) (fun K hl hC hr hQ hA => ?_)
  have hC : CK K Y cX6_goTo 2 RX6 2 47 := hC
  have hkn : 0 ≤ (kR K).cells ∧ 0 ≤ (kR K).slots := ⟨Nat.zero_le _, Nat.zero_le _⟩
  unfold t_X6_goTo at hf
  show V K Y 2 0 0 z d 0 [(0, .ref (yo Y 0)), (1, .int p1)] []
  refine V_aload_n 0 hC dX6_goTo_0 rfl rfl ?_
  refine V_geta (o := 0) hC ho rfl fk_X6_7 dX6_goTo_1 ?_
  refine V_sipush (v := 800) hC dX6_goTo_4 rfl ?_
  refine V_bipush (v := 24) hC dX6_goTo_7 rfl ?_
  refine V_aload_n 0 hC dX6_goTo_9 rfl rfl ?_
  refine V_geta (o := 0) hC ho rfl fk_X6_7 dX6_goTo_10 ?_
  refine V_iconst (v := 3) hC dX6_goTo_13 rfl ?_
  obtain ⟨g1, hf⟩ := gd_some hf
  refine V_iald (a := (32 * 0 + 0)) hC (hL.row ho rfl) g1 dX6_goTo_14 ?_
  refine V_imul hC dX6_goTo_15 ?_
  refine V_iadd hC dX6_goTo_16 ?_
  refine V_iload_n 1 hC dX6_goTo_17 rfl rfl ?_
  refine V_iadd hC dX6_goTo_18 ?_
  refine V_dup2 hC dX6_goTo_19 rfl rfl ?_
  obtain ⟨g2, hf⟩ := gd_some hf
  refine V_iald (a := (32 * 0 + 0)) hC (hL.row ho rfl) g2 dX6_goTo_20 ?_
  refine V_iconst (v := 1) hC dX6_goTo_21 rfl ?_
  refine V_iadd hC dX6_goTo_22 ?_
  obtain ⟨g3, hf⟩ := gd_some hf
  refine V_iast (a := (32 * 0 + 0)) hC (hL.row ho rfl) g3 dX6_goTo_23 (fun d4 ed4 => ?_)
  have hf := bd_e hf d4 ed4
  refine V_aload_n 0 hC dX6_goTo_24 rfl rfl ?_
  refine V_geta (o := 0) hC ho rfl fk_X6_7 dX6_goTo_25 ?_
  refine V_bipush (v := 6) hC dX6_goTo_28 rfl ?_
  refine V_dup2 hC dX6_goTo_30 rfl rfl ?_
  obtain ⟨g5, hf⟩ := gd_some hf
  refine V_iald (a := (32 * 0 + 0)) hC (hL.row ho rfl) g5 dX6_goTo_31 ?_
  refine V_iconst (v := 1) hC dX6_goTo_32 rfl ?_
  refine V_iadd hC dX6_goTo_33 ?_
  obtain ⟨g6, hf⟩ := gd_some hf
  refine V_iast (a := (32 * 0 + 0)) hC (hL.row ho rfl) g6 dX6_goTo_34 (fun d7 ed7 => ?_)
  have hf := bd_e hf d7 ed7
  refine V_aload_n 0 hC dX6_goTo_35 rfl rfl ?_
  refine V_iload_n 1 hC dX6_goTo_36 rfl rfl ?_
  obtain ⟨d8, ed8, hf⟩ := bi_some hf
  refine V_invv (o := 0) (As := [.int p1]) (rest := []) hC (c_X6_enter hL ho ed8) me_X6_enter lk_X6_244 ho rfl rfl rfl (Nat.le_of_ble_eq_true rfl) ⟨by decide, by decide⟩ hkn dX6_goTo_37 ?_
  obtain rfl := so_inj hf
  exact V_vret hC hr hQ hA dX6_goTo_40
