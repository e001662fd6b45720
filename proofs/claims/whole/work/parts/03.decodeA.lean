theorem dX0_init_0 : decode cX0_init 0 = .ok (.aload_n 0, 1) := by decide +kernel
theorem dX0_init_1 : decode cX0_init 1 = .ok (.invokespecial 3, 3) := by decide +kernel
theorem dX0_init_4 : decode cX0_init 4 = .ok (.aload_n 0, 1) := by decide +kernel
theorem dX0_init_5 : decode cX0_init 5 = .ok (.iconst 0, 1) := by decide +kernel
theorem dX0_init_6 : decode cX0_init 6 = .ok (.putfield 9, 3) := by decide +kernel
theorem dX0_init_9 : decode cX0_init 9 = .ok (.aload_n 0, 1) := by decide +kernel
theorem dX0_init_10 : decode cX0_init 10 = .ok (.iconst 5, 1) := by decide +kernel
theorem dX0_init_11 : decode cX0_init 11 = .ok (.putfield 15, 3) := by decide +kernel
theorem dX0_init_14 : decode cX0_init 14 = .ok (.aload_n 0, 1) := by decide +kernel
theorem dX0_init_15 : decode cX0_init 15 = .ok (.bipush 24, 2) := by decide +kernel
theorem dX0_init_17 : decode cX0_init 17 = .ok (.newarray .int, 2) := by decide +kernel
theorem dX0_init_19 : decode cX0_init 19 = .ok (.putfield 18, 3) := by decide +kernel
theorem dX0_init_22 : decode cX0_init 22 = .ok (.aload_n 0, 1) := by decide +kernel
theorem dX0_init_23 : decode cX0_init 23 = .ok (.bipush 24, 2) := by decide +kernel
theorem dX0_init_25 : decode cX0_init 25 = .ok (.newarray .int, 2) := by decide +kernel
theorem dX0_init_27 : decode cX0_init 27 = .ok (.putfield 22, 3) := by decide +kernel
theorem dX0_init_30 : decode cX0_init 30 = .ok (.aload_n 0, 1) := by decide +kernel
theorem dX0_init_31 : decode cX0_init 31 = .ok (.bipush 24, 2) := by decide +kernel
theorem dX0_init_33 : decode cX0_init 33 = .ok (.newarray .int, 2) := by decide +kernel
theorem dX0_init_35 : decode cX0_init 35 = .ok (.putfield 25, 3) := by decide +kernel
theorem dX0_init_38 : decode cX0_init 38 = .ok (.aload_n 0, 1) := by decide +kernel
theorem dX0_init_39 : decode cX0_init 39 = .ok (.bipush 24, 2) := by decide +kernel
theorem dX0_init_41 : decode cX0_init 41 = .ok (.newarray .int, 2) := by decide +kernel
theorem dX0_init_43 : decode cX0_init 43 = .ok (.putfield 28, 3) := by decide +kernel
theorem dX0_init_46 : decode cX0_init 46 = .ok (.aload_n 0, 1) := by decide +kernel
theorem dX0_init_47 : decode cX0_init 47 = .ok (.bipush 24, 2) := by decide +kernel
theorem dX0_init_49 : decode cX0_init 49 = .ok (.newarray .int, 2) := by decide +kernel
theorem dX0_init_51 : decode cX0_init 51 = .ok (.putfield 31, 3) := by decide +kernel
theorem dX0_init_54 : decode cX0_init 54 = .ok (.aload_n 0, 1) := by decide +kernel
theorem dX0_init_55 : decode cX0_init 55 = .ok (.bipush 96, 2) := by decide +kernel
theorem dX0_init_57 : decode cX0_init 57 = .ok (.newarray .int, 2) := by decide +kernel
theorem dX0_init_59 : decode cX0_init 59 = .ok (.putfield 34, 3) := by decide +kernel
theorem dX0_init_62 : decode cX0_init 62 = .ok (.aload_n 0, 1) := by decide +kernel
theorem dX0_init_63 : decode cX0_init 63 = .ok (.bipush 96, 2) := by decide +kernel
theorem dX0_init_65 : decode cX0_init 65 = .ok (.newarray .int, 2) := by decide +kernel
theorem dX0_init_67 : decode cX0_init 67 = .ok (.putfield 37, 3) := by decide +kernel
theorem dX0_init_70 : decode cX0_init 70 = .ok (.aload_n 0, 1) := by decide +kernel
theorem dX0_init_71 : decode cX0_init 71 = .ok (.bipush 24, 2) := by decide +kernel
theorem dX0_init_73 : decode cX0_init 73 = .ok (.newarray .int, 2) := by decide +kernel
theorem dX0_init_75 : decode cX0_init 75 = .ok (.putfield 40, 3) := by decide +kernel
theorem dX0_init_78 : decode cX0_init 78 = .ok (.aload_n 0, 1) := by decide +kernel
theorem dX0_init_79 : decode cX0_init 79 = .ok (.sipush 144, 3) := by decide +kernel
theorem dX0_init_82 : decode cX0_init 82 = .ok (.newarray .int, 2) := by decide +kernel
theorem dX0_init_84 : decode cX0_init 84 = .ok (.putfield 43, 3) := by decide +kernel
theorem dX0_init_87 : decode cX0_init 87 = .ok (.aload_n 0, 1) := by decide +kernel
theorem dX0_init_88 : decode cX0_init 88 = .ok (.sipush 144, 3) := by decide +kernel
theorem dX0_init_91 : decode cX0_init 91 = .ok (.newarray .int, 2) := by decide +kernel
theorem dX0_init_93 : decode cX0_init 93 = .ok (.putfield 46, 3) := by decide +kernel
theorem dX0_init_96 : decode cX0_init 96 = .ok (.aload_n 0, 1) := by decide +kernel
theorem dX0_init_97 : decode cX0_init 97 = .ok (.sipush 144, 3) := by decide +kernel
theorem dX0_init_100 : decode cX0_init 100 = .ok (.newarray .int, 2) := by decide +kernel
theorem dX0_init_102 : decode cX0_init 102 = .ok (.putfield 49, 3) := by decide +kernel
theorem dX0_init_105 : decode cX0_init 105 = .ok (.return_, 1) := by decide +kernel
theorem dX0_empty_0 : decode cX0_empty 0 = .ok (.aload_n 0, 1) := by decide +kernel
theorem dX0_empty_1 : decode cX0_empty 1 = .ok (.iconst 0, 1) := by decide +kernel
theorem dX0_empty_2 : decode cX0_empty 2 = .ok (.putfield 9, 3) := by decide +kernel
theorem dX0_empty_5 : decode cX0_empty 5 = .ok (.aload_n 0, 1) := by decide +kernel
theorem dX0_empty_6 : decode cX0_empty 6 = .ok (.iconst 5, 1) := by decide +kernel
theorem dX0_empty_7 : decode cX0_empty 7 = .ok (.putfield 15, 3) := by decide +kernel
theorem dX0_empty_10 : decode cX0_empty 10 = .ok (.return_, 1) := by decide +kernel
theorem dX0_copyFrom_0 : decode cX0_copyFrom 0 = .ok (.aload_n 0, 1) := by decide +kernel
theorem dX0_copyFrom_1 : decode cX0_copyFrom 1 = .ok (.aload_n 1, 1) := by decide +kernel
theorem dX0_copyFrom_2 : decode cX0_copyFrom 2 = .ok (.getfield 9, 3) := by decide +kernel
theorem dX0_copyFrom_5 : decode cX0_copyFrom 5 = .ok (.putfield 9, 3) := by decide +kernel
theorem dX0_copyFrom_8 : decode cX0_copyFrom 8 = .ok (.aload_n 0, 1) := by decide +kernel
theorem dX0_copyFrom_9 : decode cX0_copyFrom 9 = .ok (.aload_n 1, 1) := by decide +kernel
theorem dX0_copyFrom_10 : decode cX0_copyFrom 10 = .ok (.getfield 15, 3) := by decide +kernel
theorem dX0_copyFrom_13 : decode cX0_copyFrom 13 = .ok (.putfield 15, 3) := by decide +kernel
theorem dX0_copyFrom_16 : decode cX0_copyFrom 16 = .ok (.aload_n 1, 1) := by decide +kernel
theorem dX0_copyFrom_17 : decode cX0_copyFrom 17 = .ok (.getfield 18, 3) := by decide +kernel
theorem dX0_copyFrom_20 : decode cX0_copyFrom 20 = .ok (.iconst 0, 1) := by decide +kernel
theorem dX0_copyFrom_21 : decode cX0_copyFrom 21 = .ok (.aload_n 0, 1) := by decide +kernel
theorem dX0_copyFrom_22 : decode cX0_copyFrom 22 = .ok (.getfield 18, 3) := by decide +kernel
theorem dX0_copyFrom_25 : decode cX0_copyFrom 25 = .ok (.iconst 0, 1) := by decide +kernel
theorem dX0_copyFrom_26 : decode cX0_copyFrom 26 = .ok (.bipush 24, 2) := by decide +kernel
theorem dX0_copyFrom_28 : decode cX0_copyFrom 28 = .ok (.invokestatic 52, 3) := by decide +kernel
theorem dX0_copyFrom_31 : decode cX0_copyFrom 31 = .ok (.aload_n 1, 1) := by decide +kernel
theorem dX0_copyFrom_32 : decode cX0_copyFrom 32 = .ok (.getfield 22, 3) := by decide +kernel
theorem dX0_copyFrom_35 : decode cX0_copyFrom 35 = .ok (.iconst 0, 1) := by decide +kernel
theorem dX0_copyFrom_36 : decode cX0_copyFrom 36 = .ok (.aload_n 0, 1) := by decide +kernel
theorem dX0_copyFrom_37 : decode cX0_copyFrom 37 = .ok (.getfield 22, 3) := by decide +kernel
theorem dX0_copyFrom_40 : decode cX0_copyFrom 40 = .ok (.iconst 0, 1) := by decide +kernel
theorem dX0_copyFrom_41 : decode cX0_copyFrom 41 = .ok (.bipush 24, 2) := by decide +kernel
theorem dX0_copyFrom_43 : decode cX0_copyFrom 43 = .ok (.invokestatic 52, 3) := by decide +kernel
theorem dX0_copyFrom_46 : decode cX0_copyFrom 46 = .ok (.aload_n 1, 1) := by decide +kernel
theorem dX0_copyFrom_47 : decode cX0_copyFrom 47 = .ok (.getfield 25, 3) := by decide +kernel
theorem dX0_copyFrom_50 : decode cX0_copyFrom 50 = .ok (.iconst 0, 1) := by decide +kernel
theorem dX0_copyFrom_51 : decode cX0_copyFrom 51 = .ok (.aload_n 0, 1) := by decide +kernel
theorem dX0_copyFrom_52 : decode cX0_copyFrom 52 = .ok (.getfield 25, 3) := by decide +kernel
theorem dX0_copyFrom_55 : decode cX0_copyFrom 55 = .ok (.iconst 0, 1) := by decide +kernel
theorem dX0_copyFrom_56 : decode cX0_copyFrom 56 = .ok (.bipush 24, 2) := by decide +kernel
theorem dX0_copyFrom_58 : decode cX0_copyFrom 58 = .ok (.invokestatic 52, 3) := by decide +kernel
theorem dX0_copyFrom_61 : decode cX0_copyFrom 61 = .ok (.aload_n 1, 1) := by decide +kernel
theorem dX0_copyFrom_62 : decode cX0_copyFrom 62 = .ok (.getfield 28, 3) := by decide +kernel
theorem dX0_copyFrom_65 : decode cX0_copyFrom 65 = .ok (.iconst 0, 1) := by decide +kernel
theorem dX0_copyFrom_66 : decode cX0_copyFrom 66 = .ok (.aload_n 0, 1) := by decide +kernel
theorem dX0_copyFrom_67 : decode cX0_copyFrom 67 = .ok (.getfield 28, 3) := by decide +kernel
theorem dX0_copyFrom_70 : decode cX0_copyFrom 70 = .ok (.iconst 0, 1) := by decide +kernel
theorem dX0_copyFrom_71 : decode cX0_copyFrom 71 = .ok (.bipush 24, 2) := by decide +kernel
theorem dX0_copyFrom_73 : decode cX0_copyFrom 73 = .ok (.invokestatic 52, 3) := by decide +kernel
theorem dX0_copyFrom_76 : decode cX0_copyFrom 76 = .ok (.aload_n 1, 1) := by decide +kernel
theorem dX0_copyFrom_77 : decode cX0_copyFrom 77 = .ok (.getfield 31, 3) := by decide +kernel
theorem dX0_copyFrom_80 : decode cX0_copyFrom 80 = .ok (.iconst 0, 1) := by decide +kernel
theorem dX0_copyFrom_81 : decode cX0_copyFrom 81 = .ok (.aload_n 0, 1) := by decide +kernel
theorem dX0_copyFrom_82 : decode cX0_copyFrom 82 = .ok (.getfield 31, 3) := by decide +kernel
theorem dX0_copyFrom_85 : decode cX0_copyFrom 85 = .ok (.iconst 0, 1) := by decide +kernel
theorem dX0_copyFrom_86 : decode cX0_copyFrom 86 = .ok (.bipush 24, 2) := by decide +kernel
theorem dX0_copyFrom_88 : decode cX0_copyFrom 88 = .ok (.invokestatic 52, 3) := by decide +kernel
theorem dX0_copyFrom_91 : decode cX0_copyFrom 91 = .ok (.aload_n 1, 1) := by decide +kernel
theorem dX0_copyFrom_92 : decode cX0_copyFrom 92 = .ok (.getfield 34, 3) := by decide +kernel
theorem dX0_copyFrom_95 : decode cX0_copyFrom 95 = .ok (.iconst 0, 1) := by decide +kernel
theorem dX0_copyFrom_96 : decode cX0_copyFrom 96 = .ok (.aload_n 0, 1) := by decide +kernel
theorem dX0_copyFrom_97 : decode cX0_copyFrom 97 = .ok (.getfield 34, 3) := by decide +kernel
theorem dX0_copyFrom_100 : decode cX0_copyFrom 100 = .ok (.iconst 0, 1) := by decide +kernel
theorem dX0_copyFrom_101 : decode cX0_copyFrom 101 = .ok (.bipush 96, 2) := by decide +kernel
theorem dX0_copyFrom_103 : decode cX0_copyFrom 103 = .ok (.invokestatic 52, 3) := by decide +kernel
theorem dX0_copyFrom_106 : decode cX0_copyFrom 106 = .ok (.aload_n 1, 1) := by decide +kernel
theorem dX0_copyFrom_107 : decode cX0_copyFrom 107 = .ok (.getfield 37, 3) := by decide +kernel
theorem dX0_copyFrom_110 : decode cX0_copyFrom 110 = .ok (.iconst 0, 1) := by decide +kernel
theorem dX0_copyFrom_111 : decode cX0_copyFrom 111 = .ok (.aload_n 0, 1) := by decide +kernel
theorem dX0_copyFrom_112 : decode cX0_copyFrom 112 = .ok (.getfield 37, 3) := by decide +kernel
theorem dX0_copyFrom_115 : decode cX0_copyFrom 115 = .ok (.iconst 0, 1) := by decide +kernel
theorem dX0_copyFrom_116 : decode cX0_copyFrom 116 = .ok (.bipush 96, 2) := by decide +kernel
theorem dX0_copyFrom_118 : decode cX0_copyFrom 118 = .ok (.invokestatic 52, 3) := by decide +kernel
theorem dX0_copyFrom_121 : decode cX0_copyFrom 121 = .ok (.aload_n 1, 1) := by decide +kernel
theorem dX0_copyFrom_122 : decode cX0_copyFrom 122 = .ok (.getfield 40, 3) := by decide +kernel
theorem dX0_copyFrom_125 : decode cX0_copyFrom 125 = .ok (.iconst 0, 1) := by decide +kernel
theorem dX0_copyFrom_126 : decode cX0_copyFrom 126 = .ok (.aload_n 0, 1) := by decide +kernel
theorem dX0_copyFrom_127 : decode cX0_copyFrom 127 = .ok (.getfield 40, 3) := by decide +kernel
theorem dX0_copyFrom_130 : decode cX0_copyFrom 130 = .ok (.iconst 0, 1) := by decide +kernel
theorem dX0_copyFrom_131 : decode cX0_copyFrom 131 = .ok (.bipush 24, 2) := by decide +kernel
theorem dX0_copyFrom_133 : decode cX0_copyFrom 133 = .ok (.invokestatic 52, 3) := by decide +kernel
theorem dX0_copyFrom_136 : decode cX0_copyFrom 136 = .ok (.aload_n 1, 1) := by decide +kernel
theorem dX0_copyFrom_137 : decode cX0_copyFrom 137 = .ok (.getfield 43, 3) := by decide +kernel
theorem dX0_copyFrom_140 : decode cX0_copyFrom 140 = .ok (.iconst 0, 1) := by decide +kernel
theorem dX0_copyFrom_141 : decode cX0_copyFrom 141 = .ok (.aload_n 0, 1) := by decide +kernel
theorem dX0_copyFrom_142 : decode cX0_copyFrom 142 = .ok (.getfield 43, 3) := by decide +kernel
theorem dX0_copyFrom_145 : decode cX0_copyFrom 145 = .ok (.iconst 0, 1) := by decide +kernel
theorem dX0_copyFrom_146 : decode cX0_copyFrom 146 = .ok (.sipush 144, 3) := by decide +kernel
theorem dX0_copyFrom_149 : decode cX0_copyFrom 149 = .ok (.invokestatic 52, 3) := by decide +kernel
theorem dX0_copyFrom_152 : decode cX0_copyFrom 152 = .ok (.aload_n 1, 1) := by decide +kernel
theorem dX0_copyFrom_153 : decode cX0_copyFrom 153 = .ok (.getfield 46, 3) := by decide +kernel
theorem dX0_copyFrom_156 : decode cX0_copyFrom 156 = .ok (.iconst 0, 1) := by decide +kernel
theorem dX0_copyFrom_157 : decode cX0_copyFrom 157 = .ok (.aload_n 0, 1) := by decide +kernel
theorem dX0_copyFrom_158 : decode cX0_copyFrom 158 = .ok (.getfield 46, 3) := by decide +kernel
theorem dX0_copyFrom_161 : decode cX0_copyFrom 161 = .ok (.iconst 0, 1) := by decide +kernel
theorem dX0_copyFrom_162 : decode cX0_copyFrom 162 = .ok (.sipush 144, 3) := by decide +kernel
theorem dX0_copyFrom_165 : decode cX0_copyFrom 165 = .ok (.invokestatic 52, 3) := by decide +kernel
theorem dX0_copyFrom_168 : decode cX0_copyFrom 168 = .ok (.aload_n 1, 1) := by decide +kernel
theorem dX0_copyFrom_169 : decode cX0_copyFrom 169 = .ok (.getfield 49, 3) := by decide +kernel
theorem dX0_copyFrom_172 : decode cX0_copyFrom 172 = .ok (.iconst 0, 1) := by decide +kernel
theorem dX0_copyFrom_173 : decode cX0_copyFrom 173 = .ok (.aload_n 0, 1) := by decide +kernel
theorem dX0_copyFrom_174 : decode cX0_copyFrom 174 = .ok (.getfield 49, 3) := by decide +kernel
theorem dX0_copyFrom_177 : decode cX0_copyFrom 177 = .ok (.iconst 0, 1) := by decide +kernel
theorem dX0_copyFrom_178 : decode cX0_copyFrom 178 = .ok (.sipush 144, 3) := by decide +kernel
theorem dX0_copyFrom_181 : decode cX0_copyFrom 181 = .ok (.invokestatic 52, 3) := by decide +kernel
theorem dX0_copyFrom_184 : decode cX0_copyFrom 184 = .ok (.return_, 1) := by decide +kernel
theorem dX0_hasPart_0 : decode cX0_hasPart 0 = .ok (.iload_n 1, 1) := by decide +kernel
theorem dX0_hasPart_1 : decode cX0_hasPart 1 = .ok (.ifCond .lt 21, 3) := by decide +kernel
theorem dX0_hasPart_4 : decode cX0_hasPart 4 = .ok (.iload_n 1, 1) := by decide +kernel
theorem dX0_hasPart_5 : decode cX0_hasPart 5 = .ok (.aload_n 0, 1) := by decide +kernel
theorem dX0_hasPart_6 : decode cX0_hasPart 6 = .ok (.getfield 9, 3) := by decide +kernel
theorem dX0_hasPart_9 : decode cX0_hasPart 9 = .ok (.if_icmp .ge 13, 3) := by decide +kernel
theorem dX0_hasPart_12 : decode cX0_hasPart 12 = .ok (.iload_n 1, 1) := by decide +kernel
theorem dX0_hasPart_13 : decode cX0_hasPart 13 = .ok (.bipush 24, 2) := by decide +kernel
theorem dX0_hasPart_15 : decode cX0_hasPart 15 = .ok (.if_icmp .ge 7, 3) := by decide +kernel
theorem dX0_hasPart_18 : decode cX0_hasPart 18 = .ok (.iconst 1, 1) := by decide +kernel
theorem dX0_hasPart_19 : decode cX0_hasPart 19 = .ok (.goto 4, 3) := by decide +kernel
theorem dX0_hasPart_22 : decode cX0_hasPart 22 = .ok (.iconst 0, 1) := by decide +kernel
theorem dX0_hasPart_23 : decode cX0_hasPart 23 = .ok (.ireturn, 1) := by decide +kernel
theorem dX0_hasEffect_0 : decode cX0_hasEffect 0 = .ok (.aload_n 0, 1) := by decide +kernel
theorem dX0_hasEffect_1 : decode cX0_hasEffect 1 = .ok (.iload_n 1, 1) := by decide +kernel
theorem dX0_hasEffect_2 : decode cX0_hasEffect 2 = .ok (.invokevirtual 58, 3) := by decide +kernel
theorem dX0_hasEffect_5 : decode cX0_hasEffect 5 = .ok (.ifCond .eq 26, 3) := by decide +kernel
theorem dX0_hasEffect_8 : decode cX0_hasEffect 8 = .ok (.iload_n 2, 1) := by decide +kernel
theorem dX0_hasEffect_9 : decode cX0_hasEffect 9 = .ok (.ifCond .lt 22, 3) := by decide +kernel
theorem dX0_hasEffect_12 : decode cX0_hasEffect 12 = .ok (.iload_n 2, 1) := by decide +kernel
theorem dX0_hasEffect_13 : decode cX0_hasEffect 13 = .ok (.aload_n 0, 1) := by decide +kernel
theorem dX0_hasEffect_14 : decode cX0_hasEffect 14 = .ok (.getfield 31, 3) := by decide +kernel
theorem dX0_hasEffect_17 : decode cX0_hasEffect 17 = .ok (.iload_n 1, 1) := by decide +kernel
theorem dX0_hasEffect_18 : decode cX0_hasEffect 18 = .ok (.iaload, 1) := by decide +kernel
theorem dX0_hasEffect_19 : decode cX0_hasEffect 19 = .ok (.if_icmp .ge 12, 3) := by decide +kernel
theorem dX0_hasEffect_22 : decode cX0_hasEffect 22 = .ok (.iload_n 2, 1) := by decide +kernel
theorem dX0_hasEffect_23 : decode cX0_hasEffect 23 = .ok (.iconst 4, 1) := by decide +kernel
theorem dX0_hasEffect_24 : decode cX0_hasEffect 24 = .ok (.if_icmp .ge 7, 3) := by decide +kernel
theorem dX0_hasEffect_27 : decode cX0_hasEffect 27 = .ok (.iconst 1, 1) := by decide +kernel
theorem dX0_hasEffect_28 : decode cX0_hasEffect 28 = .ok (.goto 4, 3) := by decide +kernel
theorem dX0_hasEffect_31 : decode cX0_hasEffect 31 = .ok (.iconst 0, 1) := by decide +kernel
theorem dX0_hasEffect_32 : decode cX0_hasEffect 32 = .ok (.ireturn, 1) := by decide +kernel
theorem dX0_hasChoice_0 : decode cX0_hasChoice 0 = .ok (.aload_n 0, 1) := by decide +kernel
theorem dX0_hasChoice_1 : decode cX0_hasChoice 1 = .ok (.iload_n 1, 1) := by decide +kernel
theorem dX0_hasChoice_2 : decode cX0_hasChoice 2 = .ok (.invokevirtual 58, 3) := by decide +kernel
theorem dX0_hasChoice_5 : decode cX0_hasChoice 5 = .ok (.ifCond .eq 27, 3) := by decide +kernel
theorem dX0_hasChoice_8 : decode cX0_hasChoice 8 = .ok (.iload_n 2, 1) := by decide +kernel
theorem dX0_hasChoice_9 : decode cX0_hasChoice 9 = .ok (.ifCond .lt 23, 3) := by decide +kernel
theorem dX0_hasChoice_12 : decode cX0_hasChoice 12 = .ok (.iload_n 2, 1) := by decide +kernel
theorem dX0_hasChoice_13 : decode cX0_hasChoice 13 = .ok (.aload_n 0, 1) := by decide +kernel
theorem dX0_hasChoice_14 : decode cX0_hasChoice 14 = .ok (.getfield 40, 3) := by decide +kernel
theorem dX0_hasChoice_17 : decode cX0_hasChoice 17 = .ok (.iload_n 1, 1) := by decide +kernel
theorem dX0_hasChoice_18 : decode cX0_hasChoice 18 = .ok (.iaload, 1) := by decide +kernel
theorem dX0_hasChoice_19 : decode cX0_hasChoice 19 = .ok (.if_icmp .ge 13, 3) := by decide +kernel
theorem dX0_hasChoice_22 : decode cX0_hasChoice 22 = .ok (.iload_n 2, 1) := by decide +kernel
theorem dX0_hasChoice_23 : decode cX0_hasChoice 23 = .ok (.bipush 6, 2) := by decide +kernel
theorem dX0_hasChoice_25 : decode cX0_hasChoice 25 = .ok (.if_icmp .ge 7, 3) := by decide +kernel
theorem dX0_hasChoice_28 : decode cX0_hasChoice 28 = .ok (.iconst 1, 1) := by decide +kernel
theorem dX0_hasChoice_29 : decode cX0_hasChoice 29 = .ok (.goto 4, 3) := by decide +kernel
theorem dX0_hasChoice_32 : decode cX0_hasChoice 32 = .ok (.iconst 0, 1) := by decide +kernel
theorem dX0_hasChoice_33 : decode cX0_hasChoice 33 = .ok (.ireturn, 1) := by decide +kernel
theorem dX0_isRoll_0 : decode cX0_isRoll 0 = .ok (.aload_n 0, 1) := by decide +kernel
theorem dX0_isRoll_1 : decode cX0_isRoll 1 = .ok (.iload_n 1, 1) := by decide +kernel
theorem dX0_isRoll_2 : decode cX0_isRoll 2 = .ok (.invokevirtual 58, 3) := by decide +kernel
theorem dX0_isRoll_5 : decode cX0_isRoll 5 = .ok (.ifCond .eq 17, 3) := by decide +kernel
theorem dX0_isRoll_8 : decode cX0_isRoll 8 = .ok (.aload_n 0, 1) := by decide +kernel
theorem dX0_isRoll_9 : decode cX0_isRoll 9 = .ok (.getfield 18, 3) := by decide +kernel
theorem dX0_isRoll_12 : decode cX0_isRoll 12 = .ok (.iload_n 1, 1) := by decide +kernel
theorem dX0_isRoll_13 : decode cX0_isRoll 13 = .ok (.iaload, 1) := by decide +kernel
theorem dX0_isRoll_14 : decode cX0_isRoll 14 = .ok (.iconst 3, 1) := by decide +kernel
theorem dX0_isRoll_15 : decode cX0_isRoll 15 = .ok (.if_icmp .ne 7, 3) := by decide +kernel
theorem dX0_isRoll_18 : decode cX0_isRoll 18 = .ok (.iconst 1, 1) := by decide +kernel
theorem dX0_isRoll_19 : decode cX0_isRoll 19 = .ok (.goto 4, 3) := by decide +kernel
theorem dX0_isRoll_22 : decode cX0_isRoll 22 = .ok (.iconst 0, 1) := by decide +kernel
theorem dX0_isRoll_23 : decode cX0_isRoll 23 = .ok (.ireturn, 1) := by decide +kernel
theorem dX0_lines_0 : decode cX0_lines 0 = .ok (.aload_n 0, 1) := by decide +kernel
theorem dX0_lines_1 : decode cX0_lines 1 = .ok (.iload_n 1, 1) := by decide +kernel
theorem dX0_lines_2 : decode cX0_lines 2 = .ok (.invokevirtual 58, 3) := by decide +kernel
theorem dX0_lines_5 : decode cX0_lines 5 = .ok (.ifCond .ne 5, 3) := by decide +kernel
theorem dX0_lines_8 : decode cX0_lines 8 = .ok (.iconst 0, 1) := by decide +kernel
theorem dX0_lines_9 : decode cX0_lines 9 = .ok (.ireturn, 1) := by decide +kernel
theorem dX0_lines_10 : decode cX0_lines 10 = .ok (.iconst 2, 1) := by decide +kernel
theorem dX0_lines_11 : decode cX0_lines 11 = .ok (.aload_n 0, 1) := by decide +kernel
theorem dX0_lines_12 : decode cX0_lines 12 = .ok (.getfield 31, 3) := by decide +kernel
theorem dX0_lines_15 : decode cX0_lines 15 = .ok (.iload_n 1, 1) := by decide +kernel
theorem dX0_lines_16 : decode cX0_lines 16 = .ok (.iaload, 1) := by decide +kernel
theorem dX0_lines_17 : decode cX0_lines 17 = .ok (.iadd, 1) := by decide +kernel
theorem dX0_lines_18 : decode cX0_lines 18 = .ok (.iconst 2, 1) := by decide +kernel
theorem dX0_lines_19 : decode cX0_lines 19 = .ok (.aload_n 0, 1) := by decide +kernel
theorem dX0_lines_20 : decode cX0_lines 20 = .ok (.getfield 40, 3) := by decide +kernel
theorem dX0_lines_23 : decode cX0_lines 23 = .ok (.iload_n 1, 1) := by decide +kernel
theorem dX0_lines_24 : decode cX0_lines 24 = .ok (.iaload, 1) := by decide +kernel
theorem dX0_lines_25 : decode cX0_lines 25 = .ok (.imul, 1) := by decide +kernel
theorem dX0_lines_26 : decode cX0_lines 26 = .ok (.iadd, 1) := by decide +kernel
theorem dX0_lines_27 : decode cX0_lines 27 = .ok (.aload_n 0, 1) := by decide +kernel
theorem dX0_lines_28 : decode cX0_lines 28 = .ok (.getfield 18, 3) := by decide +kernel
theorem dX0_lines_31 : decode cX0_lines 31 = .ok (.iload_n 1, 1) := by decide +kernel
theorem dX0_lines_32 : decode cX0_lines 32 = .ok (.iaload, 1) := by decide +kernel
theorem dX0_lines_33 : decode cX0_lines 33 = .ok (.iconst 3, 1) := by decide +kernel
theorem dX0_lines_34 : decode cX0_lines 34 = .ok (.if_icmp .ne 7, 3) := by decide +kernel
theorem dX0_lines_37 : decode cX0_lines 37 = .ok (.iconst 2, 1) := by decide +kernel
theorem dX0_lines_38 : decode cX0_lines 38 = .ok (.goto 4, 3) := by decide +kernel
theorem dX0_lines_41 : decode cX0_lines 41 = .ok (.iconst 0, 1) := by decide +kernel
theorem dX0_lines_42 : decode cX0_lines 42 = .ok (.iadd, 1) := by decide +kernel
theorem dX0_lines_43 : decode cX0_lines 43 = .ok (.ireturn, 1) := by decide +kernel
theorem dX0_allChoices_0 : decode cX0_allChoices 0 = .ok (.iconst 0, 1) := by decide +kernel
theorem dX0_allChoices_1 : decode cX0_allChoices 1 = .ok (.istore_n 1, 1) := by decide +kernel
theorem dX0_allChoices_2 : decode cX0_allChoices 2 = .ok (.iconst 0, 1) := by decide +kernel
theorem dX0_allChoices_3 : decode cX0_allChoices 3 = .ok (.istore_n 2, 1) := by decide +kernel
theorem dX0_allChoices_4 : decode cX0_allChoices 4 = .ok (.iload_n 2, 1) := by decide +kernel
theorem dX0_allChoices_5 : decode cX0_allChoices 5 = .ok (.aload_n 0, 1) := by decide +kernel
theorem dX0_allChoices_6 : decode cX0_allChoices 6 = .ok (.getfield 9, 3) := by decide +kernel
theorem dX0_allChoices_9 : decode cX0_allChoices 9 = .ok (.if_icmp .ge 24, 3) := by decide +kernel
theorem dX0_allChoices_12 : decode cX0_allChoices 12 = .ok (.iload_n 2, 1) := by decide +kernel
theorem dX0_allChoices_13 : decode cX0_allChoices 13 = .ok (.bipush 24, 2) := by decide +kernel
theorem dX0_allChoices_15 : decode cX0_allChoices 15 = .ok (.if_icmp .ge 18, 3) := by decide +kernel
theorem dX0_allChoices_18 : decode cX0_allChoices 18 = .ok (.iload_n 1, 1) := by decide +kernel
theorem dX0_allChoices_19 : decode cX0_allChoices 19 = .ok (.aload_n 0, 1) := by decide +kernel
theorem dX0_allChoices_20 : decode cX0_allChoices 20 = .ok (.getfield 40, 3) := by decide +kernel
theorem dX0_allChoices_23 : decode cX0_allChoices 23 = .ok (.iload_n 2, 1) := by decide +kernel
theorem dX0_allChoices_24 : decode cX0_allChoices 24 = .ok (.iaload, 1) := by decide +kernel
theorem dX0_allChoices_25 : decode cX0_allChoices 25 = .ok (.iadd, 1) := by decide +kernel
theorem dX0_allChoices_26 : decode cX0_allChoices 26 = .ok (.istore_n 1, 1) := by decide +kernel
theorem dX0_allChoices_27 : decode cX0_allChoices 27 = .ok (.iinc 2 1, 3) := by decide +kernel
theorem dX0_allChoices_30 : decode cX0_allChoices 30 = .ok (.goto (-26), 3) := by decide +kernel
theorem dX0_allChoices_33 : decode cX0_allChoices 33 = .ok (.iload_n 1, 1) := by decide +kernel
theorem dX0_allChoices_34 : decode cX0_allChoices 34 = .ok (.ireturn, 1) := by decide +kernel
theorem dX0_addPart_0 : decode cX0_addPart 0 = .ok (.aload_n 0, 1) := by decide +kernel
theorem dX0_addPart_1 : decode cX0_addPart 1 = .ok (.getfield 9, 3) := by decide +kernel
theorem dX0_addPart_4 : decode cX0_addPart 4 = .ok (.bipush 24, 2) := by decide +kernel
theorem dX0_addPart_6 : decode cX0_addPart 6 = .ok (.if_icmp .lt 5, 3) := by decide +kernel
theorem dX0_addPart_9 : decode cX0_addPart 9 = .ok (.iconst (-1), 1) := by decide +kernel
theorem dX0_addPart_10 : decode cX0_addPart 10 = .ok (.ireturn, 1) := by decide +kernel
theorem dX0_addPart_11 : decode cX0_addPart 11 = .ok (.aload_n 0, 1) := by decide +kernel
theorem dX0_addPart_12 : decode cX0_addPart 12 = .ok (.getfield 9, 3) := by decide +kernel
theorem dX0_addPart_15 : decode cX0_addPart 15 = .ok (.istore_n 1, 1) := by decide +kernel
theorem dX0_addPart_16 : decode cX0_addPart 16 = .ok (.aload_n 0, 1) := by decide +kernel
theorem dX0_addPart_17 : decode cX0_addPart 17 = .ok (.dup, 1) := by decide +kernel
theorem dX0_addPart_18 : decode cX0_addPart 18 = .ok (.getfield 9, 3) := by decide +kernel
theorem dX0_addPart_21 : decode cX0_addPart 21 = .ok (.iconst 1, 1) := by decide +kernel
theorem dX0_addPart_22 : decode cX0_addPart 22 = .ok (.iadd, 1) := by decide +kernel
theorem dX0_addPart_23 : decode cX0_addPart 23 = .ok (.putfield 9, 3) := by decide +kernel
theorem dX0_addPart_26 : decode cX0_addPart 26 = .ok (.aload_n 0, 1) := by decide +kernel
theorem dX0_addPart_27 : decode cX0_addPart 27 = .ok (.getfield 18, 3) := by decide +kernel
theorem dX0_addPart_30 : decode cX0_addPart 30 = .ok (.iload_n 1, 1) := by decide +kernel
theorem dX0_addPart_31 : decode cX0_addPart 31 = .ok (.iconst 0, 1) := by decide +kernel
theorem dX0_addPart_32 : decode cX0_addPart 32 = .ok (.iastore, 1) := by decide +kernel
theorem dX0_addPart_33 : decode cX0_addPart 33 = .ok (.aload_n 0, 1) := by decide +kernel
theorem dX0_addPart_34 : decode cX0_addPart 34 = .ok (.getfield 31, 3) := by decide +kernel
theorem dX0_addPart_37 : decode cX0_addPart 37 = .ok (.iload_n 1, 1) := by decide +kernel
theorem dX0_addPart_38 : decode cX0_addPart 38 = .ok (.iconst 0, 1) := by decide +kernel
theorem dX0_addPart_39 : decode cX0_addPart 39 = .ok (.iastore, 1) := by decide +kernel
theorem dX0_addPart_40 : decode cX0_addPart 40 = .ok (.aload_n 0, 1) := by decide +kernel
theorem dX0_addPart_41 : decode cX0_addPart 41 = .ok (.getfield 40, 3) := by decide +kernel
theorem dX0_addPart_44 : decode cX0_addPart 44 = .ok (.iload_n 1, 1) := by decide +kernel
theorem dX0_addPart_45 : decode cX0_addPart 45 = .ok (.iconst 0, 1) := by decide +kernel
theorem dX0_addPart_46 : decode cX0_addPart 46 = .ok (.iastore, 1) := by decide +kernel
theorem dX0_addPart_47 : decode cX0_addPart 47 = .ok (.iload_n 1, 1) := by decide +kernel
theorem dX0_addPart_48 : decode cX0_addPart 48 = .ok (.ireturn, 1) := by decide +kernel
theorem dX0_addEffect_0 : decode cX0_addEffect 0 = .ok (.aload_n 0, 1) := by decide +kernel
theorem dX0_addEffect_1 : decode cX0_addEffect 1 = .ok (.iload_n 1, 1) := by decide +kernel
theorem dX0_addEffect_2 : decode cX0_addEffect 2 = .ok (.invokevirtual 58, 3) := by decide +kernel
theorem dX0_addEffect_5 : decode cX0_addEffect 5 = .ok (.ifCond .eq 51, 3) := by decide +kernel
theorem dX0_addEffect_8 : decode cX0_addEffect 8 = .ok (.aload_n 0, 1) := by decide +kernel
theorem dX0_addEffect_9 : decode cX0_addEffect 9 = .ok (.getfield 31, 3) := by decide +kernel
theorem dX0_addEffect_12 : decode cX0_addEffect 12 = .ok (.iload_n 1, 1) := by decide +kernel
theorem dX0_addEffect_13 : decode cX0_addEffect 13 = .ok (.iaload, 1) := by decide +kernel
theorem dX0_addEffect_14 : decode cX0_addEffect 14 = .ok (.iconst 4, 1) := by decide +kernel
theorem dX0_addEffect_15 : decode cX0_addEffect 15 = .ok (.if_icmp .ge 41, 3) := by decide +kernel
theorem dX0_addEffect_18 : decode cX0_addEffect 18 = .ok (.iload_n 1, 1) := by decide +kernel
theorem dX0_addEffect_19 : decode cX0_addEffect 19 = .ok (.iconst 4, 1) := by decide +kernel
theorem dX0_addEffect_20 : decode cX0_addEffect 20 = .ok (.imul, 1) := by decide +kernel
theorem dX0_addEffect_21 : decode cX0_addEffect 21 = .ok (.aload_n 0, 1) := by decide +kernel
theorem dX0_addEffect_22 : decode cX0_addEffect 22 = .ok (.getfield 31, 3) := by decide +kernel
theorem dX0_addEffect_25 : decode cX0_addEffect 25 = .ok (.iload_n 1, 1) := by decide +kernel
theorem dX0_addEffect_26 : decode cX0_addEffect 26 = .ok (.iaload, 1) := by decide +kernel
theorem dX0_addEffect_27 : decode cX0_addEffect 27 = .ok (.iadd, 1) := by decide +kernel
theorem dX0_addEffect_28 : decode cX0_addEffect 28 = .ok (.istore 4, 2) := by decide +kernel
theorem dX0_addEffect_30 : decode cX0_addEffect 30 = .ok (.aload_n 0, 1) := by decide +kernel
theorem dX0_addEffect_31 : decode cX0_addEffect 31 = .ok (.getfield 34, 3) := by decide +kernel
theorem dX0_addEffect_34 : decode cX0_addEffect 34 = .ok (.iload 4, 2) := by decide +kernel
theorem dX0_addEffect_36 : decode cX0_addEffect 36 = .ok (.iload_n 2, 1) := by decide +kernel
theorem dX0_addEffect_37 : decode cX0_addEffect 37 = .ok (.iastore, 1) := by decide +kernel
theorem dX0_addEffect_38 : decode cX0_addEffect 38 = .ok (.aload_n 0, 1) := by decide +kernel
theorem dX0_addEffect_39 : decode cX0_addEffect 39 = .ok (.getfield 37, 3) := by decide +kernel
theorem dX0_addEffect_42 : decode cX0_addEffect 42 = .ok (.iload 4, 2) := by decide +kernel
theorem dX0_addEffect_44 : decode cX0_addEffect 44 = .ok (.iload_n 3, 1) := by decide +kernel
theorem dX0_addEffect_45 : decode cX0_addEffect 45 = .ok (.iastore, 1) := by decide +kernel
theorem dX0_addEffect_46 : decode cX0_addEffect 46 = .ok (.aload_n 0, 1) := by decide +kernel
theorem dX0_addEffect_47 : decode cX0_addEffect 47 = .ok (.getfield 31, 3) := by decide +kernel
theorem dX0_addEffect_50 : decode cX0_addEffect 50 = .ok (.iload_n 1, 1) := by decide +kernel
theorem dX0_addEffect_51 : decode cX0_addEffect 51 = .ok (.dup2, 1) := by decide +kernel
theorem dX0_addEffect_52 : decode cX0_addEffect 52 = .ok (.iaload, 1) := by decide +kernel
theorem dX0_addEffect_53 : decode cX0_addEffect 53 = .ok (.iconst 1, 1) := by decide +kernel
theorem dX0_addEffect_54 : decode cX0_addEffect 54 = .ok (.iadd, 1) := by decide +kernel
theorem dX0_addEffect_55 : decode cX0_addEffect 55 = .ok (.iastore, 1) := by decide +kernel
theorem dX0_addEffect_56 : decode cX0_addEffect 56 = .ok (.return_, 1) := by decide +kernel
theorem dX0_addChoice_0 : decode cX0_addChoice 0 = .ok (.aload_n 0, 1) := by decide +kernel
theorem dX0_addChoice_1 : decode cX0_addChoice 1 = .ok (.iload_n 1, 1) := by decide +kernel
theorem dX0_addChoice_2 : decode cX0_addChoice 2 = .ok (.invokevirtual 58, 3) := by decide +kernel
theorem dX0_addChoice_5 : decode cX0_addChoice 5 = .ok (.ifCond .eq 62, 3) := by decide +kernel
theorem dX0_addChoice_8 : decode cX0_addChoice 8 = .ok (.aload_n 0, 1) := by decide +kernel
theorem dX0_addChoice_9 : decode cX0_addChoice 9 = .ok (.getfield 40, 3) := by decide +kernel
theorem dX0_addChoice_12 : decode cX0_addChoice 12 = .ok (.iload_n 1, 1) := by decide +kernel
theorem dX0_addChoice_13 : decode cX0_addChoice 13 = .ok (.iaload, 1) := by decide +kernel
theorem dX0_addChoice_14 : decode cX0_addChoice 14 = .ok (.bipush 6, 2) := by decide +kernel
theorem dX0_addChoice_16 : decode cX0_addChoice 16 = .ok (.if_icmp .ge 51, 3) := by decide +kernel
theorem dX0_addChoice_19 : decode cX0_addChoice 19 = .ok (.iload_n 1, 1) := by decide +kernel
theorem dX0_addChoice_20 : decode cX0_addChoice 20 = .ok (.bipush 6, 2) := by decide +kernel
theorem dX0_addChoice_22 : decode cX0_addChoice 22 = .ok (.imul, 1) := by decide +kernel
theorem dX0_addChoice_23 : decode cX0_addChoice 23 = .ok (.aload_n 0, 1) := by decide +kernel
theorem dX0_addChoice_24 : decode cX0_addChoice 24 = .ok (.getfield 40, 3) := by decide +kernel
theorem dX0_addChoice_27 : decode cX0_addChoice 27 = .ok (.iload_n 1, 1) := by decide +kernel
theorem dX0_addChoice_28 : decode cX0_addChoice 28 = .ok (.iaload, 1) := by decide +kernel
theorem dX0_addChoice_29 : decode cX0_addChoice 29 = .ok (.iadd, 1) := by decide +kernel
theorem dX0_addChoice_30 : decode cX0_addChoice 30 = .ok (.istore 5, 2) := by decide +kernel
theorem dX0_addChoice_32 : decode cX0_addChoice 32 = .ok (.aload_n 0, 1) := by decide +kernel
theorem dX0_addChoice_33 : decode cX0_addChoice 33 = .ok (.getfield 43, 3) := by decide +kernel
theorem dX0_addChoice_36 : decode cX0_addChoice 36 = .ok (.iload 5, 2) := by decide +kernel
theorem dX0_addChoice_38 : decode cX0_addChoice 38 = .ok (.iload_n 2, 1) := by decide +kernel
theorem dX0_addChoice_39 : decode cX0_addChoice 39 = .ok (.iastore, 1) := by decide +kernel
theorem dX0_addChoice_40 : decode cX0_addChoice 40 = .ok (.aload_n 0, 1) := by decide +kernel
theorem dX0_addChoice_41 : decode cX0_addChoice 41 = .ok (.getfield 46, 3) := by decide +kernel
theorem dX0_addChoice_44 : decode cX0_addChoice 44 = .ok (.iload 5, 2) := by decide +kernel
theorem dX0_addChoice_46 : decode cX0_addChoice 46 = .ok (.iload_n 3, 1) := by decide +kernel
theorem dX0_addChoice_47 : decode cX0_addChoice 47 = .ok (.iastore, 1) := by decide +kernel
theorem dX0_addChoice_48 : decode cX0_addChoice 48 = .ok (.aload_n 0, 1) := by decide +kernel
theorem dX0_addChoice_49 : decode cX0_addChoice 49 = .ok (.getfield 49, 3) := by decide +kernel
theorem dX0_addChoice_52 : decode cX0_addChoice 52 = .ok (.iload 5, 2) := by decide +kernel
theorem dX0_addChoice_54 : decode cX0_addChoice 54 = .ok (.iload 4, 2) := by decide +kernel
theorem dX0_addChoice_56 : decode cX0_addChoice 56 = .ok (.iastore, 1) := by decide +kernel
theorem dX0_addChoice_57 : decode cX0_addChoice 57 = .ok (.aload_n 0, 1) := by decide +kernel
theorem dX0_addChoice_58 : decode cX0_addChoice 58 = .ok (.getfield 40, 3) := by decide +kernel
theorem dX0_addChoice_61 : decode cX0_addChoice 61 = .ok (.iload_n 1, 1) := by decide +kernel
theorem dX0_addChoice_62 : decode cX0_addChoice 62 = .ok (.dup2, 1) := by decide +kernel
theorem dX0_addChoice_63 : decode cX0_addChoice 63 = .ok (.iaload, 1) := by decide +kernel
theorem dX0_addChoice_64 : decode cX0_addChoice 64 = .ok (.iconst 1, 1) := by decide +kernel
theorem dX0_addChoice_65 : decode cX0_addChoice 65 = .ok (.iadd, 1) := by decide +kernel
theorem dX0_addChoice_66 : decode cX0_addChoice 66 = .ok (.iastore, 1) := by decide +kernel
theorem dX0_addChoice_67 : decode cX0_addChoice 67 = .ok (.return_, 1) := by decide +kernel
theorem dX0_strikeChoice_0 : decode cX0_strikeChoice 0 = .ok (.aload_n 0, 1) := by decide +kernel
theorem dX0_strikeChoice_1 : decode cX0_strikeChoice 1 = .ok (.iload_n 1, 1) := by decide +kernel
theorem dX0_strikeChoice_2 : decode cX0_strikeChoice 2 = .ok (.iload_n 2, 1) := by decide +kernel
theorem dX0_strikeChoice_3 : decode cX0_strikeChoice 3 = .ok (.invokevirtual 62, 3) := by decide +kernel
theorem dX0_strikeChoice_6 : decode cX0_strikeChoice 6 = .ok (.ifCond .ne 4, 3) := by decide +kernel
theorem dX0_strikeChoice_9 : decode cX0_strikeChoice 9 = .ok (.return_, 1) := by decide +kernel
theorem dX0_strikeChoice_10 : decode cX0_strikeChoice 10 = .ok (.iload_n 1, 1) := by decide +kernel
theorem dX0_strikeChoice_11 : decode cX0_strikeChoice 11 = .ok (.bipush 6, 2) := by decide +kernel
theorem dX0_strikeChoice_13 : decode cX0_strikeChoice 13 = .ok (.imul, 1) := by decide +kernel
theorem dX0_strikeChoice_14 : decode cX0_strikeChoice 14 = .ok (.istore_n 3, 1) := by decide +kernel
theorem dX0_strikeChoice_15 : decode cX0_strikeChoice 15 = .ok (.iload_n 3, 1) := by decide +kernel
theorem dX0_strikeChoice_16 : decode cX0_strikeChoice 16 = .ok (.iload_n 2, 1) := by decide +kernel
theorem dX0_strikeChoice_17 : decode cX0_strikeChoice 17 = .ok (.iadd, 1) := by decide +kernel
theorem dX0_strikeChoice_18 : decode cX0_strikeChoice 18 = .ok (.istore 4, 2) := by decide +kernel
theorem dX0_strikeChoice_20 : decode cX0_strikeChoice 20 = .ok (.iload 4, 2) := by decide +kernel
theorem dX0_strikeChoice_22 : decode cX0_strikeChoice 22 = .ok (.iconst 1, 1) := by decide +kernel
theorem dX0_strikeChoice_23 : decode cX0_strikeChoice 23 = .ok (.iadd, 1) := by decide +kernel
theorem dX0_strikeChoice_24 : decode cX0_strikeChoice 24 = .ok (.iload_n 3, 1) := by decide +kernel
theorem dX0_strikeChoice_25 : decode cX0_strikeChoice 25 = .ok (.aload_n 0, 1) := by decide +kernel
theorem dX0_strikeChoice_26 : decode cX0_strikeChoice 26 = .ok (.getfield 40, 3) := by decide +kernel
theorem dX0_strikeChoice_29 : decode cX0_strikeChoice 29 = .ok (.iload_n 1, 1) := by decide +kernel
theorem dX0_strikeChoice_30 : decode cX0_strikeChoice 30 = .ok (.iaload, 1) := by decide +kernel
theorem dX0_strikeChoice_31 : decode cX0_strikeChoice 31 = .ok (.iadd, 1) := by decide +kernel
theorem dX0_strikeChoice_32 : decode cX0_strikeChoice 32 = .ok (.if_icmp .ge 57, 3) := by decide +kernel
theorem dX0_strikeChoice_35 : decode cX0_strikeChoice 35 = .ok (.aload_n 0, 1) := by decide +kernel
theorem dX0_strikeChoice_36 : decode cX0_strikeChoice 36 = .ok (.getfield 43, 3) := by decide +kernel
theorem dX0_strikeChoice_39 : decode cX0_strikeChoice 39 = .ok (.iload 4, 2) := by decide +kernel
theorem dX0_strikeChoice_41 : decode cX0_strikeChoice 41 = .ok (.aload_n 0, 1) := by decide +kernel
theorem dX0_strikeChoice_42 : decode cX0_strikeChoice 42 = .ok (.getfield 43, 3) := by decide +kernel
theorem dX0_strikeChoice_45 : decode cX0_strikeChoice 45 = .ok (.iload 4, 2) := by decide +kernel
theorem dX0_strikeChoice_47 : decode cX0_strikeChoice 47 = .ok (.iconst 1, 1) := by decide +kernel
theorem dX0_strikeChoice_48 : decode cX0_strikeChoice 48 = .ok (.iadd, 1) := by decide +kernel
theorem dX0_strikeChoice_49 : decode cX0_strikeChoice 49 = .ok (.iaload, 1) := by decide +kernel
theorem dX0_strikeChoice_50 : decode cX0_strikeChoice 50 = .ok (.iastore, 1) := by decide +kernel
theorem dX0_strikeChoice_51 : decode cX0_strikeChoice 51 = .ok (.aload_n 0, 1) := by decide +kernel
theorem dX0_strikeChoice_52 : decode cX0_strikeChoice 52 = .ok (.getfield 46, 3) := by decide +kernel
theorem dX0_strikeChoice_55 : decode cX0_strikeChoice 55 = .ok (.iload 4, 2) := by decide +kernel
theorem dX0_strikeChoice_57 : decode cX0_strikeChoice 57 = .ok (.aload_n 0, 1) := by decide +kernel
theorem dX0_strikeChoice_58 : decode cX0_strikeChoice 58 = .ok (.getfield 46, 3) := by decide +kernel
theorem dX0_strikeChoice_61 : decode cX0_strikeChoice 61 = .ok (.iload 4, 2) := by decide +kernel
theorem dX0_strikeChoice_63 : decode cX0_strikeChoice 63 = .ok (.iconst 1, 1) := by decide +kernel
theorem dX0_strikeChoice_64 : decode cX0_strikeChoice 64 = .ok (.iadd, 1) := by decide +kernel
theorem dX0_strikeChoice_65 : decode cX0_strikeChoice 65 = .ok (.iaload, 1) := by decide +kernel
theorem dX0_strikeChoice_66 : decode cX0_strikeChoice 66 = .ok (.iastore, 1) := by decide +kernel
theorem dX0_strikeChoice_67 : decode cX0_strikeChoice 67 = .ok (.aload_n 0, 1) := by decide +kernel
theorem dX0_strikeChoice_68 : decode cX0_strikeChoice 68 = .ok (.getfield 49, 3) := by decide +kernel
theorem dX0_strikeChoice_71 : decode cX0_strikeChoice 71 = .ok (.iload 4, 2) := by decide +kernel
theorem dX0_strikeChoice_73 : decode cX0_strikeChoice 73 = .ok (.aload_n 0, 1) := by decide +kernel
theorem dX0_strikeChoice_74 : decode cX0_strikeChoice 74 = .ok (.getfield 49, 3) := by decide +kernel
theorem dX0_strikeChoice_77 : decode cX0_strikeChoice 77 = .ok (.iload 4, 2) := by decide +kernel
theorem dX0_strikeChoice_79 : decode cX0_strikeChoice 79 = .ok (.iconst 1, 1) := by decide +kernel
theorem dX0_strikeChoice_80 : decode cX0_strikeChoice 80 = .ok (.iadd, 1) := by decide +kernel
theorem dX0_strikeChoice_81 : decode cX0_strikeChoice 81 = .ok (.iaload, 1) := by decide +kernel
theorem dX0_strikeChoice_82 : decode cX0_strikeChoice 82 = .ok (.iastore, 1) := by decide +kernel
theorem dX0_strikeChoice_83 : decode cX0_strikeChoice 83 = .ok (.iinc 4 1, 3) := by decide +kernel
theorem dX0_strikeChoice_86 : decode cX0_strikeChoice 86 = .ok (.goto (-66), 3) := by decide +kernel
theorem dX0_strikeChoice_89 : decode cX0_strikeChoice 89 = .ok (.aload_n 0, 1) := by decide +kernel
theorem dX0_strikeChoice_90 : decode cX0_strikeChoice 90 = .ok (.getfield 40, 3) := by decide +kernel
theorem dX0_strikeChoice_93 : decode cX0_strikeChoice 93 = .ok (.iload_n 1, 1) := by decide +kernel
theorem dX0_strikeChoice_94 : decode cX0_strikeChoice 94 = .ok (.dup2, 1) := by decide +kernel
theorem dX0_strikeChoice_95 : decode cX0_strikeChoice 95 = .ok (.iaload, 1) := by decide +kernel
theorem dX0_strikeChoice_96 : decode cX0_strikeChoice 96 = .ok (.iconst 1, 1) := by decide +kernel
theorem dX0_strikeChoice_97 : decode cX0_strikeChoice 97 = .ok (.isub, 1) := by decide +kernel
theorem dX0_strikeChoice_98 : decode cX0_strikeChoice 98 = .ok (.iastore, 1) := by decide +kernel
theorem dX0_strikeChoice_99 : decode cX0_strikeChoice 99 = .ok (.return_, 1) := by decide +kernel
theorem dX0_endByRoll_0 : decode cX0_endByRoll 0 = .ok (.aload_n 0, 1) := by decide +kernel
theorem dX0_endByRoll_1 : decode cX0_endByRoll 1 = .ok (.iload_n 1, 1) := by decide +kernel
theorem dX0_endByRoll_2 : decode cX0_endByRoll 2 = .ok (.invokevirtual 58, 3) := by decide +kernel
theorem dX0_endByRoll_5 : decode cX0_endByRoll 5 = .ok (.ifCond .eq 32, 3) := by decide +kernel
theorem dX0_endByRoll_8 : decode cX0_endByRoll 8 = .ok (.aload_n 0, 1) := by decide +kernel
theorem dX0_endByRoll_9 : decode cX0_endByRoll 9 = .ok (.getfield 18, 3) := by decide +kernel
theorem dX0_endByRoll_12 : decode cX0_endByRoll 12 = .ok (.iload_n 1, 1) := by decide +kernel
theorem dX0_endByRoll_13 : decode cX0_endByRoll 13 = .ok (.iconst 3, 1) := by decide +kernel
theorem dX0_endByRoll_14 : decode cX0_endByRoll 14 = .ok (.iastore, 1) := by decide +kernel
theorem dX0_endByRoll_15 : decode cX0_endByRoll 15 = .ok (.aload_n 0, 1) := by decide +kernel
theorem dX0_endByRoll_16 : decode cX0_endByRoll 16 = .ok (.getfield 22, 3) := by decide +kernel
theorem dX0_endByRoll_19 : decode cX0_endByRoll 19 = .ok (.iload_n 1, 1) := by decide +kernel
theorem dX0_endByRoll_20 : decode cX0_endByRoll 20 = .ok (.iload_n 2, 1) := by decide +kernel
theorem dX0_endByRoll_21 : decode cX0_endByRoll 21 = .ok (.iastore, 1) := by decide +kernel
theorem dX0_endByRoll_22 : decode cX0_endByRoll 22 = .ok (.aload_n 0, 1) := by decide +kernel
theorem dX0_endByRoll_23 : decode cX0_endByRoll 23 = .ok (.getfield 25, 3) := by decide +kernel
theorem dX0_endByRoll_26 : decode cX0_endByRoll 26 = .ok (.iload_n 1, 1) := by decide +kernel
theorem dX0_endByRoll_27 : decode cX0_endByRoll 27 = .ok (.iload_n 3, 1) := by decide +kernel
theorem dX0_endByRoll_28 : decode cX0_endByRoll 28 = .ok (.iastore, 1) := by decide +kernel
theorem dX0_endByRoll_29 : decode cX0_endByRoll 29 = .ok (.aload_n 0, 1) := by decide +kernel
theorem dX0_endByRoll_30 : decode cX0_endByRoll 30 = .ok (.getfield 28, 3) := by decide +kernel
theorem dX0_endByRoll_33 : decode cX0_endByRoll 33 = .ok (.iload_n 1, 1) := by decide +kernel
theorem dX0_endByRoll_34 : decode cX0_endByRoll 34 = .ok (.iload 4, 2) := by decide +kernel
theorem dX0_endByRoll_36 : decode cX0_endByRoll 36 = .ok (.iastore, 1) := by decide +kernel
theorem dX0_endByRoll_37 : decode cX0_endByRoll 37 = .ok (.return_, 1) := by decide +kernel
theorem dX0_isOpen_0 : decode cX0_isOpen 0 = .ok (.iload_n 1, 1) := by decide +kernel
theorem dX0_isOpen_1 : decode cX0_isOpen 1 = .ok (.invokestatic 66, 3) := by decide +kernel
theorem dX0_isOpen_4 : decode cX0_isOpen 4 = .ok (.istore_n 3, 1) := by decide +kernel
theorem dX0_isOpen_5 : decode cX0_isOpen 5 = .ok (.iload_n 1, 1) := by decide +kernel
theorem dX0_isOpen_6 : decode cX0_isOpen 6 = .ok (.invokestatic 72, 3) := by decide +kernel
theorem dX0_isOpen_9 : decode cX0_isOpen 9 = .ok (.ifCond .ne 12, 3) := by decide +kernel
theorem dX0_isOpen_12 : decode cX0_isOpen 12 = .ok (.aload_n 0, 1) := by decide +kernel
theorem dX0_isOpen_13 : decode cX0_isOpen 13 = .ok (.iload_n 3, 1) := by decide +kernel
theorem dX0_isOpen_14 : decode cX0_isOpen 14 = .ok (.iload_n 2, 1) := by decide +kernel
theorem dX0_isOpen_15 : decode cX0_isOpen 15 = .ok (.invokevirtual 62, 3) := by decide +kernel
theorem dX0_isOpen_18 : decode cX0_isOpen 18 = .ok (.ifCond .ne 5, 3) := by decide +kernel
theorem dX0_isOpen_21 : decode cX0_isOpen 21 = .ok (.iconst 0, 1) := by decide +kernel
theorem dX0_isOpen_22 : decode cX0_isOpen 22 = .ok (.ireturn, 1) := by decide +kernel
theorem dX0_isOpen_23 : decode cX0_isOpen 23 = .ok (.iload_n 1, 1) := by decide +kernel
theorem dX0_isOpen_24 : decode cX0_isOpen 24 = .ok (.invokestatic 75, 3) := by decide +kernel
theorem dX0_isOpen_27 : decode cX0_isOpen 27 = .ok (.istore 4, 2) := by decide +kernel
theorem dX0_isOpen_29 : decode cX0_isOpen 29 = .ok (.aload_n 0, 1) := by decide +kernel
theorem dX0_isOpen_30 : decode cX0_isOpen 30 = .ok (.getfield 46, 3) := by decide +kernel
theorem dX0_isOpen_33 : decode cX0_isOpen 33 = .ok (.iload_n 3, 1) := by decide +kernel
theorem dX0_isOpen_34 : decode cX0_isOpen 34 = .ok (.bipush 6, 2) := by decide +kernel
theorem dX0_isOpen_36 : decode cX0_isOpen 36 = .ok (.imul, 1) := by decide +kernel
theorem dX0_isOpen_37 : decode cX0_isOpen 37 = .ok (.iload_n 2, 1) := by decide +kernel
theorem dX0_isOpen_38 : decode cX0_isOpen 38 = .ok (.iadd, 1) := by decide +kernel
theorem dX0_isOpen_39 : decode cX0_isOpen 39 = .ok (.iaload, 1) := by decide +kernel
theorem dX0_isOpen_40 : decode cX0_isOpen 40 = .ok (.istore 5, 2) := by decide +kernel
theorem dX0_isOpen_42 : decode cX0_isOpen 42 = .ok (.aload_n 0, 1) := by decide +kernel
theorem dX0_isOpen_43 : decode cX0_isOpen 43 = .ok (.getfield 49, 3) := by decide +kernel
theorem dX0_isOpen_46 : decode cX0_isOpen 46 = .ok (.iload_n 3, 1) := by decide +kernel
theorem dX0_isOpen_47 : decode cX0_isOpen 47 = .ok (.bipush 6, 2) := by decide +kernel
theorem dX0_isOpen_49 : decode cX0_isOpen 49 = .ok (.imul, 1) := by decide +kernel
theorem dX0_isOpen_50 : decode cX0_isOpen 50 = .ok (.iload_n 2, 1) := by decide +kernel
theorem dX0_isOpen_51 : decode cX0_isOpen 51 = .ok (.iadd, 1) := by decide +kernel
theorem dX0_isOpen_52 : decode cX0_isOpen 52 = .ok (.iaload, 1) := by decide +kernel
theorem dX0_isOpen_53 : decode cX0_isOpen 53 = .ok (.istore 6, 2) := by decide +kernel
theorem dX0_isOpen_55 : decode cX0_isOpen 55 = .ok (.iload 5, 2) := by decide +kernel
theorem dX0_isOpen_57 : decode cX0_isOpen 57 = .ok (.iconst (-1), 1) := by decide +kernel
theorem dX0_isOpen_58 : decode cX0_isOpen 58 = .ok (.if_icmp .eq 14, 3) := by decide +kernel
theorem dX0_isOpen_61 : decode cX0_isOpen 61 = .ok (.iload 4, 2) := by decide +kernel
theorem dX0_isOpen_63 : decode cX0_isOpen 63 = .ok (.iload 5, 2) := by decide +kernel
theorem dX0_isOpen_65 : decode cX0_isOpen 65 = .ok (.ishr, 1) := by decide +kernel
theorem dX0_isOpen_66 : decode cX0_isOpen 66 = .ok (.iconst 1, 1) := by decide +kernel
theorem dX0_isOpen_67 : decode cX0_isOpen 67 = .ok (.iand, 1) := by decide +kernel
theorem dX0_isOpen_68 : decode cX0_isOpen 68 = .ok (.iconst 1, 1) := by decide +kernel
theorem dX0_isOpen_69 : decode cX0_isOpen 69 = .ok (.if_icmp .ne 23, 3) := by decide +kernel
theorem dX0_isOpen_72 : decode cX0_isOpen 72 = .ok (.iload 6, 2) := by decide +kernel
theorem dX0_isOpen_74 : decode cX0_isOpen 74 = .ok (.iconst (-1), 1) := by decide +kernel
theorem dX0_isOpen_75 : decode cX0_isOpen 75 = .ok (.if_icmp .eq 13, 3) := by decide +kernel
theorem dX0_isOpen_78 : decode cX0_isOpen 78 = .ok (.iload 4, 2) := by decide +kernel
theorem dX0_isOpen_80 : decode cX0_isOpen 80 = .ok (.iload 6, 2) := by decide +kernel
theorem dX0_isOpen_82 : decode cX0_isOpen 82 = .ok (.ishr, 1) := by decide +kernel
theorem dX0_isOpen_83 : decode cX0_isOpen 83 = .ok (.iconst 1, 1) := by decide +kernel
theorem dX0_isOpen_84 : decode cX0_isOpen 84 = .ok (.iand, 1) := by decide +kernel
theorem dX0_isOpen_85 : decode cX0_isOpen 85 = .ok (.ifCond .ne 7, 3) := by decide +kernel
theorem dX0_isOpen_88 : decode cX0_isOpen 88 = .ok (.iconst 1, 1) := by decide +kernel
theorem dX0_isOpen_89 : decode cX0_isOpen 89 = .ok (.goto 4, 3) := by decide +kernel
theorem dX0_isOpen_92 : decode cX0_isOpen 92 = .ok (.iconst 0, 1) := by decide +kernel
theorem dX0_isOpen_93 : decode cX0_isOpen 93 = .ok (.ireturn, 1) := by decide +kernel
theorem dX0_openChoices_0 : decode cX0_openChoices 0 = .ok (.iconst 0, 1) := by decide +kernel
theorem dX0_openChoices_1 : decode cX0_openChoices 1 = .ok (.istore_n 2, 1) := by decide +kernel
theorem dX0_openChoices_2 : decode cX0_openChoices 2 = .ok (.iload_n 1, 1) := by decide +kernel
theorem dX0_openChoices_3 : decode cX0_openChoices 3 = .ok (.invokestatic 66, 3) := by decide +kernel
theorem dX0_openChoices_6 : decode cX0_openChoices 6 = .ok (.istore_n 3, 1) := by decide +kernel
theorem dX0_openChoices_7 : decode cX0_openChoices 7 = .ok (.iconst 0, 1) := by decide +kernel
theorem dX0_openChoices_8 : decode cX0_openChoices 8 = .ok (.istore 4, 2) := by decide +kernel
theorem dX0_openChoices_10 : decode cX0_openChoices 10 = .ok (.aload_n 0, 1) := by decide +kernel
theorem dX0_openChoices_11 : decode cX0_openChoices 11 = .ok (.iload_n 3, 1) := by decide +kernel
theorem dX0_openChoices_12 : decode cX0_openChoices 12 = .ok (.iload 4, 2) := by decide +kernel
theorem dX0_openChoices_14 : decode cX0_openChoices 14 = .ok (.invokevirtual 62, 3) := by decide +kernel
theorem dX0_openChoices_17 : decode cX0_openChoices 17 = .ok (.ifCond .eq 33, 3) := by decide +kernel
theorem dX0_openChoices_20 : decode cX0_openChoices 20 = .ok (.iload 4, 2) := by decide +kernel
theorem dX0_openChoices_22 : decode cX0_openChoices 22 = .ok (.bipush 6, 2) := by decide +kernel
theorem dX0_openChoices_24 : decode cX0_openChoices 24 = .ok (.if_icmp .ge 26, 3) := by decide +kernel
theorem dX0_openChoices_27 : decode cX0_openChoices 27 = .ok (.aload_n 0, 1) := by decide +kernel
theorem dX0_openChoices_28 : decode cX0_openChoices 28 = .ok (.iload_n 1, 1) := by decide +kernel
theorem dX0_openChoices_29 : decode cX0_openChoices 29 = .ok (.iload 4, 2) := by decide +kernel
theorem dX0_openChoices_31 : decode cX0_openChoices 31 = .ok (.invokevirtual 78, 3) := by decide +kernel
theorem dX0_openChoices_34 : decode cX0_openChoices 34 = .ok (.ifCond .eq 10, 3) := by decide +kernel
theorem dX0_openChoices_37 : decode cX0_openChoices 37 = .ok (.iload_n 2, 1) := by decide +kernel
theorem dX0_openChoices_38 : decode cX0_openChoices 38 = .ok (.iconst 1, 1) := by decide +kernel
theorem dX0_openChoices_39 : decode cX0_openChoices 39 = .ok (.iload 4, 2) := by decide +kernel
theorem dX0_openChoices_41 : decode cX0_openChoices 41 = .ok (.ishl, 1) := by decide +kernel
theorem dX0_openChoices_42 : decode cX0_openChoices 42 = .ok (.ior, 1) := by decide +kernel
theorem dX0_openChoices_43 : decode cX0_openChoices 43 = .ok (.istore_n 2, 1) := by decide +kernel
theorem dX0_openChoices_44 : decode cX0_openChoices 44 = .ok (.iinc 4 1, 3) := by decide +kernel
theorem dX0_openChoices_47 : decode cX0_openChoices 47 = .ok (.goto (-37), 3) := by decide +kernel
theorem dX0_openChoices_50 : decode cX0_openChoices 50 = .ok (.iload_n 2, 1) := by decide +kernel
theorem dX0_openChoices_51 : decode cX0_openChoices 51 = .ok (.ireturn, 1) := by decide +kernel
theorem dX0_rollTarget_0 : decode cX0_rollTarget 0 = .ok (.aload_n 0, 1) := by decide +kernel
theorem dX0_rollTarget_1 : decode cX0_rollTarget 1 = .ok (.iload_n 1, 1) := by decide +kernel
theorem dX0_rollTarget_2 : decode cX0_rollTarget 2 = .ok (.invokevirtual 81, 3) := by decide +kernel
theorem dX0_rollTarget_5 : decode cX0_rollTarget 5 = .ok (.ifCond .ne 5, 3) := by decide +kernel
theorem dX0_rollTarget_8 : decode cX0_rollTarget 8 = .ok (.iconst (-1), 1) := by decide +kernel
theorem dX0_rollTarget_9 : decode cX0_rollTarget 9 = .ok (.ireturn, 1) := by decide +kernel
theorem dX0_rollTarget_10 : decode cX0_rollTarget 10 = .ok (.iload_n 2, 1) := by decide +kernel
theorem dX0_rollTarget_11 : decode cX0_rollTarget 11 = .ok (.aload_n 0, 1) := by decide +kernel
theorem dX0_rollTarget_12 : decode cX0_rollTarget 12 = .ok (.getfield 22, 3) := by decide +kernel
theorem dX0_rollTarget_15 : decode cX0_rollTarget 15 = .ok (.iload_n 1, 1) := by decide +kernel
theorem dX0_rollTarget_16 : decode cX0_rollTarget 16 = .ok (.iaload, 1) := by decide +kernel
theorem dX0_rollTarget_17 : decode cX0_rollTarget 17 = .ok (.if_icmp .lt 12, 3) := by decide +kernel
theorem dX0_rollTarget_20 : decode cX0_rollTarget 20 = .ok (.aload_n 0, 1) := by decide +kernel
theorem dX0_rollTarget_21 : decode cX0_rollTarget 21 = .ok (.getfield 25, 3) := by decide +kernel
theorem dX0_rollTarget_24 : decode cX0_rollTarget 24 = .ok (.iload_n 1, 1) := by decide +kernel
theorem dX0_rollTarget_25 : decode cX0_rollTarget 25 = .ok (.iaload, 1) := by decide +kernel
theorem dX0_rollTarget_26 : decode cX0_rollTarget 26 = .ok (.goto 9, 3) := by decide +kernel
theorem dX0_rollTarget_29 : decode cX0_rollTarget 29 = .ok (.aload_n 0, 1) := by decide +kernel
theorem dX0_rollTarget_30 : decode cX0_rollTarget 30 = .ok (.getfield 28, 3) := by decide +kernel
theorem dX0_rollTarget_33 : decode cX0_rollTarget 33 = .ok (.iload_n 1, 1) := by decide +kernel
theorem dX0_rollTarget_34 : decode cX0_rollTarget 34 = .ok (.iaload, 1) := by decide +kernel
theorem dX0_rollTarget_35 : decode cX0_rollTarget 35 = .ok (.ireturn, 1) := by decide +kernel
theorem dX0_waysFrom_0 : decode cX0_waysFrom 0 = .ok (.aload_n 0, 1) := by decide +kernel
theorem dX0_waysFrom_1 : decode cX0_waysFrom 1 = .ok (.iload_n 1, 1) := by decide +kernel
theorem dX0_waysFrom_2 : decode cX0_waysFrom 2 = .ok (.invokevirtual 58, 3) := by decide +kernel
theorem dX0_waysFrom_5 : decode cX0_waysFrom 5 = .ok (.ifCond .ne 5, 3) := by decide +kernel
theorem dX0_waysFrom_8 : decode cX0_waysFrom 8 = .ok (.iconst 0, 1) := by decide +kernel
theorem dX0_waysFrom_9 : decode cX0_waysFrom 9 = .ok (.ireturn, 1) := by decide +kernel
theorem dX0_waysFrom_10 : decode cX0_waysFrom 10 = .ok (.aload_n 0, 1) := by decide +kernel
theorem dX0_waysFrom_11 : decode cX0_waysFrom 11 = .ok (.getfield 18, 3) := by decide +kernel
theorem dX0_waysFrom_14 : decode cX0_waysFrom 14 = .ok (.iload_n 1, 1) := by decide +kernel
theorem dX0_waysFrom_15 : decode cX0_waysFrom 15 = .ok (.iaload, 1) := by decide +kernel
theorem dX0_waysFrom_16 : decode cX0_waysFrom 16 = .ok (.iconst 3, 1) := by decide +kernel
theorem dX0_waysFrom_17 : decode cX0_waysFrom 17 = .ok (.if_icmp .ne 7, 3) := by decide +kernel
theorem dX0_waysFrom_20 : decode cX0_waysFrom 20 = .ok (.iconst 2, 1) := by decide +kernel
theorem dX0_waysFrom_21 : decode cX0_waysFrom 21 = .ok (.goto 14, 3) := by decide +kernel
theorem dX0_waysFrom_24 : decode cX0_waysFrom 24 = .ok (.bipush 6, 2) := by decide +kernel
theorem dX0_waysFrom_26 : decode cX0_waysFrom 26 = .ok (.aload_n 0, 1) := by decide +kernel
theorem dX0_waysFrom_27 : decode cX0_waysFrom 27 = .ok (.getfield 40, 3) := by decide +kernel
theorem dX0_waysFrom_30 : decode cX0_waysFrom 30 = .ok (.iload_n 1, 1) := by decide +kernel
theorem dX0_waysFrom_31 : decode cX0_waysFrom 31 = .ok (.iaload, 1) := by decide +kernel
theorem dX0_waysFrom_32 : decode cX0_waysFrom 32 = .ok (.invokestatic 84, 3) := by decide +kernel
theorem dX0_waysFrom_35 : decode cX0_waysFrom 35 = .ok (.ireturn, 1) := by decide +kernel
theorem dX0_wayOut_0 : decode cX0_wayOut 0 = .ok (.iload_n 1, 1) := by decide +kernel
theorem dX0_wayOut_1 : decode cX0_wayOut 1 = .ok (.invokestatic 66, 3) := by decide +kernel
theorem dX0_wayOut_4 : decode cX0_wayOut 4 = .ok (.istore_n 3, 1) := by decide +kernel
theorem dX0_wayOut_5 : decode cX0_wayOut 5 = .ok (.aload_n 0, 1) := by decide +kernel
theorem dX0_wayOut_6 : decode cX0_wayOut 6 = .ok (.iload_n 1, 1) := by decide +kernel
theorem dX0_wayOut_7 : decode cX0_wayOut 7 = .ok (.iload_n 2, 1) := by decide +kernel
theorem dX0_wayOut_8 : decode cX0_wayOut 8 = .ok (.invokevirtual 78, 3) := by decide +kernel
theorem dX0_wayOut_11 : decode cX0_wayOut 11 = .ok (.ifCond .eq 15, 3) := by decide +kernel
theorem dX0_wayOut_14 : decode cX0_wayOut 14 = .ok (.aload_n 0, 1) := by decide +kernel
theorem dX0_wayOut_15 : decode cX0_wayOut 15 = .ok (.getfield 43, 3) := by decide +kernel
theorem dX0_wayOut_18 : decode cX0_wayOut 18 = .ok (.iload_n 3, 1) := by decide +kernel
theorem dX0_wayOut_19 : decode cX0_wayOut 19 = .ok (.bipush 6, 2) := by decide +kernel
theorem dX0_wayOut_21 : decode cX0_wayOut 21 = .ok (.imul, 1) := by decide +kernel
theorem dX0_wayOut_22 : decode cX0_wayOut 22 = .ok (.iload_n 2, 1) := by decide +kernel
theorem dX0_wayOut_23 : decode cX0_wayOut 23 = .ok (.iadd, 1) := by decide +kernel
theorem dX0_wayOut_24 : decode cX0_wayOut 24 = .ok (.iaload, 1) := by decide +kernel
theorem dX0_wayOut_25 : decode cX0_wayOut 25 = .ok (.ireturn, 1) := by decide +kernel
theorem dX0_wayOut_26 : decode cX0_wayOut 26 = .ok (.iload_n 1, 1) := by decide +kernel
theorem dX0_wayOut_27 : decode cX0_wayOut 27 = .ok (.invokestatic 72, 3) := by decide +kernel
theorem dX0_wayOut_30 : decode cX0_wayOut 30 = .ok (.ifCond .ne 20, 3) := by decide +kernel
theorem dX0_wayOut_33 : decode cX0_wayOut 33 = .ok (.aload_n 0, 1) := by decide +kernel
theorem dX0_wayOut_34 : decode cX0_wayOut 34 = .ok (.iload_n 3, 1) := by decide +kernel
theorem dX0_wayOut_35 : decode cX0_wayOut 35 = .ok (.invokevirtual 81, 3) := by decide +kernel
theorem dX0_wayOut_38 : decode cX0_wayOut 38 = .ok (.ifCond .eq 12, 3) := by decide +kernel
theorem dX0_wayOut_41 : decode cX0_wayOut 41 = .ok (.iload_n 2, 1) := by decide +kernel
theorem dX0_wayOut_42 : decode cX0_wayOut 42 = .ok (.ifCond .lt 8, 3) := by decide +kernel
theorem dX0_wayOut_45 : decode cX0_wayOut 45 = .ok (.iload_n 2, 1) := by decide +kernel
theorem dX0_wayOut_46 : decode cX0_wayOut 46 = .ok (.iconst 1, 1) := by decide +kernel
theorem dX0_wayOut_47 : decode cX0_wayOut 47 = .ok (.if_icmp .le 5, 3) := by decide +kernel
theorem dX0_wayOut_50 : decode cX0_wayOut 50 = .ok (.iconst (-1), 1) := by decide +kernel
theorem dX0_wayOut_51 : decode cX0_wayOut 51 = .ok (.ireturn, 1) := by decide +kernel
theorem dX0_wayOut_52 : decode cX0_wayOut 52 = .ok (.iload_n 2, 1) := by decide +kernel
theorem dX0_wayOut_53 : decode cX0_wayOut 53 = .ok (.ifCond .ne 12, 3) := by decide +kernel
theorem dX0_wayOut_56 : decode cX0_wayOut 56 = .ok (.aload_n 0, 1) := by decide +kernel
theorem dX0_wayOut_57 : decode cX0_wayOut 57 = .ok (.getfield 25, 3) := by decide +kernel
theorem dX0_wayOut_60 : decode cX0_wayOut 60 = .ok (.iload_n 3, 1) := by decide +kernel
theorem dX0_wayOut_61 : decode cX0_wayOut 61 = .ok (.iaload, 1) := by decide +kernel
theorem dX0_wayOut_62 : decode cX0_wayOut 62 = .ok (.goto 9, 3) := by decide +kernel
theorem dX0_wayOut_65 : decode cX0_wayOut 65 = .ok (.aload_n 0, 1) := by decide +kernel
theorem dX0_wayOut_66 : decode cX0_wayOut 66 = .ok (.getfield 28, 3) := by decide +kernel
theorem dX0_wayOut_69 : decode cX0_wayOut 69 = .ok (.iload_n 3, 1) := by decide +kernel
theorem dX0_wayOut_70 : decode cX0_wayOut 70 = .ok (.iaload, 1) := by decide +kernel
theorem dX0_wayOut_71 : decode cX0_wayOut 71 = .ok (.ireturn, 1) := by decide +kernel
theorem dX0_canGo_0 : decode cX0_canGo 0 = .ok (.aload_n 0, 1) := by decide +kernel
theorem dX0_canGo_1 : decode cX0_canGo 1 = .ok (.iload_n 2, 1) := by decide +kernel
theorem dX0_canGo_2 : decode cX0_canGo 2 = .ok (.invokevirtual 58, 3) := by decide +kernel
theorem dX0_canGo_5 : decode cX0_canGo 5 = .ok (.ifCond .ne 5, 3) := by decide +kernel
theorem dX0_canGo_8 : decode cX0_canGo 8 = .ok (.iconst 0, 1) := by decide +kernel
theorem dX0_canGo_9 : decode cX0_canGo 9 = .ok (.ireturn, 1) := by decide +kernel
theorem dX0_canGo_10 : decode cX0_canGo 10 = .ok (.aload_n 0, 1) := by decide +kernel
theorem dX0_canGo_11 : decode cX0_canGo 11 = .ok (.iload_n 1, 1) := by decide +kernel
theorem dX0_canGo_12 : decode cX0_canGo 12 = .ok (.invokestatic 66, 3) := by decide +kernel
theorem dX0_canGo_15 : decode cX0_canGo 15 = .ok (.invokevirtual 90, 3) := by decide +kernel
theorem dX0_canGo_18 : decode cX0_canGo 18 = .ok (.istore_n 3, 1) := by decide +kernel
theorem dX0_canGo_19 : decode cX0_canGo 19 = .ok (.iconst 0, 1) := by decide +kernel
theorem dX0_canGo_20 : decode cX0_canGo 20 = .ok (.istore 4, 2) := by decide +kernel
theorem dX0_canGo_22 : decode cX0_canGo 22 = .ok (.iload 4, 2) := by decide +kernel
theorem dX0_canGo_24 : decode cX0_canGo 24 = .ok (.iload_n 3, 1) := by decide +kernel
theorem dX0_canGo_25 : decode cX0_canGo 25 = .ok (.if_icmp .ge 22, 3) := by decide +kernel
theorem dX0_canGo_28 : decode cX0_canGo 28 = .ok (.aload_n 0, 1) := by decide +kernel
theorem dX0_canGo_29 : decode cX0_canGo 29 = .ok (.iload_n 1, 1) := by decide +kernel
theorem dX0_canGo_30 : decode cX0_canGo 30 = .ok (.iload 4, 2) := by decide +kernel
theorem dX0_canGo_32 : decode cX0_canGo 32 = .ok (.invokevirtual 93, 3) := by decide +kernel
theorem dX0_canGo_35 : decode cX0_canGo 35 = .ok (.iload_n 2, 1) := by decide +kernel
theorem dX0_canGo_36 : decode cX0_canGo 36 = .ok (.if_icmp .ne 5, 3) := by decide +kernel
theorem dX0_canGo_39 : decode cX0_canGo 39 = .ok (.iconst 1, 1) := by decide +kernel
theorem dX0_canGo_40 : decode cX0_canGo 40 = .ok (.ireturn, 1) := by decide +kernel
theorem dX0_canGo_41 : decode cX0_canGo 41 = .ok (.iinc 4 1, 3) := by decide +kernel
theorem dX0_canGo_44 : decode cX0_canGo 44 = .ok (.goto (-22), 3) := by decide +kernel
theorem dX0_canGo_47 : decode cX0_canGo 47 = .ok (.iconst 0, 1) := by decide +kernel
theorem dX0_canGo_48 : decode cX0_canGo 48 = .ok (.ireturn, 1) := by decide +kernel
theorem dX0_standing_0 : decode cX0_standing 0 = .ok (.iload_n 1, 1) := by decide +kernel
theorem dX0_standing_1 : decode cX0_standing 1 = .ok (.invokestatic 72, 3) := by decide +kernel
theorem dX0_standing_4 : decode cX0_standing 4 = .ok (.ifCond .eq 8, 3) := by decide +kernel
theorem dX0_standing_7 : decode cX0_standing 7 = .ok (.iload_n 1, 1) := by decide +kernel
theorem dX0_standing_8 : decode cX0_standing 8 = .ok (.invokestatic 96, 3) := by decide +kernel
theorem dX0_standing_11 : decode cX0_standing 11 = .ok (.ireturn, 1) := by decide +kernel
theorem dX0_standing_12 : decode cX0_standing 12 = .ok (.aload_n 0, 1) := by decide +kernel
theorem dX0_standing_13 : decode cX0_standing 13 = .ok (.iload_n 1, 1) := by decide +kernel
theorem dX0_standing_14 : decode cX0_standing 14 = .ok (.invokestatic 66, 3) := by decide +kernel
theorem dX0_standing_17 : decode cX0_standing 17 = .ok (.invokevirtual 81, 3) := by decide +kernel
theorem dX0_standing_20 : decode cX0_standing 20 = .ok (.ifCond .ne 11, 3) := by decide +kernel
theorem dX0_standing_23 : decode cX0_standing 23 = .ok (.aload_n 0, 1) := by decide +kernel
theorem dX0_standing_24 : decode cX0_standing 24 = .ok (.iload_n 1, 1) := by decide +kernel
theorem dX0_standing_25 : decode cX0_standing 25 = .ok (.invokevirtual 99, 3) := by decide +kernel
theorem dX0_standing_28 : decode cX0_standing 28 = .ok (.ifCond .eq 7, 3) := by decide +kernel
theorem dX0_standing_31 : decode cX0_standing 31 = .ok (.iconst 0, 1) := by decide +kernel
theorem dX0_standing_32 : decode cX0_standing 32 = .ok (.goto 4, 3) := by decide +kernel
theorem dX0_standing_35 : decode cX0_standing 35 = .ok (.iconst 3, 1) := by decide +kernel
theorem dX0_standing_36 : decode cX0_standing 36 = .ok (.ireturn, 1) := by decide +kernel
theorem dX0_beginning_0 : decode cX0_beginning 0 = .ok (.aload_n 0, 1) := by decide +kernel
theorem dX0_beginning_1 : decode cX0_beginning 1 = .ok (.iconst 0, 1) := by decide +kernel
theorem dX0_beginning_2 : decode cX0_beginning 2 = .ok (.iconst 0, 1) := by decide +kernel
theorem dX0_beginning_3 : decode cX0_beginning 3 = .ok (.aload_n 0, 1) := by decide +kernel
theorem dX0_beginning_4 : decode cX0_beginning 4 = .ok (.getfield 15, 3) := by decide +kernel
theorem dX0_beginning_7 : decode cX0_beginning 7 = .ok (.iload_n 1, 1) := by decide +kernel
theorem dX0_beginning_8 : decode cX0_beginning 8 = .ok (.invokevirtual 102, 3) := by decide +kernel
theorem dX0_beginning_11 : decode cX0_beginning 11 = .ok (.ireturn, 1) := by decide +kernel
theorem dX0_goOn_0 : decode cX0_goOn 0 = .ok (.aload_n 0, 1) := by decide +kernel
theorem dX0_goOn_1 : decode cX0_goOn 1 = .ok (.iload_n 2, 1) := by decide +kernel
theorem dX0_goOn_2 : decode cX0_goOn 2 = .ok (.iload_n 1, 1) := by decide +kernel
theorem dX0_goOn_3 : decode cX0_goOn 3 = .ok (.invokestatic 75, 3) := by decide +kernel
theorem dX0_goOn_6 : decode cX0_goOn 6 = .ok (.iload_n 1, 1) := by decide +kernel
theorem dX0_goOn_7 : decode cX0_goOn 7 = .ok (.invokestatic 106, 3) := by decide +kernel
theorem dX0_goOn_10 : decode cX0_goOn 10 = .ok (.iload_n 3, 1) := by decide +kernel
theorem dX0_goOn_11 : decode cX0_goOn 11 = .ok (.invokevirtual 102, 3) := by decide +kernel
theorem dX0_goOn_14 : decode cX0_goOn 14 = .ok (.ireturn, 1) := by decide +kernel
theorem dX0_arrive_0 : decode cX0_arrive 0 = .ok (.aload_n 0, 1) := by decide +kernel
theorem dX0_arrive_1 : decode cX0_arrive 1 = .ok (.iload_n 1, 1) := by decide +kernel
theorem dX0_arrive_2 : decode cX0_arrive 2 = .ok (.invokevirtual 58, 3) := by decide +kernel
theorem dX0_arrive_5 : decode cX0_arrive 5 = .ok (.ifCond .ne 11, 3) := by decide +kernel
theorem dX0_arrive_8 : decode cX0_arrive 8 = .ok (.iconst 0, 1) := by decide +kernel
theorem dX0_arrive_9 : decode cX0_arrive 9 = .ok (.iconst 0, 1) := by decide +kernel
theorem dX0_arrive_10 : decode cX0_arrive 10 = .ok (.iconst 0, 1) := by decide +kernel
theorem dX0_arrive_11 : decode cX0_arrive 11 = .ok (.iconst 2, 1) := by decide +kernel
theorem dX0_arrive_12 : decode cX0_arrive 12 = .ok (.invokestatic 109, 3) := by decide +kernel
theorem dX0_arrive_15 : decode cX0_arrive 15 = .ok (.ireturn, 1) := by decide +kernel
theorem dX0_arrive_16 : decode cX0_arrive 16 = .ok (.iload_n 2, 1) := by decide +kernel
theorem dX0_arrive_17 : decode cX0_arrive 17 = .ok (.istore 5, 2) := by decide +kernel
theorem dX0_arrive_19 : decode cX0_arrive 19 = .ok (.iload_n 3, 1) := by decide +kernel
theorem dX0_arrive_20 : decode cX0_arrive 20 = .ok (.istore 6, 2) := by decide +kernel
theorem dX0_arrive_22 : decode cX0_arrive 22 = .ok (.iconst 0, 1) := by decide +kernel
theorem dX0_arrive_23 : decode cX0_arrive 23 = .ok (.istore 7, 2) := by decide +kernel
theorem dX0_arrive_25 : decode cX0_arrive 25 = .ok (.iload 7, 2) := by decide +kernel
theorem dX0_arrive_27 : decode cX0_arrive 27 = .ok (.aload_n 0, 1) := by decide +kernel
theorem dX0_arrive_28 : decode cX0_arrive 28 = .ok (.getfield 31, 3) := by decide +kernel
theorem dX0_arrive_31 : decode cX0_arrive 31 = .ok (.iload_n 1, 1) := by decide +kernel
theorem dX0_arrive_32 : decode cX0_arrive 32 = .ok (.iaload, 1) := by decide +kernel
theorem dX0_arrive_33 : decode cX0_arrive 33 = .ok (.if_icmp .ge 138, 3) := by decide +kernel
theorem dX0_arrive_36 : decode cX0_arrive 36 = .ok (.iload 7, 2) := by decide +kernel
theorem dX0_arrive_38 : decode cX0_arrive 38 = .ok (.iconst 4, 1) := by decide +kernel
theorem dX0_arrive_39 : decode cX0_arrive 39 = .ok (.if_icmp .ge 132, 3) := by decide +kernel
theorem dX0_arrive_42 : decode cX0_arrive 42 = .ok (.aload_n 0, 1) := by decide +kernel
theorem dX0_arrive_43 : decode cX0_arrive 43 = .ok (.getfield 37, 3) := by decide +kernel
theorem dX0_arrive_46 : decode cX0_arrive 46 = .ok (.iload_n 1, 1) := by decide +kernel
theorem dX0_arrive_47 : decode cX0_arrive 47 = .ok (.iconst 4, 1) := by decide +kernel
theorem dX0_arrive_48 : decode cX0_arrive 48 = .ok (.imul, 1) := by decide +kernel
theorem dX0_arrive_49 : decode cX0_arrive 49 = .ok (.iload 7, 2) := by decide +kernel
theorem dX0_arrive_51 : decode cX0_arrive 51 = .ok (.iadd, 1) := by decide +kernel
theorem dX0_arrive_52 : decode cX0_arrive 52 = .ok (.iaload, 1) := by decide +kernel
theorem dX0_arrive_53 : decode cX0_arrive 53 = .ok (.istore 8, 2) := by decide +kernel
theorem dX0_arrive_55 : decode cX0_arrive 55 = .ok (.aload_n 0, 1) := by decide +kernel
theorem dX0_arrive_56 : decode cX0_arrive 56 = .ok (.getfield 34, 3) := by decide +kernel
theorem dX0_arrive_59 : decode cX0_arrive 59 = .ok (.iload_n 1, 1) := by decide +kernel
theorem dX0_arrive_60 : decode cX0_arrive 60 = .ok (.iconst 4, 1) := by decide +kernel
theorem dX0_arrive_61 : decode cX0_arrive 61 = .ok (.imul, 1) := by decide +kernel
theorem dX0_arrive_62 : decode cX0_arrive 62 = .ok (.iload 7, 2) := by decide +kernel
theorem dX0_arrive_64 : decode cX0_arrive 64 = .ok (.iadd, 1) := by decide +kernel
theorem dX0_arrive_65 : decode cX0_arrive 65 = .ok (.iaload, 1) := by decide +kernel
theorem dX0_arrive_66 : decode cX0_arrive 66 = .ok (.tableswitch 73 0 2 #[26, 49, 63], 26) := by decide +kernel
theorem dX0_arrive_92 : decode cX0_arrive 92 = .ok (.iload 5, 2) := by decide +kernel
theorem dX0_arrive_94 : decode cX0_arrive 94 = .ok (.iload 8, 2) := by decide +kernel
theorem dX0_arrive_96 : decode cX0_arrive 96 = .ok (.iload 4, 2) := by decide +kernel
theorem dX0_arrive_98 : decode cX0_arrive 98 = .ok (.if_icmp .ne 7, 3) := by decide +kernel
theorem dX0_arrive_101 : decode cX0_arrive 101 = .ok (.iconst 0, 1) := by decide +kernel
theorem dX0_arrive_102 : decode cX0_arrive 102 = .ok (.goto 7, 3) := by decide +kernel
theorem dX0_arrive_105 : decode cX0_arrive 105 = .ok (.iconst 1, 1) := by decide +kernel
theorem dX0_arrive_106 : decode cX0_arrive 106 = .ok (.iload 8, 2) := by decide +kernel
theorem dX0_arrive_108 : decode cX0_arrive 108 = .ok (.ishl, 1) := by decide +kernel
theorem dX0_arrive_109 : decode cX0_arrive 109 = .ok (.ior, 1) := by decide +kernel
theorem dX0_arrive_110 : decode cX0_arrive 110 = .ok (.istore 5, 2) := by decide +kernel
theorem dX0_arrive_112 : decode cX0_arrive 112 = .ok (.goto 39, 3) := by decide +kernel
theorem dX0_arrive_115 : decode cX0_arrive 115 = .ok (.iload 5, 2) := by decide +kernel
theorem dX0_arrive_117 : decode cX0_arrive 117 = .ok (.iconst 1, 1) := by decide +kernel
theorem dX0_arrive_118 : decode cX0_arrive 118 = .ok (.iload 8, 2) := by decide +kernel
theorem dX0_arrive_120 : decode cX0_arrive 120 = .ok (.ishl, 1) := by decide +kernel
theorem dX0_arrive_121 : decode cX0_arrive 121 = .ok (.iconst (-1), 1) := by decide +kernel
theorem dX0_arrive_122 : decode cX0_arrive 122 = .ok (.ixor, 1) := by decide +kernel
theorem dX0_arrive_123 : decode cX0_arrive 123 = .ok (.iand, 1) := by decide +kernel
theorem dX0_arrive_124 : decode cX0_arrive 124 = .ok (.istore 5, 2) := by decide +kernel
theorem dX0_arrive_126 : decode cX0_arrive 126 = .ok (.goto 25, 3) := by decide +kernel
theorem dX0_arrive_129 : decode cX0_arrive 129 = .ok (.iload 6, 2) := by decide +kernel
theorem dX0_arrive_131 : decode cX0_arrive 131 = .ok (.iload 8, 2) := by decide +kernel
theorem dX0_arrive_133 : decode cX0_arrive 133 = .ok (.isub, 1) := by decide +kernel
theorem dX0_arrive_134 : decode cX0_arrive 134 = .ok (.istore 6, 2) := by decide +kernel
theorem dX0_arrive_136 : decode cX0_arrive 136 = .ok (.goto 15, 3) := by decide +kernel
theorem dX0_arrive_139 : decode cX0_arrive 139 = .ok (.bipush 9, 2) := by decide +kernel
theorem dX0_arrive_141 : decode cX0_arrive 141 = .ok (.iload 6, 2) := by decide +kernel
theorem dX0_arrive_143 : decode cX0_arrive 143 = .ok (.iload 8, 2) := by decide +kernel
theorem dX0_arrive_145 : decode cX0_arrive 145 = .ok (.iadd, 1) := by decide +kernel
theorem dX0_arrive_146 : decode cX0_arrive 146 = .ok (.invokestatic 84, 3) := by decide +kernel
theorem dX0_arrive_149 : decode cX0_arrive 149 = .ok (.istore 6, 2) := by decide +kernel
theorem dX0_arrive_151 : decode cX0_arrive 151 = .ok (.iload 6, 2) := by decide +kernel
theorem dX0_arrive_153 : decode cX0_arrive 153 = .ok (.ifCond .gt 12, 3) := by decide +kernel
theorem dX0_arrive_156 : decode cX0_arrive 156 = .ok (.iload_n 1, 1) := by decide +kernel
theorem dX0_arrive_157 : decode cX0_arrive 157 = .ok (.iload 5, 2) := by decide +kernel
theorem dX0_arrive_159 : decode cX0_arrive 159 = .ok (.iconst 0, 1) := by decide +kernel
theorem dX0_arrive_160 : decode cX0_arrive 160 = .ok (.iconst 2, 1) := by decide +kernel
theorem dX0_arrive_161 : decode cX0_arrive 161 = .ok (.invokestatic 109, 3) := by decide +kernel
theorem dX0_arrive_164 : decode cX0_arrive 164 = .ok (.ireturn, 1) := by decide +kernel
theorem dX0_arrive_165 : decode cX0_arrive 165 = .ok (.iinc 7 1, 3) := by decide +kernel
theorem dX0_arrive_168 : decode cX0_arrive 168 = .ok (.goto (-143), 3) := by decide +kernel
theorem dX0_arrive_171 : decode cX0_arrive 171 = .ok (.aload_n 0, 1) := by decide +kernel
theorem dX0_arrive_172 : decode cX0_arrive 172 = .ok (.getfield 18, 3) := by decide +kernel
theorem dX0_arrive_175 : decode cX0_arrive 175 = .ok (.iload_n 1, 1) := by decide +kernel
theorem dX0_arrive_176 : decode cX0_arrive 176 = .ok (.iaload, 1) := by decide +kernel
theorem dX0_arrive_177 : decode cX0_arrive 177 = .ok (.iconst 1, 1) := by decide +kernel
theorem dX0_arrive_178 : decode cX0_arrive 178 = .ok (.if_icmp .ne 7, 3) := by decide +kernel
theorem dX0_arrive_181 : decode cX0_arrive 181 = .ok (.iconst 1, 1) := by decide +kernel
theorem dX0_arrive_182 : decode cX0_arrive 182 = .ok (.goto 18, 3) := by decide +kernel
theorem dX0_arrive_185 : decode cX0_arrive 185 = .ok (.aload_n 0, 1) := by decide +kernel
theorem dX0_arrive_186 : decode cX0_arrive 186 = .ok (.getfield 18, 3) := by decide +kernel
theorem dX0_arrive_189 : decode cX0_arrive 189 = .ok (.iload_n 1, 1) := by decide +kernel
theorem dX0_arrive_190 : decode cX0_arrive 190 = .ok (.iaload, 1) := by decide +kernel
theorem dX0_arrive_191 : decode cX0_arrive 191 = .ok (.iconst 2, 1) := by decide +kernel
theorem dX0_arrive_192 : decode cX0_arrive 192 = .ok (.if_icmp .ne 7, 3) := by decide +kernel
theorem dX0_arrive_195 : decode cX0_arrive 195 = .ok (.iconst 2, 1) := by decide +kernel
theorem dX0_arrive_196 : decode cX0_arrive 196 = .ok (.goto 4, 3) := by decide +kernel
theorem dX0_arrive_199 : decode cX0_arrive 199 = .ok (.iconst 0, 1) := by decide +kernel
theorem dX0_arrive_200 : decode cX0_arrive 200 = .ok (.istore 7, 2) := by decide +kernel
theorem dX0_arrive_202 : decode cX0_arrive 202 = .ok (.iload_n 1, 1) := by decide +kernel
theorem dX0_arrive_203 : decode cX0_arrive 203 = .ok (.iload 5, 2) := by decide +kernel
theorem dX0_arrive_205 : decode cX0_arrive 205 = .ok (.iload 6, 2) := by decide +kernel
theorem dX0_arrive_207 : decode cX0_arrive 207 = .ok (.iload 7, 2) := by decide +kernel
theorem dX0_arrive_209 : decode cX0_arrive 209 = .ok (.invokestatic 109, 3) := by decide +kernel
theorem dX0_arrive_212 : decode cX0_arrive 212 = .ok (.ireturn, 1) := by decide +kernel
theorem dX0_findLinks_0 : decode cX0_findLinks 0 = .ok (.aload_n 1, 1) := by decide +kernel
theorem dX0_findLinks_1 : decode cX0_findLinks 1 = .ok (.iconst 0, 1) := by decide +kernel
theorem dX0_findLinks_2 : decode cX0_findLinks 2 = .ok (.invokestatic 112, 3) := by decide +kernel
theorem dX0_findLinks_5 : decode cX0_findLinks 5 = .ok (.iconst 0, 1) := by decide +kernel
theorem dX0_findLinks_6 : decode cX0_findLinks 6 = .ok (.istore_n 2, 1) := by decide +kernel
theorem dX0_findLinks_7 : decode cX0_findLinks 7 = .ok (.iload_n 2, 1) := by decide +kernel
theorem dX0_findLinks_8 : decode cX0_findLinks 8 = .ok (.aload_n 0, 1) := by decide +kernel
theorem dX0_findLinks_9 : decode cX0_findLinks 9 = .ok (.getfield 9, 3) := by decide +kernel
theorem dX0_findLinks_12 : decode cX0_findLinks 12 = .ok (.if_icmp .ge 87, 3) := by decide +kernel
theorem dX0_findLinks_15 : decode cX0_findLinks 15 = .ok (.iload_n 2, 1) := by decide +kernel
theorem dX0_findLinks_16 : decode cX0_findLinks 16 = .ok (.bipush 24, 2) := by decide +kernel
theorem dX0_findLinks_18 : decode cX0_findLinks 18 = .ok (.if_icmp .ge 81, 3) := by decide +kernel
theorem dX0_findLinks_21 : decode cX0_findLinks 21 = .ok (.aload_n 0, 1) := by decide +kernel
theorem dX0_findLinks_22 : decode cX0_findLinks 22 = .ok (.getfield 18, 3) := by decide +kernel
theorem dX0_findLinks_25 : decode cX0_findLinks 25 = .ok (.iload_n 2, 1) := by decide +kernel
theorem dX0_findLinks_26 : decode cX0_findLinks 26 = .ok (.iaload, 1) := by decide +kernel
theorem dX0_findLinks_27 : decode cX0_findLinks 27 = .ok (.iconst 3, 1) := by decide +kernel
theorem dX0_findLinks_28 : decode cX0_findLinks 28 = .ok (.if_icmp .ne 25, 3) := by decide +kernel
theorem dX0_findLinks_31 : decode cX0_findLinks 31 = .ok (.aload_n 1, 1) := by decide +kernel
theorem dX0_findLinks_32 : decode cX0_findLinks 32 = .ok (.iload_n 2, 1) := by decide +kernel
theorem dX0_findLinks_33 : decode cX0_findLinks 33 = .ok (.aload_n 0, 1) := by decide +kernel
theorem dX0_findLinks_34 : decode cX0_findLinks 34 = .ok (.getfield 25, 3) := by decide +kernel
theorem dX0_findLinks_37 : decode cX0_findLinks 37 = .ok (.iload_n 2, 1) := by decide +kernel
theorem dX0_findLinks_38 : decode cX0_findLinks 38 = .ok (.iaload, 1) := by decide +kernel
theorem dX0_findLinks_39 : decode cX0_findLinks 39 = .ok (.invokestatic 118, 3) := by decide +kernel
theorem dX0_findLinks_42 : decode cX0_findLinks 42 = .ok (.aload_n 1, 1) := by decide +kernel
theorem dX0_findLinks_43 : decode cX0_findLinks 43 = .ok (.iload_n 2, 1) := by decide +kernel
theorem dX0_findLinks_44 : decode cX0_findLinks 44 = .ok (.aload_n 0, 1) := by decide +kernel
theorem dX0_findLinks_45 : decode cX0_findLinks 45 = .ok (.getfield 28, 3) := by decide +kernel
theorem dX0_findLinks_48 : decode cX0_findLinks 48 = .ok (.iload_n 2, 1) := by decide +kernel
theorem dX0_findLinks_49 : decode cX0_findLinks 49 = .ok (.iaload, 1) := by decide +kernel
theorem dX0_findLinks_50 : decode cX0_findLinks 50 = .ok (.invokestatic 118, 3) := by decide +kernel
theorem dX0_findLinks_53 : decode cX0_findLinks 53 = .ok (.iconst 0, 1) := by decide +kernel
theorem dX0_findLinks_54 : decode cX0_findLinks 54 = .ok (.istore_n 3, 1) := by decide +kernel
theorem dX0_findLinks_55 : decode cX0_findLinks 55 = .ok (.iload_n 3, 1) := by decide +kernel
theorem dX0_findLinks_56 : decode cX0_findLinks 56 = .ok (.aload_n 0, 1) := by decide +kernel
theorem dX0_findLinks_57 : decode cX0_findLinks 57 = .ok (.getfield 40, 3) := by decide +kernel
theorem dX0_findLinks_60 : decode cX0_findLinks 60 = .ok (.iload_n 2, 1) := by decide +kernel
theorem dX0_findLinks_61 : decode cX0_findLinks 61 = .ok (.iaload, 1) := by decide +kernel
theorem dX0_findLinks_62 : decode cX0_findLinks 62 = .ok (.if_icmp .ge 31, 3) := by decide +kernel
theorem dX0_findLinks_65 : decode cX0_findLinks 65 = .ok (.iload_n 3, 1) := by decide +kernel
theorem dX0_findLinks_66 : decode cX0_findLinks 66 = .ok (.bipush 6, 2) := by decide +kernel
theorem dX0_findLinks_68 : decode cX0_findLinks 68 = .ok (.if_icmp .ge 25, 3) := by decide +kernel
theorem dX0_findLinks_71 : decode cX0_findLinks 71 = .ok (.aload_n 1, 1) := by decide +kernel
theorem dX0_findLinks_72 : decode cX0_findLinks 72 = .ok (.iload_n 2, 1) := by decide +kernel
theorem dX0_findLinks_73 : decode cX0_findLinks 73 = .ok (.aload_n 0, 1) := by decide +kernel
theorem dX0_findLinks_74 : decode cX0_findLinks 74 = .ok (.getfield 43, 3) := by decide +kernel
theorem dX0_findLinks_77 : decode cX0_findLinks 77 = .ok (.iload_n 2, 1) := by decide +kernel
theorem dX0_findLinks_78 : decode cX0_findLinks 78 = .ok (.bipush 6, 2) := by decide +kernel
theorem dX0_findLinks_80 : decode cX0_findLinks 80 = .ok (.imul, 1) := by decide +kernel
theorem dX0_findLinks_81 : decode cX0_findLinks 81 = .ok (.iload_n 3, 1) := by decide +kernel
theorem dX0_findLinks_82 : decode cX0_findLinks 82 = .ok (.iadd, 1) := by decide +kernel
theorem dX0_findLinks_83 : decode cX0_findLinks 83 = .ok (.iaload, 1) := by decide +kernel
theorem dX0_findLinks_84 : decode cX0_findLinks 84 = .ok (.invokestatic 118, 3) := by decide +kernel
theorem dX0_findLinks_87 : decode cX0_findLinks 87 = .ok (.iinc 3 1, 3) := by decide +kernel
theorem dX0_findLinks_90 : decode cX0_findLinks 90 = .ok (.goto (-35), 3) := by decide +kernel
theorem dX0_findLinks_93 : decode cX0_findLinks 93 = .ok (.iinc 2 1, 3) := by decide +kernel
theorem dX0_findLinks_96 : decode cX0_findLinks 96 = .ok (.goto (-89), 3) := by decide +kernel
theorem dX0_findLinks_99 : decode cX0_findLinks 99 = .ok (.return_, 1) := by decide +kernel
theorem dX0_addPair_0 : decode cX0_addPair 0 = .ok (.iload_n 1, 1) := by decide +kernel
theorem dX0_addPair_1 : decode cX0_addPair 1 = .ok (.iload_n 2, 1) := by decide +kernel
theorem dX0_addPair_2 : decode cX0_addPair 2 = .ok (.invokestatic 84, 3) := by decide +kernel
theorem dX0_addPair_5 : decode cX0_addPair 5 = .ok (.istore_n 3, 1) := by decide +kernel
theorem dX0_addPair_6 : decode cX0_addPair 6 = .ok (.iload_n 1, 1) := by decide +kernel
theorem dX0_addPair_7 : decode cX0_addPair 7 = .ok (.iload_n 2, 1) := by decide +kernel
theorem dX0_addPair_8 : decode cX0_addPair 8 = .ok (.invokestatic 122, 3) := by decide +kernel
theorem dX0_addPair_11 : decode cX0_addPair 11 = .ok (.istore 4, 2) := by decide +kernel
theorem dX0_addPair_13 : decode cX0_addPair 13 = .ok (.iload_n 3, 1) := by decide +kernel
theorem dX0_addPair_14 : decode cX0_addPair 14 = .ok (.ifCond .lt 25, 3) := by decide +kernel
theorem dX0_addPair_17 : decode cX0_addPair 17 = .ok (.iload_n 3, 1) := by decide +kernel
theorem dX0_addPair_18 : decode cX0_addPair 18 = .ok (.iload 4, 2) := by decide +kernel
theorem dX0_addPair_20 : decode cX0_addPair 20 = .ok (.if_icmp .ge 19, 3) := by decide +kernel
theorem dX0_addPair_23 : decode cX0_addPair 23 = .ok (.iload_n 3, 1) := by decide +kernel
theorem dX0_addPair_24 : decode cX0_addPair 24 = .ok (.aload_n 0, 1) := by decide +kernel
theorem dX0_addPair_25 : decode cX0_addPair 25 = .ok (.arraylength, 1) := by decide +kernel
theorem dX0_addPair_26 : decode cX0_addPair 26 = .ok (.if_icmp .ge 13, 3) := by decide +kernel
theorem dX0_addPair_29 : decode cX0_addPair 29 = .ok (.aload_n 0, 1) := by decide +kernel
theorem dX0_addPair_30 : decode cX0_addPair 30 = .ok (.iload_n 3, 1) := by decide +kernel
theorem dX0_addPair_31 : decode cX0_addPair 31 = .ok (.dup2, 1) := by decide +kernel
theorem dX0_addPair_32 : decode cX0_addPair 32 = .ok (.iaload, 1) := by decide +kernel
theorem dX0_addPair_33 : decode cX0_addPair 33 = .ok (.iconst 1, 1) := by decide +kernel
theorem dX0_addPair_34 : decode cX0_addPair 34 = .ok (.iload 4, 2) := by decide +kernel
theorem dX0_addPair_36 : decode cX0_addPair 36 = .ok (.ishl, 1) := by decide +kernel
theorem dX0_addPair_37 : decode cX0_addPair 37 = .ok (.ior, 1) := by decide +kernel
theorem dX0_addPair_38 : decode cX0_addPair 38 = .ok (.iastore, 1) := by decide +kernel
theorem dX0_addPair_39 : decode cX0_addPair 39 = .ok (.return_, 1) := by decide +kernel
theorem dX1_init_0 : decode cX1_init 0 = .ok (.aload_n 0, 1) := by decide +kernel
theorem dX1_init_1 : decode cX1_init 1 = .ok (.invokespecial 3, 3) := by decide +kernel
theorem dX1_init_4 : decode cX1_init 4 = .ok (.aload_n 0, 1) := by decide +kernel
theorem dX1_init_5 : decode cX1_init 5 = .ok (.new 9, 3) := by decide +kernel
theorem dX1_init_8 : decode cX1_init 8 = .ok (.dup, 1) := by decide +kernel
theorem dX1_init_9 : decode cX1_init 9 = .ok (.invokespecial 11, 3) := by decide +kernel
theorem dX1_init_12 : decode cX1_init 12 = .ok (.putfield 12, 3) := by decide +kernel
theorem dX1_init_15 : decode cX1_init 15 = .ok (.aload_n 0, 1) := by decide +kernel
theorem dX1_init_16 : decode cX1_init 16 = .ok (.iconst 0, 1) := by decide +kernel
theorem dX1_init_17 : decode cX1_init 17 = .ok (.putfield 18, 3) := by decide +kernel
theorem dX1_init_20 : decode cX1_init 20 = .ok (.aload_n 0, 1) := by decide +kernel
theorem dX1_init_21 : decode cX1_init 21 = .ok (.iconst (-1), 1) := by decide +kernel
theorem dX1_init_22 : decode cX1_init 22 = .ok (.putfield 22, 3) := by decide +kernel
theorem dX1_init_25 : decode cX1_init 25 = .ok (.aload_n 0, 1) := by decide +kernel
theorem dX1_init_26 : decode cX1_init 26 = .ok (.sipush 600, 3) := by decide +kernel
theorem dX1_init_29 : decode cX1_init 29 = .ok (.newarray .byte, 2) := by decide +kernel
theorem dX1_init_31 : decode cX1_init 31 = .ok (.putfield 25, 3) := by decide +kernel
theorem dX1_init_34 : decode cX1_init 34 = .ok (.aload_n 0, 1) := by decide +kernel
theorem dX1_init_35 : decode cX1_init 35 = .ok (.iconst 0, 1) := by decide +kernel
theorem dX1_init_36 : decode cX1_init 36 = .ok (.putfield 29, 3) := by decide +kernel
theorem dX1_init_39 : decode cX1_init 39 = .ok (.aload_n 0, 1) := by decide +kernel
theorem dX1_init_40 : decode cX1_init 40 = .ok (.iconst 0, 1) := by decide +kernel
theorem dX1_init_41 : decode cX1_init 41 = .ok (.putfield 32, 3) := by decide +kernel
theorem dX1_init_44 : decode cX1_init 44 = .ok (.aload_n 0, 1) := by decide +kernel
theorem dX1_init_45 : decode cX1_init 45 = .ok (.iconst 0, 1) := by decide +kernel
theorem dX1_init_46 : decode cX1_init 46 = .ok (.putfield 35, 3) := by decide +kernel
theorem dX1_init_49 : decode cX1_init 49 = .ok (.aload_n 0, 1) := by decide +kernel
theorem dX1_init_50 : decode cX1_init 50 = .ok (.sipush 144, 3) := by decide +kernel
theorem dX1_init_53 : decode cX1_init 53 = .ok (.newarray .int, 2) := by decide +kernel
theorem dX1_init_55 : decode cX1_init 55 = .ok (.putfield 39, 3) := by decide +kernel
theorem dX1_init_58 : decode cX1_init 58 = .ok (.aload_n 0, 1) := by decide +kernel
theorem dX1_init_59 : decode cX1_init 59 = .ok (.sipush 144, 3) := by decide +kernel
theorem dX1_init_62 : decode cX1_init 62 = .ok (.newarray .int, 2) := by decide +kernel
theorem dX1_init_64 : decode cX1_init 64 = .ok (.putfield 43, 3) := by decide +kernel
theorem dX1_init_67 : decode cX1_init 67 = .ok (.aload_n 0, 1) := by decide +kernel
theorem dX1_init_68 : decode cX1_init 68 = .ok (.iconst 0, 1) := by decide +kernel
theorem dX1_init_69 : decode cX1_init 69 = .ok (.putfield 46, 3) := by decide +kernel
theorem dX1_init_72 : decode cX1_init 72 = .ok (.return_, 1) := by decide +kernel
theorem dX1_append_0 : decode cX1_append 0 = .ok (.aload_n 0, 1) := by decide +kernel
theorem dX1_append_1 : decode cX1_append 1 = .ok (.getfield 18, 3) := by decide +kernel
theorem dX1_append_4 : decode cX1_append 4 = .ok (.sipush 600, 3) := by decide +kernel
theorem dX1_append_7 : decode cX1_append 7 = .ok (.if_icmp .ge 23, 3) := by decide +kernel
theorem dX1_append_10 : decode cX1_append 10 = .ok (.aload_n 0, 1) := by decide +kernel
theorem dX1_append_11 : decode cX1_append 11 = .ok (.getfield 25, 3) := by decide +kernel
theorem dX1_append_14 : decode cX1_append 14 = .ok (.aload_n 0, 1) := by decide +kernel
theorem dX1_append_15 : decode cX1_append 15 = .ok (.getfield 18, 3) := by decide +kernel
theorem dX1_append_18 : decode cX1_append 18 = .ok (.iload_n 1, 1) := by decide +kernel
theorem dX1_append_19 : decode cX1_append 19 = .ok (.bastore, 1) := by decide +kernel
theorem dX1_append_20 : decode cX1_append 20 = .ok (.aload_n 0, 1) := by decide +kernel
theorem dX1_append_21 : decode cX1_append 21 = .ok (.dup, 1) := by decide +kernel
theorem dX1_append_22 : decode cX1_append 22 = .ok (.getfield 18, 3) := by decide +kernel
theorem dX1_append_25 : decode cX1_append 25 = .ok (.iconst 1, 1) := by decide +kernel
theorem dX1_append_26 : decode cX1_append 26 = .ok (.iadd, 1) := by decide +kernel
theorem dX1_append_27 : decode cX1_append 27 = .ok (.putfield 18, 3) := by decide +kernel
theorem dX1_append_30 : decode cX1_append 30 = .ok (.return_, 1) := by decide +kernel
theorem dX1_parse_0 : decode cX1_parse 0 = .ok (.aload_n 0, 1) := by decide +kernel
theorem dX1_parse_1 : decode cX1_parse 1 = .ok (.iconst 0, 1) := by decide +kernel
theorem dX1_parse_2 : decode cX1_parse 2 = .ok (.putfield 29, 3) := by decide +kernel
theorem dX1_parse_5 : decode cX1_parse 5 = .ok (.aload_n 0, 1) := by decide +kernel
theorem dX1_parse_6 : decode cX1_parse 6 = .ok (.iconst 0, 1) := by decide +kernel
theorem dX1_parse_7 : decode cX1_parse 7 = .ok (.putfield 32, 3) := by decide +kernel
theorem dX1_parse_10 : decode cX1_parse 10 = .ok (.aload_n 0, 1) := by decide +kernel
theorem dX1_parse_11 : decode cX1_parse 11 = .ok (.iconst (-1), 1) := by decide +kernel
theorem dX1_parse_12 : decode cX1_parse 12 = .ok (.putfield 22, 3) := by decide +kernel
theorem dX1_parse_15 : decode cX1_parse 15 = .ok (.aload_n 0, 1) := by decide +kernel
theorem dX1_parse_16 : decode cX1_parse 16 = .ok (.iconst 0, 1) := by decide +kernel
theorem dX1_parse_17 : decode cX1_parse 17 = .ok (.putfield 35, 3) := by decide +kernel
theorem dX1_parse_20 : decode cX1_parse 20 = .ok (.aload_n 0, 1) := by decide +kernel
theorem dX1_parse_21 : decode cX1_parse 21 = .ok (.iconst 0, 1) := by decide +kernel
theorem dX1_parse_22 : decode cX1_parse 22 = .ok (.putfield 46, 3) := by decide +kernel
theorem dX1_parse_25 : decode cX1_parse 25 = .ok (.aload_n 0, 1) := by decide +kernel
theorem dX1_parse_26 : decode cX1_parse 26 = .ok (.getfield 12, 3) := by decide +kernel
theorem dX1_parse_29 : decode cX1_parse 29 = .ok (.invokevirtual 49, 3) := by decide +kernel
theorem dX1_parse_32 : decode cX1_parse 32 = .ok (.aload_n 0, 1) := by decide +kernel
theorem dX1_parse_33 : decode cX1_parse 33 = .ok (.iconst 0, 1) := by decide +kernel
theorem dX1_parse_34 : decode cX1_parse 34 = .ok (.invokevirtual 52, 3) := by decide +kernel
theorem dX1_parse_37 : decode cX1_parse 37 = .ok (.iconst 0, 1) := by decide +kernel
theorem dX1_parse_38 : decode cX1_parse 38 = .ok (.istore_n 1, 1) := by decide +kernel
theorem dX1_parse_39 : decode cX1_parse 39 = .ok (.iload_n 1, 1) := by decide +kernel
theorem dX1_parse_40 : decode cX1_parse 40 = .ok (.sipush 600, 3) := by decide +kernel
theorem dX1_parse_43 : decode cX1_parse 43 = .ok (.if_icmp .ge 68, 3) := by decide +kernel
theorem dX1_parse_46 : decode cX1_parse 46 = .ok (.aload_n 0, 1) := by decide +kernel
theorem dX1_parse_47 : decode cX1_parse 47 = .ok (.getfield 29, 3) := by decide +kernel
theorem dX1_parse_50 : decode cX1_parse 50 = .ok (.aload_n 0, 1) := by decide +kernel
theorem dX1_parse_51 : decode cX1_parse 51 = .ok (.getfield 18, 3) := by decide +kernel
theorem dX1_parse_54 : decode cX1_parse 54 = .ok (.if_icmp .ge 57, 3) := by decide +kernel
theorem dX1_parse_57 : decode cX1_parse 57 = .ok (.aload_n 0, 1) := by decide +kernel
theorem dX1_parse_58 : decode cX1_parse 58 = .ok (.getfield 32, 3) := by decide +kernel
theorem dX1_parse_61 : decode cX1_parse 61 = .ok (.ifCond .ne 50, 3) := by decide +kernel
theorem dX1_parse_64 : decode cX1_parse 64 = .ok (.aload_n 0, 1) := by decide +kernel
theorem dX1_parse_65 : decode cX1_parse 65 = .ok (.ldc 56, 2) := by decide +kernel
theorem dX1_parse_67 : decode cX1_parse 67 = .ok (.invokevirtual 58, 3) := by decide +kernel
theorem dX1_parse_70 : decode cX1_parse 70 = .ok (.ifCond .eq 10, 3) := by decide +kernel
theorem dX1_parse_73 : decode cX1_parse 73 = .ok (.aload_n 0, 1) := by decide +kernel
theorem dX1_parse_74 : decode cX1_parse 74 = .ok (.invokevirtual 62, 3) := by decide +kernel
theorem dX1_parse_77 : decode cX1_parse 77 = .ok (.goto 28, 3) := by decide +kernel
theorem dX1_parse_80 : decode cX1_parse 80 = .ok (.aload_n 0, 1) := by decide +kernel
theorem dX1_parse_81 : decode cX1_parse 81 = .ok (.ldc 65, 2) := by decide +kernel
theorem dX1_parse_83 : decode cX1_parse 83 = .ok (.invokevirtual 58, 3) := by decide +kernel
theorem dX1_parse_86 : decode cX1_parse 86 = .ok (.ifCond .eq 10, 3) := by decide +kernel
theorem dX1_parse_89 : decode cX1_parse 89 = .ok (.aload_n 0, 1) := by decide +kernel
theorem dX1_parse_90 : decode cX1_parse 90 = .ok (.invokevirtual 67, 3) := by decide +kernel
theorem dX1_parse_93 : decode cX1_parse 93 = .ok (.goto 12, 3) := by decide +kernel
theorem dX1_parse_96 : decode cX1_parse 96 = .ok (.aload_n 0, 1) := by decide +kernel
theorem dX1_parse_97 : decode cX1_parse 97 = .ok (.iconst 1, 1) := by decide +kernel
theorem dX1_parse_98 : decode cX1_parse 98 = .ok (.aload_n 0, 1) := by decide +kernel
theorem dX1_parse_99 : decode cX1_parse 99 = .ok (.getfield 29, 3) := by decide +kernel
theorem dX1_parse_102 : decode cX1_parse 102 = .ok (.invokevirtual 70, 3) := by decide +kernel
theorem dX1_parse_105 : decode cX1_parse 105 = .ok (.iinc 1 1, 3) := by decide +kernel
theorem dX1_parse_108 : decode cX1_parse 108 = .ok (.goto (-69), 3) := by decide +kernel
theorem dX1_parse_111 : decode cX1_parse 111 = .ok (.aload_n 0, 1) := by decide +kernel
theorem dX1_parse_112 : decode cX1_parse 112 = .ok (.invokevirtual 74, 3) := by decide +kernel
theorem dX1_parse_115 : decode cX1_parse 115 = .ok (.aload_n 0, 1) := by decide +kernel
theorem dX1_parse_116 : decode cX1_parse 116 = .ok (.getfield 32, 3) := by decide +kernel
theorem dX1_parse_119 : decode cX1_parse 119 = .ok (.ireturn, 1) := by decide +kernel
theorem dX1_readHealth_0 : decode cX1_readHealth 0 = .ok (.aload_n 0, 1) := by decide +kernel
theorem dX1_readHealth_1 : decode cX1_readHealth 1 = .ok (.getfield 35, 3) := by decide +kernel
theorem dX1_readHealth_4 : decode cX1_readHealth 4 = .ok (.ifCond .eq 13, 3) := by decide +kernel
theorem dX1_readHealth_7 : decode cX1_readHealth 7 = .ok (.aload_n 0, 1) := by decide +kernel
theorem dX1_readHealth_8 : decode cX1_readHealth 8 = .ok (.iconst 3, 1) := by decide +kernel
theorem dX1_readHealth_9 : decode cX1_readHealth 9 = .ok (.aload_n 0, 1) := by decide +kernel
theorem dX1_readHealth_10 : decode cX1_readHealth 10 = .ok (.getfield 29, 3) := by decide +kernel
theorem dX1_readHealth_13 : decode cX1_readHealth 13 = .ok (.invokevirtual 70, 3) := by decide +kernel
theorem dX1_readHealth_16 : decode cX1_readHealth 16 = .ok (.return_, 1) := by decide +kernel
theorem dX1_readHealth_17 : decode cX1_readHealth 17 = .ok (.aload_n 0, 1) := by decide +kernel
theorem dX1_readHealth_18 : decode cX1_readHealth 18 = .ok (.iconst 1, 1) := by decide +kernel
theorem dX1_readHealth_19 : decode cX1_readHealth 19 = .ok (.putfield 35, 3) := by decide +kernel
theorem dX1_readHealth_22 : decode cX1_readHealth 22 = .ok (.aload_n 0, 1) := by decide +kernel
theorem dX1_readHealth_23 : decode cX1_readHealth 23 = .ok (.ldc 56, 2) := by decide +kernel
theorem dX1_readHealth_25 : decode cX1_readHealth 25 = .ok (.invokevirtual 77, 3) := by decide +kernel
theorem dX1_readHealth_28 : decode cX1_readHealth 28 = .ok (.invokevirtual 52, 3) := by decide +kernel
theorem dX1_readHealth_31 : decode cX1_readHealth 31 = .ok (.aload_n 0, 1) := by decide +kernel
theorem dX1_readHealth_32 : decode cX1_readHealth 32 = .ok (.getfield 12, 3) := by decide +kernel
theorem dX1_readHealth_35 : decode cX1_readHealth 35 = .ok (.aload_n 0, 1) := by decide +kernel
theorem dX1_readHealth_36 : decode cX1_readHealth 36 = .ok (.iconst 1, 1) := by decide +kernel
theorem dX1_readHealth_37 : decode cX1_readHealth 37 = .ok (.bipush 9, 2) := by decide +kernel
theorem dX1_readHealth_39 : decode cX1_readHealth 39 = .ok (.invokevirtual 83, 3) := by decide +kernel
theorem dX1_readHealth_42 : decode cX1_readHealth 42 = .ok (.putfield 87, 3) := by decide +kernel
theorem dX1_readHealth_45 : decode cX1_readHealth 45 = .ok (.aload_n 0, 1) := by decide +kernel
theorem dX1_readHealth_46 : decode cX1_readHealth 46 = .ok (.invokevirtual 89, 3) := by decide +kernel
theorem dX1_readHealth_49 : decode cX1_readHealth 49 = .ok (.return_, 1) := by decide +kernel
theorem dX1_readPart_0 : decode cX1_readPart 0 = .ok (.aload_n 0, 1) := by decide +kernel
theorem dX1_readPart_1 : decode cX1_readPart 1 = .ok (.getfield 12, 3) := by decide +kernel
theorem dX1_readPart_4 : decode cX1_readPart 4 = .ok (.invokevirtual 92, 3) := by decide +kernel
theorem dX1_readPart_7 : decode cX1_readPart 7 = .ok (.istore_n 1, 1) := by decide +kernel
theorem dX1_readPart_8 : decode cX1_readPart 8 = .ok (.iload_n 1, 1) := by decide +kernel
theorem dX1_readPart_9 : decode cX1_readPart 9 = .ok (.iconst (-1), 1) := by decide +kernel
theorem dX1_readPart_10 : decode cX1_readPart 10 = .ok (.if_icmp .ne 13, 3) := by decide +kernel
theorem dX1_readPart_13 : decode cX1_readPart 13 = .ok (.aload_n 0, 1) := by decide +kernel
theorem dX1_readPart_14 : decode cX1_readPart 14 = .ok (.iconst 3, 1) := by decide +kernel
theorem dX1_readPart_15 : decode cX1_readPart 15 = .ok (.aload_n 0, 1) := by decide +kernel
theorem dX1_readPart_16 : decode cX1_readPart 16 = .ok (.getfield 29, 3) := by decide +kernel
theorem dX1_readPart_19 : decode cX1_readPart 19 = .ok (.invokevirtual 70, 3) := by decide +kernel
theorem dX1_readPart_22 : decode cX1_readPart 22 = .ok (.return_, 1) := by decide +kernel
theorem dX1_readPart_23 : decode cX1_readPart 23 = .ok (.aload_n 0, 1) := by decide +kernel
theorem dX1_readPart_24 : decode cX1_readPart 24 = .ok (.ldc 65, 2) := by decide +kernel
theorem dX1_readPart_26 : decode cX1_readPart 26 = .ok (.invokevirtual 77, 3) := by decide +kernel
theorem dX1_readPart_29 : decode cX1_readPart 29 = .ok (.invokevirtual 52, 3) := by decide +kernel
theorem dX1_readPart_32 : decode cX1_readPart 32 = .ok (.aload_n 0, 1) := by decide +kernel
theorem dX1_readPart_33 : decode cX1_readPart 33 = .ok (.iload_n 1, 1) := by decide +kernel
theorem dX1_readPart_34 : decode cX1_readPart 34 = .ok (.invokevirtual 95, 3) := by decide +kernel
theorem dX1_readPart_37 : decode cX1_readPart 37 = .ok (.aload_n 0, 1) := by decide +kernel
theorem dX1_readPart_38 : decode cX1_readPart 38 = .ok (.iload_n 1, 1) := by decide +kernel
theorem dX1_readPart_39 : decode cX1_readPart 39 = .ok (.invokevirtual 98, 3) := by decide +kernel
theorem dX1_readPart_42 : decode cX1_readPart 42 = .ok (.aload_n 0, 1) := by decide +kernel
theorem dX1_readPart_43 : decode cX1_readPart 43 = .ok (.iload_n 1, 1) := by decide +kernel
theorem dX1_readPart_44 : decode cX1_readPart 44 = .ok (.invokevirtual 101, 3) := by decide +kernel
theorem dX1_readPart_47 : decode cX1_readPart 47 = .ok (.aload_n 0, 1) := by decide +kernel
theorem dX1_readPart_48 : decode cX1_readPart 48 = .ok (.invokevirtual 89, 3) := by decide +kernel
theorem dX1_readPart_51 : decode cX1_readPart 51 = .ok (.return_, 1) := by decide +kernel
theorem dX1_readEffects_0 : decode cX1_readEffects 0 = .ok (.iconst 0, 1) := by decide +kernel
theorem dX1_readEffects_1 : decode cX1_readEffects 1 = .ok (.istore_n 2, 1) := by decide +kernel
theorem dX1_readEffects_2 : decode cX1_readEffects 2 = .ok (.iload_n 2, 1) := by decide +kernel
theorem dX1_readEffects_3 : decode cX1_readEffects 3 = .ok (.iconst 4, 1) := by decide +kernel
theorem dX1_readEffects_4 : decode cX1_readEffects 4 = .ok (.if_icmp .gt 102, 3) := by decide +kernel
theorem dX1_readEffects_7 : decode cX1_readEffects 7 = .ok (.aload_n 0, 1) := by decide +kernel
theorem dX1_readEffects_8 : decode cX1_readEffects 8 = .ok (.getfield 32, 3) := by decide +kernel
theorem dX1_readEffects_11 : decode cX1_readEffects 11 = .ok (.ifCond .ne 95, 3) := by decide +kernel
theorem dX1_readEffects_14 : decode cX1_readEffects 14 = .ok (.aload_n 0, 1) := by decide +kernel
theorem dX1_readEffects_15 : decode cX1_readEffects 15 = .ok (.invokevirtual 104, 3) := by decide +kernel
theorem dX1_readEffects_18 : decode cX1_readEffects 18 = .ok (.istore_n 3, 1) := by decide +kernel
theorem dX1_readEffects_19 : decode cX1_readEffects 19 = .ok (.iload_n 3, 1) := by decide +kernel
theorem dX1_readEffects_20 : decode cX1_readEffects 20 = .ok (.iconst (-1), 1) := by decide +kernel
theorem dX1_readEffects_21 : decode cX1_readEffects 21 = .ok (.if_icmp .ne 4, 3) := by decide +kernel
theorem dX1_readEffects_24 : decode cX1_readEffects 24 = .ok (.return_, 1) := by decide +kernel
theorem dX1_readEffects_25 : decode cX1_readEffects 25 = .ok (.iload_n 2, 1) := by decide +kernel
theorem dX1_readEffects_26 : decode cX1_readEffects 26 = .ok (.iconst 4, 1) := by decide +kernel
theorem dX1_readEffects_27 : decode cX1_readEffects 27 = .ok (.if_icmp .ne 13, 3) := by decide +kernel
theorem dX1_readEffects_30 : decode cX1_readEffects 30 = .ok (.aload_n 0, 1) := by decide +kernel
theorem dX1_readEffects_31 : decode cX1_readEffects 31 = .ok (.iconst 3, 1) := by decide +kernel
theorem dX1_readEffects_32 : decode cX1_readEffects 32 = .ok (.aload_n 0, 1) := by decide +kernel
theorem dX1_readEffects_33 : decode cX1_readEffects 33 = .ok (.getfield 29, 3) := by decide +kernel
theorem dX1_readEffects_36 : decode cX1_readEffects 36 = .ok (.invokevirtual 70, 3) := by decide +kernel
theorem dX1_readEffects_39 : decode cX1_readEffects 39 = .ok (.return_, 1) := by decide +kernel
theorem dX1_readEffects_40 : decode cX1_readEffects 40 = .ok (.aload_n 0, 1) := by decide +kernel
theorem dX1_readEffects_41 : decode cX1_readEffects 41 = .ok (.ldc 107, 2) := by decide +kernel
theorem dX1_readEffects_43 : decode cX1_readEffects 43 = .ok (.invokevirtual 77, 3) := by decide +kernel
theorem dX1_readEffects_46 : decode cX1_readEffects 46 = .ok (.invokevirtual 52, 3) := by decide +kernel
theorem dX1_readEffects_49 : decode cX1_readEffects 49 = .ok (.iload_n 3, 1) := by decide +kernel
theorem dX1_readEffects_50 : decode cX1_readEffects 50 = .ok (.ifCond .eq 8, 3) := by decide +kernel
theorem dX1_readEffects_53 : decode cX1_readEffects 53 = .ok (.iload_n 3, 1) := by decide +kernel
theorem dX1_readEffects_54 : decode cX1_readEffects 54 = .ok (.iconst 1, 1) := by decide +kernel
theorem dX1_readEffects_55 : decode cX1_readEffects 55 = .ok (.if_icmp .ne 7, 3) := by decide +kernel
theorem dX1_readEffects_58 : decode cX1_readEffects 58 = .ok (.iconst 1, 1) := by decide +kernel
theorem dX1_readEffects_59 : decode cX1_readEffects 59 = .ok (.goto 4, 3) := by decide +kernel
theorem dX1_readEffects_62 : decode cX1_readEffects 62 = .ok (.iconst 0, 1) := by decide +kernel
theorem dX1_readEffects_63 : decode cX1_readEffects 63 = .ok (.istore 4, 2) := by decide +kernel
theorem dX1_readEffects_65 : decode cX1_readEffects 65 = .ok (.iload 4, 2) := by decide +kernel
theorem dX1_readEffects_67 : decode cX1_readEffects 67 = .ok (.ifCond .eq 13, 3) := by decide +kernel
theorem dX1_readEffects_70 : decode cX1_readEffects 70 = .ok (.aload_n 0, 1) := by decide +kernel
theorem dX1_readEffects_71 : decode cX1_readEffects 71 = .ok (.iconst 0, 1) := by decide +kernel
theorem dX1_readEffects_72 : decode cX1_readEffects 72 = .ok (.bipush 7, 2) := by decide +kernel
theorem dX1_readEffects_74 : decode cX1_readEffects 74 = .ok (.invokevirtual 83, 3) := by decide +kernel
theorem dX1_readEffects_77 : decode cX1_readEffects 77 = .ok (.goto 10, 3) := by decide +kernel
theorem dX1_readEffects_80 : decode cX1_readEffects 80 = .ok (.aload_n 0, 1) := by decide +kernel
theorem dX1_readEffects_81 : decode cX1_readEffects 81 = .ok (.iconst 1, 1) := by decide +kernel
theorem dX1_readEffects_82 : decode cX1_readEffects 82 = .ok (.bipush 9, 2) := by decide +kernel
theorem dX1_readEffects_84 : decode cX1_readEffects 84 = .ok (.invokevirtual 83, 3) := by decide +kernel
theorem dX1_readEffects_87 : decode cX1_readEffects 87 = .ok (.istore 5, 2) := by decide +kernel
theorem dX1_readEffects_89 : decode cX1_readEffects 89 = .ok (.aload_n 0, 1) := by decide +kernel
theorem dX1_readEffects_90 : decode cX1_readEffects 90 = .ok (.getfield 12, 3) := by decide +kernel
theorem dX1_readEffects_93 : decode cX1_readEffects 93 = .ok (.iload_n 1, 1) := by decide +kernel
theorem dX1_readEffects_94 : decode cX1_readEffects 94 = .ok (.iload_n 3, 1) := by decide +kernel
theorem dX1_readEffects_95 : decode cX1_readEffects 95 = .ok (.iload 5, 2) := by decide +kernel
theorem dX1_readEffects_97 : decode cX1_readEffects 97 = .ok (.invokevirtual 109, 3) := by decide +kernel
theorem dX1_readEffects_100 : decode cX1_readEffects 100 = .ok (.iinc 2 1, 3) := by decide +kernel
theorem dX1_readEffects_103 : decode cX1_readEffects 103 = .ok (.goto (-101), 3) := by decide +kernel
theorem dX1_readEffects_106 : decode cX1_readEffects 106 = .ok (.return_, 1) := by decide +kernel
theorem dX1_effectHere_0 : decode cX1_effectHere 0 = .ok (.aload_n 0, 1) := by decide +kernel
theorem dX1_effectHere_1 : decode cX1_effectHere 1 = .ok (.ldc 107, 2) := by decide +kernel
theorem dX1_effectHere_3 : decode cX1_effectHere 3 = .ok (.invokevirtual 58, 3) := by decide +kernel
theorem dX1_effectHere_6 : decode cX1_effectHere 6 = .ok (.ifCond .eq 5, 3) := by decide +kernel
theorem dX1_effectHere_9 : decode cX1_effectHere 9 = .ok (.iconst 0, 1) := by decide +kernel
theorem dX1_effectHere_10 : decode cX1_effectHere 10 = .ok (.ireturn, 1) := by decide +kernel
theorem dX1_effectHere_11 : decode cX1_effectHere 11 = .ok (.aload_n 0, 1) := by decide +kernel
theorem dX1_effectHere_12 : decode cX1_effectHere 12 = .ok (.ldc 113, 2) := by decide +kernel
theorem dX1_effectHere_14 : decode cX1_effectHere 14 = .ok (.invokevirtual 58, 3) := by decide +kernel
theorem dX1_effectHere_17 : decode cX1_effectHere 17 = .ok (.ifCond .eq 5, 3) := by decide +kernel
theorem dX1_effectHere_20 : decode cX1_effectHere 20 = .ok (.iconst 1, 1) := by decide +kernel
theorem dX1_effectHere_21 : decode cX1_effectHere 21 = .ok (.ireturn, 1) := by decide +kernel
theorem dX1_effectHere_22 : decode cX1_effectHere 22 = .ok (.aload_n 0, 1) := by decide +kernel
theorem dX1_effectHere_23 : decode cX1_effectHere 23 = .ok (.ldc 115, 2) := by decide +kernel
theorem dX1_effectHere_25 : decode cX1_effectHere 25 = .ok (.invokevirtual 58, 3) := by decide +kernel
theorem dX1_effectHere_28 : decode cX1_effectHere 28 = .ok (.ifCond .eq 5, 3) := by decide +kernel
theorem dX1_effectHere_31 : decode cX1_effectHere 31 = .ok (.iconst 2, 1) := by decide +kernel
theorem dX1_effectHere_32 : decode cX1_effectHere 32 = .ok (.ireturn, 1) := by decide +kernel
theorem dX1_effectHere_33 : decode cX1_effectHere 33 = .ok (.aload_n 0, 1) := by decide +kernel
theorem dX1_effectHere_34 : decode cX1_effectHere 34 = .ok (.ldc 117, 2) := by decide +kernel
theorem dX1_effectHere_36 : decode cX1_effectHere 36 = .ok (.invokevirtual 58, 3) := by decide +kernel
theorem dX1_effectHere_39 : decode cX1_effectHere 39 = .ok (.ifCond .eq 7, 3) := by decide +kernel
theorem dX1_effectHere_42 : decode cX1_effectHere 42 = .ok (.iconst 3, 1) := by decide +kernel
theorem dX1_effectHere_43 : decode cX1_effectHere 43 = .ok (.goto 4, 3) := by decide +kernel
theorem dX1_effectHere_46 : decode cX1_effectHere 46 = .ok (.iconst (-1), 1) := by decide +kernel
theorem dX1_effectHere_47 : decode cX1_effectHere 47 = .ok (.ireturn, 1) := by decide +kernel
theorem dX1_readEnd_0 : decode cX1_readEnd 0 = .ok (.aload_n 0, 1) := by decide +kernel
theorem dX1_readEnd_1 : decode cX1_readEnd 1 = .ok (.getfield 32, 3) := by decide +kernel
theorem dX1_readEnd_4 : decode cX1_readEnd 4 = .ok (.ifCond .eq 4, 3) := by decide +kernel
theorem dX1_readEnd_7 : decode cX1_readEnd 7 = .ok (.return_, 1) := by decide +kernel
theorem dX1_readEnd_8 : decode cX1_readEnd 8 = .ok (.aload_n 0, 1) := by decide +kernel
theorem dX1_readEnd_9 : decode cX1_readEnd 9 = .ok (.ldc 119, 2) := by decide +kernel
theorem dX1_readEnd_11 : decode cX1_readEnd 11 = .ok (.invokevirtual 58, 3) := by decide +kernel
theorem dX1_readEnd_14 : decode cX1_readEnd 14 = .ok (.ifCond .eq 25, 3) := by decide +kernel
theorem dX1_readEnd_17 : decode cX1_readEnd 17 = .ok (.aload_n 0, 1) := by decide +kernel
theorem dX1_readEnd_18 : decode cX1_readEnd 18 = .ok (.ldc 119, 2) := by decide +kernel
theorem dX1_readEnd_20 : decode cX1_readEnd 20 = .ok (.invokevirtual 77, 3) := by decide +kernel
theorem dX1_readEnd_23 : decode cX1_readEnd 23 = .ok (.invokevirtual 52, 3) := by decide +kernel
theorem dX1_readEnd_26 : decode cX1_readEnd 26 = .ok (.aload_n 0, 1) := by decide +kernel
theorem dX1_readEnd_27 : decode cX1_readEnd 27 = .ok (.getfield 12, 3) := by decide +kernel
theorem dX1_readEnd_30 : decode cX1_readEnd 30 = .ok (.getfield 121, 3) := by decide +kernel
theorem dX1_readEnd_33 : decode cX1_readEnd 33 = .ok (.iload_n 1, 1) := by decide +kernel
theorem dX1_readEnd_34 : decode cX1_readEnd 34 = .ok (.iconst 1, 1) := by decide +kernel
theorem dX1_readEnd_35 : decode cX1_readEnd 35 = .ok (.iastore, 1) := by decide +kernel
theorem dX1_readEnd_36 : decode cX1_readEnd 36 = .ok (.goto 83, 3) := by decide +kernel
theorem dX1_readEnd_39 : decode cX1_readEnd 39 = .ok (.aload_n 0, 1) := by decide +kernel
theorem dX1_readEnd_40 : decode cX1_readEnd 40 = .ok (.ldc 124, 2) := by decide +kernel
theorem dX1_readEnd_42 : decode cX1_readEnd 42 = .ok (.invokevirtual 58, 3) := by decide +kernel
theorem dX1_readEnd_45 : decode cX1_readEnd 45 = .ok (.ifCond .eq 25, 3) := by decide +kernel
theorem dX1_readEnd_48 : decode cX1_readEnd 48 = .ok (.aload_n 0, 1) := by decide +kernel
theorem dX1_readEnd_49 : decode cX1_readEnd 49 = .ok (.ldc 124, 2) := by decide +kernel
theorem dX1_readEnd_51 : decode cX1_readEnd 51 = .ok (.invokevirtual 77, 3) := by decide +kernel
theorem dX1_readEnd_54 : decode cX1_readEnd 54 = .ok (.invokevirtual 52, 3) := by decide +kernel
theorem dX1_readEnd_57 : decode cX1_readEnd 57 = .ok (.aload_n 0, 1) := by decide +kernel
theorem dX1_readEnd_58 : decode cX1_readEnd 58 = .ok (.getfield 12, 3) := by decide +kernel
theorem dX1_readEnd_61 : decode cX1_readEnd 61 = .ok (.getfield 121, 3) := by decide +kernel
theorem dX1_readEnd_64 : decode cX1_readEnd 64 = .ok (.iload_n 1, 1) := by decide +kernel
theorem dX1_readEnd_65 : decode cX1_readEnd 65 = .ok (.iconst 2, 1) := by decide +kernel
theorem dX1_readEnd_66 : decode cX1_readEnd 66 = .ok (.iastore, 1) := by decide +kernel
theorem dX1_readEnd_67 : decode cX1_readEnd 67 = .ok (.goto 52, 3) := by decide +kernel
theorem dX1_readEnd_70 : decode cX1_readEnd 70 = .ok (.aload_n 0, 1) := by decide +kernel
theorem dX1_readEnd_71 : decode cX1_readEnd 71 = .ok (.ldc 126, 2) := by decide +kernel
theorem dX1_readEnd_73 : decode cX1_readEnd 73 = .ok (.invokevirtual 58, 3) := by decide +kernel
theorem dX1_readEnd_76 : decode cX1_readEnd 76 = .ok (.ifCond .eq 43, 3) := by decide +kernel
theorem dX1_readEnd_79 : decode cX1_readEnd 79 = .ok (.aload_n 0, 1) := by decide +kernel
theorem dX1_readEnd_80 : decode cX1_readEnd 80 = .ok (.ldc 126, 2) := by decide +kernel
theorem dX1_readEnd_82 : decode cX1_readEnd 82 = .ok (.invokevirtual 77, 3) := by decide +kernel
theorem dX1_readEnd_85 : decode cX1_readEnd 85 = .ok (.invokevirtual 52, 3) := by decide +kernel
theorem dX1_readEnd_88 : decode cX1_readEnd 88 = .ok (.aload_n 0, 1) := by decide +kernel
theorem dX1_readEnd_89 : decode cX1_readEnd 89 = .ok (.iconst 2, 1) := by decide +kernel
theorem dX1_readEnd_90 : decode cX1_readEnd 90 = .ok (.bipush 6, 2) := by decide +kernel
theorem dX1_readEnd_92 : decode cX1_readEnd 92 = .ok (.invokevirtual 83, 3) := by decide +kernel
theorem dX1_readEnd_95 : decode cX1_readEnd 95 = .ok (.istore_n 2, 1) := by decide +kernel
theorem dX1_readEnd_96 : decode cX1_readEnd 96 = .ok (.aload_n 0, 1) := by decide +kernel
theorem dX1_readEnd_97 : decode cX1_readEnd 97 = .ok (.invokevirtual 128, 3) := by decide +kernel
theorem dX1_readEnd_100 : decode cX1_readEnd 100 = .ok (.istore_n 3, 1) := by decide +kernel
theorem dX1_readEnd_101 : decode cX1_readEnd 101 = .ok (.aload_n 0, 1) := by decide +kernel
theorem dX1_readEnd_102 : decode cX1_readEnd 102 = .ok (.invokevirtual 128, 3) := by decide +kernel
theorem dX1_readEnd_105 : decode cX1_readEnd 105 = .ok (.istore 4, 2) := by decide +kernel
theorem dX1_readEnd_107 : decode cX1_readEnd 107 = .ok (.aload_n 0, 1) := by decide +kernel
theorem dX1_readEnd_108 : decode cX1_readEnd 108 = .ok (.getfield 12, 3) := by decide +kernel
theorem dX1_readEnd_111 : decode cX1_readEnd 111 = .ok (.iload_n 1, 1) := by decide +kernel
theorem dX1_readEnd_112 : decode cX1_readEnd 112 = .ok (.iload_n 2, 1) := by decide +kernel
theorem dX1_readEnd_113 : decode cX1_readEnd 113 = .ok (.iload_n 3, 1) := by decide +kernel
theorem dX1_readEnd_114 : decode cX1_readEnd 114 = .ok (.iload 4, 2) := by decide +kernel
theorem dX1_readEnd_116 : decode cX1_readEnd 116 = .ok (.invokevirtual 131, 3) := by decide +kernel
theorem dX1_readEnd_119 : decode cX1_readEnd 119 = .ok (.return_, 1) := by decide +kernel
theorem dX1_readChoices_0 : decode cX1_readChoices 0 = .ok (.iconst 0, 1) := by decide +kernel
theorem dX1_readChoices_1 : decode cX1_readChoices 1 = .ok (.istore_n 2, 1) := by decide +kernel
theorem dX1_readChoices_2 : decode cX1_readChoices 2 = .ok (.iload_n 2, 1) := by decide +kernel
theorem dX1_readChoices_3 : decode cX1_readChoices 3 = .ok (.bipush 6, 2) := by decide +kernel
theorem dX1_readChoices_5 : decode cX1_readChoices 5 = .ok (.if_icmp .gt 97, 3) := by decide +kernel
theorem dX1_readChoices_8 : decode cX1_readChoices 8 = .ok (.aload_n 0, 1) := by decide +kernel
theorem dX1_readChoices_9 : decode cX1_readChoices 9 = .ok (.getfield 32, 3) := by decide +kernel
theorem dX1_readChoices_12 : decode cX1_readChoices 12 = .ok (.ifCond .ne 90, 3) := by decide +kernel
theorem dX1_readChoices_15 : decode cX1_readChoices 15 = .ok (.aload_n 0, 1) := by decide +kernel
theorem dX1_readChoices_16 : decode cX1_readChoices 16 = .ok (.getfield 12, 3) := by decide +kernel
theorem dX1_readChoices_19 : decode cX1_readChoices 19 = .ok (.getfield 121, 3) := by decide +kernel
theorem dX1_readChoices_22 : decode cX1_readChoices 22 = .ok (.iload_n 1, 1) := by decide +kernel
theorem dX1_readChoices_23 : decode cX1_readChoices 23 = .ok (.iaload, 1) := by decide +kernel
theorem dX1_readChoices_24 : decode cX1_readChoices 24 = .ok (.ifCond .ne 12, 3) := by decide +kernel
theorem dX1_readChoices_27 : decode cX1_readChoices 27 = .ok (.aload_n 0, 1) := by decide +kernel
theorem dX1_readChoices_28 : decode cX1_readChoices 28 = .ok (.ldc 135, 2) := by decide +kernel
theorem dX1_readChoices_30 : decode cX1_readChoices 30 = .ok (.invokevirtual 58, 3) := by decide +kernel
theorem dX1_readChoices_33 : decode cX1_readChoices 33 = .ok (.ifCond .ne 4, 3) := by decide +kernel
theorem dX1_readChoices_36 : decode cX1_readChoices 36 = .ok (.return_, 1) := by decide +kernel
theorem dX1_readChoices_37 : decode cX1_readChoices 37 = .ok (.iload_n 2, 1) := by decide +kernel
theorem dX1_readChoices_38 : decode cX1_readChoices 38 = .ok (.bipush 6, 2) := by decide +kernel
theorem dX1_readChoices_40 : decode cX1_readChoices 40 = .ok (.if_icmp .ne 13, 3) := by decide +kernel
theorem dX1_readChoices_43 : decode cX1_readChoices 43 = .ok (.aload_n 0, 1) := by decide +kernel
theorem dX1_readChoices_44 : decode cX1_readChoices 44 = .ok (.iconst 3, 1) := by decide +kernel
theorem dX1_readChoices_45 : decode cX1_readChoices 45 = .ok (.aload_n 0, 1) := by decide +kernel
theorem dX1_readChoices_46 : decode cX1_readChoices 46 = .ok (.getfield 29, 3) := by decide +kernel
theorem dX1_readChoices_49 : decode cX1_readChoices 49 = .ok (.invokevirtual 70, 3) := by decide +kernel
theorem dX1_readChoices_52 : decode cX1_readChoices 52 = .ok (.return_, 1) := by decide +kernel
theorem dX1_readChoices_53 : decode cX1_readChoices 53 = .ok (.aload_n 0, 1) := by decide +kernel
theorem dX1_readChoices_54 : decode cX1_readChoices 54 = .ok (.ldc 135, 2) := by decide +kernel
theorem dX1_readChoices_56 : decode cX1_readChoices 56 = .ok (.invokevirtual 77, 3) := by decide +kernel
theorem dX1_readChoices_59 : decode cX1_readChoices 59 = .ok (.invokevirtual 52, 3) := by decide +kernel
theorem dX1_readChoices_62 : decode cX1_readChoices 62 = .ok (.aload_n 0, 1) := by decide +kernel
theorem dX1_readChoices_63 : decode cX1_readChoices 63 = .ok (.invokevirtual 128, 3) := by decide +kernel
theorem dX1_readChoices_66 : decode cX1_readChoices 66 = .ok (.istore_n 3, 1) := by decide +kernel
theorem dX1_readChoices_67 : decode cX1_readChoices 67 = .ok (.aload_n 0, 1) := by decide +kernel
theorem dX1_readChoices_68 : decode cX1_readChoices 68 = .ok (.ldc 137, 2) := by decide +kernel
theorem dX1_readChoices_70 : decode cX1_readChoices 70 = .ok (.invokevirtual 139, 3) := by decide +kernel
theorem dX1_readChoices_73 : decode cX1_readChoices 73 = .ok (.istore 4, 2) := by decide +kernel
theorem dX1_readChoices_75 : decode cX1_readChoices 75 = .ok (.aload_n 0, 1) := by decide +kernel
theorem dX1_readChoices_76 : decode cX1_readChoices 76 = .ok (.ldc 143, 2) := by decide +kernel
theorem dX1_readChoices_78 : decode cX1_readChoices 78 = .ok (.invokevirtual 139, 3) := by decide +kernel
theorem dX1_readChoices_81 : decode cX1_readChoices 81 = .ok (.istore 5, 2) := by decide +kernel
theorem dX1_readChoices_83 : decode cX1_readChoices 83 = .ok (.aload_n 0, 1) := by decide +kernel
theorem dX1_readChoices_84 : decode cX1_readChoices 84 = .ok (.getfield 12, 3) := by decide +kernel
theorem dX1_readChoices_87 : decode cX1_readChoices 87 = .ok (.iload_n 1, 1) := by decide +kernel
theorem dX1_readChoices_88 : decode cX1_readChoices 88 = .ok (.iload_n 3, 1) := by decide +kernel
theorem dX1_readChoices_89 : decode cX1_readChoices 89 = .ok (.iload 4, 2) := by decide +kernel
theorem dX1_readChoices_91 : decode cX1_readChoices 91 = .ok (.iload 5, 2) := by decide +kernel
theorem dX1_readChoices_93 : decode cX1_readChoices 93 = .ok (.invokevirtual 145, 3) := by decide +kernel
theorem dX1_readChoices_96 : decode cX1_readChoices 96 = .ok (.iinc 2 1, 3) := by decide +kernel
theorem dX1_readChoices_99 : decode cX1_readChoices 99 = .ok (.goto (-97), 3) := by decide +kernel
theorem dX1_readChoices_102 : decode cX1_readChoices 102 = .ok (.return_, 1) := by decide +kernel
theorem dX1_readThingBehind_0 : decode cX1_readThingBehind 0 = .ok (.aload_n 0, 1) := by decide +kernel
theorem dX1_readThingBehind_1 : decode cX1_readThingBehind 1 = .ok (.getfield 32, 3) := by decide +kernel
theorem dX1_readThingBehind_4 : decode cX1_readThingBehind 4 = .ok (.ifCond .ne 11, 3) := by decide +kernel
theorem dX1_readThingBehind_7 : decode cX1_readThingBehind 7 = .ok (.aload_n 0, 1) := by decide +kernel
theorem dX1_readThingBehind_8 : decode cX1_readThingBehind 8 = .ok (.aload_n 1, 1) := by decide +kernel
theorem dX1_readThingBehind_9 : decode cX1_readThingBehind 9 = .ok (.invokevirtual 58, 3) := by decide +kernel
theorem dX1_readThingBehind_12 : decode cX1_readThingBehind 12 = .ok (.ifCond .ne 5, 3) := by decide +kernel
theorem dX1_readThingBehind_15 : decode cX1_readThingBehind 15 = .ok (.iconst (-1), 1) := by decide +kernel
theorem dX1_readThingBehind_16 : decode cX1_readThingBehind 16 = .ok (.ireturn, 1) := by decide +kernel
theorem dX1_readThingBehind_17 : decode cX1_readThingBehind 17 = .ok (.aload_n 0, 1) := by decide +kernel
theorem dX1_readThingBehind_18 : decode cX1_readThingBehind 18 = .ok (.aload_n 1, 1) := by decide +kernel
theorem dX1_readThingBehind_19 : decode cX1_readThingBehind 19 = .ok (.invokevirtual 77, 3) := by decide +kernel
theorem dX1_readThingBehind_22 : decode cX1_readThingBehind 22 = .ok (.invokevirtual 52, 3) := by decide +kernel
theorem dX1_readThingBehind_25 : decode cX1_readThingBehind 25 = .ok (.aload_n 0, 1) := by decide +kernel
theorem dX1_readThingBehind_26 : decode cX1_readThingBehind 26 = .ok (.iconst 0, 1) := by decide +kernel
theorem dX1_readThingBehind_27 : decode cX1_readThingBehind 27 = .ok (.bipush 7, 2) := by decide +kernel
theorem dX1_readThingBehind_29 : decode cX1_readThingBehind 29 = .ok (.invokevirtual 83, 3) := by decide +kernel
theorem dX1_readThingBehind_32 : decode cX1_readThingBehind 32 = .ok (.ireturn, 1) := by decide +kernel
theorem dX1_readTarget_0 : decode cX1_readTarget 0 = .ok (.aload_n 0, 1) := by decide +kernel
theorem dX1_readTarget_1 : decode cX1_readTarget 1 = .ok (.getfield 29, 3) := by decide +kernel
theorem dX1_readTarget_4 : decode cX1_readTarget 4 = .ok (.istore_n 1, 1) := by decide +kernel
theorem dX1_readTarget_5 : decode cX1_readTarget 5 = .ok (.aload_n 0, 1) := by decide +kernel
theorem dX1_readTarget_6 : decode cX1_readTarget 6 = .ok (.iconst 0, 1) := by decide +kernel
theorem dX1_readTarget_7 : decode cX1_readTarget 7 = .ok (.bipush 23, 2) := by decide +kernel
theorem dX1_readTarget_9 : decode cX1_readTarget 9 = .ok (.invokevirtual 83, 3) := by decide +kernel
theorem dX1_readTarget_12 : decode cX1_readTarget 12 = .ok (.istore_n 2, 1) := by decide +kernel
theorem dX1_readTarget_13 : decode cX1_readTarget 13 = .ok (.aload_n 0, 1) := by decide +kernel
theorem dX1_readTarget_14 : decode cX1_readTarget 14 = .ok (.getfield 32, 3) := by decide +kernel
theorem dX1_readTarget_17 : decode cX1_readTarget 17 = .ok (.ifCond .ne 45, 3) := by decide +kernel
theorem dX1_readTarget_20 : decode cX1_readTarget 20 = .ok (.aload_n 0, 1) := by decide +kernel
theorem dX1_readTarget_21 : decode cX1_readTarget 21 = .ok (.getfield 46, 3) := by decide +kernel
theorem dX1_readTarget_24 : decode cX1_readTarget 24 = .ok (.aload_n 0, 1) := by decide +kernel
theorem dX1_readTarget_25 : decode cX1_readTarget 25 = .ok (.getfield 39, 3) := by decide +kernel
theorem dX1_readTarget_28 : decode cX1_readTarget 28 = .ok (.arraylength, 1) := by decide +kernel
theorem dX1_readTarget_29 : decode cX1_readTarget 29 = .ok (.if_icmp .ge 33, 3) := by decide +kernel
theorem dX1_readTarget_32 : decode cX1_readTarget 32 = .ok (.aload_n 0, 1) := by decide +kernel
theorem dX1_readTarget_33 : decode cX1_readTarget 33 = .ok (.getfield 39, 3) := by decide +kernel
theorem dX1_readTarget_36 : decode cX1_readTarget 36 = .ok (.aload_n 0, 1) := by decide +kernel
theorem dX1_readTarget_37 : decode cX1_readTarget 37 = .ok (.getfield 46, 3) := by decide +kernel
theorem dX1_readTarget_40 : decode cX1_readTarget 40 = .ok (.iload_n 2, 1) := by decide +kernel
theorem dX1_readTarget_41 : decode cX1_readTarget 41 = .ok (.iastore, 1) := by decide +kernel
theorem dX1_readTarget_42 : decode cX1_readTarget 42 = .ok (.aload_n 0, 1) := by decide +kernel
theorem dX1_readTarget_43 : decode cX1_readTarget 43 = .ok (.getfield 43, 3) := by decide +kernel
theorem dX1_readTarget_46 : decode cX1_readTarget 46 = .ok (.aload_n 0, 1) := by decide +kernel
theorem dX1_readTarget_47 : decode cX1_readTarget 47 = .ok (.getfield 46, 3) := by decide +kernel
theorem dX1_readTarget_50 : decode cX1_readTarget 50 = .ok (.iload_n 1, 1) := by decide +kernel
theorem dX1_readTarget_51 : decode cX1_readTarget 51 = .ok (.iastore, 1) := by decide +kernel
theorem dX1_readTarget_52 : decode cX1_readTarget 52 = .ok (.aload_n 0, 1) := by decide +kernel
theorem dX1_readTarget_53 : decode cX1_readTarget 53 = .ok (.dup, 1) := by decide +kernel
theorem dX1_readTarget_54 : decode cX1_readTarget 54 = .ok (.getfield 46, 3) := by decide +kernel
theorem dX1_readTarget_57 : decode cX1_readTarget 57 = .ok (.iconst 1, 1) := by decide +kernel
theorem dX1_readTarget_58 : decode cX1_readTarget 58 = .ok (.iadd, 1) := by decide +kernel
theorem dX1_readTarget_59 : decode cX1_readTarget 59 = .ok (.putfield 46, 3) := by decide +kernel
theorem dX1_readTarget_62 : decode cX1_readTarget 62 = .ok (.iload_n 2, 1) := by decide +kernel
theorem dX1_readTarget_63 : decode cX1_readTarget 63 = .ok (.ireturn, 1) := by decide +kernel
theorem dX1_readNumber_0 : decode cX1_readNumber 0 = .ok (.aload_n 0, 1) := by decide +kernel
theorem dX1_readNumber_1 : decode cX1_readNumber 1 = .ok (.getfield 32, 3) := by decide +kernel
theorem dX1_readNumber_4 : decode cX1_readNumber 4 = .ok (.ifCond .eq 5, 3) := by decide +kernel
theorem dX1_readNumber_7 : decode cX1_readNumber 7 = .ok (.iload_n 1, 1) := by decide +kernel
theorem dX1_readNumber_8 : decode cX1_readNumber 8 = .ok (.ireturn, 1) := by decide +kernel
theorem dX1_readNumber_9 : decode cX1_readNumber 9 = .ok (.iconst 0, 1) := by decide +kernel
theorem dX1_readNumber_10 : decode cX1_readNumber 10 = .ok (.istore_n 3, 1) := by decide +kernel
theorem dX1_readNumber_11 : decode cX1_readNumber 11 = .ok (.iconst 0, 1) := by decide +kernel
theorem dX1_readNumber_12 : decode cX1_readNumber 12 = .ok (.istore 4, 2) := by decide +kernel
theorem dX1_readNumber_14 : decode cX1_readNumber 14 = .ok (.aload_n 0, 1) := by decide +kernel
theorem dX1_readNumber_15 : decode cX1_readNumber 15 = .ok (.getfield 29, 3) := by decide +kernel
theorem dX1_readNumber_18 : decode cX1_readNumber 18 = .ok (.istore 5, 2) := by decide +kernel
theorem dX1_readNumber_20 : decode cX1_readNumber 20 = .ok (.iload 5, 2) := by decide +kernel
theorem dX1_readNumber_22 : decode cX1_readNumber 22 = .ok (.aload_n 0, 1) := by decide +kernel
theorem dX1_readNumber_23 : decode cX1_readNumber 23 = .ok (.getfield 18, 3) := by decide +kernel
theorem dX1_readNumber_26 : decode cX1_readNumber 26 = .ok (.if_icmp .ge 59, 3) := by decide +kernel
theorem dX1_readNumber_29 : decode cX1_readNumber 29 = .ok (.aload_n 0, 1) := by decide +kernel
theorem dX1_readNumber_30 : decode cX1_readNumber 30 = .ok (.getfield 25, 3) := by decide +kernel
theorem dX1_readNumber_33 : decode cX1_readNumber 33 = .ok (.iload 5, 2) := by decide +kernel
theorem dX1_readNumber_35 : decode cX1_readNumber 35 = .ok (.baload, 1) := by decide +kernel
theorem dX1_readNumber_36 : decode cX1_readNumber 36 = .ok (.bipush 48, 2) := by decide +kernel
theorem dX1_readNumber_38 : decode cX1_readNumber 38 = .ok (.if_icmp .lt 47, 3) := by decide +kernel
theorem dX1_readNumber_41 : decode cX1_readNumber 41 = .ok (.aload_n 0, 1) := by decide +kernel
theorem dX1_readNumber_42 : decode cX1_readNumber 42 = .ok (.getfield 25, 3) := by decide +kernel
theorem dX1_readNumber_45 : decode cX1_readNumber 45 = .ok (.iload 5, 2) := by decide +kernel
theorem dX1_readNumber_47 : decode cX1_readNumber 47 = .ok (.baload, 1) := by decide +kernel
theorem dX1_readNumber_48 : decode cX1_readNumber 48 = .ok (.bipush 57, 2) := by decide +kernel
theorem dX1_readNumber_50 : decode cX1_readNumber 50 = .ok (.if_icmp .gt 35, 3) := by decide +kernel
theorem dX1_readNumber_53 : decode cX1_readNumber 53 = .ok (.iinc 3 1, 3) := by decide +kernel
theorem dX1_readNumber_56 : decode cX1_readNumber 56 = .ok (.iload_n 3, 1) := by decide +kernel
theorem dX1_readNumber_57 : decode cX1_readNumber 57 = .ok (.iconst 2, 1) := by decide +kernel
theorem dX1_readNumber_58 : decode cX1_readNumber 58 = .ok (.if_icmp .gt 21, 3) := by decide +kernel
theorem dX1_readNumber_61 : decode cX1_readNumber 61 = .ok (.iload 4, 2) := by decide +kernel
theorem dX1_readNumber_63 : decode cX1_readNumber 63 = .ok (.bipush 10, 2) := by decide +kernel
theorem dX1_readNumber_65 : decode cX1_readNumber 65 = .ok (.imul, 1) := by decide +kernel
theorem dX1_readNumber_66 : decode cX1_readNumber 66 = .ok (.aload_n 0, 1) := by decide +kernel
theorem dX1_readNumber_67 : decode cX1_readNumber 67 = .ok (.getfield 25, 3) := by decide +kernel
theorem dX1_readNumber_70 : decode cX1_readNumber 70 = .ok (.iload 5, 2) := by decide +kernel
theorem dX1_readNumber_72 : decode cX1_readNumber 72 = .ok (.baload, 1) := by decide +kernel
theorem dX1_readNumber_73 : decode cX1_readNumber 73 = .ok (.bipush 48, 2) := by decide +kernel
theorem dX1_readNumber_75 : decode cX1_readNumber 75 = .ok (.isub, 1) := by decide +kernel
theorem dX1_readNumber_76 : decode cX1_readNumber 76 = .ok (.iadd, 1) := by decide +kernel
theorem dX1_readNumber_77 : decode cX1_readNumber 77 = .ok (.istore 4, 2) := by decide +kernel
theorem dX1_readNumber_79 : decode cX1_readNumber 79 = .ok (.iinc 5 1, 3) := by decide +kernel
theorem dX1_readNumber_82 : decode cX1_readNumber 82 = .ok (.goto (-62), 3) := by decide +kernel
theorem dX1_readNumber_85 : decode cX1_readNumber 85 = .ok (.iload_n 3, 1) := by decide +kernel
theorem dX1_readNumber_86 : decode cX1_readNumber 86 = .ok (.ifCond .ne 14, 3) := by decide +kernel
theorem dX1_readNumber_89 : decode cX1_readNumber 89 = .ok (.aload_n 0, 1) := by decide +kernel
theorem dX1_readNumber_90 : decode cX1_readNumber 90 = .ok (.iconst 1, 1) := by decide +kernel
theorem dX1_readNumber_91 : decode cX1_readNumber 91 = .ok (.aload_n 0, 1) := by decide +kernel
theorem dX1_readNumber_92 : decode cX1_readNumber 92 = .ok (.getfield 29, 3) := by decide +kernel
theorem dX1_readNumber_95 : decode cX1_readNumber 95 = .ok (.invokevirtual 70, 3) := by decide +kernel
theorem dX1_readNumber_98 : decode cX1_readNumber 98 = .ok (.iload_n 1, 1) := by decide +kernel
theorem dX1_readNumber_99 : decode cX1_readNumber 99 = .ok (.ireturn, 1) := by decide +kernel
theorem dX1_readNumber_100 : decode cX1_readNumber 100 = .ok (.iload_n 3, 1) := by decide +kernel
theorem dX1_readNumber_101 : decode cX1_readNumber 101 = .ok (.iconst 2, 1) := by decide +kernel
theorem dX1_readNumber_102 : decode cX1_readNumber 102 = .ok (.if_icmp .gt 15, 3) := by decide +kernel
theorem dX1_readNumber_105 : decode cX1_readNumber 105 = .ok (.iload 4, 2) := by decide +kernel
theorem dX1_readNumber_107 : decode cX1_readNumber 107 = .ok (.iload_n 1, 1) := by decide +kernel
theorem dX1_readNumber_108 : decode cX1_readNumber 108 = .ok (.if_icmp .lt 9, 3) := by decide +kernel
theorem dX1_readNumber_111 : decode cX1_readNumber 111 = .ok (.iload 4, 2) := by decide +kernel
theorem dX1_readNumber_113 : decode cX1_readNumber 113 = .ok (.iload_n 2, 1) := by decide +kernel
theorem dX1_readNumber_114 : decode cX1_readNumber 114 = .ok (.if_icmp .le 14, 3) := by decide +kernel
theorem dX1_readNumber_117 : decode cX1_readNumber 117 = .ok (.aload_n 0, 1) := by decide +kernel
theorem dX1_readNumber_118 : decode cX1_readNumber 118 = .ok (.iconst 2, 1) := by decide +kernel
theorem dX1_readNumber_119 : decode cX1_readNumber 119 = .ok (.aload_n 0, 1) := by decide +kernel
theorem dX1_readNumber_120 : decode cX1_readNumber 120 = .ok (.getfield 29, 3) := by decide +kernel
theorem dX1_readNumber_123 : decode cX1_readNumber 123 = .ok (.invokevirtual 70, 3) := by decide +kernel
theorem dX1_readNumber_126 : decode cX1_readNumber 126 = .ok (.iload_n 1, 1) := by decide +kernel
theorem dX1_readNumber_127 : decode cX1_readNumber 127 = .ok (.ireturn, 1) := by decide +kernel
theorem dX1_readNumber_128 : decode cX1_readNumber 128 = .ok (.aload_n 0, 1) := by decide +kernel
theorem dX1_readNumber_129 : decode cX1_readNumber 129 = .ok (.iload_n 3, 1) := by decide +kernel
theorem dX1_readNumber_130 : decode cX1_readNumber 130 = .ok (.invokevirtual 52, 3) := by decide +kernel
theorem dX1_readNumber_133 : decode cX1_readNumber 133 = .ok (.iload 4, 2) := by decide +kernel
theorem dX1_readNumber_135 : decode cX1_readNumber 135 = .ok (.ireturn, 1) := by decide +kernel
theorem dX1_closeClause_0 : decode cX1_closeClause 0 = .ok (.aload_n 0, 1) := by decide +kernel
theorem dX1_closeClause_1 : decode cX1_closeClause 1 = .ok (.getfield 32, 3) := by decide +kernel
theorem dX1_closeClause_4 : decode cX1_closeClause 4 = .ok (.ifCond .eq 4, 3) := by decide +kernel
theorem dX1_closeClause_7 : decode cX1_closeClause 7 = .ok (.return_, 1) := by decide +kernel
theorem dX1_closeClause_8 : decode cX1_closeClause 8 = .ok (.aload_n 0, 1) := by decide +kernel
theorem dX1_closeClause_9 : decode cX1_closeClause 9 = .ok (.getfield 29, 3) := by decide +kernel
theorem dX1_closeClause_12 : decode cX1_closeClause 12 = .ok (.aload_n 0, 1) := by decide +kernel
theorem dX1_closeClause_13 : decode cX1_closeClause 13 = .ok (.getfield 18, 3) := by decide +kernel
theorem dX1_closeClause_16 : decode cX1_closeClause 16 = .ok (.if_icmp .ge 25, 3) := by decide +kernel
theorem dX1_closeClause_19 : decode cX1_closeClause 19 = .ok (.aload_n 0, 1) := by decide +kernel
theorem dX1_closeClause_20 : decode cX1_closeClause 20 = .ok (.getfield 25, 3) := by decide +kernel
theorem dX1_closeClause_23 : decode cX1_closeClause 23 = .ok (.aload_n 0, 1) := by decide +kernel
theorem dX1_closeClause_24 : decode cX1_closeClause 24 = .ok (.getfield 29, 3) := by decide +kernel
theorem dX1_closeClause_27 : decode cX1_closeClause 27 = .ok (.baload, 1) := by decide +kernel
theorem dX1_closeClause_28 : decode cX1_closeClause 28 = .ok (.bipush 59, 2) := by decide +kernel
theorem dX1_closeClause_30 : decode cX1_closeClause 30 = .ok (.if_icmp .ne 11, 3) := by decide +kernel
theorem dX1_closeClause_33 : decode cX1_closeClause 33 = .ok (.aload_n 0, 1) := by decide +kernel
theorem dX1_closeClause_34 : decode cX1_closeClause 34 = .ok (.iconst 1, 1) := by decide +kernel
theorem dX1_closeClause_35 : decode cX1_closeClause 35 = .ok (.invokevirtual 52, 3) := by decide +kernel
theorem dX1_closeClause_38 : decode cX1_closeClause 38 = .ok (.goto 12, 3) := by decide +kernel
theorem dX1_closeClause_41 : decode cX1_closeClause 41 = .ok (.aload_n 0, 1) := by decide +kernel
theorem dX1_closeClause_42 : decode cX1_closeClause 42 = .ok (.iconst 1, 1) := by decide +kernel
theorem dX1_closeClause_43 : decode cX1_closeClause 43 = .ok (.aload_n 0, 1) := by decide +kernel
theorem dX1_closeClause_44 : decode cX1_closeClause 44 = .ok (.getfield 29, 3) := by decide +kernel
theorem dX1_closeClause_47 : decode cX1_closeClause 47 = .ok (.invokevirtual 70, 3) := by decide +kernel
theorem dX1_closeClause_50 : decode cX1_closeClause 50 = .ok (.return_, 1) := by decide +kernel
theorem dX1_checkTargets_0 : decode cX1_checkTargets 0 = .ok (.iconst 0, 1) := by decide +kernel
theorem dX1_checkTargets_1 : decode cX1_checkTargets 1 = .ok (.istore_n 1, 1) := by decide +kernel
theorem dX1_checkTargets_2 : decode cX1_checkTargets 2 = .ok (.iload_n 1, 1) := by decide +kernel
theorem dX1_checkTargets_3 : decode cX1_checkTargets 3 = .ok (.aload_n 0, 1) := by decide +kernel
theorem dX1_checkTargets_4 : decode cX1_checkTargets 4 = .ok (.getfield 46, 3) := by decide +kernel
theorem dX1_checkTargets_7 : decode cX1_checkTargets 7 = .ok (.if_icmp .ge 43, 3) := by decide +kernel
theorem dX1_checkTargets_10 : decode cX1_checkTargets 10 = .ok (.aload_n 0, 1) := by decide +kernel
theorem dX1_checkTargets_11 : decode cX1_checkTargets 11 = .ok (.getfield 32, 3) := by decide +kernel
theorem dX1_checkTargets_14 : decode cX1_checkTargets 14 = .ok (.ifCond .ne 36, 3) := by decide +kernel
theorem dX1_checkTargets_17 : decode cX1_checkTargets 17 = .ok (.aload_n 0, 1) := by decide +kernel
theorem dX1_checkTargets_18 : decode cX1_checkTargets 18 = .ok (.getfield 12, 3) := by decide +kernel
theorem dX1_checkTargets_21 : decode cX1_checkTargets 21 = .ok (.aload_n 0, 1) := by decide +kernel
theorem dX1_checkTargets_22 : decode cX1_checkTargets 22 = .ok (.getfield 39, 3) := by decide +kernel
theorem dX1_checkTargets_25 : decode cX1_checkTargets 25 = .ok (.iload_n 1, 1) := by decide +kernel
theorem dX1_checkTargets_26 : decode cX1_checkTargets 26 = .ok (.iaload, 1) := by decide +kernel
theorem dX1_checkTargets_27 : decode cX1_checkTargets 27 = .ok (.invokevirtual 148, 3) := by decide +kernel
theorem dX1_checkTargets_30 : decode cX1_checkTargets 30 = .ok (.ifCond .ne 14, 3) := by decide +kernel
theorem dX1_checkTargets_33 : decode cX1_checkTargets 33 = .ok (.aload_n 0, 1) := by decide +kernel
theorem dX1_checkTargets_34 : decode cX1_checkTargets 34 = .ok (.iconst 4, 1) := by decide +kernel
theorem dX1_checkTargets_35 : decode cX1_checkTargets 35 = .ok (.aload_n 0, 1) := by decide +kernel
theorem dX1_checkTargets_36 : decode cX1_checkTargets 36 = .ok (.getfield 43, 3) := by decide +kernel
theorem dX1_checkTargets_39 : decode cX1_checkTargets 39 = .ok (.iload_n 1, 1) := by decide +kernel
theorem dX1_checkTargets_40 : decode cX1_checkTargets 40 = .ok (.iaload, 1) := by decide +kernel
theorem dX1_checkTargets_41 : decode cX1_checkTargets 41 = .ok (.invokevirtual 70, 3) := by decide +kernel
theorem dX1_checkTargets_44 : decode cX1_checkTargets 44 = .ok (.iinc 1 1, 3) := by decide +kernel
theorem dX1_checkTargets_47 : decode cX1_checkTargets 47 = .ok (.goto (-45), 3) := by decide +kernel
theorem dX1_checkTargets_50 : decode cX1_checkTargets 50 = .ok (.return_, 1) := by decide +kernel
theorem dX1_isWord_0 : decode cX1_isWord 0 = .ok (.iconst 0, 1) := by decide +kernel
theorem dX1_isWord_1 : decode cX1_isWord 1 = .ok (.istore_n 2, 1) := by decide +kernel
theorem dX1_isWord_2 : decode cX1_isWord 2 = .ok (.aload_n 0, 1) := by decide +kernel
theorem dX1_isWord_3 : decode cX1_isWord 3 = .ok (.getfield 29, 3) := by decide +kernel
theorem dX1_isWord_6 : decode cX1_isWord 6 = .ok (.istore_n 3, 1) := by decide +kernel
theorem dX1_isWord_7 : decode cX1_isWord 7 = .ok (.iload_n 3, 1) := by decide +kernel
theorem dX1_isWord_8 : decode cX1_isWord 8 = .ok (.aload_n 0, 1) := by decide +kernel
theorem dX1_isWord_9 : decode cX1_isWord 9 = .ok (.getfield 18, 3) := by decide +kernel
theorem dX1_isWord_12 : decode cX1_isWord 12 = .ok (.if_icmp .ge 34, 3) := by decide +kernel
theorem dX1_isWord_15 : decode cX1_isWord 15 = .ok (.aload_n 0, 1) := by decide +kernel
theorem dX1_isWord_16 : decode cX1_isWord 16 = .ok (.getfield 25, 3) := by decide +kernel
theorem dX1_isWord_19 : decode cX1_isWord 19 = .ok (.iload_n 3, 1) := by decide +kernel
theorem dX1_isWord_20 : decode cX1_isWord 20 = .ok (.baload, 1) := by decide +kernel
theorem dX1_isWord_21 : decode cX1_isWord 21 = .ok (.bipush 97, 2) := by decide +kernel
theorem dX1_isWord_23 : decode cX1_isWord 23 = .ok (.if_icmp .lt 23, 3) := by decide +kernel
theorem dX1_isWord_26 : decode cX1_isWord 26 = .ok (.aload_n 0, 1) := by decide +kernel
theorem dX1_isWord_27 : decode cX1_isWord 27 = .ok (.getfield 25, 3) := by decide +kernel
theorem dX1_isWord_30 : decode cX1_isWord 30 = .ok (.iload_n 3, 1) := by decide +kernel
theorem dX1_isWord_31 : decode cX1_isWord 31 = .ok (.baload, 1) := by decide +kernel
theorem dX1_isWord_32 : decode cX1_isWord 32 = .ok (.bipush 122, 2) := by decide +kernel
theorem dX1_isWord_34 : decode cX1_isWord 34 = .ok (.if_icmp .gt 12, 3) := by decide +kernel
theorem dX1_isWord_37 : decode cX1_isWord 37 = .ok (.iinc 2 1, 3) := by decide +kernel
theorem dX1_isWord_40 : decode cX1_isWord 40 = .ok (.iinc 3 1, 3) := by decide +kernel
theorem dX1_isWord_43 : decode cX1_isWord 43 = .ok (.goto (-36), 3) := by decide +kernel
theorem dX1_isWord_46 : decode cX1_isWord 46 = .ok (.iload_n 2, 1) := by decide +kernel
theorem dX1_isWord_47 : decode cX1_isWord 47 = .ok (.aload_n 1, 1) := by decide +kernel
theorem dX1_isWord_48 : decode cX1_isWord 48 = .ok (.invokevirtual 77, 3) := by decide +kernel
theorem dX1_isWord_51 : decode cX1_isWord 51 = .ok (.if_icmp .eq 5, 3) := by decide +kernel
theorem dX1_isWord_54 : decode cX1_isWord 54 = .ok (.iconst 0, 1) := by decide +kernel
theorem dX1_isWord_55 : decode cX1_isWord 55 = .ok (.ireturn, 1) := by decide +kernel
theorem dX1_isWord_56 : decode cX1_isWord 56 = .ok (.iconst 0, 1) := by decide +kernel
theorem dX1_isWord_57 : decode cX1_isWord 57 = .ok (.istore_n 3, 1) := by decide +kernel
theorem dX1_isWord_58 : decode cX1_isWord 58 = .ok (.iload_n 3, 1) := by decide +kernel
theorem dX1_isWord_59 : decode cX1_isWord 59 = .ok (.iload_n 2, 1) := by decide +kernel
theorem dX1_isWord_60 : decode cX1_isWord 60 = .ok (.if_icmp .ge 30, 3) := by decide +kernel
theorem dX1_isWord_63 : decode cX1_isWord 63 = .ok (.aload_n 0, 1) := by decide +kernel
theorem dX1_isWord_64 : decode cX1_isWord 64 = .ok (.getfield 25, 3) := by decide +kernel
theorem dX1_isWord_67 : decode cX1_isWord 67 = .ok (.aload_n 0, 1) := by decide +kernel
theorem dX1_isWord_68 : decode cX1_isWord 68 = .ok (.getfield 29, 3) := by decide +kernel
theorem dX1_isWord_71 : decode cX1_isWord 71 = .ok (.iload_n 3, 1) := by decide +kernel
theorem dX1_isWord_72 : decode cX1_isWord 72 = .ok (.iadd, 1) := by decide +kernel
theorem dX1_isWord_73 : decode cX1_isWord 73 = .ok (.baload, 1) := by decide +kernel
theorem dX1_isWord_74 : decode cX1_isWord 74 = .ok (.aload_n 1, 1) := by decide +kernel
theorem dX1_isWord_75 : decode cX1_isWord 75 = .ok (.iload_n 3, 1) := by decide +kernel
theorem dX1_isWord_76 : decode cX1_isWord 76 = .ok (.invokevirtual 152, 3) := by decide +kernel
theorem dX1_isWord_79 : decode cX1_isWord 79 = .ok (.if_icmp .eq 5, 3) := by decide +kernel
theorem dX1_isWord_82 : decode cX1_isWord 82 = .ok (.iconst 0, 1) := by decide +kernel
theorem dX1_isWord_83 : decode cX1_isWord 83 = .ok (.ireturn, 1) := by decide +kernel
theorem dX1_isWord_84 : decode cX1_isWord 84 = .ok (.iinc 3 1, 3) := by decide +kernel
theorem dX1_isWord_87 : decode cX1_isWord 87 = .ok (.goto (-29), 3) := by decide +kernel
theorem dX1_isWord_90 : decode cX1_isWord 90 = .ok (.iconst 1, 1) := by decide +kernel
theorem dX1_isWord_91 : decode cX1_isWord 91 = .ok (.ireturn, 1) := by decide +kernel
theorem dX1_pass_0 : decode cX1_pass 0 = .ok (.aload_n 0, 1) := by decide +kernel
theorem dX1_pass_1 : decode cX1_pass 1 = .ok (.dup, 1) := by decide +kernel
theorem dX1_pass_2 : decode cX1_pass 2 = .ok (.getfield 29, 3) := by decide +kernel
theorem dX1_pass_5 : decode cX1_pass 5 = .ok (.iload_n 1, 1) := by decide +kernel
theorem dX1_pass_6 : decode cX1_pass 6 = .ok (.iadd, 1) := by decide +kernel
theorem dX1_pass_7 : decode cX1_pass 7 = .ok (.putfield 29, 3) := by decide +kernel
theorem dX1_pass_10 : decode cX1_pass 10 = .ok (.aload_n 0, 1) := by decide +kernel
theorem dX1_pass_11 : decode cX1_pass 11 = .ok (.getfield 29, 3) := by decide +kernel
theorem dX1_pass_14 : decode cX1_pass 14 = .ok (.istore_n 2, 1) := by decide +kernel
theorem dX1_pass_15 : decode cX1_pass 15 = .ok (.iload_n 2, 1) := by decide +kernel
theorem dX1_pass_16 : decode cX1_pass 16 = .ok (.aload_n 0, 1) := by decide +kernel
theorem dX1_pass_17 : decode cX1_pass 17 = .ok (.getfield 18, 3) := by decide +kernel
theorem dX1_pass_20 : decode cX1_pass 20 = .ok (.if_icmp .ge 30, 3) := by decide +kernel
theorem dX1_pass_23 : decode cX1_pass 23 = .ok (.aload_n 0, 1) := by decide +kernel
theorem dX1_pass_24 : decode cX1_pass 24 = .ok (.getfield 25, 3) := by decide +kernel
theorem dX1_pass_27 : decode cX1_pass 27 = .ok (.iload_n 2, 1) := by decide +kernel
theorem dX1_pass_28 : decode cX1_pass 28 = .ok (.baload, 1) := by decide +kernel
theorem dX1_pass_29 : decode cX1_pass 29 = .ok (.bipush 32, 2) := by decide +kernel
theorem dX1_pass_31 : decode cX1_pass 31 = .ok (.if_icmp .ne 19, 3) := by decide +kernel
theorem dX1_pass_34 : decode cX1_pass 34 = .ok (.aload_n 0, 1) := by decide +kernel
theorem dX1_pass_35 : decode cX1_pass 35 = .ok (.dup, 1) := by decide +kernel
theorem dX1_pass_36 : decode cX1_pass 36 = .ok (.getfield 29, 3) := by decide +kernel
theorem dX1_pass_39 : decode cX1_pass 39 = .ok (.iconst 1, 1) := by decide +kernel
theorem dX1_pass_40 : decode cX1_pass 40 = .ok (.iadd, 1) := by decide +kernel
theorem dX1_pass_41 : decode cX1_pass 41 = .ok (.putfield 29, 3) := by decide +kernel
theorem dX1_pass_44 : decode cX1_pass 44 = .ok (.iinc 2 1, 3) := by decide +kernel
theorem dX1_pass_47 : decode cX1_pass 47 = .ok (.goto (-32), 3) := by decide +kernel
theorem dX1_pass_50 : decode cX1_pass 50 = .ok (.return_, 1) := by decide +kernel
theorem dX1_fail_0 : decode cX1_fail 0 = .ok (.aload_n 0, 1) := by decide +kernel
theorem dX1_fail_1 : decode cX1_fail 1 = .ok (.getfield 32, 3) := by decide +kernel
theorem dX1_fail_4 : decode cX1_fail 4 = .ok (.ifCond .ne 13, 3) := by decide +kernel
theorem dX1_fail_7 : decode cX1_fail 7 = .ok (.aload_n 0, 1) := by decide +kernel
theorem dX1_fail_8 : decode cX1_fail 8 = .ok (.iload_n 1, 1) := by decide +kernel
theorem dX1_fail_9 : decode cX1_fail 9 = .ok (.putfield 32, 3) := by decide +kernel
theorem dX1_fail_12 : decode cX1_fail 12 = .ok (.aload_n 0, 1) := by decide +kernel
theorem dX1_fail_13 : decode cX1_fail 13 = .ok (.iload_n 2, 1) := by decide +kernel
theorem dX1_fail_14 : decode cX1_fail 14 = .ok (.putfield 22, 3) := by decide +kernel
theorem dX1_fail_17 : decode cX1_fail 17 = .ok (.return_, 1) := by decide +kernel
theorem dX2_init_0 : decode cX2_init 0 = .ok (.aload_n 0, 1) := by decide +kernel
theorem dX2_init_1 : decode cX2_init 1 = .ok (.invokespecial 3, 3) := by decide +kernel
theorem dX2_init_4 : decode cX2_init 4 = .ok (.aload_n 0, 1) := by decide +kernel
theorem dX2_init_5 : decode cX2_init 5 = .ok (.bipush 24, 2) := by decide +kernel
theorem dX2_init_7 : decode cX2_init 7 = .ok (.newarray .int, 2) := by decide +kernel
theorem dX2_init_9 : decode cX2_init 9 = .ok (.putfield 9, 3) := by decide +kernel
theorem dX2_init_12 : decode cX2_init 12 = .ok (.aload_n 0, 1) := by decide +kernel
theorem dX2_init_13 : decode cX2_init 13 = .ok (.iconst 0, 1) := by decide +kernel
theorem dX2_init_14 : decode cX2_init 14 = .ok (.putfield 15, 3) := by decide +kernel
theorem dX2_init_17 : decode cX2_init 17 = .ok (.aload_n 0, 1) := by decide +kernel
theorem dX2_init_18 : decode cX2_init 18 = .ok (.iconst 0, 1) := by decide +kernel
theorem dX2_init_19 : decode cX2_init 19 = .ok (.putfield 19, 3) := by decide +kernel
theorem dX2_init_22 : decode cX2_init 22 = .ok (.aload_n 0, 1) := by decide +kernel
theorem dX2_init_23 : decode cX2_init 23 = .ok (.iconst 0, 1) := by decide +kernel
theorem dX2_init_24 : decode cX2_init 24 = .ok (.putfield 23, 3) := by decide +kernel
theorem dX2_init_27 : decode cX2_init 27 = .ok (.aload_n 0, 1) := by decide +kernel
theorem dX2_init_28 : decode cX2_init 28 = .ok (.iconst 0, 1) := by decide +kernel
theorem dX2_init_29 : decode cX2_init 29 = .ok (.putfield 26, 3) := by decide +kernel
theorem dX2_init_32 : decode cX2_init 32 = .ok (.aload_n 0, 1) := by decide +kernel
theorem dX2_init_33 : decode cX2_init 33 = .ok (.iconst 0, 1) := by decide +kernel
theorem dX2_init_34 : decode cX2_init 34 = .ok (.putfield 29, 3) := by decide +kernel
theorem dX2_init_37 : decode cX2_init 37 = .ok (.aload_n 0, 1) := by decide +kernel
theorem dX2_init_38 : decode cX2_init 38 = .ok (.sipush 576, 3) := by decide +kernel
theorem dX2_init_41 : decode cX2_init 41 = .ok (.newarray .int, 2) := by decide +kernel
theorem dX2_init_43 : decode cX2_init 43 = .ok (.putfield 32, 3) := by decide +kernel
theorem dX2_init_46 : decode cX2_init 46 = .ok (.aload_n 0, 1) := by decide +kernel
theorem dX2_init_47 : decode cX2_init 47 = .ok (.bipush 24, 2) := by decide +kernel
theorem dX2_init_49 : decode cX2_init 49 = .ok (.newarray .int, 2) := by decide +kernel
theorem dX2_init_51 : decode cX2_init 51 = .ok (.putfield 35, 3) := by decide +kernel
theorem dX2_init_54 : decode cX2_init 54 = .ok (.aload_n 0, 1) := by decide +kernel
theorem dX2_init_55 : decode cX2_init 55 = .ok (.aload_n 1, 1) := by decide +kernel
theorem dX2_init_56 : decode cX2_init 56 = .ok (.putfield 38, 3) := by decide +kernel
theorem dX2_init_59 : decode cX2_init 59 = .ok (.iconst 0, 1) := by decide +kernel
theorem dX2_init_60 : decode cX2_init 60 = .ok (.istore_n 2, 1) := by decide +kernel
theorem dX2_init_61 : decode cX2_init 61 = .ok (.iload_n 2, 1) := by decide +kernel
theorem dX2_init_62 : decode cX2_init 62 = .ok (.bipush 24, 2) := by decide +kernel
theorem dX2_init_64 : decode cX2_init 64 = .ok (.if_icmp .ge 18, 3) := by decide +kernel
theorem dX2_init_67 : decode cX2_init 67 = .ok (.aload_n 0, 1) := by decide +kernel
theorem dX2_init_68 : decode cX2_init 68 = .ok (.getfield 9, 3) := by decide +kernel
theorem dX2_init_71 : decode cX2_init 71 = .ok (.iload_n 2, 1) := by decide +kernel
theorem dX2_init_72 : decode cX2_init 72 = .ok (.iload_n 2, 1) := by decide +kernel
theorem dX2_init_73 : decode cX2_init 73 = .ok (.iconst 1, 1) := by decide +kernel
theorem dX2_init_74 : decode cX2_init 74 = .ok (.iadd, 1) := by decide +kernel
theorem dX2_init_75 : decode cX2_init 75 = .ok (.iastore, 1) := by decide +kernel
theorem dX2_init_76 : decode cX2_init 76 = .ok (.iinc 2 1, 3) := by decide +kernel
theorem dX2_init_79 : decode cX2_init 79 = .ok (.goto (-18), 3) := by decide +kernel
theorem dX2_init_82 : decode cX2_init 82 = .ok (.return_, 1) := by decide +kernel
theorem dX2_copyFrom_0 : decode cX2_copyFrom 0 = .ok (.aload_n 0, 1) := by decide +kernel
theorem dX2_copyFrom_1 : decode cX2_copyFrom 1 = .ok (.getfield 38, 3) := by decide +kernel
theorem dX2_copyFrom_4 : decode cX2_copyFrom 4 = .ok (.aload_n 1, 1) := by decide +kernel
theorem dX2_copyFrom_5 : decode cX2_copyFrom 5 = .ok (.getfield 38, 3) := by decide +kernel
theorem dX2_copyFrom_8 : decode cX2_copyFrom 8 = .ok (.invokevirtual 42, 3) := by decide +kernel
theorem dX2_copyFrom_11 : decode cX2_copyFrom 11 = .ok (.aload_n 1, 1) := by decide +kernel
theorem dX2_copyFrom_12 : decode cX2_copyFrom 12 = .ok (.getfield 9, 3) := by decide +kernel
theorem dX2_copyFrom_15 : decode cX2_copyFrom 15 = .ok (.iconst 0, 1) := by decide +kernel
theorem dX2_copyFrom_16 : decode cX2_copyFrom 16 = .ok (.aload_n 0, 1) := by decide +kernel
theorem dX2_copyFrom_17 : decode cX2_copyFrom 17 = .ok (.getfield 9, 3) := by decide +kernel
theorem dX2_copyFrom_20 : decode cX2_copyFrom 20 = .ok (.iconst 0, 1) := by decide +kernel
theorem dX2_copyFrom_21 : decode cX2_copyFrom 21 = .ok (.bipush 24, 2) := by decide +kernel
theorem dX2_copyFrom_23 : decode cX2_copyFrom 23 = .ok (.invokestatic 48, 3) := by decide +kernel
theorem dX2_copyFrom_26 : decode cX2_copyFrom 26 = .ok (.aload_n 0, 1) := by decide +kernel
theorem dX2_copyFrom_27 : decode cX2_copyFrom 27 = .ok (.aload_n 1, 1) := by decide +kernel
theorem dX2_copyFrom_28 : decode cX2_copyFrom 28 = .ok (.getfield 15, 3) := by decide +kernel
theorem dX2_copyFrom_31 : decode cX2_copyFrom 31 = .ok (.putfield 15, 3) := by decide +kernel
theorem dX2_copyFrom_34 : decode cX2_copyFrom 34 = .ok (.aload_n 0, 1) := by decide +kernel
theorem dX2_copyFrom_35 : decode cX2_copyFrom 35 = .ok (.aload_n 1, 1) := by decide +kernel
theorem dX2_copyFrom_36 : decode cX2_copyFrom 36 = .ok (.getfield 19, 3) := by decide +kernel
theorem dX2_copyFrom_39 : decode cX2_copyFrom 39 = .ok (.putfield 19, 3) := by decide +kernel
theorem dX2_copyFrom_42 : decode cX2_copyFrom 42 = .ok (.aload_n 0, 1) := by decide +kernel
theorem dX2_copyFrom_43 : decode cX2_copyFrom 43 = .ok (.aload_n 1, 1) := by decide +kernel
theorem dX2_copyFrom_44 : decode cX2_copyFrom 44 = .ok (.getfield 23, 3) := by decide +kernel
theorem dX2_copyFrom_47 : decode cX2_copyFrom 47 = .ok (.putfield 23, 3) := by decide +kernel
theorem dX2_copyFrom_50 : decode cX2_copyFrom 50 = .ok (.aload_n 0, 1) := by decide +kernel
theorem dX2_copyFrom_51 : decode cX2_copyFrom 51 = .ok (.aload_n 1, 1) := by decide +kernel
theorem dX2_copyFrom_52 : decode cX2_copyFrom 52 = .ok (.getfield 26, 3) := by decide +kernel
theorem dX2_copyFrom_55 : decode cX2_copyFrom 55 = .ok (.putfield 26, 3) := by decide +kernel
theorem dX2_copyFrom_58 : decode cX2_copyFrom 58 = .ok (.aload_n 1, 1) := by decide +kernel
theorem dX2_copyFrom_59 : decode cX2_copyFrom 59 = .ok (.getfield 32, 3) := by decide +kernel
theorem dX2_copyFrom_62 : decode cX2_copyFrom 62 = .ok (.iconst 0, 1) := by decide +kernel
theorem dX2_copyFrom_63 : decode cX2_copyFrom 63 = .ok (.aload_n 0, 1) := by decide +kernel
theorem dX2_copyFrom_64 : decode cX2_copyFrom 64 = .ok (.getfield 32, 3) := by decide +kernel
theorem dX2_copyFrom_67 : decode cX2_copyFrom 67 = .ok (.iconst 0, 1) := by decide +kernel
theorem dX2_copyFrom_68 : decode cX2_copyFrom 68 = .ok (.sipush 576, 3) := by decide +kernel
theorem dX2_copyFrom_71 : decode cX2_copyFrom 71 = .ok (.invokestatic 48, 3) := by decide +kernel
theorem dX2_copyFrom_74 : decode cX2_copyFrom 74 = .ok (.return_, 1) := by decide +kernel
theorem dX2_openBook_0 : decode cX2_openBook 0 = .ok (.aload_n 0, 1) := by decide +kernel
theorem dX2_openBook_1 : decode cX2_openBook 1 = .ok (.getfield 38, 3) := by decide +kernel
theorem dX2_openBook_4 : decode cX2_openBook 4 = .ok (.aload_n 1, 1) := by decide +kernel
theorem dX2_openBook_5 : decode cX2_openBook 5 = .ok (.invokevirtual 42, 3) := by decide +kernel
theorem dX2_openBook_8 : decode cX2_openBook 8 = .ok (.aload_n 0, 1) := by decide +kernel
theorem dX2_openBook_9 : decode cX2_openBook 9 = .ok (.iconst 0, 1) := by decide +kernel
theorem dX2_openBook_10 : decode cX2_openBook 10 = .ok (.putfield 19, 3) := by decide +kernel
theorem dX2_openBook_13 : decode cX2_openBook 13 = .ok (.iconst 0, 1) := by decide +kernel
theorem dX2_openBook_14 : decode cX2_openBook 14 = .ok (.istore_n 2, 1) := by decide +kernel
theorem dX2_openBook_15 : decode cX2_openBook 15 = .ok (.iload_n 2, 1) := by decide +kernel
theorem dX2_openBook_16 : decode cX2_openBook 16 = .ok (.bipush 24, 2) := by decide +kernel
theorem dX2_openBook_18 : decode cX2_openBook 18 = .ok (.if_icmp .ge 18, 3) := by decide +kernel
theorem dX2_openBook_21 : decode cX2_openBook 21 = .ok (.aload_n 0, 1) := by decide +kernel
theorem dX2_openBook_22 : decode cX2_openBook 22 = .ok (.getfield 9, 3) := by decide +kernel
theorem dX2_openBook_25 : decode cX2_openBook 25 = .ok (.iload_n 2, 1) := by decide +kernel
theorem dX2_openBook_26 : decode cX2_openBook 26 = .ok (.iload_n 2, 1) := by decide +kernel
theorem dX2_openBook_27 : decode cX2_openBook 27 = .ok (.iconst 1, 1) := by decide +kernel
theorem dX2_openBook_28 : decode cX2_openBook 28 = .ok (.iadd, 1) := by decide +kernel
theorem dX2_openBook_29 : decode cX2_openBook 29 = .ok (.iastore, 1) := by decide +kernel
theorem dX2_openBook_30 : decode cX2_openBook 30 = .ok (.iinc 2 1, 3) := by decide +kernel
theorem dX2_openBook_33 : decode cX2_openBook 33 = .ok (.goto (-18), 3) := by decide +kernel
theorem dX2_openBook_36 : decode cX2_openBook 36 = .ok (.return_, 1) := by decide +kernel
theorem dX2_beginReading_0 : decode cX2_beginReading 0 = .ok (.aload_n 0, 1) := by decide +kernel
theorem dX2_beginReading_1 : decode cX2_beginReading 1 = .ok (.iconst 1, 1) := by decide +kernel
theorem dX2_beginReading_2 : decode cX2_beginReading 2 = .ok (.putfield 19, 3) := by decide +kernel
theorem dX2_beginReading_5 : decode cX2_beginReading 5 = .ok (.aload_n 0, 1) := by decide +kernel
theorem dX2_beginReading_6 : decode cX2_beginReading 6 = .ok (.iconst 0, 1) := by decide +kernel
theorem dX2_beginReading_7 : decode cX2_beginReading 7 = .ok (.putfield 26, 3) := by decide +kernel
theorem dX2_beginReading_10 : decode cX2_beginReading 10 = .ok (.aload_n 0, 1) := by decide +kernel
theorem dX2_beginReading_11 : decode cX2_beginReading 11 = .ok (.getfield 32, 3) := by decide +kernel
theorem dX2_beginReading_14 : decode cX2_beginReading 14 = .ok (.iconst 0, 1) := by decide +kernel
theorem dX2_beginReading_15 : decode cX2_beginReading 15 = .ok (.invokestatic 54, 3) := by decide +kernel
theorem dX2_beginReading_18 : decode cX2_beginReading 18 = .ok (.aload_n 0, 1) := by decide +kernel
theorem dX2_beginReading_19 : decode cX2_beginReading 19 = .ok (.aload_n 0, 1) := by decide +kernel
theorem dX2_beginReading_20 : decode cX2_beginReading 20 = .ok (.getfield 38, 3) := by decide +kernel
theorem dX2_beginReading_23 : decode cX2_beginReading 23 = .ok (.iconst (-1), 1) := by decide +kernel
theorem dX2_beginReading_24 : decode cX2_beginReading 24 = .ok (.invokevirtual 60, 3) := by decide +kernel
theorem dX2_beginReading_27 : decode cX2_beginReading 27 = .ok (.putfield 23, 3) := by decide +kernel
theorem dX2_beginReading_30 : decode cX2_beginReading 30 = .ok (.return_, 1) := by decide +kernel
theorem dX2_turnTo_0 : decode cX2_turnTo 0 = .ok (.aload_n 0, 1) := by decide +kernel
theorem dX2_turnTo_1 : decode cX2_turnTo 1 = .ok (.getfield 23, 3) := by decide +kernel
theorem dX2_turnTo_4 : decode cX2_turnTo 4 = .ok (.invokestatic 64, 3) := by decide +kernel
theorem dX2_turnTo_7 : decode cX2_turnTo 7 = .ok (.istore_n 2, 1) := by decide +kernel
theorem dX2_turnTo_8 : decode cX2_turnTo 8 = .ok (.aload_n 0, 1) := by decide +kernel
theorem dX2_turnTo_9 : decode cX2_turnTo 9 = .ok (.getfield 38, 3) := by decide +kernel
theorem dX2_turnTo_12 : decode cX2_turnTo 12 = .ok (.iload_n 2, 1) := by decide +kernel
theorem dX2_turnTo_13 : decode cX2_turnTo 13 = .ok (.invokevirtual 69, 3) := by decide +kernel
theorem dX2_turnTo_16 : decode cX2_turnTo 16 = .ok (.ifCond .eq 14, 3) := by decide +kernel
theorem dX2_turnTo_19 : decode cX2_turnTo 19 = .ok (.aload_n 0, 1) := by decide +kernel
theorem dX2_turnTo_20 : decode cX2_turnTo 20 = .ok (.getfield 38, 3) := by decide +kernel
theorem dX2_turnTo_23 : decode cX2_turnTo 23 = .ok (.iload_n 1, 1) := by decide +kernel
theorem dX2_turnTo_24 : decode cX2_turnTo 24 = .ok (.invokevirtual 69, 3) := by decide +kernel
theorem dX2_turnTo_27 : decode cX2_turnTo 27 = .ok (.ifCond .ne 4, 3) := by decide +kernel
theorem dX2_turnTo_30 : decode cX2_turnTo 30 = .ok (.return_, 1) := by decide +kernel
theorem dX2_turnTo_31 : decode cX2_turnTo 31 = .ok (.aload_n 0, 1) := by decide +kernel
theorem dX2_turnTo_32 : decode cX2_turnTo 32 = .ok (.getfield 32, 3) := by decide +kernel
theorem dX2_turnTo_35 : decode cX2_turnTo 35 = .ok (.iload_n 2, 1) := by decide +kernel
theorem dX2_turnTo_36 : decode cX2_turnTo 36 = .ok (.bipush 24, 2) := by decide +kernel
theorem dX2_turnTo_38 : decode cX2_turnTo 38 = .ok (.imul, 1) := by decide +kernel
theorem dX2_turnTo_39 : decode cX2_turnTo 39 = .ok (.iload_n 1, 1) := by decide +kernel
theorem dX2_turnTo_40 : decode cX2_turnTo 40 = .ok (.iadd, 1) := by decide +kernel
theorem dX2_turnTo_41 : decode cX2_turnTo 41 = .ok (.dup2, 1) := by decide +kernel
theorem dX2_turnTo_42 : decode cX2_turnTo 42 = .ok (.iaload, 1) := by decide +kernel
theorem dX2_turnTo_43 : decode cX2_turnTo 43 = .ok (.iconst 1, 1) := by decide +kernel
theorem dX2_turnTo_44 : decode cX2_turnTo 44 = .ok (.iadd, 1) := by decide +kernel
theorem dX2_turnTo_45 : decode cX2_turnTo 45 = .ok (.iastore, 1) := by decide +kernel
theorem dX2_turnTo_46 : decode cX2_turnTo 46 = .ok (.aload_n 0, 1) := by decide +kernel
theorem dX2_turnTo_47 : decode cX2_turnTo 47 = .ok (.dup, 1) := by decide +kernel
theorem dX2_turnTo_48 : decode cX2_turnTo 48 = .ok (.getfield 26, 3) := by decide +kernel
theorem dX2_turnTo_51 : decode cX2_turnTo 51 = .ok (.iconst 1, 1) := by decide +kernel
theorem dX2_turnTo_52 : decode cX2_turnTo 52 = .ok (.iadd, 1) := by decide +kernel
theorem dX2_turnTo_53 : decode cX2_turnTo 53 = .ok (.putfield 26, 3) := by decide +kernel
theorem dX2_turnTo_56 : decode cX2_turnTo 56 = .ok (.aload_n 0, 1) := by decide +kernel
theorem dX2_turnTo_57 : decode cX2_turnTo 57 = .ok (.aload_n 0, 1) := by decide +kernel
theorem dX2_turnTo_58 : decode cX2_turnTo 58 = .ok (.getfield 38, 3) := by decide +kernel
theorem dX2_turnTo_61 : decode cX2_turnTo 61 = .ok (.aload_n 0, 1) := by decide +kernel
theorem dX2_turnTo_62 : decode cX2_turnTo 62 = .ok (.getfield 23, 3) := by decide +kernel
theorem dX2_turnTo_65 : decode cX2_turnTo 65 = .ok (.iload_n 1, 1) := by decide +kernel
theorem dX2_turnTo_66 : decode cX2_turnTo 66 = .ok (.iconst (-1), 1) := by decide +kernel
theorem dX2_turnTo_67 : decode cX2_turnTo 67 = .ok (.invokevirtual 73, 3) := by decide +kernel
theorem dX2_turnTo_70 : decode cX2_turnTo 70 = .ok (.putfield 23, 3) := by decide +kernel
theorem dX2_turnTo_73 : decode cX2_turnTo 73 = .ok (.return_, 1) := by decide +kernel
theorem dX2_standing_0 : decode cX2_standing 0 = .ok (.aload_n 0, 1) := by decide +kernel
theorem dX2_standing_1 : decode cX2_standing 1 = .ok (.getfield 38, 3) := by decide +kernel
theorem dX2_standing_4 : decode cX2_standing 4 = .ok (.aload_n 0, 1) := by decide +kernel
theorem dX2_standing_5 : decode cX2_standing 5 = .ok (.getfield 23, 3) := by decide +kernel
theorem dX2_standing_8 : decode cX2_standing 8 = .ok (.invokevirtual 77, 3) := by decide +kernel
theorem dX2_standing_11 : decode cX2_standing 11 = .ok (.ireturn, 1) := by decide +kernel
theorem dX2_draw_0 : decode cX2_draw 0 = .ok (.aload_n 0, 1) := by decide +kernel
theorem dX2_draw_1 : decode cX2_draw 1 = .ok (.aload_n 0, 1) := by decide +kernel
theorem dX2_draw_2 : decode cX2_draw 2 = .ok (.getfield 15, 3) := by decide +kernel
theorem dX2_draw_5 : decode cX2_draw 5 = .ok (.i2l, 1) := by decide +kernel
theorem dX2_draw_6 : decode cX2_draw 6 = .ok (.ldc2_w 80, 3) := by decide +kernel
theorem dX2_draw_9 : decode cX2_draw 9 = .ok (.lmul, 1) := by decide +kernel
theorem dX2_draw_10 : decode cX2_draw 10 = .ok (.ldc2_w 82, 3) := by decide +kernel
theorem dX2_draw_13 : decode cX2_draw 13 = .ok (.ladd, 1) := by decide +kernel
theorem dX2_draw_14 : decode cX2_draw 14 = .ok (.ldc2_w 84, 3) := by decide +kernel
theorem dX2_draw_17 : decode cX2_draw 17 = .ok (.land, 1) := by decide +kernel
theorem dX2_draw_18 : decode cX2_draw 18 = .ok (.l2i, 1) := by decide +kernel
theorem dX2_draw_19 : decode cX2_draw 19 = .ok (.putfield 15, 3) := by decide +kernel
theorem dX2_draw_22 : decode cX2_draw 22 = .ok (.iload_n 1, 1) := by decide +kernel
theorem dX2_draw_23 : decode cX2_draw 23 = .ok (.ifCond .le 15, 3) := by decide +kernel
theorem dX2_draw_26 : decode cX2_draw 26 = .ok (.aload_n 0, 1) := by decide +kernel
theorem dX2_draw_27 : decode cX2_draw 27 = .ok (.getfield 15, 3) := by decide +kernel
theorem dX2_draw_30 : decode cX2_draw 30 = .ok (.ldc 86, 2) := by decide +kernel
theorem dX2_draw_32 : decode cX2_draw 32 = .ok (.idiv, 1) := by decide +kernel
theorem dX2_draw_33 : decode cX2_draw 33 = .ok (.iload_n 1, 1) := by decide +kernel
theorem dX2_draw_34 : decode cX2_draw 34 = .ok (.irem, 1) := by decide +kernel
theorem dX2_draw_35 : decode cX2_draw 35 = .ok (.goto 4, 3) := by decide +kernel
theorem dX2_draw_38 : decode cX2_draw 38 = .ok (.iconst 0, 1) := by decide +kernel
theorem dX2_draw_39 : decode cX2_draw 39 = .ok (.ireturn, 1) := by decide +kernel
theorem dX2_layPages_0 : decode cX2_layPages 0 = .ok (.iconst 0, 1) := by decide +kernel
theorem dX2_layPages_1 : decode cX2_layPages 1 = .ok (.istore_n 3, 1) := by decide +kernel
theorem dX2_layPages_2 : decode cX2_layPages 2 = .ok (.iload_n 3, 1) := by decide +kernel
theorem dX2_layPages_3 : decode cX2_layPages 3 = .ok (.aload_n 0, 1) := by decide +kernel
theorem dX2_layPages_4 : decode cX2_layPages 4 = .ok (.getfield 38, 3) := by decide +kernel
theorem dX2_layPages_7 : decode cX2_layPages 7 = .ok (.getfield 87, 3) := by decide +kernel
theorem dX2_layPages_10 : decode cX2_layPages 10 = .ok (.if_icmp .ge 45, 3) := by decide +kernel
theorem dX2_layPages_13 : decode cX2_layPages 13 = .ok (.iload_n 3, 1) := by decide +kernel
theorem dX2_layPages_14 : decode cX2_layPages 14 = .ok (.bipush 24, 2) := by decide +kernel
theorem dX2_layPages_16 : decode cX2_layPages 16 = .ok (.if_icmp .ge 39, 3) := by decide +kernel
theorem dX2_layPages_19 : decode cX2_layPages 19 = .ok (.aload_n 0, 1) := by decide +kernel
theorem dX2_layPages_20 : decode cX2_layPages 20 = .ok (.getfield 9, 3) := by decide +kernel
theorem dX2_layPages_23 : decode cX2_layPages 23 = .ok (.iload_n 3, 1) := by decide +kernel
theorem dX2_layPages_24 : decode cX2_layPages 24 = .ok (.iaload, 1) := by decide +kernel
theorem dX2_layPages_25 : decode cX2_layPages 25 = .ok (.iconst 1, 1) := by decide +kernel
theorem dX2_layPages_26 : decode cX2_layPages 26 = .ok (.isub, 1) := by decide +kernel
theorem dX2_layPages_27 : decode cX2_layPages 27 = .ok (.istore 4, 2) := by decide +kernel
theorem dX2_layPages_29 : decode cX2_layPages 29 = .ok (.iload 4, 2) := by decide +kernel
theorem dX2_layPages_31 : decode cX2_layPages 31 = .ok (.ifCond .lt 18, 3) := by decide +kernel
theorem dX2_layPages_34 : decode cX2_layPages 34 = .ok (.iload 4, 2) := by decide +kernel
theorem dX2_layPages_36 : decode cX2_layPages 36 = .ok (.bipush 24, 2) := by decide +kernel
theorem dX2_layPages_38 : decode cX2_layPages 38 = .ok (.if_icmp .ge 11, 3) := by decide +kernel
theorem dX2_layPages_41 : decode cX2_layPages 41 = .ok (.aload_n 0, 1) := by decide +kernel
theorem dX2_layPages_42 : decode cX2_layPages 42 = .ok (.getfield 35, 3) := by decide +kernel
theorem dX2_layPages_45 : decode cX2_layPages 45 = .ok (.iload 4, 2) := by decide +kernel
theorem dX2_layPages_47 : decode cX2_layPages 47 = .ok (.iload_n 3, 1) := by decide +kernel
theorem dX2_layPages_48 : decode cX2_layPages 48 = .ok (.iastore, 1) := by decide +kernel
theorem dX2_layPages_49 : decode cX2_layPages 49 = .ok (.iinc 3 1, 3) := by decide +kernel
theorem dX2_layPages_52 : decode cX2_layPages 52 = .ok (.goto (-50), 3) := by decide +kernel
theorem dX2_layPages_55 : decode cX2_layPages 55 = .ok (.iconst 0, 1) := by decide +kernel
theorem dX2_layPages_56 : decode cX2_layPages 56 = .ok (.istore_n 3, 1) := by decide +kernel
theorem dX2_layPages_57 : decode cX2_layPages 57 = .ok (.iconst 0, 1) := by decide +kernel
theorem dX2_layPages_58 : decode cX2_layPages 58 = .ok (.istore 4, 2) := by decide +kernel
theorem dX2_layPages_60 : decode cX2_layPages 60 = .ok (.iconst 0, 1) := by decide +kernel
theorem dX2_layPages_61 : decode cX2_layPages 61 = .ok (.istore 5, 2) := by decide +kernel
theorem dX2_layPages_63 : decode cX2_layPages 63 = .ok (.iload 5, 2) := by decide +kernel
theorem dX2_layPages_65 : decode cX2_layPages 65 = .ok (.aload_n 0, 1) := by decide +kernel
theorem dX2_layPages_66 : decode cX2_layPages 66 = .ok (.getfield 38, 3) := by decide +kernel
theorem dX2_layPages_69 : decode cX2_layPages 69 = .ok (.getfield 87, 3) := by decide +kernel
theorem dX2_layPages_72 : decode cX2_layPages 72 = .ok (.if_icmp .ge 68, 3) := by decide +kernel
theorem dX2_layPages_75 : decode cX2_layPages 75 = .ok (.iload 5, 2) := by decide +kernel
theorem dX2_layPages_77 : decode cX2_layPages 77 = .ok (.bipush 24, 2) := by decide +kernel
theorem dX2_layPages_79 : decode cX2_layPages 79 = .ok (.if_icmp .ge 61, 3) := by decide +kernel
theorem dX2_layPages_82 : decode cX2_layPages 82 = .ok (.aload_n 0, 1) := by decide +kernel
theorem dX2_layPages_83 : decode cX2_layPages 83 = .ok (.getfield 35, 3) := by decide +kernel
theorem dX2_layPages_86 : decode cX2_layPages 86 = .ok (.iload 5, 2) := by decide +kernel
theorem dX2_layPages_88 : decode cX2_layPages 88 = .ok (.iaload, 1) := by decide +kernel
theorem dX2_layPages_89 : decode cX2_layPages 89 = .ok (.istore 6, 2) := by decide +kernel
theorem dX2_layPages_91 : decode cX2_layPages 91 = .ok (.aload_n 0, 1) := by decide +kernel
theorem dX2_layPages_92 : decode cX2_layPages 92 = .ok (.getfield 38, 3) := by decide +kernel
theorem dX2_layPages_95 : decode cX2_layPages 95 = .ok (.iload 6, 2) := by decide +kernel
theorem dX2_layPages_97 : decode cX2_layPages 97 = .ok (.invokevirtual 90, 3) := by decide +kernel
theorem dX2_layPages_100 : decode cX2_layPages 100 = .ok (.istore 7, 2) := by decide +kernel
theorem dX2_layPages_102 : decode cX2_layPages 102 = .ok (.iload 4, 2) := by decide +kernel
theorem dX2_layPages_104 : decode cX2_layPages 104 = .ok (.ifCond .le 18, 3) := by decide +kernel
theorem dX2_layPages_107 : decode cX2_layPages 107 = .ok (.iload 4, 2) := by decide +kernel
theorem dX2_layPages_109 : decode cX2_layPages 109 = .ok (.iload 7, 2) := by decide +kernel
theorem dX2_layPages_111 : decode cX2_layPages 111 = .ok (.iadd, 1) := by decide +kernel
theorem dX2_layPages_112 : decode cX2_layPages 112 = .ok (.iload_n 1, 1) := by decide +kernel
theorem dX2_layPages_113 : decode cX2_layPages 113 = .ok (.if_icmp .le 9, 3) := by decide +kernel
theorem dX2_layPages_116 : decode cX2_layPages 116 = .ok (.iinc 3 1, 3) := by decide +kernel
theorem dX2_layPages_119 : decode cX2_layPages 119 = .ok (.iconst 0, 1) := by decide +kernel
theorem dX2_layPages_120 : decode cX2_layPages 120 = .ok (.istore 4, 2) := by decide +kernel
theorem dX2_layPages_122 : decode cX2_layPages 122 = .ok (.iload 4, 2) := by decide +kernel
theorem dX2_layPages_124 : decode cX2_layPages 124 = .ok (.iload 7, 2) := by decide +kernel
theorem dX2_layPages_126 : decode cX2_layPages 126 = .ok (.iadd, 1) := by decide +kernel
theorem dX2_layPages_127 : decode cX2_layPages 127 = .ok (.istore 4, 2) := by decide +kernel
theorem dX2_layPages_129 : decode cX2_layPages 129 = .ok (.aload_n 2, 1) := by decide +kernel
theorem dX2_layPages_130 : decode cX2_layPages 130 = .ok (.iload 6, 2) := by decide +kernel
theorem dX2_layPages_132 : decode cX2_layPages 132 = .ok (.iload_n 3, 1) := by decide +kernel
theorem dX2_layPages_133 : decode cX2_layPages 133 = .ok (.iastore, 1) := by decide +kernel
theorem dX2_layPages_134 : decode cX2_layPages 134 = .ok (.iinc 5 1, 3) := by decide +kernel
theorem dX2_layPages_137 : decode cX2_layPages 137 = .ok (.goto (-74), 3) := by decide +kernel
theorem dX2_layPages_140 : decode cX2_layPages 140 = .ok (.return_, 1) := by decide +kernel
theorem dX2_flipsOver_0 : decode cX2_flipsOver 0 = .ok (.iconst 0, 1) := by decide +kernel
theorem dX2_flipsOver_1 : decode cX2_flipsOver 1 = .ok (.istore_n 2, 1) := by decide +kernel
theorem dX2_flipsOver_2 : decode cX2_flipsOver 2 = .ok (.iconst 0, 1) := by decide +kernel
theorem dX2_flipsOver_3 : decode cX2_flipsOver 3 = .ok (.istore_n 3, 1) := by decide +kernel
theorem dX2_flipsOver_4 : decode cX2_flipsOver 4 = .ok (.iload_n 3, 1) := by decide +kernel
theorem dX2_flipsOver_5 : decode cX2_flipsOver 5 = .ok (.aload_n 0, 1) := by decide +kernel
theorem dX2_flipsOver_6 : decode cX2_flipsOver 6 = .ok (.getfield 38, 3) := by decide +kernel
theorem dX2_flipsOver_9 : decode cX2_flipsOver 9 = .ok (.getfield 87, 3) := by decide +kernel
theorem dX2_flipsOver_12 : decode cX2_flipsOver 12 = .ok (.if_icmp .ge 70, 3) := by decide +kernel
theorem dX2_flipsOver_15 : decode cX2_flipsOver 15 = .ok (.iload_n 3, 1) := by decide +kernel
theorem dX2_flipsOver_16 : decode cX2_flipsOver 16 = .ok (.bipush 24, 2) := by decide +kernel
theorem dX2_flipsOver_18 : decode cX2_flipsOver 18 = .ok (.if_icmp .ge 64, 3) := by decide +kernel
theorem dX2_flipsOver_21 : decode cX2_flipsOver 21 = .ok (.iconst 0, 1) := by decide +kernel
theorem dX2_flipsOver_22 : decode cX2_flipsOver 22 = .ok (.istore 4, 2) := by decide +kernel
theorem dX2_flipsOver_24 : decode cX2_flipsOver 24 = .ok (.iload 4, 2) := by decide +kernel
theorem dX2_flipsOver_26 : decode cX2_flipsOver 26 = .ok (.aload_n 0, 1) := by decide +kernel
theorem dX2_flipsOver_27 : decode cX2_flipsOver 27 = .ok (.getfield 38, 3) := by decide +kernel
theorem dX2_flipsOver_30 : decode cX2_flipsOver 30 = .ok (.getfield 87, 3) := by decide +kernel
theorem dX2_flipsOver_33 : decode cX2_flipsOver 33 = .ok (.if_icmp .ge 43, 3) := by decide +kernel
theorem dX2_flipsOver_36 : decode cX2_flipsOver 36 = .ok (.iload 4, 2) := by decide +kernel
theorem dX2_flipsOver_38 : decode cX2_flipsOver 38 = .ok (.bipush 24, 2) := by decide +kernel
theorem dX2_flipsOver_40 : decode cX2_flipsOver 40 = .ok (.if_icmp .ge 36, 3) := by decide +kernel
theorem dX2_flipsOver_43 : decode cX2_flipsOver 43 = .ok (.iload_n 2, 1) := by decide +kernel
theorem dX2_flipsOver_44 : decode cX2_flipsOver 44 = .ok (.aload_n 0, 1) := by decide +kernel
theorem dX2_flipsOver_45 : decode cX2_flipsOver 45 = .ok (.getfield 32, 3) := by decide +kernel
theorem dX2_flipsOver_48 : decode cX2_flipsOver 48 = .ok (.iload_n 3, 1) := by decide +kernel
theorem dX2_flipsOver_49 : decode cX2_flipsOver 49 = .ok (.bipush 24, 2) := by decide +kernel
theorem dX2_flipsOver_51 : decode cX2_flipsOver 51 = .ok (.imul, 1) := by decide +kernel
theorem dX2_flipsOver_52 : decode cX2_flipsOver 52 = .ok (.iload 4, 2) := by decide +kernel
theorem dX2_flipsOver_54 : decode cX2_flipsOver 54 = .ok (.iadd, 1) := by decide +kernel
theorem dX2_flipsOver_55 : decode cX2_flipsOver 55 = .ok (.iaload, 1) := by decide +kernel
theorem dX2_flipsOver_56 : decode cX2_flipsOver 56 = .ok (.aload_n 1, 1) := by decide +kernel
theorem dX2_flipsOver_57 : decode cX2_flipsOver 57 = .ok (.iload_n 3, 1) := by decide +kernel
theorem dX2_flipsOver_58 : decode cX2_flipsOver 58 = .ok (.iaload, 1) := by decide +kernel
theorem dX2_flipsOver_59 : decode cX2_flipsOver 59 = .ok (.aload_n 1, 1) := by decide +kernel
theorem dX2_flipsOver_60 : decode cX2_flipsOver 60 = .ok (.iload 4, 2) := by decide +kernel
theorem dX2_flipsOver_62 : decode cX2_flipsOver 62 = .ok (.iaload, 1) := by decide +kernel
theorem dX2_flipsOver_63 : decode cX2_flipsOver 63 = .ok (.isub, 1) := by decide +kernel
theorem dX2_flipsOver_64 : decode cX2_flipsOver 64 = .ok (.invokestatic 93, 3) := by decide +kernel
theorem dX2_flipsOver_67 : decode cX2_flipsOver 67 = .ok (.imul, 1) := by decide +kernel
theorem dX2_flipsOver_68 : decode cX2_flipsOver 68 = .ok (.iadd, 1) := by decide +kernel
theorem dX2_flipsOver_69 : decode cX2_flipsOver 69 = .ok (.istore_n 2, 1) := by decide +kernel
theorem dX2_flipsOver_70 : decode cX2_flipsOver 70 = .ok (.iinc 4 1, 3) := by decide +kernel
theorem dX2_flipsOver_73 : decode cX2_flipsOver 73 = .ok (.goto (-49), 3) := by decide +kernel
theorem dX2_flipsOver_76 : decode cX2_flipsOver 76 = .ok (.iinc 3 1, 3) := by decide +kernel
theorem dX2_flipsOver_79 : decode cX2_flipsOver 79 = .ok (.goto (-75), 3) := by decide +kernel
theorem dX2_flipsOver_82 : decode cX2_flipsOver 82 = .ok (.iload_n 2, 1) := by decide +kernel
theorem dX2_flipsOver_83 : decode cX2_flipsOver 83 = .ok (.ireturn, 1) := by decide +kernel
theorem dX3_pack_0 : decode cX3_pack 0 = .ok (.iload_n 0, 1) := by decide +kernel
theorem dX3_pack_1 : decode cX3_pack 1 = .ok (.bipush 14, 2) := by decide +kernel
theorem dX3_pack_3 : decode cX3_pack 3 = .ok (.ishl, 1) := by decide +kernel
theorem dX3_pack_4 : decode cX3_pack 4 = .ok (.iload_n 1, 1) := by decide +kernel
theorem dX3_pack_5 : decode cX3_pack 5 = .ok (.bipush 6, 2) := by decide +kernel
theorem dX3_pack_7 : decode cX3_pack 7 = .ok (.ishl, 1) := by decide +kernel
theorem dX3_pack_8 : decode cX3_pack 8 = .ok (.ior, 1) := by decide +kernel
theorem dX3_pack_9 : decode cX3_pack 9 = .ok (.iload_n 2, 1) := by decide +kernel
theorem dX3_pack_10 : decode cX3_pack 10 = .ok (.iconst 2, 1) := by decide +kernel
theorem dX3_pack_11 : decode cX3_pack 11 = .ok (.ishl, 1) := by decide +kernel
theorem dX3_pack_12 : decode cX3_pack 12 = .ok (.ior, 1) := by decide +kernel
theorem dX3_pack_13 : decode cX3_pack 13 = .ok (.iload_n 3, 1) := by decide +kernel
theorem dX3_pack_14 : decode cX3_pack 14 = .ok (.ior, 1) := by decide +kernel
theorem dX3_pack_15 : decode cX3_pack 15 = .ok (.ireturn, 1) := by decide +kernel
theorem dX3_partOf_0 : decode cX3_partOf 0 = .ok (.iload_n 0, 1) := by decide +kernel
theorem dX3_partOf_1 : decode cX3_partOf 1 = .ok (.bipush 14, 2) := by decide +kernel
theorem dX3_partOf_3 : decode cX3_partOf 3 = .ok (.ishr, 1) := by decide +kernel
theorem dX3_partOf_4 : decode cX3_partOf 4 = .ok (.bipush 31, 2) := by decide +kernel
theorem dX3_partOf_6 : decode cX3_partOf 6 = .ok (.iand, 1) := by decide +kernel
theorem dX3_partOf_7 : decode cX3_partOf 7 = .ok (.ireturn, 1) := by decide +kernel
theorem dX3_thingsOf_0 : decode cX3_thingsOf 0 = .ok (.iload_n 0, 1) := by decide +kernel
theorem dX3_thingsOf_1 : decode cX3_thingsOf 1 = .ok (.bipush 6, 2) := by decide +kernel
theorem dX3_thingsOf_3 : decode cX3_thingsOf 3 = .ok (.ishr, 1) := by decide +kernel
theorem dX3_thingsOf_4 : decode cX3_thingsOf 4 = .ok (.sipush 255, 3) := by decide +kernel
theorem dX3_thingsOf_7 : decode cX3_thingsOf 7 = .ok (.iand, 1) := by decide +kernel
theorem dX3_thingsOf_8 : decode cX3_thingsOf 8 = .ok (.ireturn, 1) := by decide +kernel
theorem dX3_healthOf_0 : decode cX3_healthOf 0 = .ok (.iload_n 0, 1) := by decide +kernel
theorem dX3_healthOf_1 : decode cX3_healthOf 1 = .ok (.iconst 2, 1) := by decide +kernel
theorem dX3_healthOf_2 : decode cX3_healthOf 2 = .ok (.ishr, 1) := by decide +kernel
theorem dX3_healthOf_3 : decode cX3_healthOf 3 = .ok (.bipush 15, 2) := by decide +kernel
theorem dX3_healthOf_5 : decode cX3_healthOf 5 = .ok (.iand, 1) := by decide +kernel
theorem dX3_healthOf_6 : decode cX3_healthOf 6 = .ok (.ireturn, 1) := by decide +kernel
theorem dX3_fateOf_0 : decode cX3_fateOf 0 = .ok (.iload_n 0, 1) := by decide +kernel
theorem dX3_fateOf_1 : decode cX3_fateOf 1 = .ok (.iconst 3, 1) := by decide +kernel
theorem dX3_fateOf_2 : decode cX3_fateOf 2 = .ok (.iand, 1) := by decide +kernel
theorem dX3_fateOf_3 : decode cX3_fateOf 3 = .ok (.ireturn, 1) := by decide +kernel
theorem dX3_isOver_0 : decode cX3_isOver 0 = .ok (.iload_n 0, 1) := by decide +kernel
theorem dX3_isOver_1 : decode cX3_isOver 1 = .ok (.iconst 3, 1) := by decide +kernel
theorem dX3_isOver_2 : decode cX3_isOver 2 = .ok (.iand, 1) := by decide +kernel
theorem dX3_isOver_3 : decode cX3_isOver 3 = .ok (.ifCond .eq 7, 3) := by decide +kernel
theorem dX3_isOver_6 : decode cX3_isOver 6 = .ok (.iconst 1, 1) := by decide +kernel
theorem dX3_isOver_7 : decode cX3_isOver 7 = .ok (.goto 4, 3) := by decide +kernel
theorem dX3_isOver_10 : decode cX3_isOver 10 = .ok (.iconst 0, 1) := by decide +kernel
theorem dX3_isOver_11 : decode cX3_isOver 11 = .ok (.ireturn, 1) := by decide +kernel
theorem dX4_init_0 : decode cX4_init 0 = .ok (.aload_n 0, 1) := by decide +kernel
theorem dX4_init_1 : decode cX4_init 1 = .ok (.invokespecial 5, 3) := by decide +kernel
theorem dX4_init_4 : decode cX4_init 4 = .ok (.aload_n 0, 1) := by decide +kernel
theorem dX4_init_5 : decode cX4_init 5 = .ok (.iconst 0, 1) := by decide +kernel
theorem dX4_init_6 : decode cX4_init 6 = .ok (.putfield 11, 3) := by decide +kernel
theorem dX4_init_9 : decode cX4_init 9 = .ok (.aload_n 0, 1) := by decide +kernel
theorem dX4_init_10 : decode cX4_init 10 = .ok (.iconst 0, 1) := by decide +kernel
theorem dX4_init_11 : decode cX4_init 11 = .ok (.putfield 15, 3) := by decide +kernel
theorem dX4_init_14 : decode cX4_init 14 = .ok (.aload_n 0, 1) := by decide +kernel
theorem dX4_init_15 : decode cX4_init 15 = .ok (.iconst 0, 1) := by decide +kernel
theorem dX4_init_16 : decode cX4_init 16 = .ok (.putfield 18, 3) := by decide +kernel
theorem dX4_init_19 : decode cX4_init 19 = .ok (.aload_n 0, 1) := by decide +kernel
theorem dX4_init_20 : decode cX4_init 20 = .ok (.iconst 0, 1) := by decide +kernel
theorem dX4_init_21 : decode cX4_init 21 = .ok (.putfield 22, 3) := by decide +kernel
theorem dX4_init_24 : decode cX4_init 24 = .ok (.aload_n 0, 1) := by decide +kernel
theorem dX4_init_25 : decode cX4_init 25 = .ok (.iconst 0, 1) := by decide +kernel
theorem dX4_init_26 : decode cX4_init 26 = .ok (.putfield 25, 3) := by decide +kernel
theorem dX4_init_29 : decode cX4_init 29 = .ok (.aload_n 0, 1) := by decide +kernel
theorem dX4_init_30 : decode cX4_init 30 = .ok (.iconst 0, 1) := by decide +kernel
theorem dX4_init_31 : decode cX4_init 31 = .ok (.putfield 28, 3) := by decide +kernel
theorem dX4_init_34 : decode cX4_init 34 = .ok (.aload_n 0, 1) := by decide +kernel
theorem dX4_init_35 : decode cX4_init 35 = .ok (.bipush 64, 2) := by decide +kernel
theorem dX4_init_37 : decode cX4_init 37 = .ok (.newarray .int, 2) := by decide +kernel
theorem dX4_init_39 : decode cX4_init 39 = .ok (.putfield 31, 3) := by decide +kernel
theorem dX4_init_42 : decode cX4_init 42 = .ok (.aload_n 0, 1) := by decide +kernel
theorem dX4_init_43 : decode cX4_init 43 = .ok (.bipush 65, 2) := by decide +kernel
theorem dX4_init_45 : decode cX4_init 45 = .ok (.newarray .int, 2) := by decide +kernel
theorem dX4_init_47 : decode cX4_init 47 = .ok (.putfield 35, 3) := by decide +kernel
theorem dX4_init_50 : decode cX4_init 50 = .ok (.aload_n 0, 1) := by decide +kernel
theorem dX4_init_51 : decode cX4_init 51 = .ok (.sipush 256, 3) := by decide +kernel
theorem dX4_init_54 : decode cX4_init 54 = .ok (.newarray .int, 2) := by decide +kernel
theorem dX4_init_56 : decode cX4_init 56 = .ok (.putfield 38, 3) := by decide +kernel
theorem dX4_init_59 : decode cX4_init 59 = .ok (.aload_n 0, 1) := by decide +kernel
theorem dX4_init_60 : decode cX4_init 60 = .ok (.iconst 0, 1) := by decide +kernel
theorem dX4_init_61 : decode cX4_init 61 = .ok (.newarray .int, 2) := by decide +kernel
theorem dX4_init_63 : decode cX4_init 63 = .ok (.putfield 41, 3) := by decide +kernel
theorem dX4_init_66 : decode cX4_init 66 = .ok (.aload_n 0, 1) := by decide +kernel
theorem dX4_init_67 : decode cX4_init 67 = .ok (.bipush 64, 2) := by decide +kernel
theorem dX4_init_69 : decode cX4_init 69 = .ok (.newarray .int, 2) := by decide +kernel
theorem dX4_init_71 : decode cX4_init 71 = .ok (.putfield 44, 3) := by decide +kernel
theorem dX4_init_74 : decode cX4_init 74 = .ok (.aload_n 0, 1) := by decide +kernel
theorem dX4_init_75 : decode cX4_init 75 = .ok (.bipush 64, 2) := by decide +kernel
theorem dX4_init_77 : decode cX4_init 77 = .ok (.newarray .int, 2) := by decide +kernel
theorem dX4_init_79 : decode cX4_init 79 = .ok (.putfield 47, 3) := by decide +kernel
theorem dX4_init_82 : decode cX4_init 82 = .ok (.aload_n 0, 1) := by decide +kernel
theorem dX4_init_83 : decode cX4_init 83 = .ok (.iconst (-1), 1) := by decide +kernel
theorem dX4_init_84 : decode cX4_init 84 = .ok (.putfield 50, 3) := by decide +kernel
theorem dX4_init_87 : decode cX4_init 87 = .ok (.aload_n 0, 1) := by decide +kernel
theorem dX4_init_88 : decode cX4_init 88 = .ok (.iconst 0, 1) := by decide +kernel
theorem dX4_init_89 : decode cX4_init 89 = .ok (.putfield 53, 3) := by decide +kernel
theorem dX4_init_92 : decode cX4_init 92 = .ok (.aload_n 0, 1) := by decide +kernel
theorem dX4_init_93 : decode cX4_init 93 = .ok (.bipush 64, 2) := by decide +kernel
theorem dX4_init_95 : decode cX4_init 95 = .ok (.newarray .int, 2) := by decide +kernel
theorem dX4_init_97 : decode cX4_init 97 = .ok (.putfield 56, 3) := by decide +kernel
theorem dX4_init_100 : decode cX4_init 100 = .ok (.aload_n 0, 1) := by decide +kernel
theorem dX4_init_101 : decode cX4_init 101 = .ok (.iconst 0, 1) := by decide +kernel
theorem dX4_init_102 : decode cX4_init 102 = .ok (.putfield 59, 3) := by decide +kernel
theorem dX4_init_105 : decode cX4_init 105 = .ok (.aload_n 0, 1) := by decide +kernel
theorem dX4_init_106 : decode cX4_init 106 = .ok (.aload_n 1, 1) := by decide +kernel
theorem dX4_init_107 : decode cX4_init 107 = .ok (.putfield 62, 3) := by decide +kernel
theorem dX4_init_110 : decode cX4_init 110 = .ok (.return_, 1) := by decide +kernel
theorem dX4_build_0 : decode cX4_build 0 = .ok (.aload_n 0, 1) := by decide +kernel
theorem dX4_build_1 : decode cX4_build 1 = .ok (.invokevirtual 66, 3) := by decide +kernel
theorem dX4_build_4 : decode cX4_build 4 = .ok (.aload_n 0, 1) := by decide +kernel
theorem dX4_build_5 : decode cX4_build 5 = .ok (.iconst 0, 1) := by decide +kernel
theorem dX4_build_6 : decode cX4_build 6 = .ok (.putfield 18, 3) := by decide +kernel
theorem dX4_build_9 : decode cX4_build 9 = .ok (.aload_n 0, 1) := by decide +kernel
theorem dX4_build_10 : decode cX4_build 10 = .ok (.getfield 62, 3) := by decide +kernel
theorem dX4_build_13 : decode cX4_build 13 = .ok (.iconst 0, 1) := by decide +kernel
theorem dX4_build_14 : decode cX4_build 14 = .ok (.invokevirtual 69, 3) := by decide +kernel
theorem dX4_build_17 : decode cX4_build 17 = .ok (.ifCond .eq 37, 3) := by decide +kernel
theorem dX4_build_20 : decode cX4_build 20 = .ok (.iload_n 2, 1) := by decide +kernel
theorem dX4_build_21 : decode cX4_build 21 = .ok (.ifCond .eq 33, 3) := by decide +kernel
theorem dX4_build_24 : decode cX4_build 24 = .ok (.aload_n 0, 1) := by decide +kernel
theorem dX4_build_25 : decode cX4_build 25 = .ok (.iconst 1, 1) := by decide +kernel
theorem dX4_build_26 : decode cX4_build 26 = .ok (.putfield 28, 3) := by decide +kernel
theorem dX4_build_29 : decode cX4_build 29 = .ok (.aload_n 0, 1) := by decide +kernel
theorem dX4_build_30 : decode cX4_build 30 = .ok (.aload_n 0, 1) := by decide +kernel
theorem dX4_build_31 : decode cX4_build 31 = .ok (.getfield 62, 3) := by decide +kernel
theorem dX4_build_34 : decode cX4_build 34 = .ok (.iload_n 1, 1) := by decide +kernel
theorem dX4_build_35 : decode cX4_build 35 = .ok (.invokevirtual 75, 3) := by decide +kernel
theorem dX4_build_38 : decode cX4_build 38 = .ok (.invokevirtual 79, 3) := by decide +kernel
theorem dX4_build_41 : decode cX4_build 41 = .ok (.pop, 1) := by decide +kernel
theorem dX4_build_42 : decode cX4_build 42 = .ok (.aload_n 0, 1) := by decide +kernel
theorem dX4_build_43 : decode cX4_build 43 = .ok (.aload_n 0, 1) := by decide +kernel
theorem dX4_build_44 : decode cX4_build 44 = .ok (.iconst 0, 1) := by decide +kernel
theorem dX4_build_45 : decode cX4_build 45 = .ok (.iload_n 1, 1) := by decide +kernel
theorem dX4_build_46 : decode cX4_build 46 = .ok (.iload_n 2, 1) := by decide +kernel
theorem dX4_build_47 : decode cX4_build 47 = .ok (.iload_n 3, 1) := by decide +kernel
theorem dX4_build_48 : decode cX4_build 48 = .ok (.invokevirtual 82, 3) := by decide +kernel
theorem dX4_build_51 : decode cX4_build 51 = .ok (.putfield 18, 3) := by decide +kernel
theorem dX4_build_54 : decode cX4_build 54 = .ok (.aload_n 0, 1) := by decide +kernel
theorem dX4_build_55 : decode cX4_build 55 = .ok (.aload_n 0, 1) := by decide +kernel
theorem dX4_build_56 : decode cX4_build 56 = .ok (.getfield 22, 3) := by decide +kernel
theorem dX4_build_59 : decode cX4_build 59 = .ok (.putfield 11, 3) := by decide +kernel
theorem dX4_build_62 : decode cX4_build 62 = .ok (.aload_n 0, 1) := by decide +kernel
theorem dX4_build_63 : decode cX4_build 63 = .ok (.aload_n 0, 1) := by decide +kernel
theorem dX4_build_64 : decode cX4_build 64 = .ok (.getfield 28, 3) := by decide +kernel
theorem dX4_build_67 : decode cX4_build 67 = .ok (.putfield 15, 3) := by decide +kernel
theorem dX4_build_70 : decode cX4_build 70 = .ok (.return_, 1) := by decide +kernel
theorem dX4_include_0 : decode cX4_include 0 = .ok (.aload_n 0, 1) := by decide +kernel
theorem dX4_include_1 : decode cX4_include 1 = .ok (.getfield 22, 3) := by decide +kernel
theorem dX4_include_4 : decode cX4_include 4 = .ok (.istore_n 2, 1) := by decide +kernel
theorem dX4_include_5 : decode cX4_include 5 = .ok (.aload_n 0, 1) := by decide +kernel
theorem dX4_include_6 : decode cX4_include 6 = .ok (.iload_n 1, 1) := by decide +kernel
theorem dX4_include_7 : decode cX4_include 7 = .ok (.invokevirtual 79, 3) := by decide +kernel
theorem dX4_include_10 : decode cX4_include 10 = .ok (.istore_n 3, 1) := by decide +kernel
theorem dX4_include_11 : decode cX4_include 11 = .ok (.aload_n 0, 1) := by decide +kernel
theorem dX4_include_12 : decode cX4_include 12 = .ok (.getfield 22, 3) := by decide +kernel
theorem dX4_include_15 : decode cX4_include 15 = .ok (.iload_n 2, 1) := by decide +kernel
theorem dX4_include_16 : decode cX4_include 16 = .ok (.if_icmp .le 16, 3) := by decide +kernel
theorem dX4_include_19 : decode cX4_include 19 = .ok (.aload_n 0, 1) := by decide +kernel
theorem dX4_include_20 : decode cX4_include 20 = .ok (.iload_n 2, 1) := by decide +kernel
theorem dX4_include_21 : decode cX4_include 21 = .ok (.iconst (-1), 1) := by decide +kernel
theorem dX4_include_22 : decode cX4_include 22 = .ok (.iconst (-1), 1) := by decide +kernel
theorem dX4_include_23 : decode cX4_include 23 = .ok (.iconst 0, 1) := by decide +kernel
theorem dX4_include_24 : decode cX4_include 24 = .ok (.invokevirtual 82, 3) := by decide +kernel
theorem dX4_include_27 : decode cX4_include 27 = .ok (.pop, 1) := by decide +kernel
theorem dX4_include_28 : decode cX4_include 28 = .ok (.aload_n 0, 1) := by decide +kernel
theorem dX4_include_29 : decode cX4_include 29 = .ok (.invokevirtual 86, 3) := by decide +kernel
theorem dX4_include_32 : decode cX4_include 32 = .ok (.iload_n 3, 1) := by decide +kernel
theorem dX4_include_33 : decode cX4_include 33 = .ok (.ireturn, 1) := by decide +kernel
theorem dX4_find_0 : decode cX4_find 0 = .ok (.iload_n 1, 1) := by decide +kernel
theorem dX4_find_1 : decode cX4_find 1 = .ok (.invokestatic 89, 3) := by decide +kernel
theorem dX4_find_4 : decode cX4_find 4 = .ok (.istore_n 2, 1) := by decide +kernel
theorem dX4_find_5 : decode cX4_find 5 = .ok (.iload_n 1, 1) := by decide +kernel
theorem dX4_find_6 : decode cX4_find 6 = .ok (.invokestatic 92, 3) := by decide +kernel
theorem dX4_find_9 : decode cX4_find 9 = .ok (.iconst 2, 1) := by decide +kernel
theorem dX4_find_10 : decode cX4_find 10 = .ok (.if_icmp .eq 16, 3) := by decide +kernel
theorem dX4_find_13 : decode cX4_find 13 = .ok (.iload_n 2, 1) := by decide +kernel
theorem dX4_find_14 : decode cX4_find 14 = .ok (.ifCond .lt 12, 3) := by decide +kernel
theorem dX4_find_17 : decode cX4_find 17 = .ok (.iload_n 2, 1) := by decide +kernel
theorem dX4_find_18 : decode cX4_find 18 = .ok (.aload_n 0, 1) := by decide +kernel
theorem dX4_find_19 : decode cX4_find 19 = .ok (.getfield 41, 3) := by decide +kernel
theorem dX4_find_22 : decode cX4_find 22 = .ok (.arraylength, 1) := by decide +kernel
theorem dX4_find_23 : decode cX4_find 23 = .ok (.if_icmp .lt 5, 3) := by decide +kernel
theorem dX4_find_26 : decode cX4_find 26 = .ok (.iconst (-1), 1) := by decide +kernel
theorem dX4_find_27 : decode cX4_find 27 = .ok (.ireturn, 1) := by decide +kernel
theorem dX4_find_28 : decode cX4_find 28 = .ok (.aload_n 0, 1) := by decide +kernel
theorem dX4_find_29 : decode cX4_find 29 = .ok (.getfield 41, 3) := by decide +kernel
theorem dX4_find_32 : decode cX4_find 32 = .ok (.iload_n 2, 1) := by decide +kernel
theorem dX4_find_33 : decode cX4_find 33 = .ok (.iaload, 1) := by decide +kernel
theorem dX4_find_34 : decode cX4_find 34 = .ok (.iconst 1, 1) := by decide +kernel
theorem dX4_find_35 : decode cX4_find 35 = .ok (.isub, 1) := by decide +kernel
theorem dX4_find_36 : decode cX4_find 36 = .ok (.ireturn, 1) := by decide +kernel
theorem dX4_runTurns_0 : decode cX4_runTurns 0 = .ok (.aload_n 0, 1) := by decide +kernel
theorem dX4_runTurns_1 : decode cX4_runTurns 1 = .ok (.getfield 50, 3) := by decide +kernel
theorem dX4_runTurns_4 : decode cX4_runTurns 4 = .ok (.iconst (-1), 1) := by decide +kernel
theorem dX4_runTurns_5 : decode cX4_runTurns 5 = .ok (.if_icmp .eq 11, 3) := by decide +kernel
theorem dX4_runTurns_8 : decode cX4_runTurns 8 = .ok (.aload_n 0, 1) := by decide +kernel
theorem dX4_runTurns_9 : decode cX4_runTurns 9 = .ok (.getfield 50, 3) := by decide +kernel
theorem dX4_runTurns_12 : decode cX4_runTurns 12 = .ok (.iload_n 1, 1) := by decide +kernel
theorem dX4_runTurns_13 : decode cX4_runTurns 13 = .ok (.if_icmp .le 7, 3) := by decide +kernel
theorem dX4_runTurns_16 : decode cX4_runTurns 16 = .ok (.aload_n 0, 1) := by decide +kernel
theorem dX4_runTurns_17 : decode cX4_runTurns 17 = .ok (.invokevirtual 97, 3) := by decide +kernel
theorem dX4_runTurns_20 : decode cX4_runTurns 20 = .ok (.aload_n 0, 1) := by decide +kernel
theorem dX4_runTurns_21 : decode cX4_runTurns 21 = .ok (.getfield 50, 3) := by decide +kernel
theorem dX4_runTurns_24 : decode cX4_runTurns 24 = .ok (.istore_n 2, 1) := by decide +kernel
theorem dX4_runTurns_25 : decode cX4_runTurns 25 = .ok (.iload_n 2, 1) := by decide +kernel
theorem dX4_runTurns_26 : decode cX4_runTurns 26 = .ok (.iload_n 1, 1) := by decide +kernel
theorem dX4_runTurns_27 : decode cX4_runTurns 27 = .ok (.if_icmp .ge 20, 3) := by decide +kernel
theorem dX4_runTurns_30 : decode cX4_runTurns 30 = .ok (.aload_n 0, 1) := by decide +kernel
theorem dX4_runTurns_31 : decode cX4_runTurns 31 = .ok (.getfield 53, 3) := by decide +kernel
theorem dX4_runTurns_34 : decode cX4_runTurns 34 = .ok (.ifCond .ne 13, 3) := by decide +kernel
theorem dX4_runTurns_37 : decode cX4_runTurns 37 = .ok (.aload_n 0, 1) := by decide +kernel
theorem dX4_runTurns_38 : decode cX4_runTurns 38 = .ok (.invokevirtual 100, 3) := by decide +kernel
theorem dX4_runTurns_41 : decode cX4_runTurns 41 = .ok (.iinc 2 1, 3) := by decide +kernel
theorem dX4_runTurns_44 : decode cX4_runTurns 44 = .ok (.goto (-19), 3) := by decide +kernel
theorem dX4_runTurns_47 : decode cX4_runTurns 47 = .ok (.return_, 1) := by decide +kernel
theorem dX4_oddsOf_0 : decode cX4_oddsOf 0 = .ok (.iload_n 1, 1) := by decide +kernel
theorem dX4_oddsOf_1 : decode cX4_oddsOf 1 = .ok (.ifCond .lt 20, 3) := by decide +kernel
theorem dX4_oddsOf_4 : decode cX4_oddsOf 4 = .ok (.iload_n 1, 1) := by decide +kernel
theorem dX4_oddsOf_5 : decode cX4_oddsOf 5 = .ok (.aload_n 0, 1) := by decide +kernel
theorem dX4_oddsOf_6 : decode cX4_oddsOf 6 = .ok (.getfield 22, 3) := by decide +kernel
theorem dX4_oddsOf_9 : decode cX4_oddsOf 9 = .ok (.if_icmp .ge 12, 3) := by decide +kernel
theorem dX4_oddsOf_12 : decode cX4_oddsOf 12 = .ok (.aload_n 0, 1) := by decide +kernel
theorem dX4_oddsOf_13 : decode cX4_oddsOf 13 = .ok (.getfield 44, 3) := by decide +kernel
theorem dX4_oddsOf_16 : decode cX4_oddsOf 16 = .ok (.iload_n 1, 1) := by decide +kernel
theorem dX4_oddsOf_17 : decode cX4_oddsOf 17 = .ok (.iaload, 1) := by decide +kernel
theorem dX4_oddsOf_18 : decode cX4_oddsOf 18 = .ok (.goto 4, 3) := by decide +kernel
theorem dX4_oddsOf_21 : decode cX4_oddsOf 21 = .ok (.iconst 0, 1) := by decide +kernel
theorem dX4_oddsOf_22 : decode cX4_oddsOf 22 = .ok (.ireturn, 1) := by decide +kernel
theorem dX4_measureWins_0 : decode cX4_measureWins 0 = .ok (.aload_n 0, 1) := by decide +kernel
theorem dX4_measureWins_1 : decode cX4_measureWins 1 = .ok (.getfield 59, 3) := by decide +kernel
theorem dX4_measureWins_4 : decode cX4_measureWins 4 = .ok (.ifCond .eq 4, 3) := by decide +kernel
theorem dX4_measureWins_7 : decode cX4_measureWins 7 = .ok (.return_, 1) := by decide +kernel
theorem dX4_measureWins_8 : decode cX4_measureWins 8 = .ok (.aload_n 0, 1) := by decide +kernel
theorem dX4_measureWins_9 : decode cX4_measureWins 9 = .ok (.aload_n 0, 1) := by decide +kernel
theorem dX4_measureWins_10 : decode cX4_measureWins 10 = .ok (.aload_n 0, 1) := by decide +kernel
theorem dX4_measureWins_11 : decode cX4_measureWins 11 = .ok (.getfield 56, 3) := by decide +kernel
theorem dX4_measureWins_14 : decode cX4_measureWins 14 = .ok (.invokevirtual 103, 3) := by decide +kernel
theorem dX4_measureWins_17 : decode cX4_measureWins 17 = .ok (.putfield 56, 3) := by decide +kernel
theorem dX4_measureWins_20 : decode cX4_measureWins 20 = .ok (.iconst 0, 1) := by decide +kernel
theorem dX4_measureWins_21 : decode cX4_measureWins 21 = .ok (.istore_n 1, 1) := by decide +kernel
theorem dX4_measureWins_22 : decode cX4_measureWins 22 = .ok (.iload_n 1, 1) := by decide +kernel
theorem dX4_measureWins_23 : decode cX4_measureWins 23 = .ok (.aload_n 0, 1) := by decide +kernel
theorem dX4_measureWins_24 : decode cX4_measureWins 24 = .ok (.getfield 22, 3) := by decide +kernel
theorem dX4_measureWins_27 : decode cX4_measureWins 27 = .ok (.if_icmp .ge 28, 3) := by decide +kernel
theorem dX4_measureWins_30 : decode cX4_measureWins 30 = .ok (.aload_n 0, 1) := by decide +kernel
theorem dX4_measureWins_31 : decode cX4_measureWins 31 = .ok (.getfield 56, 3) := by decide +kernel
theorem dX4_measureWins_34 : decode cX4_measureWins 34 = .ok (.iload_n 1, 1) := by decide +kernel
theorem dX4_measureWins_35 : decode cX4_measureWins 35 = .ok (.aload_n 0, 1) := by decide +kernel
theorem dX4_measureWins_36 : decode cX4_measureWins 36 = .ok (.iload_n 1, 1) := by decide +kernel
theorem dX4_measureWins_37 : decode cX4_measureWins 37 = .ok (.invokevirtual 107, 3) := by decide +kernel
theorem dX4_measureWins_40 : decode cX4_measureWins 40 = .ok (.ifCond .eq 7, 3) := by decide +kernel
theorem dX4_measureWins_43 : decode cX4_measureWins 43 = .ok (.iconst 0, 1) := by decide +kernel
theorem dX4_measureWins_44 : decode cX4_measureWins 44 = .ok (.goto 4, 3) := by decide +kernel
theorem dX4_measureWins_47 : decode cX4_measureWins 47 = .ok (.iconst (-1), 1) := by decide +kernel
theorem dX4_measureWins_48 : decode cX4_measureWins 48 = .ok (.iastore, 1) := by decide +kernel
theorem dX4_measureWins_49 : decode cX4_measureWins 49 = .ok (.iinc 1 1, 3) := by decide +kernel
theorem dX4_measureWins_52 : decode cX4_measureWins 52 = .ok (.goto (-30), 3) := by decide +kernel
theorem dX4_measureWins_55 : decode cX4_measureWins 55 = .ok (.iconst 1, 1) := by decide +kernel
theorem dX4_measureWins_56 : decode cX4_measureWins 56 = .ok (.istore_n 1, 1) := by decide +kernel
theorem dX4_measureWins_57 : decode cX4_measureWins 57 = .ok (.iconst 1, 1) := by decide +kernel
theorem dX4_measureWins_58 : decode cX4_measureWins 58 = .ok (.istore_n 2, 1) := by decide +kernel
theorem dX4_measureWins_59 : decode cX4_measureWins 59 = .ok (.iload_n 2, 1) := by decide +kernel
theorem dX4_measureWins_60 : decode cX4_measureWins 60 = .ok (.aload_n 0, 1) := by decide +kernel
theorem dX4_measureWins_61 : decode cX4_measureWins 61 = .ok (.getfield 22, 3) := by decide +kernel
theorem dX4_measureWins_64 : decode cX4_measureWins 64 = .ok (.if_icmp .gt 61, 3) := by decide +kernel
theorem dX4_measureWins_67 : decode cX4_measureWins 67 = .ok (.iload_n 1, 1) := by decide +kernel
theorem dX4_measureWins_68 : decode cX4_measureWins 68 = .ok (.ifCond .eq 57, 3) := by decide +kernel
theorem dX4_measureWins_71 : decode cX4_measureWins 71 = .ok (.iconst 0, 1) := by decide +kernel
theorem dX4_measureWins_72 : decode cX4_measureWins 72 = .ok (.istore_n 1, 1) := by decide +kernel
theorem dX4_measureWins_73 : decode cX4_measureWins 73 = .ok (.iconst 0, 1) := by decide +kernel
theorem dX4_measureWins_74 : decode cX4_measureWins 74 = .ok (.istore_n 3, 1) := by decide +kernel
theorem dX4_measureWins_75 : decode cX4_measureWins 75 = .ok (.iload_n 3, 1) := by decide +kernel
theorem dX4_measureWins_76 : decode cX4_measureWins 76 = .ok (.aload_n 0, 1) := by decide +kernel
theorem dX4_measureWins_77 : decode cX4_measureWins 77 = .ok (.getfield 22, 3) := by decide +kernel
theorem dX4_measureWins_80 : decode cX4_measureWins 80 = .ok (.if_icmp .ge 39, 3) := by decide +kernel
theorem dX4_measureWins_83 : decode cX4_measureWins 83 = .ok (.aload_n 0, 1) := by decide +kernel
theorem dX4_measureWins_84 : decode cX4_measureWins 84 = .ok (.getfield 56, 3) := by decide +kernel
theorem dX4_measureWins_87 : decode cX4_measureWins 87 = .ok (.iload_n 3, 1) := by decide +kernel
theorem dX4_measureWins_88 : decode cX4_measureWins 88 = .ok (.iaload, 1) := by decide +kernel
theorem dX4_measureWins_89 : decode cX4_measureWins 89 = .ok (.iconst (-1), 1) := by decide +kernel
theorem dX4_measureWins_90 : decode cX4_measureWins 90 = .ok (.if_icmp .ne 23, 3) := by decide +kernel
theorem dX4_measureWins_93 : decode cX4_measureWins 93 = .ok (.aload_n 0, 1) := by decide +kernel
theorem dX4_measureWins_94 : decode cX4_measureWins 94 = .ok (.iload_n 3, 1) := by decide +kernel
theorem dX4_measureWins_95 : decode cX4_measureWins 95 = .ok (.iload_n 2, 1) := by decide +kernel
theorem dX4_measureWins_96 : decode cX4_measureWins 96 = .ok (.iconst 1, 1) := by decide +kernel
theorem dX4_measureWins_97 : decode cX4_measureWins 97 = .ok (.isub, 1) := by decide +kernel
theorem dX4_measureWins_98 : decode cX4_measureWins 98 = .ok (.invokevirtual 110, 3) := by decide +kernel
theorem dX4_measureWins_101 : decode cX4_measureWins 101 = .ok (.ifCond .eq 12, 3) := by decide +kernel
theorem dX4_measureWins_104 : decode cX4_measureWins 104 = .ok (.aload_n 0, 1) := by decide +kernel
theorem dX4_measureWins_105 : decode cX4_measureWins 105 = .ok (.getfield 56, 3) := by decide +kernel
theorem dX4_measureWins_108 : decode cX4_measureWins 108 = .ok (.iload_n 3, 1) := by decide +kernel
theorem dX4_measureWins_109 : decode cX4_measureWins 109 = .ok (.iload_n 2, 1) := by decide +kernel
theorem dX4_measureWins_110 : decode cX4_measureWins 110 = .ok (.iastore, 1) := by decide +kernel
theorem dX4_measureWins_111 : decode cX4_measureWins 111 = .ok (.iconst 1, 1) := by decide +kernel
theorem dX4_measureWins_112 : decode cX4_measureWins 112 = .ok (.istore_n 1, 1) := by decide +kernel
theorem dX4_measureWins_113 : decode cX4_measureWins 113 = .ok (.iinc 3 1, 3) := by decide +kernel
theorem dX4_measureWins_116 : decode cX4_measureWins 116 = .ok (.goto (-41), 3) := by decide +kernel
theorem dX4_measureWins_119 : decode cX4_measureWins 119 = .ok (.iinc 2 1, 3) := by decide +kernel
theorem dX4_measureWins_122 : decode cX4_measureWins 122 = .ok (.goto (-63), 3) := by decide +kernel
theorem dX4_measureWins_125 : decode cX4_measureWins 125 = .ok (.aload_n 0, 1) := by decide +kernel
theorem dX4_measureWins_126 : decode cX4_measureWins 126 = .ok (.iconst 1, 1) := by decide +kernel
theorem dX4_measureWins_127 : decode cX4_measureWins 127 = .ok (.putfield 59, 3) := by decide +kernel
theorem dX4_measureWins_130 : decode cX4_measureWins 130 = .ok (.return_, 1) := by decide +kernel
theorem dX4_turnsToWinOf_0 : decode cX4_turnsToWinOf 0 = .ok (.iload_n 1, 1) := by decide +kernel
theorem dX4_turnsToWinOf_1 : decode cX4_turnsToWinOf 1 = .ok (.ifCond .lt 20, 3) := by decide +kernel
theorem dX4_turnsToWinOf_4 : decode cX4_turnsToWinOf 4 = .ok (.iload_n 1, 1) := by decide +kernel
theorem dX4_turnsToWinOf_5 : decode cX4_turnsToWinOf 5 = .ok (.aload_n 0, 1) := by decide +kernel
theorem dX4_turnsToWinOf_6 : decode cX4_turnsToWinOf 6 = .ok (.getfield 22, 3) := by decide +kernel
theorem dX4_turnsToWinOf_9 : decode cX4_turnsToWinOf 9 = .ok (.if_icmp .ge 12, 3) := by decide +kernel
theorem dX4_turnsToWinOf_12 : decode cX4_turnsToWinOf 12 = .ok (.aload_n 0, 1) := by decide +kernel
theorem dX4_turnsToWinOf_13 : decode cX4_turnsToWinOf 13 = .ok (.getfield 56, 3) := by decide +kernel
theorem dX4_turnsToWinOf_16 : decode cX4_turnsToWinOf 16 = .ok (.iload_n 1, 1) := by decide +kernel
theorem dX4_turnsToWinOf_17 : decode cX4_turnsToWinOf 17 = .ok (.iaload, 1) := by decide +kernel
theorem dX4_turnsToWinOf_18 : decode cX4_turnsToWinOf 18 = .ok (.goto 4, 3) := by decide +kernel
theorem dX4_turnsToWinOf_21 : decode cX4_turnsToWinOf 21 = .ok (.iconst (-1), 1) := by decide +kernel
theorem dX4_turnsToWinOf_22 : decode cX4_turnsToWinOf 22 = .ok (.ireturn, 1) := by decide +kernel
theorem dX4_trapParts_0 : decode cX4_trapParts 0 = .ok (.aload_n 0, 1) := by decide +kernel
theorem dX4_trapParts_1 : decode cX4_trapParts 1 = .ok (.invokevirtual 114, 3) := by decide +kernel
theorem dX4_trapParts_4 : decode cX4_trapParts 4 = .ok (.iconst 0, 1) := by decide +kernel
theorem dX4_trapParts_5 : decode cX4_trapParts 5 = .ok (.istore_n 1, 1) := by decide +kernel
theorem dX4_trapParts_6 : decode cX4_trapParts 6 = .ok (.iconst 0, 1) := by decide +kernel
theorem dX4_trapParts_7 : decode cX4_trapParts 7 = .ok (.istore_n 2, 1) := by decide +kernel
theorem dX4_trapParts_8 : decode cX4_trapParts 8 = .ok (.iload_n 2, 1) := by decide +kernel
theorem dX4_trapParts_9 : decode cX4_trapParts 9 = .ok (.aload_n 0, 1) := by decide +kernel
theorem dX4_trapParts_10 : decode cX4_trapParts 10 = .ok (.getfield 11, 3) := by decide +kernel
theorem dX4_trapParts_13 : decode cX4_trapParts 13 = .ok (.if_icmp .ge 33, 3) := by decide +kernel
theorem dX4_trapParts_16 : decode cX4_trapParts 16 = .ok (.aload_n 0, 1) := by decide +kernel
theorem dX4_trapParts_17 : decode cX4_trapParts 17 = .ok (.getfield 56, 3) := by decide +kernel
theorem dX4_trapParts_20 : decode cX4_trapParts 20 = .ok (.iload_n 2, 1) := by decide +kernel
theorem dX4_trapParts_21 : decode cX4_trapParts 21 = .ok (.iaload, 1) := by decide +kernel
theorem dX4_trapParts_22 : decode cX4_trapParts 22 = .ok (.iconst (-1), 1) := by decide +kernel
theorem dX4_trapParts_23 : decode cX4_trapParts 23 = .ok (.if_icmp .ne 17, 3) := by decide +kernel
theorem dX4_trapParts_26 : decode cX4_trapParts 26 = .ok (.iload_n 1, 1) := by decide +kernel
theorem dX4_trapParts_27 : decode cX4_trapParts 27 = .ok (.iconst 1, 1) := by decide +kernel
theorem dX4_trapParts_28 : decode cX4_trapParts 28 = .ok (.aload_n 0, 1) := by decide +kernel
theorem dX4_trapParts_29 : decode cX4_trapParts 29 = .ok (.getfield 31, 3) := by decide +kernel
theorem dX4_trapParts_32 : decode cX4_trapParts 32 = .ok (.iload_n 2, 1) := by decide +kernel
theorem dX4_trapParts_33 : decode cX4_trapParts 33 = .ok (.iaload, 1) := by decide +kernel
theorem dX4_trapParts_34 : decode cX4_trapParts 34 = .ok (.invokestatic 117, 3) := by decide +kernel
theorem dX4_trapParts_37 : decode cX4_trapParts 37 = .ok (.ishl, 1) := by decide +kernel
theorem dX4_trapParts_38 : decode cX4_trapParts 38 = .ok (.ior, 1) := by decide +kernel
theorem dX4_trapParts_39 : decode cX4_trapParts 39 = .ok (.istore_n 1, 1) := by decide +kernel
theorem dX4_trapParts_40 : decode cX4_trapParts 40 = .ok (.iinc 2 1, 3) := by decide +kernel
theorem dX4_trapParts_43 : decode cX4_trapParts 43 = .ok (.goto (-35), 3) := by decide +kernel
theorem dX4_trapParts_46 : decode cX4_trapParts 46 = .ok (.iload_n 1, 1) := by decide +kernel
theorem dX4_trapParts_47 : decode cX4_trapParts 47 = .ok (.ireturn, 1) := by decide +kernel
theorem dX4_holeParts_0 : decode cX4_holeParts 0 = .ok (.iconst 0, 1) := by decide +kernel
theorem dX4_holeParts_1 : decode cX4_holeParts 1 = .ok (.istore_n 1, 1) := by decide +kernel
theorem dX4_holeParts_2 : decode cX4_holeParts 2 = .ok (.iconst 0, 1) := by decide +kernel
theorem dX4_holeParts_3 : decode cX4_holeParts 3 = .ok (.istore_n 2, 1) := by decide +kernel
theorem dX4_holeParts_4 : decode cX4_holeParts 4 = .ok (.iload_n 2, 1) := by decide +kernel
theorem dX4_holeParts_5 : decode cX4_holeParts 5 = .ok (.aload_n 0, 1) := by decide +kernel
theorem dX4_holeParts_6 : decode cX4_holeParts 6 = .ok (.getfield 11, 3) := by decide +kernel
theorem dX4_holeParts_9 : decode cX4_holeParts 9 = .ok (.if_icmp .ge 48, 3) := by decide +kernel
theorem dX4_holeParts_12 : decode cX4_holeParts 12 = .ok (.aload_n 0, 1) := by decide +kernel
theorem dX4_holeParts_13 : decode cX4_holeParts 13 = .ok (.getfield 35, 3) := by decide +kernel
theorem dX4_holeParts_16 : decode cX4_holeParts 16 = .ok (.iload_n 2, 1) := by decide +kernel
theorem dX4_holeParts_17 : decode cX4_holeParts 17 = .ok (.iaload, 1) := by decide +kernel
theorem dX4_holeParts_18 : decode cX4_holeParts 18 = .ok (.aload_n 0, 1) := by decide +kernel
theorem dX4_holeParts_19 : decode cX4_holeParts 19 = .ok (.getfield 35, 3) := by decide +kernel
theorem dX4_holeParts_22 : decode cX4_holeParts 22 = .ok (.iload_n 2, 1) := by decide +kernel
theorem dX4_holeParts_23 : decode cX4_holeParts 23 = .ok (.iconst 1, 1) := by decide +kernel
theorem dX4_holeParts_24 : decode cX4_holeParts 24 = .ok (.iadd, 1) := by decide +kernel
theorem dX4_holeParts_25 : decode cX4_holeParts 25 = .ok (.iaload, 1) := by decide +kernel
theorem dX4_holeParts_26 : decode cX4_holeParts 26 = .ok (.if_icmp .ne 25, 3) := by decide +kernel
theorem dX4_holeParts_29 : decode cX4_holeParts 29 = .ok (.aload_n 0, 1) := by decide +kernel
theorem dX4_holeParts_30 : decode cX4_holeParts 30 = .ok (.iload_n 2, 1) := by decide +kernel
theorem dX4_holeParts_31 : decode cX4_holeParts 31 = .ok (.invokevirtual 107, 3) := by decide +kernel
theorem dX4_holeParts_34 : decode cX4_holeParts 34 = .ok (.ifCond .ne 17, 3) := by decide +kernel
theorem dX4_holeParts_37 : decode cX4_holeParts 37 = .ok (.iload_n 1, 1) := by decide +kernel
theorem dX4_holeParts_38 : decode cX4_holeParts 38 = .ok (.iconst 1, 1) := by decide +kernel
theorem dX4_holeParts_39 : decode cX4_holeParts 39 = .ok (.aload_n 0, 1) := by decide +kernel
theorem dX4_holeParts_40 : decode cX4_holeParts 40 = .ok (.getfield 31, 3) := by decide +kernel
theorem dX4_holeParts_43 : decode cX4_holeParts 43 = .ok (.iload_n 2, 1) := by decide +kernel
theorem dX4_holeParts_44 : decode cX4_holeParts 44 = .ok (.iaload, 1) := by decide +kernel
theorem dX4_holeParts_45 : decode cX4_holeParts 45 = .ok (.invokestatic 117, 3) := by decide +kernel
theorem dX4_holeParts_48 : decode cX4_holeParts 48 = .ok (.ishl, 1) := by decide +kernel
theorem dX4_holeParts_49 : decode cX4_holeParts 49 = .ok (.ior, 1) := by decide +kernel
theorem dX4_holeParts_50 : decode cX4_holeParts 50 = .ok (.istore_n 1, 1) := by decide +kernel
theorem dX4_holeParts_51 : decode cX4_holeParts 51 = .ok (.iinc 2 1, 3) := by decide +kernel
theorem dX4_holeParts_54 : decode cX4_holeParts 54 = .ok (.goto (-50), 3) := by decide +kernel
theorem dX4_holeParts_57 : decode cX4_holeParts 57 = .ok (.iload_n 1, 1) := by decide +kernel
theorem dX4_holeParts_58 : decode cX4_holeParts 58 = .ok (.ireturn, 1) := by decide +kernel
theorem dX4_hadThings_0 : decode cX4_hadThings 0 = .ok (.iconst 0, 1) := by decide +kernel
theorem dX4_hadThings_1 : decode cX4_hadThings 1 = .ok (.istore_n 1, 1) := by decide +kernel
theorem dX4_hadThings_2 : decode cX4_hadThings 2 = .ok (.iconst 0, 1) := by decide +kernel
theorem dX4_hadThings_3 : decode cX4_hadThings 3 = .ok (.istore_n 2, 1) := by decide +kernel
theorem dX4_hadThings_4 : decode cX4_hadThings 4 = .ok (.iload_n 2, 1) := by decide +kernel
theorem dX4_hadThings_5 : decode cX4_hadThings 5 = .ok (.aload_n 0, 1) := by decide +kernel
theorem dX4_hadThings_6 : decode cX4_hadThings 6 = .ok (.getfield 11, 3) := by decide +kernel
theorem dX4_hadThings_9 : decode cX4_hadThings 9 = .ok (.if_icmp .ge 21, 3) := by decide +kernel
theorem dX4_hadThings_12 : decode cX4_hadThings 12 = .ok (.iload_n 1, 1) := by decide +kernel
theorem dX4_hadThings_13 : decode cX4_hadThings 13 = .ok (.aload_n 0, 1) := by decide +kernel
theorem dX4_hadThings_14 : decode cX4_hadThings 14 = .ok (.getfield 31, 3) := by decide +kernel
theorem dX4_hadThings_17 : decode cX4_hadThings 17 = .ok (.iload_n 2, 1) := by decide +kernel
theorem dX4_hadThings_18 : decode cX4_hadThings 18 = .ok (.iaload, 1) := by decide +kernel
theorem dX4_hadThings_19 : decode cX4_hadThings 19 = .ok (.invokestatic 120, 3) := by decide +kernel
theorem dX4_hadThings_22 : decode cX4_hadThings 22 = .ok (.ior, 1) := by decide +kernel
theorem dX4_hadThings_23 : decode cX4_hadThings 23 = .ok (.istore_n 1, 1) := by decide +kernel
theorem dX4_hadThings_24 : decode cX4_hadThings 24 = .ok (.iinc 2 1, 3) := by decide +kernel
theorem dX4_hadThings_27 : decode cX4_hadThings 27 = .ok (.goto (-23), 3) := by decide +kernel
theorem dX4_hadThings_30 : decode cX4_hadThings 30 = .ok (.iload_n 1, 1) := by decide +kernel
theorem dX4_hadThings_31 : decode cX4_hadThings 31 = .ok (.ireturn, 1) := by decide +kernel
theorem dX4_slotOf_0 : decode cX4_slotOf 0 = .ok (.iload_n 0, 1) := by decide +kernel
theorem dX4_slotOf_1 : decode cX4_slotOf 1 = .ok (.bipush 6, 2) := by decide +kernel
theorem dX4_slotOf_3 : decode cX4_slotOf 3 = .ok (.ishr, 1) := by decide +kernel
theorem dX4_slotOf_4 : decode cX4_slotOf 4 = .ok (.bipush 9, 2) := by decide +kernel
theorem dX4_slotOf_6 : decode cX4_slotOf 6 = .ok (.imul, 1) := by decide +kernel
theorem dX4_slotOf_7 : decode cX4_slotOf 7 = .ok (.iload_n 0, 1) := by decide +kernel
theorem dX4_slotOf_8 : decode cX4_slotOf 8 = .ok (.iconst 2, 1) := by decide +kernel
theorem dX4_slotOf_9 : decode cX4_slotOf 9 = .ok (.ishr, 1) := by decide +kernel
theorem dX4_slotOf_10 : decode cX4_slotOf 10 = .ok (.bipush 15, 2) := by decide +kernel
theorem dX4_slotOf_12 : decode cX4_slotOf 12 = .ok (.iand, 1) := by decide +kernel
theorem dX4_slotOf_13 : decode cX4_slotOf 13 = .ok (.iadd, 1) := by decide +kernel
theorem dX4_slotOf_14 : decode cX4_slotOf 14 = .ok (.iconst 1, 1) := by decide +kernel
theorem dX4_slotOf_15 : decode cX4_slotOf 15 = .ok (.isub, 1) := by decide +kernel
theorem dX4_slotOf_16 : decode cX4_slotOf 16 = .ok (.ireturn, 1) := by decide +kernel
theorem dX4_hasWon_0 : decode cX4_hasWon 0 = .ok (.aload_n 0, 1) := by decide +kernel
theorem dX4_hasWon_1 : decode cX4_hasWon 1 = .ok (.getfield 31, 3) := by decide +kernel
theorem dX4_hasWon_4 : decode cX4_hasWon 4 = .ok (.iload_n 1, 1) := by decide +kernel
theorem dX4_hasWon_5 : decode cX4_hasWon 5 = .ok (.iaload, 1) := by decide +kernel
theorem dX4_hasWon_6 : decode cX4_hasWon 6 = .ok (.invokestatic 92, 3) := by decide +kernel
theorem dX4_hasWon_9 : decode cX4_hasWon 9 = .ok (.iconst 1, 1) := by decide +kernel
theorem dX4_hasWon_10 : decode cX4_hasWon 10 = .ok (.if_icmp .ne 7, 3) := by decide +kernel
theorem dX4_hasWon_13 : decode cX4_hasWon 13 = .ok (.iconst 1, 1) := by decide +kernel
theorem dX4_hasWon_14 : decode cX4_hasWon 14 = .ok (.goto 4, 3) := by decide +kernel
theorem dX4_hasWon_17 : decode cX4_hasWon 17 = .ok (.iconst 0, 1) := by decide +kernel
theorem dX4_hasWon_18 : decode cX4_hasWon 18 = .ok (.ireturn, 1) := by decide +kernel
theorem dX4_forget_0 : decode cX4_forget 0 = .ok (.iconst 0, 1) := by decide +kernel
theorem dX4_forget_1 : decode cX4_forget 1 = .ok (.istore_n 1, 1) := by decide +kernel
theorem dX4_forget_2 : decode cX4_forget 2 = .ok (.iload_n 1, 1) := by decide +kernel
theorem dX4_forget_3 : decode cX4_forget 3 = .ok (.aload_n 0, 1) := by decide +kernel
theorem dX4_forget_4 : decode cX4_forget 4 = .ok (.getfield 22, 3) := by decide +kernel
theorem dX4_forget_7 : decode cX4_forget 7 = .ok (.if_icmp .ge 39, 3) := by decide +kernel
theorem dX4_forget_10 : decode cX4_forget 10 = .ok (.aload_n 0, 1) := by decide +kernel
theorem dX4_forget_11 : decode cX4_forget 11 = .ok (.getfield 31, 3) := by decide +kernel
theorem dX4_forget_14 : decode cX4_forget 14 = .ok (.iload_n 1, 1) := by decide +kernel
theorem dX4_forget_15 : decode cX4_forget 15 = .ok (.iaload, 1) := by decide +kernel
theorem dX4_forget_16 : decode cX4_forget 16 = .ok (.invokestatic 89, 3) := by decide +kernel
theorem dX4_forget_19 : decode cX4_forget 19 = .ok (.istore_n 2, 1) := by decide +kernel
theorem dX4_forget_20 : decode cX4_forget 20 = .ok (.iload_n 2, 1) := by decide +kernel
theorem dX4_forget_21 : decode cX4_forget 21 = .ok (.ifCond .lt 19, 3) := by decide +kernel
theorem dX4_forget_24 : decode cX4_forget 24 = .ok (.iload_n 2, 1) := by decide +kernel
theorem dX4_forget_25 : decode cX4_forget 25 = .ok (.aload_n 0, 1) := by decide +kernel
theorem dX4_forget_26 : decode cX4_forget 26 = .ok (.getfield 41, 3) := by decide +kernel
theorem dX4_forget_29 : decode cX4_forget 29 = .ok (.arraylength, 1) := by decide +kernel
theorem dX4_forget_30 : decode cX4_forget 30 = .ok (.if_icmp .ge 10, 3) := by decide +kernel
theorem dX4_forget_33 : decode cX4_forget 33 = .ok (.aload_n 0, 1) := by decide +kernel
theorem dX4_forget_34 : decode cX4_forget 34 = .ok (.getfield 41, 3) := by decide +kernel
theorem dX4_forget_37 : decode cX4_forget 37 = .ok (.iload_n 2, 1) := by decide +kernel
theorem dX4_forget_38 : decode cX4_forget 38 = .ok (.iconst 0, 1) := by decide +kernel
theorem dX4_forget_39 : decode cX4_forget 39 = .ok (.iastore, 1) := by decide +kernel
theorem dX4_forget_40 : decode cX4_forget 40 = .ok (.iinc 1 1, 3) := by decide +kernel
theorem dX4_forget_43 : decode cX4_forget 43 = .ok (.goto (-41), 3) := by decide +kernel
theorem dX4_forget_46 : decode cX4_forget 46 = .ok (.aload_n 0, 1) := by decide +kernel
theorem dX4_forget_47 : decode cX4_forget 47 = .ok (.getfield 62, 3) := by decide +kernel
theorem dX4_forget_50 : decode cX4_forget 50 = .ok (.getfield 123, 3) := by decide +kernel
theorem dX4_forget_53 : decode cX4_forget 53 = .ok (.sipush 2304, 3) := by decide +kernel
theorem dX4_forget_56 : decode cX4_forget 56 = .ok (.imul, 1) := by decide +kernel
theorem dX4_forget_57 : decode cX4_forget 57 = .ok (.istore_n 1, 1) := by decide +kernel
theorem dX4_forget_58 : decode cX4_forget 58 = .ok (.aload_n 0, 1) := by decide +kernel
theorem dX4_forget_59 : decode cX4_forget 59 = .ok (.getfield 41, 3) := by decide +kernel
theorem dX4_forget_62 : decode cX4_forget 62 = .ok (.arraylength, 1) := by decide +kernel
theorem dX4_forget_63 : decode cX4_forget 63 = .ok (.iload_n 1, 1) := by decide +kernel
theorem dX4_forget_64 : decode cX4_forget 64 = .ok (.if_icmp .ge 10, 3) := by decide +kernel
theorem dX4_forget_67 : decode cX4_forget 67 = .ok (.aload_n 0, 1) := by decide +kernel
theorem dX4_forget_68 : decode cX4_forget 68 = .ok (.iload_n 1, 1) := by decide +kernel
theorem dX4_forget_69 : decode cX4_forget 69 = .ok (.newarray .int, 2) := by decide +kernel
theorem dX4_forget_71 : decode cX4_forget 71 = .ok (.putfield 41, 3) := by decide +kernel
theorem dX4_forget_74 : decode cX4_forget 74 = .ok (.aload_n 0, 1) := by decide +kernel
theorem dX4_forget_75 : decode cX4_forget 75 = .ok (.iconst 0, 1) := by decide +kernel
theorem dX4_forget_76 : decode cX4_forget 76 = .ok (.putfield 22, 3) := by decide +kernel
theorem dX4_forget_79 : decode cX4_forget 79 = .ok (.aload_n 0, 1) := by decide +kernel
theorem dX4_forget_80 : decode cX4_forget 80 = .ok (.iconst 0, 1) := by decide +kernel
theorem dX4_forget_81 : decode cX4_forget 81 = .ok (.putfield 25, 3) := by decide +kernel
theorem dX4_forget_84 : decode cX4_forget 84 = .ok (.aload_n 0, 1) := by decide +kernel
theorem dX4_forget_85 : decode cX4_forget 85 = .ok (.iconst 0, 1) := by decide +kernel
theorem dX4_forget_86 : decode cX4_forget 86 = .ok (.putfield 28, 3) := by decide +kernel
theorem dX4_forget_89 : decode cX4_forget 89 = .ok (.aload_n 0, 1) := by decide +kernel
theorem dX4_forget_90 : decode cX4_forget 90 = .ok (.invokevirtual 86, 3) := by decide +kernel
theorem dX4_forget_93 : decode cX4_forget 93 = .ok (.return_, 1) := by decide +kernel
theorem dX4_forgetResults_0 : decode cX4_forgetResults 0 = .ok (.aload_n 0, 1) := by decide +kernel
theorem dX4_forgetResults_1 : decode cX4_forgetResults 1 = .ok (.iconst (-1), 1) := by decide +kernel
theorem dX4_forgetResults_2 : decode cX4_forgetResults 2 = .ok (.putfield 50, 3) := by decide +kernel
theorem dX4_forgetResults_5 : decode cX4_forgetResults 5 = .ok (.aload_n 0, 1) := by decide +kernel
theorem dX4_forgetResults_6 : decode cX4_forgetResults 6 = .ok (.iconst 0, 1) := by decide +kernel
theorem dX4_forgetResults_7 : decode cX4_forgetResults 7 = .ok (.putfield 59, 3) := by decide +kernel
theorem dX4_forgetResults_10 : decode cX4_forgetResults 10 = .ok (.return_, 1) := by decide +kernel
theorem dX4_spread_0 : decode cX4_spread 0 = .ok (.iconst 0, 1) := by decide +kernel
theorem dX4_spread_1 : decode cX4_spread 1 = .ok (.istore 5, 2) := by decide +kernel
theorem dX4_spread_3 : decode cX4_spread 3 = .ok (.iload_n 1, 1) := by decide +kernel
theorem dX4_spread_4 : decode cX4_spread 4 = .ok (.istore 6, 2) := by decide +kernel
theorem dX4_spread_6 : decode cX4_spread 6 = .ok (.iload 6, 2) := by decide +kernel
theorem dX4_spread_8 : decode cX4_spread 8 = .ok (.aload_n 0, 1) := by decide +kernel
theorem dX4_spread_9 : decode cX4_spread 9 = .ok (.getfield 22, 3) := by decide +kernel
theorem dX4_spread_12 : decode cX4_spread 12 = .ok (.if_icmp .ge 170, 3) := by decide +kernel
theorem dX4_spread_15 : decode cX4_spread 15 = .ok (.iload 6, 2) := by decide +kernel
theorem dX4_spread_17 : decode cX4_spread 17 = .ok (.ldc 126, 2) := by decide +kernel
theorem dX4_spread_19 : decode cX4_spread 19 = .ok (.if_icmp .ge 163, 3) := by decide +kernel
theorem dX4_spread_22 : decode cX4_spread 22 = .ok (.aload_n 0, 1) := by decide +kernel
theorem dX4_spread_23 : decode cX4_spread 23 = .ok (.getfield 31, 3) := by decide +kernel
theorem dX4_spread_26 : decode cX4_spread 26 = .ok (.iload 6, 2) := by decide +kernel
theorem dX4_spread_28 : decode cX4_spread 28 = .ok (.iaload, 1) := by decide +kernel
theorem dX4_spread_29 : decode cX4_spread 29 = .ok (.istore 7, 2) := by decide +kernel
theorem dX4_spread_31 : decode cX4_spread 31 = .ok (.iload 5, 2) := by decide +kernel
theorem dX4_spread_33 : decode cX4_spread 33 = .ok (.ifCond .ne 12, 3) := by decide +kernel
theorem dX4_spread_36 : decode cX4_spread 36 = .ok (.iload 7, 2) := by decide +kernel
theorem dX4_spread_38 : decode cX4_spread 38 = .ok (.invokestatic 92, 3) := by decide +kernel
theorem dX4_spread_41 : decode cX4_spread 41 = .ok (.iconst 1, 1) := by decide +kernel
theorem dX4_spread_42 : decode cX4_spread 42 = .ok (.if_icmp .ne 7, 3) := by decide +kernel
theorem dX4_spread_45 : decode cX4_spread 45 = .ok (.iconst 1, 1) := by decide +kernel
theorem dX4_spread_46 : decode cX4_spread 46 = .ok (.goto 4, 3) := by decide +kernel
theorem dX4_spread_49 : decode cX4_spread 49 = .ok (.iconst 0, 1) := by decide +kernel
theorem dX4_spread_50 : decode cX4_spread 50 = .ok (.istore 5, 2) := by decide +kernel
theorem dX4_spread_52 : decode cX4_spread 52 = .ok (.iload 5, 2) := by decide +kernel
theorem dX4_spread_54 : decode cX4_spread 54 = .ok (.ifCond .eq 10, 3) := by decide +kernel
theorem dX4_spread_57 : decode cX4_spread 57 = .ok (.iload 4, 2) := by decide +kernel
theorem dX4_spread_59 : decode cX4_spread 59 = .ok (.ifCond .eq 5, 3) := by decide +kernel
theorem dX4_spread_62 : decode cX4_spread 62 = .ok (.iconst 1, 1) := by decide +kernel
theorem dX4_spread_63 : decode cX4_spread 63 = .ok (.ireturn, 1) := by decide +kernel
theorem dX4_spread_64 : decode cX4_spread 64 = .ok (.aload_n 0, 1) := by decide +kernel
theorem dX4_spread_65 : decode cX4_spread 65 = .ok (.getfield 35, 3) := by decide +kernel
theorem dX4_spread_68 : decode cX4_spread 68 = .ok (.iload 6, 2) := by decide +kernel
theorem dX4_spread_70 : decode cX4_spread 70 = .ok (.aload_n 0, 1) := by decide +kernel
theorem dX4_spread_71 : decode cX4_spread 71 = .ok (.getfield 25, 3) := by decide +kernel
theorem dX4_spread_74 : decode cX4_spread 74 = .ok (.iastore, 1) := by decide +kernel
theorem dX4_spread_75 : decode cX4_spread 75 = .ok (.aload_n 0, 1) := by decide +kernel
theorem dX4_spread_76 : decode cX4_spread 76 = .ok (.getfield 62, 3) := by decide +kernel
theorem dX4_spread_79 : decode cX4_spread 79 = .ok (.iload 7, 2) := by decide +kernel
theorem dX4_spread_81 : decode cX4_spread 81 = .ok (.invokestatic 117, 3) := by decide +kernel
theorem dX4_spread_84 : decode cX4_spread 84 = .ok (.invokevirtual 127, 3) := by decide +kernel
theorem dX4_spread_87 : decode cX4_spread 87 = .ok (.istore 8, 2) := by decide +kernel
theorem dX4_spread_89 : decode cX4_spread 89 = .ok (.iconst 0, 1) := by decide +kernel
theorem dX4_spread_90 : decode cX4_spread 90 = .ok (.istore 9, 2) := by decide +kernel
theorem dX4_spread_92 : decode cX4_spread 92 = .ok (.iload 9, 2) := by decide +kernel
theorem dX4_spread_94 : decode cX4_spread 94 = .ok (.iload 8, 2) := by decide +kernel
theorem dX4_spread_96 : decode cX4_spread 96 = .ok (.if_icmp .ge 67, 3) := by decide +kernel
theorem dX4_spread_99 : decode cX4_spread 99 = .ok (.aload_n 0, 1) := by decide +kernel
theorem dX4_spread_100 : decode cX4_spread 100 = .ok (.getfield 62, 3) := by decide +kernel
theorem dX4_spread_103 : decode cX4_spread 103 = .ok (.iload 7, 2) := by decide +kernel
theorem dX4_spread_105 : decode cX4_spread 105 = .ok (.iload 9, 2) := by decide +kernel
theorem dX4_spread_107 : decode cX4_spread 107 = .ok (.invokevirtual 130, 3) := by decide +kernel
theorem dX4_spread_110 : decode cX4_spread 110 = .ok (.istore 10, 2) := by decide +kernel
theorem dX4_spread_112 : decode cX4_spread 112 = .ok (.iload 10, 2) := by decide +kernel
theorem dX4_spread_114 : decode cX4_spread 114 = .ok (.iconst (-1), 1) := by decide +kernel
theorem dX4_spread_115 : decode cX4_spread 115 = .ok (.if_icmp .eq 42, 3) := by decide +kernel
theorem dX4_spread_118 : decode cX4_spread 118 = .ok (.iload 10, 2) := by decide +kernel
theorem dX4_spread_120 : decode cX4_spread 120 = .ok (.iload_n 3, 1) := by decide +kernel
theorem dX4_spread_121 : decode cX4_spread 121 = .ok (.if_icmp .eq 36, 3) := by decide +kernel
theorem dX4_spread_124 : decode cX4_spread 124 = .ok (.aload_n 0, 1) := by decide +kernel
theorem dX4_spread_125 : decode cX4_spread 125 = .ok (.dup, 1) := by decide +kernel
theorem dX4_spread_126 : decode cX4_spread 126 = .ok (.getfield 28, 3) := by decide +kernel
theorem dX4_spread_129 : decode cX4_spread 129 = .ok (.iconst 1, 1) := by decide +kernel
theorem dX4_spread_130 : decode cX4_spread 130 = .ok (.iload 10, 2) := by decide +kernel
theorem dX4_spread_132 : decode cX4_spread 132 = .ok (.ishl, 1) := by decide +kernel
theorem dX4_spread_133 : decode cX4_spread 133 = .ok (.ior, 1) := by decide +kernel
theorem dX4_spread_134 : decode cX4_spread 134 = .ok (.putfield 28, 3) := by decide +kernel
theorem dX4_spread_137 : decode cX4_spread 137 = .ok (.aload_n 0, 1) := by decide +kernel
theorem dX4_spread_138 : decode cX4_spread 138 = .ok (.aload_n 0, 1) := by decide +kernel
theorem dX4_spread_139 : decode cX4_spread 139 = .ok (.aload_n 0, 1) := by decide +kernel
theorem dX4_spread_140 : decode cX4_spread 140 = .ok (.getfield 62, 3) := by decide +kernel
theorem dX4_spread_143 : decode cX4_spread 143 = .ok (.iload 7, 2) := by decide +kernel
theorem dX4_spread_145 : decode cX4_spread 145 = .ok (.iload 10, 2) := by decide +kernel
theorem dX4_spread_147 : decode cX4_spread 147 = .ok (.iload_n 2, 1) := by decide +kernel
theorem dX4_spread_148 : decode cX4_spread 148 = .ok (.invokevirtual 134, 3) := by decide +kernel
theorem dX4_spread_151 : decode cX4_spread 151 = .ok (.invokevirtual 79, 3) := by decide +kernel
theorem dX4_spread_154 : decode cX4_spread 154 = .ok (.invokevirtual 138, 3) := by decide +kernel
theorem dX4_spread_157 : decode cX4_spread 157 = .ok (.iinc 9 1, 3) := by decide +kernel
theorem dX4_spread_160 : decode cX4_spread 160 = .ok (.goto (-68), 3) := by decide +kernel
theorem dX4_spread_163 : decode cX4_spread 163 = .ok (.aload_n 0, 1) := by decide +kernel
theorem dX4_spread_164 : decode cX4_spread 164 = .ok (.getfield 35, 3) := by decide +kernel
theorem dX4_spread_167 : decode cX4_spread 167 = .ok (.iload 6, 2) := by decide +kernel
theorem dX4_spread_169 : decode cX4_spread 169 = .ok (.iconst 1, 1) := by decide +kernel
theorem dX4_spread_170 : decode cX4_spread 170 = .ok (.iadd, 1) := by decide +kernel
theorem dX4_spread_171 : decode cX4_spread 171 = .ok (.aload_n 0, 1) := by decide +kernel
theorem dX4_spread_172 : decode cX4_spread 172 = .ok (.getfield 25, 3) := by decide +kernel
theorem dX4_spread_175 : decode cX4_spread 175 = .ok (.iastore, 1) := by decide +kernel
theorem dX4_spread_176 : decode cX4_spread 176 = .ok (.iinc 6 1, 3) := by decide +kernel
theorem dX4_spread_179 : decode cX4_spread 179 = .ok (.goto (-173), 3) := by decide +kernel
theorem dX4_spread_182 : decode cX4_spread 182 = .ok (.iload 5, 2) := by decide +kernel
theorem dX4_spread_184 : decode cX4_spread 184 = .ok (.ireturn, 1) := by decide +kernel
theorem dX4_meet_0 : decode cX4_meet 0 = .ok (.aload_n 0, 1) := by decide +kernel
theorem dX4_meet_1 : decode cX4_meet 1 = .ok (.iload_n 1, 1) := by decide +kernel
theorem dX4_meet_2 : decode cX4_meet 2 = .ok (.invokevirtual 142, 3) := by decide +kernel
theorem dX4_meet_5 : decode cX4_meet 5 = .ok (.istore_n 2, 1) := by decide +kernel
theorem dX4_meet_6 : decode cX4_meet 6 = .ok (.iload_n 1, 1) := by decide +kernel
theorem dX4_meet_7 : decode cX4_meet 7 = .ok (.invokestatic 89, 3) := by decide +kernel
theorem dX4_meet_10 : decode cX4_meet 10 = .ok (.istore_n 3, 1) := by decide +kernel
theorem dX4_meet_11 : decode cX4_meet 11 = .ok (.iload_n 2, 1) := by decide +kernel
theorem dX4_meet_12 : decode cX4_meet 12 = .ok (.iconst (-1), 1) := by decide +kernel
theorem dX4_meet_13 : decode cX4_meet 13 = .ok (.if_icmp .ne 11, 3) := by decide +kernel
theorem dX4_meet_16 : decode cX4_meet 16 = .ok (.iload_n 1, 1) := by decide +kernel
theorem dX4_meet_17 : decode cX4_meet 17 = .ok (.invokestatic 92, 3) := by decide +kernel
theorem dX4_meet_20 : decode cX4_meet 20 = .ok (.iconst 2, 1) := by decide +kernel
theorem dX4_meet_21 : decode cX4_meet 21 = .ok (.if_icmp .ne 5, 3) := by decide +kernel
theorem dX4_meet_24 : decode cX4_meet 24 = .ok (.iload_n 2, 1) := by decide +kernel
theorem dX4_meet_25 : decode cX4_meet 25 = .ok (.ireturn, 1) := by decide +kernel
theorem dX4_meet_26 : decode cX4_meet 26 = .ok (.aload_n 0, 1) := by decide +kernel
theorem dX4_meet_27 : decode cX4_meet 27 = .ok (.getfield 22, 3) := by decide +kernel
theorem dX4_meet_30 : decode cX4_meet 30 = .ok (.ldc 126, 2) := by decide +kernel
theorem dX4_meet_32 : decode cX4_meet 32 = .ok (.if_icmp .ge 16, 3) := by decide +kernel
theorem dX4_meet_35 : decode cX4_meet 35 = .ok (.iload_n 3, 1) := by decide +kernel
theorem dX4_meet_36 : decode cX4_meet 36 = .ok (.ifCond .lt 12, 3) := by decide +kernel
theorem dX4_meet_39 : decode cX4_meet 39 = .ok (.iload_n 3, 1) := by decide +kernel
theorem dX4_meet_40 : decode cX4_meet 40 = .ok (.aload_n 0, 1) := by decide +kernel
theorem dX4_meet_41 : decode cX4_meet 41 = .ok (.getfield 41, 3) := by decide +kernel
theorem dX4_meet_44 : decode cX4_meet 44 = .ok (.arraylength, 1) := by decide +kernel
theorem dX4_meet_45 : decode cX4_meet 45 = .ok (.if_icmp .lt 5, 3) := by decide +kernel
theorem dX4_meet_48 : decode cX4_meet 48 = .ok (.iconst (-1), 1) := by decide +kernel
theorem dX4_meet_49 : decode cX4_meet 49 = .ok (.ireturn, 1) := by decide +kernel
theorem dX4_meet_50 : decode cX4_meet 50 = .ok (.aload_n 0, 1) := by decide +kernel
theorem dX4_meet_51 : decode cX4_meet 51 = .ok (.getfield 22, 3) := by decide +kernel
theorem dX4_meet_54 : decode cX4_meet 54 = .ok (.aload_n 0, 1) := by decide +kernel
theorem dX4_meet_55 : decode cX4_meet 55 = .ok (.getfield 31, 3) := by decide +kernel
theorem dX4_meet_58 : decode cX4_meet 58 = .ok (.arraylength, 1) := by decide +kernel
theorem dX4_meet_59 : decode cX4_meet 59 = .ok (.if_icmp .lt 45, 3) := by decide +kernel
theorem dX4_meet_62 : decode cX4_meet 62 = .ok (.ldc 126, 2) := by decide +kernel
theorem dX4_meet_64 : decode cX4_meet 64 = .ok (.iconst 2, 1) := by decide +kernel
theorem dX4_meet_65 : decode cX4_meet 65 = .ok (.aload_n 0, 1) := by decide +kernel
theorem dX4_meet_66 : decode cX4_meet 66 = .ok (.getfield 31, 3) := by decide +kernel
theorem dX4_meet_69 : decode cX4_meet 69 = .ok (.arraylength, 1) := by decide +kernel
theorem dX4_meet_70 : decode cX4_meet 70 = .ok (.imul, 1) := by decide +kernel
theorem dX4_meet_71 : decode cX4_meet 71 = .ok (.invokestatic 145, 3) := by decide +kernel
theorem dX4_meet_74 : decode cX4_meet 74 = .ok (.istore 4, 2) := by decide +kernel
theorem dX4_meet_76 : decode cX4_meet 76 = .ok (.aload_n 0, 1) := by decide +kernel
theorem dX4_meet_77 : decode cX4_meet 77 = .ok (.aload_n 0, 1) := by decide +kernel
theorem dX4_meet_78 : decode cX4_meet 78 = .ok (.getfield 31, 3) := by decide +kernel
theorem dX4_meet_81 : decode cX4_meet 81 = .ok (.iload 4, 2) := by decide +kernel
theorem dX4_meet_83 : decode cX4_meet 83 = .ok (.invokestatic 150, 3) := by decide +kernel
theorem dX4_meet_86 : decode cX4_meet 86 = .ok (.putfield 31, 3) := by decide +kernel
theorem dX4_meet_89 : decode cX4_meet 89 = .ok (.aload_n 0, 1) := by decide +kernel
theorem dX4_meet_90 : decode cX4_meet 90 = .ok (.aload_n 0, 1) := by decide +kernel
theorem dX4_meet_91 : decode cX4_meet 91 = .ok (.getfield 35, 3) := by decide +kernel
theorem dX4_meet_94 : decode cX4_meet 94 = .ok (.iload 4, 2) := by decide +kernel
theorem dX4_meet_96 : decode cX4_meet 96 = .ok (.iconst 1, 1) := by decide +kernel
theorem dX4_meet_97 : decode cX4_meet 97 = .ok (.iadd, 1) := by decide +kernel
theorem dX4_meet_98 : decode cX4_meet 98 = .ok (.invokestatic 150, 3) := by decide +kernel
theorem dX4_meet_101 : decode cX4_meet 101 = .ok (.putfield 35, 3) := by decide +kernel
theorem dX4_meet_104 : decode cX4_meet 104 = .ok (.aload_n 0, 1) := by decide +kernel
theorem dX4_meet_105 : decode cX4_meet 105 = .ok (.getfield 31, 3) := by decide +kernel
theorem dX4_meet_108 : decode cX4_meet 108 = .ok (.aload_n 0, 1) := by decide +kernel
theorem dX4_meet_109 : decode cX4_meet 109 = .ok (.getfield 22, 3) := by decide +kernel
theorem dX4_meet_112 : decode cX4_meet 112 = .ok (.iload_n 1, 1) := by decide +kernel
theorem dX4_meet_113 : decode cX4_meet 113 = .ok (.iastore, 1) := by decide +kernel
theorem dX4_meet_114 : decode cX4_meet 114 = .ok (.aload_n 0, 1) := by decide +kernel
theorem dX4_meet_115 : decode cX4_meet 115 = .ok (.dup, 1) := by decide +kernel
theorem dX4_meet_116 : decode cX4_meet 116 = .ok (.getfield 22, 3) := by decide +kernel
theorem dX4_meet_119 : decode cX4_meet 119 = .ok (.iconst 1, 1) := by decide +kernel
theorem dX4_meet_120 : decode cX4_meet 120 = .ok (.iadd, 1) := by decide +kernel
theorem dX4_meet_121 : decode cX4_meet 121 = .ok (.putfield 22, 3) := by decide +kernel
theorem dX4_meet_124 : decode cX4_meet 124 = .ok (.aload_n 0, 1) := by decide +kernel
theorem dX4_meet_125 : decode cX4_meet 125 = .ok (.getfield 41, 3) := by decide +kernel
theorem dX4_meet_128 : decode cX4_meet 128 = .ok (.iload_n 3, 1) := by decide +kernel
theorem dX4_meet_129 : decode cX4_meet 129 = .ok (.aload_n 0, 1) := by decide +kernel
theorem dX4_meet_130 : decode cX4_meet 130 = .ok (.getfield 22, 3) := by decide +kernel
theorem dX4_meet_133 : decode cX4_meet 133 = .ok (.iastore, 1) := by decide +kernel
theorem dX4_meet_134 : decode cX4_meet 134 = .ok (.aload_n 0, 1) := by decide +kernel
theorem dX4_meet_135 : decode cX4_meet 135 = .ok (.getfield 22, 3) := by decide +kernel
theorem dX4_meet_138 : decode cX4_meet 138 = .ok (.iconst 1, 1) := by decide +kernel
theorem dX4_meet_139 : decode cX4_meet 139 = .ok (.isub, 1) := by decide +kernel
theorem dX4_meet_140 : decode cX4_meet 140 = .ok (.ireturn, 1) := by decide +kernel
theorem dX4_addWay_0 : decode cX4_addWay 0 = .ok (.aload_n 0, 1) := by decide +kernel
theorem dX4_addWay_1 : decode cX4_addWay 1 = .ok (.getfield 25, 3) := by decide +kernel
theorem dX4_addWay_4 : decode cX4_addWay 4 = .ok (.aload_n 0, 1) := by decide +kernel
theorem dX4_addWay_5 : decode cX4_addWay 5 = .ok (.getfield 38, 3) := by decide +kernel
theorem dX4_addWay_8 : decode cX4_addWay 8 = .ok (.arraylength, 1) := by decide +kernel
theorem dX4_addWay_9 : decode cX4_addWay 9 = .ok (.if_icmp .lt 21, 3) := by decide +kernel
theorem dX4_addWay_12 : decode cX4_addWay 12 = .ok (.aload_n 0, 1) := by decide +kernel
theorem dX4_addWay_13 : decode cX4_addWay 13 = .ok (.aload_n 0, 1) := by decide +kernel
theorem dX4_addWay_14 : decode cX4_addWay 14 = .ok (.getfield 38, 3) := by decide +kernel
theorem dX4_addWay_17 : decode cX4_addWay 17 = .ok (.iconst 2, 1) := by decide +kernel
theorem dX4_addWay_18 : decode cX4_addWay 18 = .ok (.aload_n 0, 1) := by decide +kernel
theorem dX4_addWay_19 : decode cX4_addWay 19 = .ok (.getfield 38, 3) := by decide +kernel
theorem dX4_addWay_22 : decode cX4_addWay 22 = .ok (.arraylength, 1) := by decide +kernel
theorem dX4_addWay_23 : decode cX4_addWay 23 = .ok (.imul, 1) := by decide +kernel
theorem dX4_addWay_24 : decode cX4_addWay 24 = .ok (.invokestatic 150, 3) := by decide +kernel
theorem dX4_addWay_27 : decode cX4_addWay 27 = .ok (.putfield 38, 3) := by decide +kernel
theorem dX4_addWay_30 : decode cX4_addWay 30 = .ok (.aload_n 0, 1) := by decide +kernel
theorem dX4_addWay_31 : decode cX4_addWay 31 = .ok (.getfield 38, 3) := by decide +kernel
theorem dX4_addWay_34 : decode cX4_addWay 34 = .ok (.aload_n 0, 1) := by decide +kernel
theorem dX4_addWay_35 : decode cX4_addWay 35 = .ok (.getfield 25, 3) := by decide +kernel
theorem dX4_addWay_38 : decode cX4_addWay 38 = .ok (.iload_n 1, 1) := by decide +kernel
theorem dX4_addWay_39 : decode cX4_addWay 39 = .ok (.iastore, 1) := by decide +kernel
theorem dX4_addWay_40 : decode cX4_addWay 40 = .ok (.aload_n 0, 1) := by decide +kernel
theorem dX4_addWay_41 : decode cX4_addWay 41 = .ok (.dup, 1) := by decide +kernel
theorem dX4_addWay_42 : decode cX4_addWay 42 = .ok (.getfield 25, 3) := by decide +kernel
theorem dX4_addWay_45 : decode cX4_addWay 45 = .ok (.iconst 1, 1) := by decide +kernel
theorem dX4_addWay_46 : decode cX4_addWay 46 = .ok (.iadd, 1) := by decide +kernel
theorem dX4_addWay_47 : decode cX4_addWay 47 = .ok (.putfield 25, 3) := by decide +kernel
theorem dX4_addWay_50 : decode cX4_addWay 50 = .ok (.return_, 1) := by decide +kernel
theorem dX4_roomForAll_0 : decode cX4_roomForAll 0 = .ok (.aload_n 1, 1) := by decide +kernel
theorem dX4_roomForAll_1 : decode cX4_roomForAll 1 = .ok (.arraylength, 1) := by decide +kernel
theorem dX4_roomForAll_2 : decode cX4_roomForAll 2 = .ok (.aload_n 0, 1) := by decide +kernel
theorem dX4_roomForAll_3 : decode cX4_roomForAll 3 = .ok (.getfield 22, 3) := by decide +kernel
theorem dX4_roomForAll_6 : decode cX4_roomForAll 6 = .ok (.if_icmp .lt 7, 3) := by decide +kernel
theorem dX4_roomForAll_9 : decode cX4_roomForAll 9 = .ok (.aload_n 1, 1) := by decide +kernel
theorem dX4_roomForAll_10 : decode cX4_roomForAll 10 = .ok (.goto 10, 3) := by decide +kernel
theorem dX4_roomForAll_13 : decode cX4_roomForAll 13 = .ok (.aload_n 0, 1) := by decide +kernel
theorem dX4_roomForAll_14 : decode cX4_roomForAll 14 = .ok (.getfield 31, 3) := by decide +kernel
theorem dX4_roomForAll_17 : decode cX4_roomForAll 17 = .ok (.arraylength, 1) := by decide +kernel
theorem dX4_roomForAll_18 : decode cX4_roomForAll 18 = .ok (.newarray .int, 2) := by decide +kernel
theorem dX4_roomForAll_20 : decode cX4_roomForAll 20 = .ok (.areturn, 1) := by decide +kernel
theorem dX4_startOdds_0 : decode cX4_startOdds 0 = .ok (.aload_n 0, 1) := by decide +kernel
theorem dX4_startOdds_1 : decode cX4_startOdds 1 = .ok (.aload_n 0, 1) := by decide +kernel
theorem dX4_startOdds_2 : decode cX4_startOdds 2 = .ok (.aload_n 0, 1) := by decide +kernel
theorem dX4_startOdds_3 : decode cX4_startOdds 3 = .ok (.getfield 44, 3) := by decide +kernel
theorem dX4_startOdds_6 : decode cX4_startOdds 6 = .ok (.invokevirtual 103, 3) := by decide +kernel
theorem dX4_startOdds_9 : decode cX4_startOdds 9 = .ok (.putfield 44, 3) := by decide +kernel
theorem dX4_startOdds_12 : decode cX4_startOdds 12 = .ok (.aload_n 0, 1) := by decide +kernel
theorem dX4_startOdds_13 : decode cX4_startOdds 13 = .ok (.aload_n 0, 1) := by decide +kernel
theorem dX4_startOdds_14 : decode cX4_startOdds 14 = .ok (.aload_n 0, 1) := by decide +kernel
theorem dX4_startOdds_15 : decode cX4_startOdds 15 = .ok (.getfield 47, 3) := by decide +kernel
theorem dX4_startOdds_18 : decode cX4_startOdds 18 = .ok (.invokevirtual 103, 3) := by decide +kernel
theorem dX4_startOdds_21 : decode cX4_startOdds 21 = .ok (.putfield 47, 3) := by decide +kernel
theorem dX4_startOdds_24 : decode cX4_startOdds 24 = .ok (.iconst 0, 1) := by decide +kernel
theorem dX4_startOdds_25 : decode cX4_startOdds 25 = .ok (.istore_n 1, 1) := by decide +kernel
theorem dX4_startOdds_26 : decode cX4_startOdds 26 = .ok (.iload_n 1, 1) := by decide +kernel
theorem dX4_startOdds_27 : decode cX4_startOdds 27 = .ok (.aload_n 0, 1) := by decide +kernel
theorem dX4_startOdds_28 : decode cX4_startOdds 28 = .ok (.getfield 22, 3) := by decide +kernel
theorem dX4_startOdds_31 : decode cX4_startOdds 31 = .ok (.if_icmp .ge 29, 3) := by decide +kernel
theorem dX4_startOdds_34 : decode cX4_startOdds 34 = .ok (.aload_n 0, 1) := by decide +kernel
theorem dX4_startOdds_35 : decode cX4_startOdds 35 = .ok (.getfield 44, 3) := by decide +kernel
theorem dX4_startOdds_38 : decode cX4_startOdds 38 = .ok (.iload_n 1, 1) := by decide +kernel
theorem dX4_startOdds_39 : decode cX4_startOdds 39 = .ok (.aload_n 0, 1) := by decide +kernel
theorem dX4_startOdds_40 : decode cX4_startOdds 40 = .ok (.iload_n 1, 1) := by decide +kernel
theorem dX4_startOdds_41 : decode cX4_startOdds 41 = .ok (.invokevirtual 107, 3) := by decide +kernel
theorem dX4_startOdds_44 : decode cX4_startOdds 44 = .ok (.ifCond .eq 8, 3) := by decide +kernel
theorem dX4_startOdds_47 : decode cX4_startOdds 47 = .ok (.ldc 156, 2) := by decide +kernel
theorem dX4_startOdds_49 : decode cX4_startOdds 49 = .ok (.goto 4, 3) := by decide +kernel
theorem dX4_startOdds_52 : decode cX4_startOdds 52 = .ok (.iconst 0, 1) := by decide +kernel
theorem dX4_startOdds_53 : decode cX4_startOdds 53 = .ok (.iastore, 1) := by decide +kernel
theorem dX4_startOdds_54 : decode cX4_startOdds 54 = .ok (.iinc 1 1, 3) := by decide +kernel
theorem dX4_startOdds_57 : decode cX4_startOdds 57 = .ok (.goto (-31), 3) := by decide +kernel
theorem dX4_startOdds_60 : decode cX4_startOdds 60 = .ok (.aload_n 0, 1) := by decide +kernel
theorem dX4_startOdds_61 : decode cX4_startOdds 61 = .ok (.iconst 0, 1) := by decide +kernel
theorem dX4_startOdds_62 : decode cX4_startOdds 62 = .ok (.putfield 50, 3) := by decide +kernel
theorem dX4_startOdds_65 : decode cX4_startOdds 65 = .ok (.aload_n 0, 1) := by decide +kernel
theorem dX4_startOdds_66 : decode cX4_startOdds 66 = .ok (.iconst 0, 1) := by decide +kernel
theorem dX4_startOdds_67 : decode cX4_startOdds 67 = .ok (.putfield 53, 3) := by decide +kernel
theorem dX4_startOdds_70 : decode cX4_startOdds 70 = .ok (.return_, 1) := by decide +kernel
theorem dX4_runOneTurn_0 : decode cX4_runOneTurn 0 = .ok (.iconst 0, 1) := by decide +kernel
theorem dX4_runOneTurn_1 : decode cX4_runOneTurn 1 = .ok (.istore_n 1, 1) := by decide +kernel
theorem dX4_runOneTurn_2 : decode cX4_runOneTurn 2 = .ok (.iconst 0, 1) := by decide +kernel
theorem dX4_runOneTurn_3 : decode cX4_runOneTurn 3 = .ok (.istore_n 2, 1) := by decide +kernel
theorem dX4_runOneTurn_4 : decode cX4_runOneTurn 4 = .ok (.iload_n 2, 1) := by decide +kernel
theorem dX4_runOneTurn_5 : decode cX4_runOneTurn 5 = .ok (.aload_n 0, 1) := by decide +kernel
theorem dX4_runOneTurn_6 : decode cX4_runOneTurn 6 = .ok (.getfield 22, 3) := by decide +kernel
theorem dX4_runOneTurn_9 : decode cX4_runOneTurn 9 = .ok (.if_icmp .ge 42, 3) := by decide +kernel
theorem dX4_runOneTurn_12 : decode cX4_runOneTurn 12 = .ok (.aload_n 0, 1) := by decide +kernel
theorem dX4_runOneTurn_13 : decode cX4_runOneTurn 13 = .ok (.iload_n 2, 1) := by decide +kernel
theorem dX4_runOneTurn_14 : decode cX4_runOneTurn 14 = .ok (.invokevirtual 157, 3) := by decide +kernel
theorem dX4_runOneTurn_17 : decode cX4_runOneTurn 17 = .ok (.istore_n 3, 1) := by decide +kernel
theorem dX4_runOneTurn_18 : decode cX4_runOneTurn 18 = .ok (.iload_n 1, 1) := by decide +kernel
theorem dX4_runOneTurn_19 : decode cX4_runOneTurn 19 = .ok (.ifCond .ne 13, 3) := by decide +kernel
theorem dX4_runOneTurn_22 : decode cX4_runOneTurn 22 = .ok (.iload_n 3, 1) := by decide +kernel
theorem dX4_runOneTurn_23 : decode cX4_runOneTurn 23 = .ok (.aload_n 0, 1) := by decide +kernel
theorem dX4_runOneTurn_24 : decode cX4_runOneTurn 24 = .ok (.getfield 44, 3) := by decide +kernel
theorem dX4_runOneTurn_27 : decode cX4_runOneTurn 27 = .ok (.iload_n 2, 1) := by decide +kernel
theorem dX4_runOneTurn_28 : decode cX4_runOneTurn 28 = .ok (.iaload, 1) := by decide +kernel
theorem dX4_runOneTurn_29 : decode cX4_runOneTurn 29 = .ok (.if_icmp .eq 7, 3) := by decide +kernel
theorem dX4_runOneTurn_32 : decode cX4_runOneTurn 32 = .ok (.iconst 1, 1) := by decide +kernel
theorem dX4_runOneTurn_33 : decode cX4_runOneTurn 33 = .ok (.goto 4, 3) := by decide +kernel
theorem dX4_runOneTurn_36 : decode cX4_runOneTurn 36 = .ok (.iconst 0, 1) := by decide +kernel
theorem dX4_runOneTurn_37 : decode cX4_runOneTurn 37 = .ok (.istore_n 1, 1) := by decide +kernel
theorem dX4_runOneTurn_38 : decode cX4_runOneTurn 38 = .ok (.aload_n 0, 1) := by decide +kernel
theorem dX4_runOneTurn_39 : decode cX4_runOneTurn 39 = .ok (.getfield 47, 3) := by decide +kernel
theorem dX4_runOneTurn_42 : decode cX4_runOneTurn 42 = .ok (.iload_n 2, 1) := by decide +kernel
theorem dX4_runOneTurn_43 : decode cX4_runOneTurn 43 = .ok (.iload_n 3, 1) := by decide +kernel
theorem dX4_runOneTurn_44 : decode cX4_runOneTurn 44 = .ok (.iastore, 1) := by decide +kernel
theorem dX4_runOneTurn_45 : decode cX4_runOneTurn 45 = .ok (.iinc 2 1, 3) := by decide +kernel
theorem dX4_runOneTurn_48 : decode cX4_runOneTurn 48 = .ok (.goto (-44), 3) := by decide +kernel
theorem dX4_runOneTurn_51 : decode cX4_runOneTurn 51 = .ok (.aload_n 0, 1) := by decide +kernel
theorem dX4_runOneTurn_52 : decode cX4_runOneTurn 52 = .ok (.getfield 44, 3) := by decide +kernel
theorem dX4_runOneTurn_55 : decode cX4_runOneTurn 55 = .ok (.astore_n 2, 1) := by decide +kernel
theorem dX4_runOneTurn_56 : decode cX4_runOneTurn 56 = .ok (.aload_n 0, 1) := by decide +kernel
theorem dX4_runOneTurn_57 : decode cX4_runOneTurn 57 = .ok (.aload_n 0, 1) := by decide +kernel
theorem dX4_runOneTurn_58 : decode cX4_runOneTurn 58 = .ok (.getfield 47, 3) := by decide +kernel
theorem dX4_runOneTurn_61 : decode cX4_runOneTurn 61 = .ok (.putfield 44, 3) := by decide +kernel
theorem dX4_runOneTurn_64 : decode cX4_runOneTurn 64 = .ok (.aload_n 0, 1) := by decide +kernel
theorem dX4_runOneTurn_65 : decode cX4_runOneTurn 65 = .ok (.aload_n 2, 1) := by decide +kernel
theorem dX4_runOneTurn_66 : decode cX4_runOneTurn 66 = .ok (.putfield 47, 3) := by decide +kernel
theorem dX4_runOneTurn_69 : decode cX4_runOneTurn 69 = .ok (.aload_n 0, 1) := by decide +kernel
theorem dX4_runOneTurn_70 : decode cX4_runOneTurn 70 = .ok (.dup, 1) := by decide +kernel
theorem dX4_runOneTurn_71 : decode cX4_runOneTurn 71 = .ok (.getfield 50, 3) := by decide +kernel
theorem dX4_runOneTurn_74 : decode cX4_runOneTurn 74 = .ok (.iconst 1, 1) := by decide +kernel
theorem dX4_runOneTurn_75 : decode cX4_runOneTurn 75 = .ok (.iadd, 1) := by decide +kernel
theorem dX4_runOneTurn_76 : decode cX4_runOneTurn 76 = .ok (.putfield 50, 3) := by decide +kernel
theorem dX4_runOneTurn_79 : decode cX4_runOneTurn 79 = .ok (.aload_n 0, 1) := by decide +kernel
theorem dX4_runOneTurn_80 : decode cX4_runOneTurn 80 = .ok (.iload_n 1, 1) := by decide +kernel
theorem dX4_runOneTurn_81 : decode cX4_runOneTurn 81 = .ok (.ifCond .ne 7, 3) := by decide +kernel
theorem dX4_runOneTurn_84 : decode cX4_runOneTurn 84 = .ok (.iconst 1, 1) := by decide +kernel
theorem dX4_runOneTurn_85 : decode cX4_runOneTurn 85 = .ok (.goto 4, 3) := by decide +kernel
theorem dX4_runOneTurn_88 : decode cX4_runOneTurn 88 = .ok (.iconst 0, 1) := by decide +kernel
theorem dX4_runOneTurn_89 : decode cX4_runOneTurn 89 = .ok (.putfield 53, 3) := by decide +kernel
theorem dX4_runOneTurn_92 : decode cX4_runOneTurn 92 = .ok (.return_, 1) := by decide +kernel
theorem dX4_oddsBehindTurn_0 : decode cX4_oddsBehindTurn 0 = .ok (.aload_n 0, 1) := by decide +kernel
theorem dX4_oddsBehindTurn_1 : decode cX4_oddsBehindTurn 1 = .ok (.iload_n 1, 1) := by decide +kernel
theorem dX4_oddsBehindTurn_2 : decode cX4_oddsBehindTurn 2 = .ok (.invokevirtual 107, 3) := by decide +kernel
theorem dX4_oddsBehindTurn_5 : decode cX4_oddsBehindTurn 5 = .ok (.ifCond .eq 6, 3) := by decide +kernel
theorem dX4_oddsBehindTurn_8 : decode cX4_oddsBehindTurn 8 = .ok (.ldc 156, 2) := by decide +kernel
theorem dX4_oddsBehindTurn_10 : decode cX4_oddsBehindTurn 10 = .ok (.ireturn, 1) := by decide +kernel
theorem dX4_oddsBehindTurn_11 : decode cX4_oddsBehindTurn 11 = .ok (.aload_n 0, 1) := by decide +kernel
theorem dX4_oddsBehindTurn_12 : decode cX4_oddsBehindTurn 12 = .ok (.getfield 35, 3) := by decide +kernel
theorem dX4_oddsBehindTurn_15 : decode cX4_oddsBehindTurn 15 = .ok (.iload_n 1, 1) := by decide +kernel
theorem dX4_oddsBehindTurn_16 : decode cX4_oddsBehindTurn 16 = .ok (.iaload, 1) := by decide +kernel
theorem dX4_oddsBehindTurn_17 : decode cX4_oddsBehindTurn 17 = .ok (.istore_n 2, 1) := by decide +kernel
theorem dX4_oddsBehindTurn_18 : decode cX4_oddsBehindTurn 18 = .ok (.aload_n 0, 1) := by decide +kernel
theorem dX4_oddsBehindTurn_19 : decode cX4_oddsBehindTurn 19 = .ok (.getfield 31, 3) := by decide +kernel
theorem dX4_oddsBehindTurn_22 : decode cX4_oddsBehindTurn 22 = .ok (.iload_n 1, 1) := by decide +kernel
theorem dX4_oddsBehindTurn_23 : decode cX4_oddsBehindTurn 23 = .ok (.iaload, 1) := by decide +kernel
theorem dX4_oddsBehindTurn_24 : decode cX4_oddsBehindTurn 24 = .ok (.invokestatic 117, 3) := by decide +kernel
theorem dX4_oddsBehindTurn_27 : decode cX4_oddsBehindTurn 27 = .ok (.istore_n 3, 1) := by decide +kernel
theorem dX4_oddsBehindTurn_28 : decode cX4_oddsBehindTurn 28 = .ok (.aload_n 0, 1) := by decide +kernel
theorem dX4_oddsBehindTurn_29 : decode cX4_oddsBehindTurn 29 = .ok (.getfield 62, 3) := by decide +kernel
theorem dX4_oddsBehindTurn_32 : decode cX4_oddsBehindTurn 32 = .ok (.iload_n 3, 1) := by decide +kernel
theorem dX4_oddsBehindTurn_33 : decode cX4_oddsBehindTurn 33 = .ok (.invokevirtual 160, 3) := by decide +kernel
theorem dX4_oddsBehindTurn_36 : decode cX4_oddsBehindTurn 36 = .ok (.ifCond .eq 74, 3) := by decide +kernel
theorem dX4_oddsBehindTurn_39 : decode cX4_oddsBehindTurn 39 = .ok (.aload_n 0, 1) := by decide +kernel
theorem dX4_oddsBehindTurn_40 : decode cX4_oddsBehindTurn 40 = .ok (.getfield 35, 3) := by decide +kernel
theorem dX4_oddsBehindTurn_43 : decode cX4_oddsBehindTurn 43 = .ok (.iload_n 1, 1) := by decide +kernel
theorem dX4_oddsBehindTurn_44 : decode cX4_oddsBehindTurn 44 = .ok (.iconst 1, 1) := by decide +kernel
theorem dX4_oddsBehindTurn_45 : decode cX4_oddsBehindTurn 45 = .ok (.iadd, 1) := by decide +kernel
theorem dX4_oddsBehindTurn_46 : decode cX4_oddsBehindTurn 46 = .ok (.iaload, 1) := by decide +kernel
theorem dX4_oddsBehindTurn_47 : decode cX4_oddsBehindTurn 47 = .ok (.iload_n 2, 1) := by decide +kernel
theorem dX4_oddsBehindTurn_48 : decode cX4_oddsBehindTurn 48 = .ok (.isub, 1) := by decide +kernel
theorem dX4_oddsBehindTurn_49 : decode cX4_oddsBehindTurn 49 = .ok (.iconst 2, 1) := by decide +kernel
theorem dX4_oddsBehindTurn_50 : decode cX4_oddsBehindTurn 50 = .ok (.if_icmp .ne 60, 3) := by decide +kernel
theorem dX4_oddsBehindTurn_53 : decode cX4_oddsBehindTurn 53 = .ok (.aload_n 0, 1) := by decide +kernel
theorem dX4_oddsBehindTurn_54 : decode cX4_oddsBehindTurn 54 = .ok (.getfield 62, 3) := by decide +kernel
theorem dX4_oddsBehindTurn_57 : decode cX4_oddsBehindTurn 57 = .ok (.getfield 163, 3) := by decide +kernel
theorem dX4_oddsBehindTurn_60 : decode cX4_oddsBehindTurn 60 = .ok (.iload_n 3, 1) := by decide +kernel
theorem dX4_oddsBehindTurn_61 : decode cX4_oddsBehindTurn 61 = .ok (.iaload, 1) := by decide +kernel
theorem dX4_oddsBehindTurn_62 : decode cX4_oddsBehindTurn 62 = .ok (.istore 4, 2) := by decide +kernel
theorem dX4_oddsBehindTurn_64 : decode cX4_oddsBehindTurn 64 = .ok (.bipush 7, 2) := by decide +kernel
theorem dX4_oddsBehindTurn_66 : decode cX4_oddsBehindTurn 66 = .ok (.iload 4, 2) := by decide +kernel
theorem dX4_oddsBehindTurn_68 : decode cX4_oddsBehindTurn 68 = .ok (.isub, 1) := by decide +kernel
theorem dX4_oddsBehindTurn_69 : decode cX4_oddsBehindTurn 69 = .ok (.aload_n 0, 1) := by decide +kernel
theorem dX4_oddsBehindTurn_70 : decode cX4_oddsBehindTurn 70 = .ok (.aload_n 0, 1) := by decide +kernel
theorem dX4_oddsBehindTurn_71 : decode cX4_oddsBehindTurn 71 = .ok (.getfield 38, 3) := by decide +kernel
theorem dX4_oddsBehindTurn_74 : decode cX4_oddsBehindTurn 74 = .ok (.iload_n 2, 1) := by decide +kernel
theorem dX4_oddsBehindTurn_75 : decode cX4_oddsBehindTurn 75 = .ok (.iaload, 1) := by decide +kernel
theorem dX4_oddsBehindTurn_76 : decode cX4_oddsBehindTurn 76 = .ok (.invokevirtual 166, 3) := by decide +kernel
theorem dX4_oddsBehindTurn_79 : decode cX4_oddsBehindTurn 79 = .ok (.imul, 1) := by decide +kernel
theorem dX4_oddsBehindTurn_80 : decode cX4_oddsBehindTurn 80 = .ok (.istore 5, 2) := by decide +kernel
theorem dX4_oddsBehindTurn_82 : decode cX4_oddsBehindTurn 82 = .ok (.iload 4, 2) := by decide +kernel
theorem dX4_oddsBehindTurn_84 : decode cX4_oddsBehindTurn 84 = .ok (.iconst 1, 1) := by decide +kernel
theorem dX4_oddsBehindTurn_85 : decode cX4_oddsBehindTurn 85 = .ok (.isub, 1) := by decide +kernel
theorem dX4_oddsBehindTurn_86 : decode cX4_oddsBehindTurn 86 = .ok (.aload_n 0, 1) := by decide +kernel
theorem dX4_oddsBehindTurn_87 : decode cX4_oddsBehindTurn 87 = .ok (.aload_n 0, 1) := by decide +kernel
theorem dX4_oddsBehindTurn_88 : decode cX4_oddsBehindTurn 88 = .ok (.getfield 38, 3) := by decide +kernel
theorem dX4_oddsBehindTurn_91 : decode cX4_oddsBehindTurn 91 = .ok (.iload_n 2, 1) := by decide +kernel
theorem dX4_oddsBehindTurn_92 : decode cX4_oddsBehindTurn 92 = .ok (.iconst 1, 1) := by decide +kernel
theorem dX4_oddsBehindTurn_93 : decode cX4_oddsBehindTurn 93 = .ok (.iadd, 1) := by decide +kernel
theorem dX4_oddsBehindTurn_94 : decode cX4_oddsBehindTurn 94 = .ok (.iaload, 1) := by decide +kernel
theorem dX4_oddsBehindTurn_95 : decode cX4_oddsBehindTurn 95 = .ok (.invokevirtual 166, 3) := by decide +kernel
theorem dX4_oddsBehindTurn_98 : decode cX4_oddsBehindTurn 98 = .ok (.imul, 1) := by decide +kernel
theorem dX4_oddsBehindTurn_99 : decode cX4_oddsBehindTurn 99 = .ok (.istore 6, 2) := by decide +kernel
theorem dX4_oddsBehindTurn_101 : decode cX4_oddsBehindTurn 101 = .ok (.iload 5, 2) := by decide +kernel
theorem dX4_oddsBehindTurn_103 : decode cX4_oddsBehindTurn 103 = .ok (.iload 6, 2) := by decide +kernel
theorem dX4_oddsBehindTurn_105 : decode cX4_oddsBehindTurn 105 = .ok (.iadd, 1) := by decide +kernel
theorem dX4_oddsBehindTurn_106 : decode cX4_oddsBehindTurn 106 = .ok (.bipush 6, 2) := by decide +kernel
theorem dX4_oddsBehindTurn_108 : decode cX4_oddsBehindTurn 108 = .ok (.idiv, 1) := by decide +kernel
theorem dX4_oddsBehindTurn_109 : decode cX4_oddsBehindTurn 109 = .ok (.ireturn, 1) := by decide +kernel
theorem dX4_oddsBehindTurn_110 : decode cX4_oddsBehindTurn 110 = .ok (.iconst 0, 1) := by decide +kernel
theorem dX4_oddsBehindTurn_111 : decode cX4_oddsBehindTurn 111 = .ok (.istore 4, 2) := by decide +kernel
theorem dX4_oddsBehindTurn_113 : decode cX4_oddsBehindTurn 113 = .ok (.iload_n 2, 1) := by decide +kernel
theorem dX4_oddsBehindTurn_114 : decode cX4_oddsBehindTurn 114 = .ok (.istore 5, 2) := by decide +kernel
theorem dX4_oddsBehindTurn_116 : decode cX4_oddsBehindTurn 116 = .ok (.iload 5, 2) := by decide +kernel
theorem dX4_oddsBehindTurn_118 : decode cX4_oddsBehindTurn 118 = .ok (.aload_n 0, 1) := by decide +kernel
theorem dX4_oddsBehindTurn_119 : decode cX4_oddsBehindTurn 119 = .ok (.getfield 35, 3) := by decide +kernel
theorem dX4_oddsBehindTurn_122 : decode cX4_oddsBehindTurn 122 = .ok (.iload_n 1, 1) := by decide +kernel
theorem dX4_oddsBehindTurn_123 : decode cX4_oddsBehindTurn 123 = .ok (.iconst 1, 1) := by decide +kernel
theorem dX4_oddsBehindTurn_124 : decode cX4_oddsBehindTurn 124 = .ok (.iadd, 1) := by decide +kernel
theorem dX4_oddsBehindTurn_125 : decode cX4_oddsBehindTurn 125 = .ok (.iaload, 1) := by decide +kernel
theorem dX4_oddsBehindTurn_126 : decode cX4_oddsBehindTurn 126 = .ok (.if_icmp .ge 27, 3) := by decide +kernel
theorem dX4_oddsBehindTurn_129 : decode cX4_oddsBehindTurn 129 = .ok (.iload 4, 2) := by decide +kernel
theorem dX4_oddsBehindTurn_131 : decode cX4_oddsBehindTurn 131 = .ok (.aload_n 0, 1) := by decide +kernel
theorem dX4_oddsBehindTurn_132 : decode cX4_oddsBehindTurn 132 = .ok (.aload_n 0, 1) := by decide +kernel
theorem dX4_oddsBehindTurn_133 : decode cX4_oddsBehindTurn 133 = .ok (.getfield 38, 3) := by decide +kernel
theorem dX4_oddsBehindTurn_136 : decode cX4_oddsBehindTurn 136 = .ok (.iload 5, 2) := by decide +kernel
theorem dX4_oddsBehindTurn_138 : decode cX4_oddsBehindTurn 138 = .ok (.iaload, 1) := by decide +kernel
theorem dX4_oddsBehindTurn_139 : decode cX4_oddsBehindTurn 139 = .ok (.invokevirtual 166, 3) := by decide +kernel
theorem dX4_oddsBehindTurn_142 : decode cX4_oddsBehindTurn 142 = .ok (.invokestatic 169, 3) := by decide +kernel
theorem dX4_oddsBehindTurn_145 : decode cX4_oddsBehindTurn 145 = .ok (.istore 4, 2) := by decide +kernel
theorem dX4_oddsBehindTurn_147 : decode cX4_oddsBehindTurn 147 = .ok (.iinc 5 1, 3) := by decide +kernel
theorem dX4_oddsBehindTurn_150 : decode cX4_oddsBehindTurn 150 = .ok (.goto (-34), 3) := by decide +kernel
theorem dX4_oddsBehindTurn_153 : decode cX4_oddsBehindTurn 153 = .ok (.iload 4, 2) := by decide +kernel
theorem dX4_oddsBehindTurn_155 : decode cX4_oddsBehindTurn 155 = .ok (.ireturn, 1) := by decide +kernel
theorem dX4_leadsTo_0 : decode cX4_leadsTo 0 = .ok (.aload_n 0, 1) := by decide +kernel
theorem dX4_leadsTo_1 : decode cX4_leadsTo 1 = .ok (.getfield 35, 3) := by decide +kernel
theorem dX4_leadsTo_4 : decode cX4_leadsTo 4 = .ok (.iload_n 1, 1) := by decide +kernel
theorem dX4_leadsTo_5 : decode cX4_leadsTo 5 = .ok (.iaload, 1) := by decide +kernel
theorem dX4_leadsTo_6 : decode cX4_leadsTo 6 = .ok (.istore_n 3, 1) := by decide +kernel
theorem dX4_leadsTo_7 : decode cX4_leadsTo 7 = .ok (.iload_n 3, 1) := by decide +kernel
theorem dX4_leadsTo_8 : decode cX4_leadsTo 8 = .ok (.aload_n 0, 1) := by decide +kernel
theorem dX4_leadsTo_9 : decode cX4_leadsTo 9 = .ok (.getfield 35, 3) := by decide +kernel
theorem dX4_leadsTo_12 : decode cX4_leadsTo 12 = .ok (.iload_n 1, 1) := by decide +kernel
theorem dX4_leadsTo_13 : decode cX4_leadsTo 13 = .ok (.iconst 1, 1) := by decide +kernel
theorem dX4_leadsTo_14 : decode cX4_leadsTo 14 = .ok (.iadd, 1) := by decide +kernel
theorem dX4_leadsTo_15 : decode cX4_leadsTo 15 = .ok (.iaload, 1) := by decide +kernel
theorem dX4_leadsTo_16 : decode cX4_leadsTo 16 = .ok (.if_icmp .ge 25, 3) := by decide +kernel
theorem dX4_leadsTo_19 : decode cX4_leadsTo 19 = .ok (.aload_n 0, 1) := by decide +kernel
theorem dX4_leadsTo_20 : decode cX4_leadsTo 20 = .ok (.aload_n 0, 1) := by decide +kernel
theorem dX4_leadsTo_21 : decode cX4_leadsTo 21 = .ok (.getfield 38, 3) := by decide +kernel
theorem dX4_leadsTo_24 : decode cX4_leadsTo 24 = .ok (.iload_n 3, 1) := by decide +kernel
theorem dX4_leadsTo_25 : decode cX4_leadsTo 25 = .ok (.iaload, 1) := by decide +kernel
theorem dX4_leadsTo_26 : decode cX4_leadsTo 26 = .ok (.invokevirtual 172, 3) := by decide +kernel
theorem dX4_leadsTo_29 : decode cX4_leadsTo 29 = .ok (.iload_n 2, 1) := by decide +kernel
theorem dX4_leadsTo_30 : decode cX4_leadsTo 30 = .ok (.if_icmp .ne 5, 3) := by decide +kernel
theorem dX4_leadsTo_33 : decode cX4_leadsTo 33 = .ok (.iconst 1, 1) := by decide +kernel
theorem dX4_leadsTo_34 : decode cX4_leadsTo 34 = .ok (.ireturn, 1) := by decide +kernel
theorem dX4_leadsTo_35 : decode cX4_leadsTo 35 = .ok (.iinc 3 1, 3) := by decide +kernel
theorem dX4_leadsTo_38 : decode cX4_leadsTo 38 = .ok (.goto (-31), 3) := by decide +kernel
theorem dX4_leadsTo_41 : decode cX4_leadsTo 41 = .ok (.iconst 0, 1) := by decide +kernel
theorem dX4_leadsTo_42 : decode cX4_leadsTo 42 = .ok (.ireturn, 1) := by decide +kernel
theorem dX5_init_0 : decode cX5_init 0 = .ok (.aload_n 0, 1) := by decide +kernel
theorem dX5_init_1 : decode cX5_init 1 = .ok (.invokespecial 1, 3) := by decide +kernel
theorem dX5_init_4 : decode cX5_init 4 = .ok (.aload_n 0, 1) := by decide +kernel
theorem dX5_init_5 : decode cX5_init 5 = .ok (.new 7, 3) := by decide +kernel
theorem dX5_init_8 : decode cX5_init 8 = .ok (.dup, 1) := by decide +kernel
theorem dX5_init_9 : decode cX5_init 9 = .ok (.invokespecial 9, 3) := by decide +kernel
theorem dX5_init_12 : decode cX5_init 12 = .ok (.putfield 10, 3) := by decide +kernel
theorem dX5_init_15 : decode cX5_init 15 = .ok (.aload_n 0, 1) := by decide +kernel
theorem dX5_init_16 : decode cX5_init 16 = .ok (.bipush 60, 2) := by decide +kernel
theorem dX5_init_18 : decode cX5_init 18 = .ok (.newarray .int, 2) := by decide +kernel
theorem dX5_init_20 : decode cX5_init 20 = .ok (.putfield 16, 3) := by decide +kernel
theorem dX5_init_23 : decode cX5_init 23 = .ok (.aload_n 0, 1) := by decide +kernel
theorem dX5_init_24 : decode cX5_init 24 = .ok (.iconst 0, 1) := by decide +kernel
theorem dX5_init_25 : decode cX5_init 25 = .ok (.putfield 20, 3) := by decide +kernel
theorem dX5_init_28 : decode cX5_init 28 = .ok (.aload_n 0, 1) := by decide +kernel
theorem dX5_init_29 : decode cX5_init 29 = .ok (.iconst 0, 1) := by decide +kernel
theorem dX5_init_30 : decode cX5_init 30 = .ok (.putfield 24, 3) := by decide +kernel
theorem dX5_init_33 : decode cX5_init 33 = .ok (.aload_n 0, 1) := by decide +kernel
theorem dX5_init_34 : decode cX5_init 34 = .ok (.bipush 24, 2) := by decide +kernel
theorem dX5_init_36 : decode cX5_init 36 = .ok (.newarray .int, 2) := by decide +kernel
theorem dX5_init_38 : decode cX5_init 38 = .ok (.putfield 28, 3) := by decide +kernel
theorem dX5_init_41 : decode cX5_init 41 = .ok (.aload_n 0, 1) := by decide +kernel
theorem dX5_init_42 : decode cX5_init 42 = .ok (.bipush 24, 2) := by decide +kernel
theorem dX5_init_44 : decode cX5_init 44 = .ok (.newarray .int, 2) := by decide +kernel
theorem dX5_init_46 : decode cX5_init 46 = .ok (.putfield 31, 3) := by decide +kernel
theorem dX5_init_49 : decode cX5_init 49 = .ok (.aload_n 0, 1) := by decide +kernel
theorem dX5_init_50 : decode cX5_init 50 = .ok (.bipush 24, 2) := by decide +kernel
theorem dX5_init_52 : decode cX5_init 52 = .ok (.newarray .int, 2) := by decide +kernel
theorem dX5_init_54 : decode cX5_init 54 = .ok (.putfield 34, 3) := by decide +kernel
theorem dX5_init_57 : decode cX5_init 57 = .ok (.new 37, 3) := by decide +kernel
theorem dX5_init_60 : decode cX5_init 60 = .ok (.dup, 1) := by decide +kernel
theorem dX5_init_61 : decode cX5_init 61 = .ok (.invokespecial 39, 3) := by decide +kernel
theorem dX5_init_64 : decode cX5_init 64 = .ok (.astore_n 1, 1) := by decide +kernel
theorem dX5_init_65 : decode cX5_init 65 = .ok (.aload_n 0, 1) := by decide +kernel
theorem dX5_init_66 : decode cX5_init 66 = .ok (.new 40, 3) := by decide +kernel
theorem dX5_init_69 : decode cX5_init 69 = .ok (.dup, 1) := by decide +kernel
theorem dX5_init_70 : decode cX5_init 70 = .ok (.aload_n 1, 1) := by decide +kernel
theorem dX5_init_71 : decode cX5_init 71 = .ok (.invokespecial 42, 3) := by decide +kernel
theorem dX5_init_74 : decode cX5_init 74 = .ok (.putfield 45, 3) := by decide +kernel
theorem dX5_init_77 : decode cX5_init 77 = .ok (.aload_n 0, 1) := by decide +kernel
theorem dX5_init_78 : decode cX5_init 78 = .ok (.new 49, 3) := by decide +kernel
theorem dX5_init_81 : decode cX5_init 81 = .ok (.dup, 1) := by decide +kernel
theorem dX5_init_82 : decode cX5_init 82 = .ok (.aload_n 1, 1) := by decide +kernel
theorem dX5_init_83 : decode cX5_init 83 = .ok (.invokespecial 51, 3) := by decide +kernel
theorem dX5_init_86 : decode cX5_init 86 = .ok (.putfield 52, 3) := by decide +kernel
theorem dX5_init_89 : decode cX5_init 89 = .ok (.aload_n 0, 1) := by decide +kernel
theorem dX5_init_90 : decode cX5_init 90 = .ok (.new 49, 3) := by decide +kernel
theorem dX5_init_93 : decode cX5_init 93 = .ok (.dup, 1) := by decide +kernel
theorem dX5_init_94 : decode cX5_init 94 = .ok (.aload_n 1, 1) := by decide +kernel
theorem dX5_init_95 : decode cX5_init 95 = .ok (.invokespecial 51, 3) := by decide +kernel
theorem dX5_init_98 : decode cX5_init 98 = .ok (.putfield 56, 3) := by decide +kernel
theorem dX5_init_101 : decode cX5_init 101 = .ok (.aload_n 0, 1) := by decide +kernel
theorem dX5_init_102 : decode cX5_init 102 = .ok (.iconst 2, 1) := by decide +kernel
theorem dX5_init_103 : decode cX5_init 103 = .ok (.anewarray 40, 3) := by decide +kernel
theorem dX5_init_106 : decode cX5_init 106 = .ok (.putfield 59, 3) := by decide +kernel
theorem dX5_init_109 : decode cX5_init 109 = .ok (.iconst 0, 1) := by decide +kernel
theorem dX5_init_110 : decode cX5_init 110 = .ok (.istore_n 2, 1) := by decide +kernel
theorem dX5_init_111 : decode cX5_init 111 = .ok (.iload_n 2, 1) := by decide +kernel
theorem dX5_init_112 : decode cX5_init 112 = .ok (.iconst 2, 1) := by decide +kernel
theorem dX5_init_113 : decode cX5_init 113 = .ok (.if_icmp .ge 29, 3) := by decide +kernel
theorem dX5_init_116 : decode cX5_init 116 = .ok (.aload_n 0, 1) := by decide +kernel
theorem dX5_init_117 : decode cX5_init 117 = .ok (.getfield 59, 3) := by decide +kernel
theorem dX5_init_120 : decode cX5_init 120 = .ok (.iload_n 2, 1) := by decide +kernel
theorem dX5_init_121 : decode cX5_init 121 = .ok (.new 40, 3) := by decide +kernel
theorem dX5_init_124 : decode cX5_init 124 = .ok (.dup, 1) := by decide +kernel
theorem dX5_init_125 : decode cX5_init 125 = .ok (.new 37, 3) := by decide +kernel
theorem dX5_init_128 : decode cX5_init 128 = .ok (.dup, 1) := by decide +kernel
theorem dX5_init_129 : decode cX5_init 129 = .ok (.invokespecial 39, 3) := by decide +kernel
theorem dX5_init_132 : decode cX5_init 132 = .ok (.invokespecial 42, 3) := by decide +kernel
theorem dX5_init_135 : decode cX5_init 135 = .ok (.aastore, 1) := by decide +kernel
theorem dX5_init_136 : decode cX5_init 136 = .ok (.iinc 2 1, 3) := by decide +kernel
theorem dX5_init_139 : decode cX5_init 139 = .ok (.goto (-28), 3) := by decide +kernel
theorem dX5_init_142 : decode cX5_init 142 = .ok (.return_, 1) := by decide +kernel
theorem dX5_feed_0 : decode cX5_feed 0 = .ok (.iload_n 1, 1) := by decide +kernel
theorem dX5_feed_1 : decode cX5_feed 1 = .ok (.iconst 1, 1) := by decide +kernel
theorem dX5_feed_2 : decode cX5_feed 2 = .ok (.if_icmp .lt 9, 3) := by decide +kernel
theorem dX5_feed_5 : decode cX5_feed 5 = .ok (.iload_n 1, 1) := by decide +kernel
theorem dX5_feed_6 : decode cX5_feed 6 = .ok (.bipush 8, 2) := by decide +kernel
theorem dX5_feed_8 : decode cX5_feed 8 = .ok (.if_icmp .le 6, 3) := by decide +kernel
theorem dX5_feed_11 : decode cX5_feed 11 = .ok (.ldc 63, 2) := by decide +kernel
theorem dX5_feed_13 : decode cX5_feed 13 = .ok (.ireturn, 1) := by decide +kernel
theorem dX5_feed_14 : decode cX5_feed 14 = .ok (.iload_n 1, 1) := by decide +kernel
theorem dX5_feed_15 : decode cX5_feed 15 = .ok (.sipush 600, 3) := by decide +kernel
theorem dX5_feed_18 : decode cX5_feed 18 = .ok (.aload_n 0, 1) := by decide +kernel
theorem dX5_feed_19 : decode cX5_feed 19 = .ok (.getfield 10, 3) := by decide +kernel
theorem dX5_feed_22 : decode cX5_feed 22 = .ok (.getfield 64, 3) := by decide +kernel
theorem dX5_feed_25 : decode cX5_feed 25 = .ok (.isub, 1) := by decide +kernel
theorem dX5_feed_26 : decode cX5_feed 26 = .ok (.if_icmp .le 6, 3) := by decide +kernel
theorem dX5_feed_29 : decode cX5_feed 29 = .ok (.ldc 67, 2) := by decide +kernel
theorem dX5_feed_31 : decode cX5_feed 31 = .ok (.ireturn, 1) := by decide +kernel
theorem dX5_feed_32 : decode cX5_feed 32 = .ok (.iload_n 1, 1) := by decide +kernel
theorem dX5_feed_33 : decode cX5_feed 33 = .ok (.iconst 1, 1) := by decide +kernel
theorem dX5_feed_34 : decode cX5_feed 34 = .ok (.isub, 1) := by decide +kernel
theorem dX5_feed_35 : decode cX5_feed 35 = .ok (.istore 4, 2) := by decide +kernel
theorem dX5_feed_37 : decode cX5_feed 37 = .ok (.iload 4, 2) := by decide +kernel
theorem dX5_feed_39 : decode cX5_feed 39 = .ok (.ifCond .lt 25, 3) := by decide +kernel
theorem dX5_feed_42 : decode cX5_feed 42 = .ok (.aload_n 0, 1) := by decide +kernel
theorem dX5_feed_43 : decode cX5_feed 43 = .ok (.getfield 10, 3) := by decide +kernel
theorem dX5_feed_46 : decode cX5_feed 46 = .ok (.lload_n 2, 1) := by decide +kernel
theorem dX5_feed_47 : decode cX5_feed 47 = .ok (.bipush 8, 2) := by decide +kernel
theorem dX5_feed_49 : decode cX5_feed 49 = .ok (.iload 4, 2) := by decide +kernel
theorem dX5_feed_51 : decode cX5_feed 51 = .ok (.imul, 1) := by decide +kernel
theorem dX5_feed_52 : decode cX5_feed 52 = .ok (.lushr, 1) := by decide +kernel
theorem dX5_feed_53 : decode cX5_feed 53 = .ok (.l2i, 1) := by decide +kernel
theorem dX5_feed_54 : decode cX5_feed 54 = .ok (.i2b, 1) := by decide +kernel
theorem dX5_feed_55 : decode cX5_feed 55 = .ok (.invokevirtual 68, 3) := by decide +kernel
theorem dX5_feed_58 : decode cX5_feed 58 = .ok (.iinc 4 (-1), 3) := by decide +kernel
theorem dX5_feed_61 : decode cX5_feed 61 = .ok (.goto (-24), 3) := by decide +kernel
theorem dX5_feed_64 : decode cX5_feed 64 = .ok (.aload_n 0, 1) := by decide +kernel
theorem dX5_feed_65 : decode cX5_feed 65 = .ok (.getfield 10, 3) := by decide +kernel
theorem dX5_feed_68 : decode cX5_feed 68 = .ok (.getfield 64, 3) := by decide +kernel
theorem dX5_feed_71 : decode cX5_feed 71 = .ok (.ireturn, 1) := by decide +kernel
theorem dX5_book_0 : decode cX5_book 0 = .ok (.aload_n 0, 1) := by decide +kernel
theorem dX5_book_1 : decode cX5_book 1 = .ok (.getfield 10, 3) := by decide +kernel
theorem dX5_book_4 : decode cX5_book 4 = .ok (.invokevirtual 72, 3) := by decide +kernel
theorem dX5_book_7 : decode cX5_book 7 = .ok (.istore_n 1, 1) := by decide +kernel
theorem dX5_book_8 : decode cX5_book 8 = .ok (.aload_n 0, 1) := by decide +kernel
theorem dX5_book_9 : decode cX5_book 9 = .ok (.getfield 10, 3) := by decide +kernel
theorem dX5_book_12 : decode cX5_book 12 = .ok (.iconst 0, 1) := by decide +kernel
theorem dX5_book_13 : decode cX5_book 13 = .ok (.putfield 64, 3) := by decide +kernel
theorem dX5_book_16 : decode cX5_book 16 = .ok (.iload_n 1, 1) := by decide +kernel
theorem dX5_book_17 : decode cX5_book 17 = .ok (.ifCond .eq 8, 3) := by decide +kernel
theorem dX5_book_20 : decode cX5_book 20 = .ok (.bipush (-10), 2) := by decide +kernel
theorem dX5_book_22 : decode cX5_book 22 = .ok (.iload_n 1, 1) := by decide +kernel
theorem dX5_book_23 : decode cX5_book 23 = .ok (.isub, 1) := by decide +kernel
theorem dX5_book_24 : decode cX5_book 24 = .ok (.ireturn, 1) := by decide +kernel
theorem dX5_book_25 : decode cX5_book 25 = .ok (.aload_n 0, 1) := by decide +kernel
theorem dX5_book_26 : decode cX5_book 26 = .ok (.getfield 45, 3) := by decide +kernel
theorem dX5_book_29 : decode cX5_book 29 = .ok (.aload_n 0, 1) := by decide +kernel
theorem dX5_book_30 : decode cX5_book 30 = .ok (.getfield 10, 3) := by decide +kernel
theorem dX5_book_33 : decode cX5_book 33 = .ok (.getfield 76, 3) := by decide +kernel
theorem dX5_book_36 : decode cX5_book 36 = .ok (.invokevirtual 80, 3) := by decide +kernel
theorem dX5_book_39 : decode cX5_book 39 = .ok (.aload_n 0, 1) := by decide +kernel
theorem dX5_book_40 : decode cX5_book 40 = .ok (.iconst 0, 1) := by decide +kernel
theorem dX5_book_41 : decode cX5_book 41 = .ok (.putfield 20, 3) := by decide +kernel
theorem dX5_book_44 : decode cX5_book 44 = .ok (.aload_n 0, 1) := by decide +kernel
theorem dX5_book_45 : decode cX5_book 45 = .ok (.iconst 0, 1) := by decide +kernel
theorem dX5_book_46 : decode cX5_book 46 = .ok (.putfield 24, 3) := by decide +kernel
theorem dX5_book_49 : decode cX5_book 49 = .ok (.aload_n 0, 1) := by decide +kernel
theorem dX5_book_50 : decode cX5_book 50 = .ok (.getfield 45, 3) := by decide +kernel
theorem dX5_book_53 : decode cX5_book 53 = .ok (.getfield 83, 3) := by decide +kernel
theorem dX5_book_56 : decode cX5_book 56 = .ok (.getfield 86, 3) := by decide +kernel
theorem dX5_book_59 : decode cX5_book 59 = .ok (.ireturn, 1) := by decide +kernel
theorem dX5_fault_0 : decode cX5_fault 0 = .ok (.aload_n 0, 1) := by decide +kernel
theorem dX5_fault_1 : decode cX5_fault 1 = .ok (.getfield 10, 3) := by decide +kernel
theorem dX5_fault_4 : decode cX5_fault 4 = .ok (.getfield 89, 3) := by decide +kernel
theorem dX5_fault_7 : decode cX5_fault 7 = .ok (.ireturn, 1) := by decide +kernel
theorem dX5_part_0 : decode cX5_part 0 = .ok (.aload_n 0, 1) := by decide +kernel
theorem dX5_part_1 : decode cX5_part 1 = .ok (.getfield 45, 3) := by decide +kernel
theorem dX5_part_4 : decode cX5_part 4 = .ok (.getfield 83, 3) := by decide +kernel
theorem dX5_part_7 : decode cX5_part 7 = .ok (.astore_n 3, 1) := by decide +kernel
theorem dX5_part_8 : decode cX5_part 8 = .ok (.aload_n 3, 1) := by decide +kernel
theorem dX5_part_9 : decode cX5_part 9 = .ok (.iload_n 1, 1) := by decide +kernel
theorem dX5_part_10 : decode cX5_part 10 = .ok (.invokevirtual 92, 3) := by decide +kernel
theorem dX5_part_13 : decode cX5_part 13 = .ok (.ifCond .ne 6, 3) := by decide +kernel
theorem dX5_part_16 : decode cX5_part 16 = .ok (.ldc 96, 2) := by decide +kernel
theorem dX5_part_18 : decode cX5_part 18 = .ok (.ireturn, 1) := by decide +kernel
theorem dX5_part_19 : decode cX5_part 19 = .ok (.iload_n 2, 1) := by decide +kernel
theorem dX5_part_20 : decode cX5_part 20 = .ok (.ifCond .lt 9, 3) := by decide +kernel
theorem dX5_part_23 : decode cX5_part 23 = .ok (.iload_n 2, 1) := by decide +kernel
theorem dX5_part_24 : decode cX5_part 24 = .ok (.bipush 6, 2) := by decide +kernel
theorem dX5_part_26 : decode cX5_part 26 = .ok (.if_icmp .le 6, 3) := by decide +kernel
theorem dX5_part_29 : decode cX5_part 29 = .ok (.ldc 63, 2) := by decide +kernel
theorem dX5_part_31 : decode cX5_part 31 = .ok (.ireturn, 1) := by decide +kernel
theorem dX5_part_32 : decode cX5_part 32 = .ok (.aload_n 3, 1) := by decide +kernel
theorem dX5_part_33 : decode cX5_part 33 = .ok (.getfield 97, 3) := by decide +kernel
theorem dX5_part_36 : decode cX5_part 36 = .ok (.iload_n 1, 1) := by decide +kernel
theorem dX5_part_37 : decode cX5_part 37 = .ok (.iaload, 1) := by decide +kernel
theorem dX5_part_38 : decode cX5_part 38 = .ok (.iconst 3, 1) := by decide +kernel
theorem dX5_part_39 : decode cX5_part 39 = .ok (.if_icmp .ne 7, 3) := by decide +kernel
theorem dX5_part_42 : decode cX5_part 42 = .ok (.iconst 1, 1) := by decide +kernel
theorem dX5_part_43 : decode cX5_part 43 = .ok (.goto 4, 3) := by decide +kernel
theorem dX5_part_46 : decode cX5_part 46 = .ok (.iconst 0, 1) := by decide +kernel
theorem dX5_part_47 : decode cX5_part 47 = .ok (.istore 4, 2) := by decide +kernel
theorem dX5_part_49 : decode cX5_part 49 = .ok (.iload_n 2, 1) := by decide +kernel
theorem dX5_part_50 : decode cX5_part 50 = .ok (.tableswitch 97 0 5 #[38, 45, 52, 59, 65, 81], 38) := by decide +kernel
theorem dX5_part_88 : decode cX5_part 88 = .ok (.aload_n 3, 1) := by decide +kernel
theorem dX5_part_89 : decode cX5_part 89 = .ok (.getfield 97, 3) := by decide +kernel
theorem dX5_part_92 : decode cX5_part 92 = .ok (.iload_n 1, 1) := by decide +kernel
theorem dX5_part_93 : decode cX5_part 93 = .ok (.iaload, 1) := by decide +kernel
theorem dX5_part_94 : decode cX5_part 94 = .ok (.ireturn, 1) := by decide +kernel
theorem dX5_part_95 : decode cX5_part 95 = .ok (.aload_n 3, 1) := by decide +kernel
theorem dX5_part_96 : decode cX5_part 96 = .ok (.getfield 100, 3) := by decide +kernel
theorem dX5_part_99 : decode cX5_part 99 = .ok (.iload_n 1, 1) := by decide +kernel
theorem dX5_part_100 : decode cX5_part 100 = .ok (.iaload, 1) := by decide +kernel
theorem dX5_part_101 : decode cX5_part 101 = .ok (.ireturn, 1) := by decide +kernel
theorem dX5_part_102 : decode cX5_part 102 = .ok (.aload_n 3, 1) := by decide +kernel
theorem dX5_part_103 : decode cX5_part 103 = .ok (.getfield 103, 3) := by decide +kernel
theorem dX5_part_106 : decode cX5_part 106 = .ok (.iload_n 1, 1) := by decide +kernel
theorem dX5_part_107 : decode cX5_part 107 = .ok (.iaload, 1) := by decide +kernel
theorem dX5_part_108 : decode cX5_part 108 = .ok (.ireturn, 1) := by decide +kernel
theorem dX5_part_109 : decode cX5_part 109 = .ok (.aload_n 3, 1) := by decide +kernel
theorem dX5_part_110 : decode cX5_part 110 = .ok (.iload_n 1, 1) := by decide +kernel
theorem dX5_part_111 : decode cX5_part 111 = .ok (.invokevirtual 106, 3) := by decide +kernel
theorem dX5_part_114 : decode cX5_part 114 = .ok (.ireturn, 1) := by decide +kernel
theorem dX5_part_115 : decode cX5_part 115 = .ok (.iload 4, 2) := by decide +kernel
theorem dX5_part_117 : decode cX5_part 117 = .ok (.ifCond .eq 12, 3) := by decide +kernel
theorem dX5_part_120 : decode cX5_part 120 = .ok (.aload_n 3, 1) := by decide +kernel
theorem dX5_part_121 : decode cX5_part 121 = .ok (.getfield 110, 3) := by decide +kernel
theorem dX5_part_124 : decode cX5_part 124 = .ok (.iload_n 1, 1) := by decide +kernel
theorem dX5_part_125 : decode cX5_part 125 = .ok (.iaload, 1) := by decide +kernel
theorem dX5_part_126 : decode cX5_part 126 = .ok (.goto 4, 3) := by decide +kernel
theorem dX5_part_129 : decode cX5_part 129 = .ok (.iconst (-1), 1) := by decide +kernel
theorem dX5_part_130 : decode cX5_part 130 = .ok (.ireturn, 1) := by decide +kernel
theorem dX5_part_131 : decode cX5_part 131 = .ok (.iload 4, 2) := by decide +kernel
theorem dX5_part_133 : decode cX5_part 133 = .ok (.ifCond .eq 12, 3) := by decide +kernel
theorem dX5_part_136 : decode cX5_part 136 = .ok (.aload_n 3, 1) := by decide +kernel
theorem dX5_part_137 : decode cX5_part 137 = .ok (.getfield 113, 3) := by decide +kernel
theorem dX5_part_140 : decode cX5_part 140 = .ok (.iload_n 1, 1) := by decide +kernel
theorem dX5_part_141 : decode cX5_part 141 = .ok (.iaload, 1) := by decide +kernel
theorem dX5_part_142 : decode cX5_part 142 = .ok (.goto 4, 3) := by decide +kernel
theorem dX5_part_145 : decode cX5_part 145 = .ok (.iconst (-1), 1) := by decide +kernel
theorem dX5_part_146 : decode cX5_part 146 = .ok (.ireturn, 1) := by decide +kernel
theorem dX5_part_147 : decode cX5_part 147 = .ok (.iload 4, 2) := by decide +kernel
theorem dX5_part_149 : decode cX5_part 149 = .ok (.ifCond .eq 12, 3) := by decide +kernel
theorem dX5_part_152 : decode cX5_part 152 = .ok (.aload_n 3, 1) := by decide +kernel
theorem dX5_part_153 : decode cX5_part 153 = .ok (.getfield 116, 3) := by decide +kernel
theorem dX5_part_156 : decode cX5_part 156 = .ok (.iload_n 1, 1) := by decide +kernel
theorem dX5_part_157 : decode cX5_part 157 = .ok (.iaload, 1) := by decide +kernel
theorem dX5_part_158 : decode cX5_part 158 = .ok (.goto 4, 3) := by decide +kernel
theorem dX5_part_161 : decode cX5_part 161 = .ok (.iconst (-1), 1) := by decide +kernel
theorem dX5_part_162 : decode cX5_part 162 = .ok (.ireturn, 1) := by decide +kernel
theorem dX5_effect_0 : decode cX5_effect 0 = .ok (.aload_n 0, 1) := by decide +kernel
theorem dX5_effect_1 : decode cX5_effect 1 = .ok (.getfield 45, 3) := by decide +kernel
theorem dX5_effect_4 : decode cX5_effect 4 = .ok (.getfield 83, 3) := by decide +kernel
theorem dX5_effect_7 : decode cX5_effect 7 = .ok (.astore 4, 2) := by decide +kernel
theorem dX5_effect_9 : decode cX5_effect 9 = .ok (.aload 4, 2) := by decide +kernel
theorem dX5_effect_11 : decode cX5_effect 11 = .ok (.iload_n 1, 1) := by decide +kernel
theorem dX5_effect_12 : decode cX5_effect 12 = .ok (.iload_n 2, 1) := by decide +kernel
theorem dX5_effect_13 : decode cX5_effect 13 = .ok (.invokevirtual 119, 3) := by decide +kernel
theorem dX5_effect_16 : decode cX5_effect 16 = .ok (.ifCond .ne 6, 3) := by decide +kernel
theorem dX5_effect_19 : decode cX5_effect 19 = .ok (.ldc 96, 2) := by decide +kernel
theorem dX5_effect_21 : decode cX5_effect 21 = .ok (.ireturn, 1) := by decide +kernel
theorem dX5_effect_22 : decode cX5_effect 22 = .ok (.iload_n 3, 1) := by decide +kernel
theorem dX5_effect_23 : decode cX5_effect 23 = .ok (.ifCond .lt 8, 3) := by decide +kernel
theorem dX5_effect_26 : decode cX5_effect 26 = .ok (.iload_n 3, 1) := by decide +kernel
theorem dX5_effect_27 : decode cX5_effect 27 = .ok (.iconst 1, 1) := by decide +kernel
theorem dX5_effect_28 : decode cX5_effect 28 = .ok (.if_icmp .le 6, 3) := by decide +kernel
theorem dX5_effect_31 : decode cX5_effect 31 = .ok (.ldc 63, 2) := by decide +kernel
theorem dX5_effect_33 : decode cX5_effect 33 = .ok (.ireturn, 1) := by decide +kernel
theorem dX5_effect_34 : decode cX5_effect 34 = .ok (.iload_n 1, 1) := by decide +kernel
theorem dX5_effect_35 : decode cX5_effect 35 = .ok (.iconst 4, 1) := by decide +kernel
theorem dX5_effect_36 : decode cX5_effect 36 = .ok (.imul, 1) := by decide +kernel
theorem dX5_effect_37 : decode cX5_effect 37 = .ok (.iload_n 2, 1) := by decide +kernel
theorem dX5_effect_38 : decode cX5_effect 38 = .ok (.iadd, 1) := by decide +kernel
theorem dX5_effect_39 : decode cX5_effect 39 = .ok (.istore 5, 2) := by decide +kernel
theorem dX5_effect_41 : decode cX5_effect 41 = .ok (.iload_n 3, 1) := by decide +kernel
theorem dX5_effect_42 : decode cX5_effect 42 = .ok (.ifCond .ne 14, 3) := by decide +kernel
theorem dX5_effect_45 : decode cX5_effect 45 = .ok (.aload 4, 2) := by decide +kernel
theorem dX5_effect_47 : decode cX5_effect 47 = .ok (.getfield 123, 3) := by decide +kernel
theorem dX5_effect_50 : decode cX5_effect 50 = .ok (.iload 5, 2) := by decide +kernel
theorem dX5_effect_52 : decode cX5_effect 52 = .ok (.iaload, 1) := by decide +kernel
theorem dX5_effect_53 : decode cX5_effect 53 = .ok (.goto 11, 3) := by decide +kernel
theorem dX5_effect_56 : decode cX5_effect 56 = .ok (.aload 4, 2) := by decide +kernel
theorem dX5_effect_58 : decode cX5_effect 58 = .ok (.getfield 126, 3) := by decide +kernel
theorem dX5_effect_61 : decode cX5_effect 61 = .ok (.iload 5, 2) := by decide +kernel
theorem dX5_effect_63 : decode cX5_effect 63 = .ok (.iaload, 1) := by decide +kernel
theorem dX5_effect_64 : decode cX5_effect 64 = .ok (.ireturn, 1) := by decide +kernel
theorem dX5_choice_0 : decode cX5_choice 0 = .ok (.aload_n 0, 1) := by decide +kernel
theorem dX5_choice_1 : decode cX5_choice 1 = .ok (.getfield 45, 3) := by decide +kernel
theorem dX5_choice_4 : decode cX5_choice 4 = .ok (.getfield 83, 3) := by decide +kernel
theorem dX5_choice_7 : decode cX5_choice 7 = .ok (.astore 4, 2) := by decide +kernel
theorem dX5_choice_9 : decode cX5_choice 9 = .ok (.aload 4, 2) := by decide +kernel
theorem dX5_choice_11 : decode cX5_choice 11 = .ok (.iload_n 1, 1) := by decide +kernel
theorem dX5_choice_12 : decode cX5_choice 12 = .ok (.iload_n 2, 1) := by decide +kernel
theorem dX5_choice_13 : decode cX5_choice 13 = .ok (.invokevirtual 129, 3) := by decide +kernel
theorem dX5_choice_16 : decode cX5_choice 16 = .ok (.ifCond .ne 6, 3) := by decide +kernel
theorem dX5_choice_19 : decode cX5_choice 19 = .ok (.ldc 96, 2) := by decide +kernel
theorem dX5_choice_21 : decode cX5_choice 21 = .ok (.ireturn, 1) := by decide +kernel
theorem dX5_choice_22 : decode cX5_choice 22 = .ok (.iload_n 3, 1) := by decide +kernel
theorem dX5_choice_23 : decode cX5_choice 23 = .ok (.ifCond .lt 8, 3) := by decide +kernel
theorem dX5_choice_26 : decode cX5_choice 26 = .ok (.iload_n 3, 1) := by decide +kernel
theorem dX5_choice_27 : decode cX5_choice 27 = .ok (.iconst 2, 1) := by decide +kernel
theorem dX5_choice_28 : decode cX5_choice 28 = .ok (.if_icmp .le 6, 3) := by decide +kernel
theorem dX5_choice_31 : decode cX5_choice 31 = .ok (.ldc 63, 2) := by decide +kernel
theorem dX5_choice_33 : decode cX5_choice 33 = .ok (.ireturn, 1) := by decide +kernel
theorem dX5_choice_34 : decode cX5_choice 34 = .ok (.iload_n 1, 1) := by decide +kernel
theorem dX5_choice_35 : decode cX5_choice 35 = .ok (.bipush 6, 2) := by decide +kernel
theorem dX5_choice_37 : decode cX5_choice 37 = .ok (.imul, 1) := by decide +kernel
theorem dX5_choice_38 : decode cX5_choice 38 = .ok (.iload_n 2, 1) := by decide +kernel
theorem dX5_choice_39 : decode cX5_choice 39 = .ok (.iadd, 1) := by decide +kernel
theorem dX5_choice_40 : decode cX5_choice 40 = .ok (.istore 5, 2) := by decide +kernel
theorem dX5_choice_42 : decode cX5_choice 42 = .ok (.iload_n 3, 1) := by decide +kernel
theorem dX5_choice_43 : decode cX5_choice 43 = .ok (.ifCond .ne 12, 3) := by decide +kernel
theorem dX5_choice_46 : decode cX5_choice 46 = .ok (.aload 4, 2) := by decide +kernel
theorem dX5_choice_48 : decode cX5_choice 48 = .ok (.getfield 132, 3) := by decide +kernel
theorem dX5_choice_51 : decode cX5_choice 51 = .ok (.iload 5, 2) := by decide +kernel
theorem dX5_choice_53 : decode cX5_choice 53 = .ok (.iaload, 1) := by decide +kernel
theorem dX5_choice_54 : decode cX5_choice 54 = .ok (.ireturn, 1) := by decide +kernel
theorem dX5_choice_55 : decode cX5_choice 55 = .ok (.iload_n 3, 1) := by decide +kernel
theorem dX5_choice_56 : decode cX5_choice 56 = .ok (.iconst 1, 1) := by decide +kernel
theorem dX5_choice_57 : decode cX5_choice 57 = .ok (.if_icmp .ne 14, 3) := by decide +kernel
theorem dX5_choice_60 : decode cX5_choice 60 = .ok (.aload 4, 2) := by decide +kernel
theorem dX5_choice_62 : decode cX5_choice 62 = .ok (.getfield 135, 3) := by decide +kernel
theorem dX5_choice_65 : decode cX5_choice 65 = .ok (.iload 5, 2) := by decide +kernel
theorem dX5_choice_67 : decode cX5_choice 67 = .ok (.iaload, 1) := by decide +kernel
theorem dX5_choice_68 : decode cX5_choice 68 = .ok (.goto 11, 3) := by decide +kernel
theorem dX5_choice_71 : decode cX5_choice 71 = .ok (.aload 4, 2) := by decide +kernel
theorem dX5_choice_73 : decode cX5_choice 73 = .ok (.getfield 138, 3) := by decide +kernel
theorem dX5_choice_76 : decode cX5_choice 76 = .ok (.iload 5, 2) := by decide +kernel
theorem dX5_choice_78 : decode cX5_choice 78 = .ok (.iaload, 1) := by decide +kernel
theorem dX5_choice_79 : decode cX5_choice 79 = .ok (.ireturn, 1) := by decide +kernel
theorem dX5_link_0 : decode cX5_link 0 = .ok (.aload_n 0, 1) := by decide +kernel
theorem dX5_link_1 : decode cX5_link 1 = .ok (.getfield 45, 3) := by decide +kernel
theorem dX5_link_4 : decode cX5_link 4 = .ok (.getfield 83, 3) := by decide +kernel
theorem dX5_link_7 : decode cX5_link 7 = .ok (.astore 5, 2) := by decide +kernel
theorem dX5_link_9 : decode cX5_link 9 = .ok (.aload 5, 2) := by decide +kernel
theorem dX5_link_11 : decode cX5_link 11 = .ok (.iload_n 1, 1) := by decide +kernel
theorem dX5_link_12 : decode cX5_link 12 = .ok (.invokevirtual 92, 3) := by decide +kernel
theorem dX5_link_15 : decode cX5_link 15 = .ok (.ifCond .eq 27, 3) := by decide +kernel
theorem dX5_link_18 : decode cX5_link 18 = .ok (.aload 5, 2) := by decide +kernel
theorem dX5_link_20 : decode cX5_link 20 = .ok (.iload_n 2, 1) := by decide +kernel
theorem dX5_link_21 : decode cX5_link 21 = .ok (.invokevirtual 92, 3) := by decide +kernel
theorem dX5_link_24 : decode cX5_link 24 = .ok (.ifCond .eq 18, 3) := by decide +kernel
theorem dX5_link_27 : decode cX5_link 27 = .ok (.iload_n 3, 1) := by decide +kernel
theorem dX5_link_28 : decode cX5_link 28 = .ok (.invokestatic 141, 3) := by decide +kernel
theorem dX5_link_31 : decode cX5_link 31 = .ok (.ifCond .eq 11, 3) := by decide +kernel
theorem dX5_link_34 : decode cX5_link 34 = .ok (.iload 4, 2) := by decide +kernel
theorem dX5_link_36 : decode cX5_link 36 = .ok (.invokestatic 141, 3) := by decide +kernel
theorem dX5_link_39 : decode cX5_link 39 = .ok (.ifCond .ne 6, 3) := by decide +kernel
theorem dX5_link_42 : decode cX5_link 42 = .ok (.ldc 96, 2) := by decide +kernel
theorem dX5_link_44 : decode cX5_link 44 = .ok (.ireturn, 1) := by decide +kernel
theorem dX5_link_45 : decode cX5_link 45 = .ok (.aload 5, 2) := by decide +kernel
theorem dX5_link_47 : decode cX5_link 47 = .ok (.getfield 97, 3) := by decide +kernel
theorem dX5_link_50 : decode cX5_link 50 = .ok (.iload_n 1, 1) := by decide +kernel
theorem dX5_link_51 : decode cX5_link 51 = .ok (.iaload, 1) := by decide +kernel
theorem dX5_link_52 : decode cX5_link 52 = .ok (.ifCond .eq 6, 3) := by decide +kernel
theorem dX5_link_55 : decode cX5_link 55 = .ok (.ldc 144, 2) := by decide +kernel
theorem dX5_link_57 : decode cX5_link 57 = .ok (.ireturn, 1) := by decide +kernel
theorem dX5_link_58 : decode cX5_link 58 = .ok (.aload 5, 2) := by decide +kernel
theorem dX5_link_60 : decode cX5_link 60 = .ok (.getfield 103, 3) := by decide +kernel
theorem dX5_link_63 : decode cX5_link 63 = .ok (.iload_n 1, 1) := by decide +kernel
theorem dX5_link_64 : decode cX5_link 64 = .ok (.iaload, 1) := by decide +kernel
theorem dX5_link_65 : decode cX5_link 65 = .ok (.bipush 6, 2) := by decide +kernel
theorem dX5_link_67 : decode cX5_link 67 = .ok (.if_icmp .lt 6, 3) := by decide +kernel
theorem dX5_link_70 : decode cX5_link 70 = .ok (.ldc 67, 2) := by decide +kernel
theorem dX5_link_72 : decode cX5_link 72 = .ok (.ireturn, 1) := by decide +kernel
theorem dX5_link_73 : decode cX5_link 73 = .ok (.aload 5, 2) := by decide +kernel
theorem dX5_link_75 : decode cX5_link 75 = .ok (.iload_n 1, 1) := by decide +kernel
theorem dX5_link_76 : decode cX5_link 76 = .ok (.iload_n 2, 1) := by decide +kernel
theorem dX5_link_77 : decode cX5_link 77 = .ok (.iload_n 3, 1) := by decide +kernel
theorem dX5_link_78 : decode cX5_link 78 = .ok (.iload 4, 2) := by decide +kernel
theorem dX5_link_80 : decode cX5_link 80 = .ok (.invokevirtual 145, 3) := by decide +kernel
theorem dX5_link_83 : decode cX5_link 83 = .ok (.aload_n 0, 1) := by decide +kernel
theorem dX5_link_84 : decode cX5_link 84 = .ok (.iconst 0, 1) := by decide +kernel
theorem dX5_link_85 : decode cX5_link 85 = .ok (.putfield 24, 3) := by decide +kernel
theorem dX5_link_88 : decode cX5_link 88 = .ok (.aload 5, 2) := by decide +kernel
theorem dX5_link_90 : decode cX5_link 90 = .ok (.getfield 103, 3) := by decide +kernel
theorem dX5_link_93 : decode cX5_link 93 = .ok (.iload_n 1, 1) := by decide +kernel
theorem dX5_link_94 : decode cX5_link 94 = .ok (.iaload, 1) := by decide +kernel
theorem dX5_link_95 : decode cX5_link 95 = .ok (.ireturn, 1) := by decide +kernel
theorem dX5_unlink_0 : decode cX5_unlink 0 = .ok (.aload_n 0, 1) := by decide +kernel
theorem dX5_unlink_1 : decode cX5_unlink 1 = .ok (.getfield 45, 3) := by decide +kernel
theorem dX5_unlink_4 : decode cX5_unlink 4 = .ok (.getfield 83, 3) := by decide +kernel
theorem dX5_unlink_7 : decode cX5_unlink 7 = .ok (.astore_n 3, 1) := by decide +kernel
theorem dX5_unlink_8 : decode cX5_unlink 8 = .ok (.aload_n 3, 1) := by decide +kernel
theorem dX5_unlink_9 : decode cX5_unlink 9 = .ok (.iload_n 1, 1) := by decide +kernel
theorem dX5_unlink_10 : decode cX5_unlink 10 = .ok (.iload_n 2, 1) := by decide +kernel
theorem dX5_unlink_11 : decode cX5_unlink 11 = .ok (.invokevirtual 129, 3) := by decide +kernel
theorem dX5_unlink_14 : decode cX5_unlink 14 = .ok (.ifCond .ne 6, 3) := by decide +kernel
theorem dX5_unlink_17 : decode cX5_unlink 17 = .ok (.ldc 96, 2) := by decide +kernel
theorem dX5_unlink_19 : decode cX5_unlink 19 = .ok (.ireturn, 1) := by decide +kernel
theorem dX5_unlink_20 : decode cX5_unlink 20 = .ok (.aload_n 3, 1) := by decide +kernel
theorem dX5_unlink_21 : decode cX5_unlink 21 = .ok (.iload_n 1, 1) := by decide +kernel
theorem dX5_unlink_22 : decode cX5_unlink 22 = .ok (.iload_n 2, 1) := by decide +kernel
theorem dX5_unlink_23 : decode cX5_unlink 23 = .ok (.invokevirtual 149, 3) := by decide +kernel
theorem dX5_unlink_26 : decode cX5_unlink 26 = .ok (.aload_n 0, 1) := by decide +kernel
theorem dX5_unlink_27 : decode cX5_unlink 27 = .ok (.iconst 0, 1) := by decide +kernel
theorem dX5_unlink_28 : decode cX5_unlink 28 = .ok (.putfield 24, 3) := by decide +kernel
theorem dX5_unlink_31 : decode cX5_unlink 31 = .ok (.aload_n 3, 1) := by decide +kernel
theorem dX5_unlink_32 : decode cX5_unlink 32 = .ok (.getfield 103, 3) := by decide +kernel
theorem dX5_unlink_35 : decode cX5_unlink 35 = .ok (.iload_n 1, 1) := by decide +kernel
theorem dX5_unlink_36 : decode cX5_unlink 36 = .ok (.iaload, 1) := by decide +kernel
theorem dX5_unlink_37 : decode cX5_unlink 37 = .ok (.ireturn, 1) := by decide +kernel
theorem dX5_count_0 : decode cX5_count 0 = .ok (.iload_n 1, 1) := by decide +kernel
theorem dX5_count_1 : decode cX5_count 1 = .ok (.tableswitch 93 0 5 #[39, 50, 61, 72, 77, 85], 39) := by decide +kernel
theorem dX5_count_40 : decode cX5_count 40 = .ok (.aload_n 0, 1) := by decide +kernel
theorem dX5_count_41 : decode cX5_count 41 = .ok (.getfield 45, 3) := by decide +kernel
theorem dX5_count_44 : decode cX5_count 44 = .ok (.getfield 83, 3) := by decide +kernel
theorem dX5_count_47 : decode cX5_count 47 = .ok (.getfield 86, 3) := by decide +kernel
theorem dX5_count_50 : decode cX5_count 50 = .ok (.ireturn, 1) := by decide +kernel
theorem dX5_count_51 : decode cX5_count 51 = .ok (.aload_n 0, 1) := by decide +kernel
theorem dX5_count_52 : decode cX5_count 52 = .ok (.getfield 45, 3) := by decide +kernel
theorem dX5_count_55 : decode cX5_count 55 = .ok (.getfield 83, 3) := by decide +kernel
theorem dX5_count_58 : decode cX5_count 58 = .ok (.invokevirtual 153, 3) := by decide +kernel
theorem dX5_count_61 : decode cX5_count 61 = .ok (.ireturn, 1) := by decide +kernel
theorem dX5_count_62 : decode cX5_count 62 = .ok (.aload_n 0, 1) := by decide +kernel
theorem dX5_count_63 : decode cX5_count 63 = .ok (.getfield 45, 3) := by decide +kernel
theorem dX5_count_66 : decode cX5_count 66 = .ok (.getfield 83, 3) := by decide +kernel
theorem dX5_count_69 : decode cX5_count 69 = .ok (.getfield 156, 3) := by decide +kernel
theorem dX5_count_72 : decode cX5_count 72 = .ok (.ireturn, 1) := by decide +kernel
theorem dX5_count_73 : decode cX5_count 73 = .ok (.aload_n 0, 1) := by decide +kernel
theorem dX5_count_74 : decode cX5_count 74 = .ok (.getfield 20, 3) := by decide +kernel
theorem dX5_count_77 : decode cX5_count 77 = .ok (.ireturn, 1) := by decide +kernel
theorem dX5_count_78 : decode cX5_count 78 = .ok (.aload_n 0, 1) := by decide +kernel
theorem dX5_count_79 : decode cX5_count 79 = .ok (.getfield 10, 3) := by decide +kernel
theorem dX5_count_82 : decode cX5_count 82 = .ok (.getfield 64, 3) := by decide +kernel
theorem dX5_count_85 : decode cX5_count 85 = .ok (.ireturn, 1) := by decide +kernel
theorem dX5_count_86 : decode cX5_count 86 = .ok (.aload_n 0, 1) := by decide +kernel
theorem dX5_count_87 : decode cX5_count 87 = .ok (.invokevirtual 159, 3) := by decide +kernel
theorem dX5_count_90 : decode cX5_count 90 = .ok (.getfield 163, 3) := by decide +kernel
theorem dX5_count_93 : decode cX5_count 93 = .ok (.ireturn, 1) := by decide +kernel
theorem dX5_count_94 : decode cX5_count 94 = .ok (.ldc 63, 2) := by decide +kernel
theorem dX5_count_96 : decode cX5_count 96 = .ok (.ireturn, 1) := by decide +kernel
theorem dX5_begin_0 : decode cX5_begin 0 = .ok (.aload_n 0, 1) := by decide +kernel
theorem dX5_begin_1 : decode cX5_begin 1 = .ok (.getfield 45, 3) := by decide +kernel
theorem dX5_begin_4 : decode cX5_begin 4 = .ok (.getfield 83, 3) := by decide +kernel
theorem dX5_begin_7 : decode cX5_begin 7 = .ok (.getfield 86, 3) := by decide +kernel
theorem dX5_begin_10 : decode cX5_begin 10 = .ok (.ifCond .ne 6, 3) := by decide +kernel
theorem dX5_begin_13 : decode cX5_begin 13 = .ok (.ldc 144, 2) := by decide +kernel
theorem dX5_begin_15 : decode cX5_begin 15 = .ok (.ireturn, 1) := by decide +kernel
theorem dX5_begin_16 : decode cX5_begin 16 = .ok (.aload_n 0, 1) := by decide +kernel
theorem dX5_begin_17 : decode cX5_begin 17 = .ok (.getfield 45, 3) := by decide +kernel
theorem dX5_begin_20 : decode cX5_begin 20 = .ok (.invokevirtual 166, 3) := by decide +kernel
theorem dX5_begin_23 : decode cX5_begin 23 = .ok (.aload_n 0, 1) := by decide +kernel
theorem dX5_begin_24 : decode cX5_begin 24 = .ok (.getfield 45, 3) := by decide +kernel
theorem dX5_begin_27 : decode cX5_begin 27 = .ok (.invokevirtual 169, 3) := by decide +kernel
theorem dX5_begin_30 : decode cX5_begin 30 = .ok (.ireturn, 1) := by decide +kernel
theorem dX5_choose_0 : decode cX5_choose 0 = .ok (.aload_n 0, 1) := by decide +kernel
theorem dX5_choose_1 : decode cX5_choose 1 = .ok (.getfield 45, 3) := by decide +kernel
theorem dX5_choose_4 : decode cX5_choose 4 = .ok (.getfield 172, 3) := by decide +kernel
theorem dX5_choose_7 : decode cX5_choose 7 = .ok (.ifCond .ne 6, 3) := by decide +kernel
theorem dX5_choose_10 : decode cX5_choose 10 = .ok (.ldc 144, 2) := by decide +kernel
theorem dX5_choose_12 : decode cX5_choose 12 = .ok (.ireturn, 1) := by decide +kernel
theorem dX5_choose_13 : decode cX5_choose 13 = .ok (.aload_n 0, 1) := by decide +kernel
theorem dX5_choose_14 : decode cX5_choose 14 = .ok (.getfield 45, 3) := by decide +kernel
theorem dX5_choose_17 : decode cX5_choose 17 = .ok (.getfield 83, 3) := by decide +kernel
theorem dX5_choose_20 : decode cX5_choose 20 = .ok (.aload_n 0, 1) := by decide +kernel
theorem dX5_choose_21 : decode cX5_choose 21 = .ok (.getfield 45, 3) := by decide +kernel
theorem dX5_choose_24 : decode cX5_choose 24 = .ok (.getfield 175, 3) := by decide +kernel
theorem dX5_choose_27 : decode cX5_choose 27 = .ok (.invokestatic 178, 3) := by decide +kernel
theorem dX5_choose_30 : decode cX5_choose 30 = .ok (.iload_n 1, 1) := by decide +kernel
theorem dX5_choose_31 : decode cX5_choose 31 = .ok (.invokevirtual 129, 3) := by decide +kernel
theorem dX5_choose_34 : decode cX5_choose 34 = .ok (.ifCond .ne 6, 3) := by decide +kernel
theorem dX5_choose_37 : decode cX5_choose 37 = .ok (.ldc 96, 2) := by decide +kernel
theorem dX5_choose_39 : decode cX5_choose 39 = .ok (.ireturn, 1) := by decide +kernel
theorem dX5_choose_40 : decode cX5_choose 40 = .ok (.aload_n 0, 1) := by decide +kernel
theorem dX5_choose_41 : decode cX5_choose 41 = .ok (.getfield 45, 3) := by decide +kernel
theorem dX5_choose_44 : decode cX5_choose 44 = .ok (.getfield 83, 3) := by decide +kernel
theorem dX5_choose_47 : decode cX5_choose 47 = .ok (.aload_n 0, 1) := by decide +kernel
theorem dX5_choose_48 : decode cX5_choose 48 = .ok (.getfield 45, 3) := by decide +kernel
theorem dX5_choose_51 : decode cX5_choose 51 = .ok (.getfield 175, 3) := by decide +kernel
theorem dX5_choose_54 : decode cX5_choose 54 = .ok (.iload_n 1, 1) := by decide +kernel
theorem dX5_choose_55 : decode cX5_choose 55 = .ok (.invokevirtual 183, 3) := by decide +kernel
theorem dX5_choose_58 : decode cX5_choose 58 = .ok (.ifCond .ne 6, 3) := by decide +kernel
theorem dX5_choose_61 : decode cX5_choose 61 = .ok (.ldc 144, 2) := by decide +kernel
theorem dX5_choose_63 : decode cX5_choose 63 = .ok (.ireturn, 1) := by decide +kernel
theorem dX5_choose_64 : decode cX5_choose 64 = .ok (.aload_n 0, 1) := by decide +kernel
theorem dX5_choose_65 : decode cX5_choose 65 = .ok (.getfield 45, 3) := by decide +kernel
theorem dX5_choose_68 : decode cX5_choose 68 = .ok (.aload_n 0, 1) := by decide +kernel
theorem dX5_choose_69 : decode cX5_choose 69 = .ok (.getfield 45, 3) := by decide +kernel
theorem dX5_choose_72 : decode cX5_choose 72 = .ok (.getfield 83, 3) := by decide +kernel
theorem dX5_choose_75 : decode cX5_choose 75 = .ok (.aload_n 0, 1) := by decide +kernel
theorem dX5_choose_76 : decode cX5_choose 76 = .ok (.getfield 45, 3) := by decide +kernel
theorem dX5_choose_79 : decode cX5_choose 79 = .ok (.getfield 175, 3) := by decide +kernel
theorem dX5_choose_82 : decode cX5_choose 82 = .ok (.iload_n 1, 1) := by decide +kernel
theorem dX5_choose_83 : decode cX5_choose 83 = .ok (.invokevirtual 186, 3) := by decide +kernel
theorem dX5_choose_86 : decode cX5_choose 86 = .ok (.invokevirtual 190, 3) := by decide +kernel
theorem dX5_choose_89 : decode cX5_choose 89 = .ok (.aload_n 0, 1) := by decide +kernel
theorem dX5_choose_90 : decode cX5_choose 90 = .ok (.getfield 45, 3) := by decide +kernel
theorem dX5_choose_93 : decode cX5_choose 93 = .ok (.invokevirtual 169, 3) := by decide +kernel
theorem dX5_choose_96 : decode cX5_choose 96 = .ok (.ireturn, 1) := by decide +kernel
theorem dX5_roll_0 : decode cX5_roll 0 = .ok (.iload_n 1, 1) := by decide +kernel
theorem dX5_roll_1 : decode cX5_roll 1 = .ok (.iconst (-1), 1) := by decide +kernel
theorem dX5_roll_2 : decode cX5_roll 2 = .ok (.if_icmp .eq 17, 3) := by decide +kernel
theorem dX5_roll_5 : decode cX5_roll 5 = .ok (.iload_n 1, 1) := by decide +kernel
theorem dX5_roll_6 : decode cX5_roll 6 = .ok (.iconst 1, 1) := by decide +kernel
theorem dX5_roll_7 : decode cX5_roll 7 = .ok (.if_icmp .lt 9, 3) := by decide +kernel
theorem dX5_roll_10 : decode cX5_roll 10 = .ok (.iload_n 1, 1) := by decide +kernel
theorem dX5_roll_11 : decode cX5_roll 11 = .ok (.bipush 6, 2) := by decide +kernel
theorem dX5_roll_13 : decode cX5_roll 13 = .ok (.if_icmp .le 6, 3) := by decide +kernel
theorem dX5_roll_16 : decode cX5_roll 16 = .ok (.ldc 63, 2) := by decide +kernel
theorem dX5_roll_18 : decode cX5_roll 18 = .ok (.ireturn, 1) := by decide +kernel
theorem dX5_roll_19 : decode cX5_roll 19 = .ok (.aload_n 0, 1) := by decide +kernel
theorem dX5_roll_20 : decode cX5_roll 20 = .ok (.getfield 45, 3) := by decide +kernel
theorem dX5_roll_23 : decode cX5_roll 23 = .ok (.getfield 172, 3) := by decide +kernel
theorem dX5_roll_26 : decode cX5_roll 26 = .ok (.ifCond .eq 16, 3) := by decide +kernel
theorem dX5_roll_29 : decode cX5_roll 29 = .ok (.aload_n 0, 1) := by decide +kernel
theorem dX5_roll_30 : decode cX5_roll 30 = .ok (.getfield 45, 3) := by decide +kernel
theorem dX5_roll_33 : decode cX5_roll 33 = .ok (.getfield 175, 3) := by decide +kernel
theorem dX5_roll_36 : decode cX5_roll 36 = .ok (.invokestatic 194, 3) := by decide +kernel
theorem dX5_roll_39 : decode cX5_roll 39 = .ok (.ifCond .eq 6, 3) := by decide +kernel
theorem dX5_roll_42 : decode cX5_roll 42 = .ok (.ldc 144, 2) := by decide +kernel
theorem dX5_roll_44 : decode cX5_roll 44 = .ok (.ireturn, 1) := by decide +kernel
theorem dX5_roll_45 : decode cX5_roll 45 = .ok (.aload_n 0, 1) := by decide +kernel
theorem dX5_roll_46 : decode cX5_roll 46 = .ok (.getfield 45, 3) := by decide +kernel
theorem dX5_roll_49 : decode cX5_roll 49 = .ok (.getfield 175, 3) := by decide +kernel
theorem dX5_roll_52 : decode cX5_roll 52 = .ok (.invokestatic 178, 3) := by decide +kernel
theorem dX5_roll_55 : decode cX5_roll 55 = .ok (.istore_n 2, 1) := by decide +kernel
theorem dX5_roll_56 : decode cX5_roll 56 = .ok (.aload_n 0, 1) := by decide +kernel
theorem dX5_roll_57 : decode cX5_roll 57 = .ok (.getfield 45, 3) := by decide +kernel
theorem dX5_roll_60 : decode cX5_roll 60 = .ok (.getfield 83, 3) := by decide +kernel
theorem dX5_roll_63 : decode cX5_roll 63 = .ok (.iload_n 2, 1) := by decide +kernel
theorem dX5_roll_64 : decode cX5_roll 64 = .ok (.invokevirtual 197, 3) := by decide +kernel
theorem dX5_roll_67 : decode cX5_roll 67 = .ok (.ifCond .ne 6, 3) := by decide +kernel
theorem dX5_roll_70 : decode cX5_roll 70 = .ok (.ldc 144, 2) := by decide +kernel
theorem dX5_roll_72 : decode cX5_roll 72 = .ok (.ireturn, 1) := by decide +kernel
theorem dX5_roll_73 : decode cX5_roll 73 = .ok (.iload_n 1, 1) := by decide +kernel
theorem dX5_roll_74 : decode cX5_roll 74 = .ok (.iconst (-1), 1) := by decide +kernel
theorem dX5_roll_75 : decode cX5_roll 75 = .ok (.if_icmp .ne 17, 3) := by decide +kernel
theorem dX5_roll_78 : decode cX5_roll 78 = .ok (.aload_n 0, 1) := by decide +kernel
theorem dX5_roll_79 : decode cX5_roll 79 = .ok (.getfield 45, 3) := by decide +kernel
theorem dX5_roll_82 : decode cX5_roll 82 = .ok (.bipush 6, 2) := by decide +kernel
theorem dX5_roll_84 : decode cX5_roll 84 = .ok (.invokevirtual 200, 3) := by decide +kernel
theorem dX5_roll_87 : decode cX5_roll 87 = .ok (.iconst 1, 1) := by decide +kernel
theorem dX5_roll_88 : decode cX5_roll 88 = .ok (.iadd, 1) := by decide +kernel
theorem dX5_roll_89 : decode cX5_roll 89 = .ok (.goto 4, 3) := by decide +kernel
theorem dX5_roll_92 : decode cX5_roll 92 = .ok (.iload_n 1, 1) := by decide +kernel
theorem dX5_roll_93 : decode cX5_roll 93 = .ok (.istore_n 3, 1) := by decide +kernel
theorem dX5_roll_94 : decode cX5_roll 94 = .ok (.aload_n 0, 1) := by decide +kernel
theorem dX5_roll_95 : decode cX5_roll 95 = .ok (.getfield 45, 3) := by decide +kernel
theorem dX5_roll_98 : decode cX5_roll 98 = .ok (.aload_n 0, 1) := by decide +kernel
theorem dX5_roll_99 : decode cX5_roll 99 = .ok (.getfield 45, 3) := by decide +kernel
theorem dX5_roll_102 : decode cX5_roll 102 = .ok (.getfield 83, 3) := by decide +kernel
theorem dX5_roll_105 : decode cX5_roll 105 = .ok (.iload_n 2, 1) := by decide +kernel
theorem dX5_roll_106 : decode cX5_roll 106 = .ok (.iload_n 3, 1) := by decide +kernel
theorem dX5_roll_107 : decode cX5_roll 107 = .ok (.invokevirtual 203, 3) := by decide +kernel
theorem dX5_roll_110 : decode cX5_roll 110 = .ok (.invokevirtual 190, 3) := by decide +kernel
theorem dX5_roll_113 : decode cX5_roll 113 = .ok (.aload_n 0, 1) := by decide +kernel
theorem dX5_roll_114 : decode cX5_roll 114 = .ok (.getfield 45, 3) := by decide +kernel
theorem dX5_roll_117 : decode cX5_roll 117 = .ok (.invokevirtual 169, 3) := by decide +kernel
theorem dX5_roll_120 : decode cX5_roll 120 = .ok (.ireturn, 1) := by decide +kernel
theorem dX5_now_0 : decode cX5_now 0 = .ok (.iload_n 1, 1) := by decide +kernel
theorem dX5_now_1 : decode cX5_now 1 = .ok (.ifCond .lt 8, 3) := by decide +kernel
theorem dX5_now_4 : decode cX5_now 4 = .ok (.iload_n 1, 1) := by decide +kernel
theorem dX5_now_5 : decode cX5_now 5 = .ok (.iconst 5, 1) := by decide +kernel
theorem dX5_now_6 : decode cX5_now 6 = .ok (.if_icmp .le 6, 3) := by decide +kernel
theorem dX5_now_9 : decode cX5_now 9 = .ok (.ldc 63, 2) := by decide +kernel
theorem dX5_now_11 : decode cX5_now 11 = .ok (.ireturn, 1) := by decide +kernel
theorem dX5_now_12 : decode cX5_now 12 = .ok (.aload_n 0, 1) := by decide +kernel
theorem dX5_now_13 : decode cX5_now 13 = .ok (.getfield 45, 3) := by decide +kernel
theorem dX5_now_16 : decode cX5_now 16 = .ok (.getfield 172, 3) := by decide +kernel
theorem dX5_now_19 : decode cX5_now 19 = .ok (.ifCond .ne 6, 3) := by decide +kernel
theorem dX5_now_22 : decode cX5_now 22 = .ok (.ldc 144, 2) := by decide +kernel
theorem dX5_now_24 : decode cX5_now 24 = .ok (.ireturn, 1) := by decide +kernel
theorem dX5_now_25 : decode cX5_now 25 = .ok (.iload_n 1, 1) := by decide +kernel
theorem dX5_now_26 : decode cX5_now 26 = .ok (.tableswitch 83 0 4 #[34, 45, 56, 67, 75], 34) := by decide +kernel
theorem dX5_now_60 : decode cX5_now 60 = .ok (.aload_n 0, 1) := by decide +kernel
theorem dX5_now_61 : decode cX5_now 61 = .ok (.getfield 45, 3) := by decide +kernel
theorem dX5_now_64 : decode cX5_now 64 = .ok (.getfield 175, 3) := by decide +kernel
theorem dX5_now_67 : decode cX5_now 67 = .ok (.invokestatic 178, 3) := by decide +kernel
theorem dX5_now_70 : decode cX5_now 70 = .ok (.ireturn, 1) := by decide +kernel
theorem dX5_now_71 : decode cX5_now 71 = .ok (.aload_n 0, 1) := by decide +kernel
theorem dX5_now_72 : decode cX5_now 72 = .ok (.getfield 45, 3) := by decide +kernel
theorem dX5_now_75 : decode cX5_now 75 = .ok (.getfield 175, 3) := by decide +kernel
theorem dX5_now_78 : decode cX5_now 78 = .ok (.invokestatic 206, 3) := by decide +kernel
theorem dX5_now_81 : decode cX5_now 81 = .ok (.ireturn, 1) := by decide +kernel
theorem dX5_now_82 : decode cX5_now 82 = .ok (.aload_n 0, 1) := by decide +kernel
theorem dX5_now_83 : decode cX5_now 83 = .ok (.getfield 45, 3) := by decide +kernel
theorem dX5_now_86 : decode cX5_now 86 = .ok (.getfield 175, 3) := by decide +kernel
theorem dX5_now_89 : decode cX5_now 89 = .ok (.invokestatic 209, 3) := by decide +kernel
theorem dX5_now_92 : decode cX5_now 92 = .ok (.ireturn, 1) := by decide +kernel
theorem dX5_now_93 : decode cX5_now 93 = .ok (.aload_n 0, 1) := by decide +kernel
theorem dX5_now_94 : decode cX5_now 94 = .ok (.getfield 45, 3) := by decide +kernel
theorem dX5_now_97 : decode cX5_now 97 = .ok (.getfield 212, 3) := by decide +kernel
theorem dX5_now_100 : decode cX5_now 100 = .ok (.ireturn, 1) := by decide +kernel
theorem dX5_now_101 : decode cX5_now 101 = .ok (.aload_n 0, 1) := by decide +kernel
theorem dX5_now_102 : decode cX5_now 102 = .ok (.getfield 45, 3) := by decide +kernel
theorem dX5_now_105 : decode cX5_now 105 = .ok (.invokevirtual 169, 3) := by decide +kernel
theorem dX5_now_108 : decode cX5_now 108 = .ok (.ireturn, 1) := by decide +kernel
theorem dX5_now_109 : decode cX5_now 109 = .ok (.aload_n 0, 1) := by decide +kernel
theorem dX5_now_110 : decode cX5_now 110 = .ok (.getfield 45, 3) := by decide +kernel
theorem dX5_now_113 : decode cX5_now 113 = .ok (.getfield 83, 3) := by decide +kernel
theorem dX5_now_116 : decode cX5_now 116 = .ok (.aload_n 0, 1) := by decide +kernel
theorem dX5_now_117 : decode cX5_now 117 = .ok (.getfield 45, 3) := by decide +kernel
theorem dX5_now_120 : decode cX5_now 120 = .ok (.getfield 175, 3) := by decide +kernel
theorem dX5_now_123 : decode cX5_now 123 = .ok (.invokevirtual 215, 3) := by decide +kernel
theorem dX5_now_126 : decode cX5_now 126 = .ok (.ireturn, 1) := by decide +kernel
theorem dX5_odds_0 : decode cX5_odds 0 = .ok (.iload_n 1, 1) := by decide +kernel
theorem dX5_odds_1 : decode cX5_odds 1 = .ok (.ifCond .lt 9, 3) := by decide +kernel
theorem dX5_odds_4 : decode cX5_odds 4 = .ok (.iload_n 1, 1) := by decide +kernel
theorem dX5_odds_5 : decode cX5_odds 5 = .ok (.bipush 60, 2) := by decide +kernel
theorem dX5_odds_7 : decode cX5_odds 7 = .ok (.if_icmp .le 6, 3) := by decide +kernel
theorem dX5_odds_10 : decode cX5_odds 10 = .ok (.ldc 63, 2) := by decide +kernel
theorem dX5_odds_12 : decode cX5_odds 12 = .ok (.ireturn, 1) := by decide +kernel
theorem dX5_odds_13 : decode cX5_odds 13 = .ok (.aload_n 0, 1) := by decide +kernel
theorem dX5_odds_14 : decode cX5_odds 14 = .ok (.getfield 45, 3) := by decide +kernel
theorem dX5_odds_17 : decode cX5_odds 17 = .ok (.getfield 172, 3) := by decide +kernel
theorem dX5_odds_20 : decode cX5_odds 20 = .ok (.ifCond .ne 6, 3) := by decide +kernel
theorem dX5_odds_23 : decode cX5_odds 23 = .ok (.ldc 144, 2) := by decide +kernel
theorem dX5_odds_25 : decode cX5_odds 25 = .ok (.ireturn, 1) := by decide +kernel
theorem dX5_odds_26 : decode cX5_odds 26 = .ok (.aload_n 0, 1) := by decide +kernel
theorem dX5_odds_27 : decode cX5_odds 27 = .ok (.invokevirtual 159, 3) := by decide +kernel
theorem dX5_odds_30 : decode cX5_odds 30 = .ok (.astore_n 2, 1) := by decide +kernel
theorem dX5_odds_31 : decode cX5_odds 31 = .ok (.aload_n 2, 1) := by decide +kernel
theorem dX5_odds_32 : decode cX5_odds 32 = .ok (.aload_n 0, 1) := by decide +kernel
theorem dX5_odds_33 : decode cX5_odds 33 = .ok (.getfield 45, 3) := by decide +kernel
theorem dX5_odds_36 : decode cX5_odds 36 = .ok (.getfield 175, 3) := by decide +kernel
theorem dX5_odds_39 : decode cX5_odds 39 = .ok (.invokevirtual 218, 3) := by decide +kernel
theorem dX5_odds_42 : decode cX5_odds 42 = .ok (.istore_n 3, 1) := by decide +kernel
theorem dX5_odds_43 : decode cX5_odds 43 = .ok (.aload_n 2, 1) := by decide +kernel
theorem dX5_odds_44 : decode cX5_odds 44 = .ok (.iload_n 1, 1) := by decide +kernel
theorem dX5_odds_45 : decode cX5_odds 45 = .ok (.invokevirtual 221, 3) := by decide +kernel
theorem dX5_odds_48 : decode cX5_odds 48 = .ok (.aload_n 2, 1) := by decide +kernel
theorem dX5_odds_49 : decode cX5_odds 49 = .ok (.iload_n 3, 1) := by decide +kernel
theorem dX5_odds_50 : decode cX5_odds 50 = .ok (.invokevirtual 224, 3) := by decide +kernel
theorem dX5_odds_53 : decode cX5_odds 53 = .ok (.ireturn, 1) := by decide +kernel
theorem dX5_advice_0 : decode cX5_advice 0 = .ok (.iload_n 1, 1) := by decide +kernel
theorem dX5_advice_1 : decode cX5_advice 1 = .ok (.iconst 1, 1) := by decide +kernel
theorem dX5_advice_2 : decode cX5_advice 2 = .ok (.if_icmp .lt 9, 3) := by decide +kernel
theorem dX5_advice_5 : decode cX5_advice 5 = .ok (.iload_n 1, 1) := by decide +kernel
theorem dX5_advice_6 : decode cX5_advice 6 = .ok (.bipush 60, 2) := by decide +kernel
theorem dX5_advice_8 : decode cX5_advice 8 = .ok (.if_icmp .le 6, 3) := by decide +kernel
theorem dX5_advice_11 : decode cX5_advice 11 = .ok (.ldc 63, 2) := by decide +kernel
theorem dX5_advice_13 : decode cX5_advice 13 = .ok (.ireturn, 1) := by decide +kernel
theorem dX5_advice_14 : decode cX5_advice 14 = .ok (.aload_n 0, 1) := by decide +kernel
theorem dX5_advice_15 : decode cX5_advice 15 = .ok (.getfield 45, 3) := by decide +kernel
theorem dX5_advice_18 : decode cX5_advice 18 = .ok (.getfield 172, 3) := by decide +kernel
theorem dX5_advice_21 : decode cX5_advice 21 = .ok (.ifCond .ne 6, 3) := by decide +kernel
theorem dX5_advice_24 : decode cX5_advice 24 = .ok (.ldc 144, 2) := by decide +kernel
theorem dX5_advice_26 : decode cX5_advice 26 = .ok (.ireturn, 1) := by decide +kernel
theorem dX5_advice_27 : decode cX5_advice 27 = .ok (.aload_n 0, 1) := by decide +kernel
theorem dX5_advice_28 : decode cX5_advice 28 = .ok (.invokevirtual 159, 3) := by decide +kernel
theorem dX5_advice_31 : decode cX5_advice 31 = .ok (.astore_n 2, 1) := by decide +kernel
theorem dX5_advice_32 : decode cX5_advice 32 = .ok (.aload_n 2, 1) := by decide +kernel
theorem dX5_advice_33 : decode cX5_advice 33 = .ok (.aload_n 0, 1) := by decide +kernel
theorem dX5_advice_34 : decode cX5_advice 34 = .ok (.getfield 45, 3) := by decide +kernel
theorem dX5_advice_37 : decode cX5_advice 37 = .ok (.getfield 175, 3) := by decide +kernel
theorem dX5_advice_40 : decode cX5_advice 40 = .ok (.invokevirtual 218, 3) := by decide +kernel
theorem dX5_advice_43 : decode cX5_advice 43 = .ok (.pop, 1) := by decide +kernel
theorem dX5_advice_44 : decode cX5_advice 44 = .ok (.aload_n 2, 1) := by decide +kernel
theorem dX5_advice_45 : decode cX5_advice 45 = .ok (.iload_n 1, 1) := by decide +kernel
theorem dX5_advice_46 : decode cX5_advice 46 = .ok (.iconst 1, 1) := by decide +kernel
theorem dX5_advice_47 : decode cX5_advice 47 = .ok (.isub, 1) := by decide +kernel
theorem dX5_advice_48 : decode cX5_advice 48 = .ok (.invokevirtual 221, 3) := by decide +kernel
theorem dX5_advice_51 : decode cX5_advice 51 = .ok (.aload_n 0, 1) := by decide +kernel
theorem dX5_advice_52 : decode cX5_advice 52 = .ok (.aload_n 2, 1) := by decide +kernel
theorem dX5_advice_53 : decode cX5_advice 53 = .ok (.invokevirtual 227, 3) := by decide +kernel
theorem dX5_advice_56 : decode cX5_advice 56 = .ok (.ireturn, 1) := by decide +kernel
theorem dX5_fewest_0 : decode cX5_fewest 0 = .ok (.aload_n 0, 1) := by decide +kernel
theorem dX5_fewest_1 : decode cX5_fewest 1 = .ok (.getfield 45, 3) := by decide +kernel
theorem dX5_fewest_4 : decode cX5_fewest 4 = .ok (.getfield 172, 3) := by decide +kernel
theorem dX5_fewest_7 : decode cX5_fewest 7 = .ok (.ifCond .ne 6, 3) := by decide +kernel
theorem dX5_fewest_10 : decode cX5_fewest 10 = .ok (.ldc 144, 2) := by decide +kernel
theorem dX5_fewest_12 : decode cX5_fewest 12 = .ok (.ireturn, 1) := by decide +kernel
theorem dX5_fewest_13 : decode cX5_fewest 13 = .ok (.aload_n 0, 1) := by decide +kernel
theorem dX5_fewest_14 : decode cX5_fewest 14 = .ok (.invokevirtual 159, 3) := by decide +kernel
theorem dX5_fewest_17 : decode cX5_fewest 17 = .ok (.astore_n 1, 1) := by decide +kernel
theorem dX5_fewest_18 : decode cX5_fewest 18 = .ok (.aload_n 1, 1) := by decide +kernel
theorem dX5_fewest_19 : decode cX5_fewest 19 = .ok (.aload_n 0, 1) := by decide +kernel
theorem dX5_fewest_20 : decode cX5_fewest 20 = .ok (.getfield 45, 3) := by decide +kernel
theorem dX5_fewest_23 : decode cX5_fewest 23 = .ok (.getfield 175, 3) := by decide +kernel
theorem dX5_fewest_26 : decode cX5_fewest 26 = .ok (.invokevirtual 218, 3) := by decide +kernel
theorem dX5_fewest_29 : decode cX5_fewest 29 = .ok (.istore_n 2, 1) := by decide +kernel
theorem dX5_fewest_30 : decode cX5_fewest 30 = .ok (.aload_n 1, 1) := by decide +kernel
theorem dX5_fewest_31 : decode cX5_fewest 31 = .ok (.invokevirtual 231, 3) := by decide +kernel
theorem dX5_fewest_34 : decode cX5_fewest 34 = .ok (.aload_n 1, 1) := by decide +kernel
theorem dX5_fewest_35 : decode cX5_fewest 35 = .ok (.iload_n 2, 1) := by decide +kernel
theorem dX5_fewest_36 : decode cX5_fewest 36 = .ok (.invokevirtual 234, 3) := by decide +kernel
theorem dX5_fewest_39 : decode cX5_fewest 39 = .ok (.ireturn, 1) := by decide +kernel
theorem dX5_surely_0 : decode cX5_surely 0 = .ok (.aload_n 0, 1) := by decide +kernel
theorem dX5_surely_1 : decode cX5_surely 1 = .ok (.getfield 45, 3) := by decide +kernel
theorem dX5_surely_4 : decode cX5_surely 4 = .ok (.getfield 172, 3) := by decide +kernel
theorem dX5_surely_7 : decode cX5_surely 7 = .ok (.ifCond .ne 6, 3) := by decide +kernel
theorem dX5_surely_10 : decode cX5_surely 10 = .ok (.ldc 144, 2) := by decide +kernel
theorem dX5_surely_12 : decode cX5_surely 12 = .ok (.ireturn, 1) := by decide +kernel
theorem dX5_surely_13 : decode cX5_surely 13 = .ok (.aload_n 0, 1) := by decide +kernel
theorem dX5_surely_14 : decode cX5_surely 14 = .ok (.invokevirtual 159, 3) := by decide +kernel
theorem dX5_surely_17 : decode cX5_surely 17 = .ok (.astore_n 1, 1) := by decide +kernel
theorem dX5_surely_18 : decode cX5_surely 18 = .ok (.aload_n 1, 1) := by decide +kernel
theorem dX5_surely_19 : decode cX5_surely 19 = .ok (.aload_n 0, 1) := by decide +kernel
theorem dX5_surely_20 : decode cX5_surely 20 = .ok (.getfield 45, 3) := by decide +kernel
theorem dX5_surely_23 : decode cX5_surely 23 = .ok (.getfield 175, 3) := by decide +kernel
theorem dX5_surely_26 : decode cX5_surely 26 = .ok (.invokevirtual 218, 3) := by decide +kernel
theorem dX5_surely_29 : decode cX5_surely 29 = .ok (.istore_n 2, 1) := by decide +kernel
theorem dX5_surely_30 : decode cX5_surely 30 = .ok (.iconst 0, 1) := by decide +kernel
theorem dX5_surely_31 : decode cX5_surely 31 = .ok (.istore_n 3, 1) := by decide +kernel
theorem dX5_surely_32 : decode cX5_surely 32 = .ok (.iload_n 3, 1) := by decide +kernel
theorem dX5_surely_33 : decode cX5_surely 33 = .ok (.bipush 60, 2) := by decide +kernel
theorem dX5_surely_35 : decode cX5_surely 35 = .ok (.if_icmp .gt 26, 3) := by decide +kernel
theorem dX5_surely_38 : decode cX5_surely 38 = .ok (.aload_n 1, 1) := by decide +kernel
theorem dX5_surely_39 : decode cX5_surely 39 = .ok (.iload_n 3, 1) := by decide +kernel
theorem dX5_surely_40 : decode cX5_surely 40 = .ok (.invokevirtual 221, 3) := by decide +kernel
theorem dX5_surely_43 : decode cX5_surely 43 = .ok (.aload_n 1, 1) := by decide +kernel
theorem dX5_surely_44 : decode cX5_surely 44 = .ok (.iload_n 2, 1) := by decide +kernel
theorem dX5_surely_45 : decode cX5_surely 45 = .ok (.invokevirtual 224, 3) := by decide +kernel
theorem dX5_surely_48 : decode cX5_surely 48 = .ok (.ldc 237, 2) := by decide +kernel
theorem dX5_surely_50 : decode cX5_surely 50 = .ok (.if_icmp .ne 5, 3) := by decide +kernel
theorem dX5_surely_53 : decode cX5_surely 53 = .ok (.iload_n 3, 1) := by decide +kernel
theorem dX5_surely_54 : decode cX5_surely 54 = .ok (.ireturn, 1) := by decide +kernel
theorem dX5_surely_55 : decode cX5_surely 55 = .ok (.iinc 3 1, 3) := by decide +kernel
theorem dX5_surely_58 : decode cX5_surely 58 = .ok (.goto (-26), 3) := by decide +kernel
theorem dX5_surely_61 : decode cX5_surely 61 = .ok (.iconst (-1), 1) := by decide +kernel
theorem dX5_surely_62 : decode cX5_surely 62 = .ok (.ireturn, 1) := by decide +kernel
theorem dX5_parts_0 : decode cX5_parts 0 = .ok (.iload_n 1, 1) := by decide +kernel
theorem dX5_parts_1 : decode cX5_parts 1 = .ok (.tableswitch 64 0 3 #[31, 39, 48, 56], 31) := by decide +kernel
theorem dX5_parts_32 : decode cX5_parts 32 = .ok (.aload_n 0, 1) := by decide +kernel
theorem dX5_parts_33 : decode cX5_parts 33 = .ok (.invokevirtual 159, 3) := by decide +kernel
theorem dX5_parts_36 : decode cX5_parts 36 = .ok (.getfield 238, 3) := by decide +kernel
theorem dX5_parts_39 : decode cX5_parts 39 = .ok (.ireturn, 1) := by decide +kernel
theorem dX5_parts_40 : decode cX5_parts 40 = .ok (.aload_n 0, 1) := by decide +kernel
theorem dX5_parts_41 : decode cX5_parts 41 = .ok (.aload_n 0, 1) := by decide +kernel
theorem dX5_parts_42 : decode cX5_parts 42 = .ok (.invokevirtual 159, 3) := by decide +kernel
theorem dX5_parts_45 : decode cX5_parts 45 = .ok (.invokevirtual 241, 3) := by decide +kernel
theorem dX5_parts_48 : decode cX5_parts 48 = .ok (.ireturn, 1) := by decide +kernel
theorem dX5_parts_49 : decode cX5_parts 49 = .ok (.aload_n 0, 1) := by decide +kernel
theorem dX5_parts_50 : decode cX5_parts 50 = .ok (.invokevirtual 159, 3) := by decide +kernel
theorem dX5_parts_53 : decode cX5_parts 53 = .ok (.invokevirtual 244, 3) := by decide +kernel
theorem dX5_parts_56 : decode cX5_parts 56 = .ok (.ireturn, 1) := by decide +kernel
theorem dX5_parts_57 : decode cX5_parts 57 = .ok (.aload_n 0, 1) := by decide +kernel
theorem dX5_parts_58 : decode cX5_parts 58 = .ok (.invokevirtual 159, 3) := by decide +kernel
theorem dX5_parts_61 : decode cX5_parts 61 = .ok (.invokevirtual 247, 3) := by decide +kernel
theorem dX5_parts_64 : decode cX5_parts 64 = .ok (.ireturn, 1) := by decide +kernel
theorem dX5_parts_65 : decode cX5_parts 65 = .ok (.ldc 63, 2) := by decide +kernel
theorem dX5_parts_67 : decode cX5_parts 67 = .ok (.ireturn, 1) := by decide +kernel
theorem dX5_things_0 : decode cX5_things 0 = .ok (.iload_n 1, 1) := by decide +kernel
theorem dX5_things_1 : decode cX5_things 1 = .ok (.lookupswitch 44 #[(0, 27), (1, 35)], 27) := by decide +kernel
theorem dX5_things_28 : decode cX5_things 28 = .ok (.aload_n 0, 1) := by decide +kernel
theorem dX5_things_29 : decode cX5_things 29 = .ok (.invokevirtual 159, 3) := by decide +kernel
theorem dX5_things_32 : decode cX5_things 32 = .ok (.invokevirtual 250, 3) := by decide +kernel
theorem dX5_things_35 : decode cX5_things 35 = .ok (.ireturn, 1) := by decide +kernel
theorem dX5_things_36 : decode cX5_things 36 = .ok (.aload_n 0, 1) := by decide +kernel
theorem dX5_things_37 : decode cX5_things 37 = .ok (.aload_n 0, 1) := by decide +kernel
theorem dX5_things_38 : decode cX5_things 38 = .ok (.invokevirtual 159, 3) := by decide +kernel
theorem dX5_things_41 : decode cX5_things 41 = .ok (.invokevirtual 253, 3) := by decide +kernel
theorem dX5_things_44 : decode cX5_things 44 = .ok (.ireturn, 1) := by decide +kernel
theorem dX5_things_45 : decode cX5_things 45 = .ok (.ldc 63, 2) := by decide +kernel
theorem dX5_things_47 : decode cX5_things 47 = .ok (.ireturn, 1) := by decide +kernel
theorem dX5_without_0 : decode cX5_without 0 = .ok (.iload_n 1, 1) := by decide +kernel
theorem dX5_without_1 : decode cX5_without 1 = .ok (.invokestatic 256, 3) := by decide +kernel
theorem dX5_without_4 : decode cX5_without 4 = .ok (.ifCond .ne 6, 3) := by decide +kernel
theorem dX5_without_7 : decode cX5_without 7 = .ok (.ldc 96, 2) := by decide +kernel
theorem dX5_without_9 : decode cX5_without 9 = .ok (.ireturn, 1) := by decide +kernel
theorem dX5_without_10 : decode cX5_without 10 = .ok (.iload_n 2, 1) := by decide +kernel
theorem dX5_without_11 : decode cX5_without 11 = .ok (.ifCond .lt 9, 3) := by decide +kernel
theorem dX5_without_14 : decode cX5_without 14 = .ok (.iload_n 2, 1) := by decide +kernel
theorem dX5_without_15 : decode cX5_without 15 = .ok (.bipush 60, 2) := by decide +kernel
theorem dX5_without_17 : decode cX5_without 17 = .ok (.if_icmp .le 6, 3) := by decide +kernel
theorem dX5_without_20 : decode cX5_without 20 = .ok (.ldc 63, 2) := by decide +kernel
theorem dX5_without_22 : decode cX5_without 22 = .ok (.ireturn, 1) := by decide +kernel
theorem dX5_without_23 : decode cX5_without 23 = .ok (.aload_n 0, 1) := by decide +kernel
theorem dX5_without_24 : decode cX5_without 24 = .ok (.getfield 45, 3) := by decide +kernel
theorem dX5_without_27 : decode cX5_without 27 = .ok (.getfield 83, 3) := by decide +kernel
theorem dX5_without_30 : decode cX5_without 30 = .ok (.getfield 86, 3) := by decide +kernel
theorem dX5_without_33 : decode cX5_without 33 = .ok (.ifCond .ne 6, 3) := by decide +kernel
theorem dX5_without_36 : decode cX5_without 36 = .ok (.ldc 144, 2) := by decide +kernel
theorem dX5_without_38 : decode cX5_without 38 = .ok (.ireturn, 1) := by decide +kernel
theorem dX5_without_39 : decode cX5_without 39 = .ok (.aload_n 0, 1) := by decide +kernel
theorem dX5_without_40 : decode cX5_without 40 = .ok (.getfield 56, 3) := by decide +kernel
theorem dX5_without_43 : decode cX5_without 43 = .ok (.iload_n 1, 1) := by decide +kernel
theorem dX5_without_44 : decode cX5_without 44 = .ok (.iconst (-1), 1) := by decide +kernel
theorem dX5_without_45 : decode cX5_without 45 = .ok (.iconst 0, 1) := by decide +kernel
theorem dX5_without_46 : decode cX5_without 46 = .ok (.invokevirtual 259, 3) := by decide +kernel
theorem dX5_without_49 : decode cX5_without 49 = .ok (.aload_n 0, 1) := by decide +kernel
theorem dX5_without_50 : decode cX5_without 50 = .ok (.getfield 56, 3) := by decide +kernel
theorem dX5_without_53 : decode cX5_without 53 = .ok (.aload_n 0, 1) := by decide +kernel
theorem dX5_without_54 : decode cX5_without 54 = .ok (.getfield 45, 3) := by decide +kernel
theorem dX5_without_57 : decode cX5_without 57 = .ok (.getfield 83, 3) := by decide +kernel
theorem dX5_without_60 : decode cX5_without 60 = .ok (.iload_n 1, 1) := by decide +kernel
theorem dX5_without_61 : decode cX5_without 61 = .ok (.invokevirtual 263, 3) := by decide +kernel
theorem dX5_without_64 : decode cX5_without 64 = .ok (.invokevirtual 266, 3) := by decide +kernel
theorem dX5_without_67 : decode cX5_without 67 = .ok (.istore_n 3, 1) := by decide +kernel
theorem dX5_without_68 : decode cX5_without 68 = .ok (.aload_n 0, 1) := by decide +kernel
theorem dX5_without_69 : decode cX5_without 69 = .ok (.getfield 56, 3) := by decide +kernel
theorem dX5_without_72 : decode cX5_without 72 = .ok (.iload_n 2, 1) := by decide +kernel
theorem dX5_without_73 : decode cX5_without 73 = .ok (.invokevirtual 221, 3) := by decide +kernel
theorem dX5_without_76 : decode cX5_without 76 = .ok (.aload_n 0, 1) := by decide +kernel
theorem dX5_without_77 : decode cX5_without 77 = .ok (.getfield 56, 3) := by decide +kernel
theorem dX5_without_80 : decode cX5_without 80 = .ok (.iload_n 3, 1) := by decide +kernel
theorem dX5_without_81 : decode cX5_without 81 = .ok (.invokevirtual 224, 3) := by decide +kernel
theorem dX5_without_84 : decode cX5_without 84 = .ok (.ireturn, 1) := by decide +kernel
theorem dX5_log_0 : decode cX5_log 0 = .ok (.aload_n 0, 1) := by decide +kernel
theorem dX5_log_1 : decode cX5_log 1 = .ok (.getfield 45, 3) := by decide +kernel
theorem dX5_log_4 : decode cX5_log 4 = .ok (.getfield 83, 3) := by decide +kernel
theorem dX5_log_7 : decode cX5_log 7 = .ok (.iload_n 1, 1) := by decide +kernel
theorem dX5_log_8 : decode cX5_log 8 = .ok (.invokevirtual 92, 3) := by decide +kernel
theorem dX5_log_11 : decode cX5_log 11 = .ok (.ifCond .ne 6, 3) := by decide +kernel
theorem dX5_log_14 : decode cX5_log 14 = .ok (.ldc 96, 2) := by decide +kernel
theorem dX5_log_16 : decode cX5_log 16 = .ok (.ireturn, 1) := by decide +kernel
theorem dX5_log_17 : decode cX5_log 17 = .ok (.aload_n 0, 1) := by decide +kernel
theorem dX5_log_18 : decode cX5_log 18 = .ok (.getfield 20, 3) := by decide +kernel
theorem dX5_log_21 : decode cX5_log 21 = .ok (.bipush 60, 2) := by decide +kernel
theorem dX5_log_23 : decode cX5_log 23 = .ok (.if_icmp .lt 6, 3) := by decide +kernel
theorem dX5_log_26 : decode cX5_log 26 = .ok (.ldc 67, 2) := by decide +kernel
theorem dX5_log_28 : decode cX5_log 28 = .ok (.ireturn, 1) := by decide +kernel
theorem dX5_log_29 : decode cX5_log 29 = .ok (.aload_n 0, 1) := by decide +kernel
theorem dX5_log_30 : decode cX5_log 30 = .ok (.getfield 16, 3) := by decide +kernel
theorem dX5_log_33 : decode cX5_log 33 = .ok (.aload_n 0, 1) := by decide +kernel
theorem dX5_log_34 : decode cX5_log 34 = .ok (.getfield 20, 3) := by decide +kernel
theorem dX5_log_37 : decode cX5_log 37 = .ok (.iload_n 1, 1) := by decide +kernel
theorem dX5_log_38 : decode cX5_log 38 = .ok (.iastore, 1) := by decide +kernel
theorem dX5_log_39 : decode cX5_log 39 = .ok (.aload_n 0, 1) := by decide +kernel
theorem dX5_log_40 : decode cX5_log 40 = .ok (.dup, 1) := by decide +kernel
theorem dX5_log_41 : decode cX5_log 41 = .ok (.getfield 20, 3) := by decide +kernel
theorem dX5_log_44 : decode cX5_log 44 = .ok (.iconst 1, 1) := by decide +kernel
theorem dX5_log_45 : decode cX5_log 45 = .ok (.iadd, 1) := by decide +kernel
theorem dX5_log_46 : decode cX5_log 46 = .ok (.putfield 20, 3) := by decide +kernel
theorem dX5_log_49 : decode cX5_log 49 = .ok (.aload_n 0, 1) := by decide +kernel
theorem dX5_log_50 : decode cX5_log 50 = .ok (.getfield 20, 3) := by decide +kernel
theorem dX5_log_53 : decode cX5_log 53 = .ok (.ireturn, 1) := by decide +kernel
theorem dX5_clear_0 : decode cX5_clear 0 = .ok (.aload_n 0, 1) := by decide +kernel
theorem dX5_clear_1 : decode cX5_clear 1 = .ok (.getfield 20, 3) := by decide +kernel
theorem dX5_clear_4 : decode cX5_clear 4 = .ok (.istore_n 1, 1) := by decide +kernel
theorem dX5_clear_5 : decode cX5_clear 5 = .ok (.aload_n 0, 1) := by decide +kernel
theorem dX5_clear_6 : decode cX5_clear 6 = .ok (.iconst 0, 1) := by decide +kernel
theorem dX5_clear_7 : decode cX5_clear 7 = .ok (.putfield 20, 3) := by decide +kernel
theorem dX5_clear_10 : decode cX5_clear 10 = .ok (.iload_n 1, 1) := by decide +kernel
theorem dX5_clear_11 : decode cX5_clear 11 = .ok (.ireturn, 1) := by decide +kernel
theorem dX5_judge_0 : decode cX5_judge 0 = .ok (.aload_n 0, 1) := by decide +kernel
theorem dX5_judge_1 : decode cX5_judge 1 = .ok (.getfield 20, 3) := by decide +kernel
theorem dX5_judge_4 : decode cX5_judge 4 = .ok (.ifCond .ne 5, 3) := by decide +kernel
theorem dX5_judge_7 : decode cX5_judge 7 = .ok (.iconst (-1), 1) := by decide +kernel
theorem dX5_judge_8 : decode cX5_judge 8 = .ok (.ireturn, 1) := by decide +kernel
theorem dX5_judge_9 : decode cX5_judge 9 = .ok (.aload_n 0, 1) := by decide +kernel
theorem dX5_judge_10 : decode cX5_judge 10 = .ok (.getfield 45, 3) := by decide +kernel
theorem dX5_judge_13 : decode cX5_judge 13 = .ok (.getfield 83, 3) := by decide +kernel
theorem dX5_judge_16 : decode cX5_judge 16 = .ok (.astore_n 1, 1) := by decide +kernel
theorem dX5_judge_17 : decode cX5_judge 17 = .ok (.aload_n 1, 1) := by decide +kernel
theorem dX5_judge_18 : decode cX5_judge 18 = .ok (.getfield 86, 3) := by decide +kernel
theorem dX5_judge_21 : decode cX5_judge 21 = .ok (.ifCond .eq 12, 3) := by decide +kernel
theorem dX5_judge_24 : decode cX5_judge 24 = .ok (.aload_n 0, 1) := by decide +kernel
theorem dX5_judge_25 : decode cX5_judge 25 = .ok (.getfield 16, 3) := by decide +kernel
theorem dX5_judge_28 : decode cX5_judge 28 = .ok (.iconst 0, 1) := by decide +kernel
theorem dX5_judge_29 : decode cX5_judge 29 = .ok (.iaload, 1) := by decide +kernel
theorem dX5_judge_30 : decode cX5_judge 30 = .ok (.ifCond .eq 5, 3) := by decide +kernel
theorem dX5_judge_33 : decode cX5_judge 33 = .ok (.iconst 0, 1) := by decide +kernel
theorem dX5_judge_34 : decode cX5_judge 34 = .ok (.ireturn, 1) := by decide +kernel
theorem dX5_judge_35 : decode cX5_judge 35 = .ok (.aload_n 1, 1) := by decide +kernel
theorem dX5_judge_36 : decode cX5_judge 36 = .ok (.iconst (-1), 1) := by decide +kernel
theorem dX5_judge_37 : decode cX5_judge 37 = .ok (.invokevirtual 263, 3) := by decide +kernel
theorem dX5_judge_40 : decode cX5_judge 40 = .ok (.istore_n 2, 1) := by decide +kernel
theorem dX5_judge_41 : decode cX5_judge 41 = .ok (.iconst 1, 1) := by decide +kernel
theorem dX5_judge_42 : decode cX5_judge 42 = .ok (.istore_n 3, 1) := by decide +kernel
theorem dX5_judge_43 : decode cX5_judge 43 = .ok (.iload_n 3, 1) := by decide +kernel
theorem dX5_judge_44 : decode cX5_judge 44 = .ok (.aload_n 0, 1) := by decide +kernel
theorem dX5_judge_45 : decode cX5_judge 45 = .ok (.getfield 20, 3) := by decide +kernel
theorem dX5_judge_48 : decode cX5_judge 48 = .ok (.if_icmp .ge 44, 3) := by decide +kernel
theorem dX5_judge_51 : decode cX5_judge 51 = .ok (.iload_n 3, 1) := by decide +kernel
theorem dX5_judge_52 : decode cX5_judge 52 = .ok (.bipush 60, 2) := by decide +kernel
theorem dX5_judge_54 : decode cX5_judge 54 = .ok (.if_icmp .ge 38, 3) := by decide +kernel
theorem dX5_judge_57 : decode cX5_judge 57 = .ok (.aload_n 1, 1) := by decide +kernel
theorem dX5_judge_58 : decode cX5_judge 58 = .ok (.iload_n 2, 1) := by decide +kernel
theorem dX5_judge_59 : decode cX5_judge 59 = .ok (.aload_n 0, 1) := by decide +kernel
theorem dX5_judge_60 : decode cX5_judge 60 = .ok (.getfield 16, 3) := by decide +kernel
theorem dX5_judge_63 : decode cX5_judge 63 = .ok (.iload_n 3, 1) := by decide +kernel
theorem dX5_judge_64 : decode cX5_judge 64 = .ok (.iaload, 1) := by decide +kernel
theorem dX5_judge_65 : decode cX5_judge 65 = .ok (.invokevirtual 269, 3) := by decide +kernel
theorem dX5_judge_68 : decode cX5_judge 68 = .ok (.ifCond .ne 5, 3) := by decide +kernel
theorem dX5_judge_71 : decode cX5_judge 71 = .ok (.iload_n 3, 1) := by decide +kernel
theorem dX5_judge_72 : decode cX5_judge 72 = .ok (.ireturn, 1) := by decide +kernel
theorem dX5_judge_73 : decode cX5_judge 73 = .ok (.aload_n 1, 1) := by decide +kernel
theorem dX5_judge_74 : decode cX5_judge 74 = .ok (.iload_n 2, 1) := by decide +kernel
theorem dX5_judge_75 : decode cX5_judge 75 = .ok (.aload_n 0, 1) := by decide +kernel
theorem dX5_judge_76 : decode cX5_judge 76 = .ok (.getfield 16, 3) := by decide +kernel
theorem dX5_judge_79 : decode cX5_judge 79 = .ok (.iload_n 3, 1) := by decide +kernel
theorem dX5_judge_80 : decode cX5_judge 80 = .ok (.iaload, 1) := by decide +kernel
theorem dX5_judge_81 : decode cX5_judge 81 = .ok (.iconst (-1), 1) := by decide +kernel
theorem dX5_judge_82 : decode cX5_judge 82 = .ok (.invokevirtual 272, 3) := by decide +kernel
theorem dX5_judge_85 : decode cX5_judge 85 = .ok (.istore_n 2, 1) := by decide +kernel
theorem dX5_judge_86 : decode cX5_judge 86 = .ok (.iinc 3 1, 3) := by decide +kernel
theorem dX5_judge_89 : decode cX5_judge 89 = .ok (.goto (-46), 3) := by decide +kernel
theorem dX5_judge_92 : decode cX5_judge 92 = .ok (.iconst (-1), 1) := by decide +kernel
theorem dX5_judge_93 : decode cX5_judge 93 = .ok (.ireturn, 1) := by decide +kernel
theorem dX5_number_0 : decode cX5_number 0 = .ok (.aload_n 0, 1) := by decide +kernel
theorem dX5_number_1 : decode cX5_number 1 = .ok (.getfield 45, 3) := by decide +kernel
theorem dX5_number_4 : decode cX5_number 4 = .ok (.getfield 83, 3) := by decide +kernel
theorem dX5_number_7 : decode cX5_number 7 = .ok (.iload_n 1, 1) := by decide +kernel
theorem dX5_number_8 : decode cX5_number 8 = .ok (.invokevirtual 92, 3) := by decide +kernel
theorem dX5_number_11 : decode cX5_number 11 = .ok (.ifCond .ne 6, 3) := by decide +kernel
theorem dX5_number_14 : decode cX5_number 14 = .ok (.ldc 96, 2) := by decide +kernel
theorem dX5_number_16 : decode cX5_number 16 = .ok (.ireturn, 1) := by decide +kernel
theorem dX5_number_17 : decode cX5_number 17 = .ok (.aload_n 0, 1) := by decide +kernel
theorem dX5_number_18 : decode cX5_number 18 = .ok (.getfield 45, 3) := by decide +kernel
theorem dX5_number_21 : decode cX5_number 21 = .ok (.getfield 276, 3) := by decide +kernel
theorem dX5_number_24 : decode cX5_number 24 = .ok (.iload_n 1, 1) := by decide +kernel
theorem dX5_number_25 : decode cX5_number 25 = .ok (.iaload, 1) := by decide +kernel
theorem dX5_number_26 : decode cX5_number 26 = .ok (.ireturn, 1) := by decide +kernel
theorem dX5_near_0 : decode cX5_near 0 = .ok (.iload_n 1, 1) := by decide +kernel
theorem dX5_near_1 : decode cX5_near 1 = .ok (.iconst 1, 1) := by decide +kernel
theorem dX5_near_2 : decode cX5_near 2 = .ok (.if_icmp .lt 9, 3) := by decide +kernel
theorem dX5_near_5 : decode cX5_near 5 = .ok (.iload_n 1, 1) := by decide +kernel
theorem dX5_near_6 : decode cX5_near 6 = .ok (.bipush 24, 2) := by decide +kernel
theorem dX5_near_8 : decode cX5_near 8 = .ok (.if_icmp .le 6, 3) := by decide +kernel
theorem dX5_near_11 : decode cX5_near 11 = .ok (.ldc 63, 2) := by decide +kernel
theorem dX5_near_13 : decode cX5_near 13 = .ok (.ireturn, 1) := by decide +kernel
theorem dX5_near_14 : decode cX5_near 14 = .ok (.aload_n 0, 1) := by decide +kernel
theorem dX5_near_15 : decode cX5_near 15 = .ok (.getfield 45, 3) := by decide +kernel
theorem dX5_near_18 : decode cX5_near 18 = .ok (.getfield 83, 3) := by decide +kernel
theorem dX5_near_21 : decode cX5_near 21 = .ok (.aload_n 0, 1) := by decide +kernel
theorem dX5_near_22 : decode cX5_near 22 = .ok (.getfield 28, 3) := by decide +kernel
theorem dX5_near_25 : decode cX5_near 25 = .ok (.invokevirtual 279, 3) := by decide +kernel
theorem dX5_near_28 : decode cX5_near 28 = .ok (.aload_n 0, 1) := by decide +kernel
theorem dX5_near_29 : decode cX5_near 29 = .ok (.getfield 28, 3) := by decide +kernel
theorem dX5_near_32 : decode cX5_near 32 = .ok (.aload_n 0, 1) := by decide +kernel
theorem dX5_near_33 : decode cX5_near 33 = .ok (.getfield 45, 3) := by decide +kernel
theorem dX5_near_36 : decode cX5_near 36 = .ok (.getfield 276, 3) := by decide +kernel
theorem dX5_near_39 : decode cX5_near 39 = .ok (.iload_n 1, 1) := by decide +kernel
theorem dX5_near_40 : decode cX5_near 40 = .ok (.invokestatic 283, 3) := by decide +kernel
theorem dX5_near_43 : decode cX5_near 43 = .ok (.ireturn, 1) := by decide +kernel
theorem dX5_shuffle_0 : decode cX5_shuffle 0 = .ok (.iload_n 1, 1) := by decide +kernel
theorem dX5_shuffle_1 : decode cX5_shuffle 1 = .ok (.iconst 1, 1) := by decide +kernel
theorem dX5_shuffle_2 : decode cX5_shuffle 2 = .ok (.if_icmp .lt 20, 3) := by decide +kernel
theorem dX5_shuffle_5 : decode cX5_shuffle 5 = .ok (.iload_n 1, 1) := by decide +kernel
theorem dX5_shuffle_6 : decode cX5_shuffle 6 = .ok (.bipush 24, 2) := by decide +kernel
theorem dX5_shuffle_8 : decode cX5_shuffle 8 = .ok (.if_icmp .gt 14, 3) := by decide +kernel
theorem dX5_shuffle_11 : decode cX5_shuffle 11 = .ok (.iload_n 2, 1) := by decide +kernel
theorem dX5_shuffle_12 : decode cX5_shuffle 12 = .ok (.iconst 1, 1) := by decide +kernel
theorem dX5_shuffle_13 : decode cX5_shuffle 13 = .ok (.if_icmp .lt 9, 3) := by decide +kernel
theorem dX5_shuffle_16 : decode cX5_shuffle 16 = .ok (.iload_n 2, 1) := by decide +kernel
theorem dX5_shuffle_17 : decode cX5_shuffle 17 = .ok (.bipush 99, 2) := by decide +kernel
theorem dX5_shuffle_19 : decode cX5_shuffle 19 = .ok (.if_icmp .le 6, 3) := by decide +kernel
theorem dX5_shuffle_22 : decode cX5_shuffle 22 = .ok (.ldc 63, 2) := by decide +kernel
theorem dX5_shuffle_24 : decode cX5_shuffle 24 = .ok (.ireturn, 1) := by decide +kernel
theorem dX5_shuffle_25 : decode cX5_shuffle 25 = .ok (.aload_n 0, 1) := by decide +kernel
theorem dX5_shuffle_26 : decode cX5_shuffle 26 = .ok (.getfield 45, 3) := by decide +kernel
theorem dX5_shuffle_29 : decode cX5_shuffle 29 = .ok (.getfield 83, 3) := by decide +kernel
theorem dX5_shuffle_32 : decode cX5_shuffle 32 = .ok (.aload_n 0, 1) := by decide +kernel
theorem dX5_shuffle_33 : decode cX5_shuffle 33 = .ok (.getfield 28, 3) := by decide +kernel
theorem dX5_shuffle_36 : decode cX5_shuffle 36 = .ok (.invokevirtual 279, 3) := by decide +kernel
theorem dX5_shuffle_39 : decode cX5_shuffle 39 = .ok (.aload_n 0, 1) := by decide +kernel
theorem dX5_shuffle_40 : decode cX5_shuffle 40 = .ok (.getfield 28, 3) := by decide +kernel
theorem dX5_shuffle_43 : decode cX5_shuffle 43 = .ok (.aload_n 0, 1) := by decide +kernel
theorem dX5_shuffle_44 : decode cX5_shuffle 44 = .ok (.getfield 45, 3) := by decide +kernel
theorem dX5_shuffle_47 : decode cX5_shuffle 47 = .ok (.getfield 276, 3) := by decide +kernel
theorem dX5_shuffle_50 : decode cX5_shuffle 50 = .ok (.iload_n 1, 1) := by decide +kernel
theorem dX5_shuffle_51 : decode cX5_shuffle 51 = .ok (.invokestatic 283, 3) := by decide +kernel
theorem dX5_shuffle_54 : decode cX5_shuffle 54 = .ok (.istore_n 3, 1) := by decide +kernel
theorem dX5_shuffle_55 : decode cX5_shuffle 55 = .ok (.aload_n 0, 1) := by decide +kernel
theorem dX5_shuffle_56 : decode cX5_shuffle 56 = .ok (.getfield 45, 3) := by decide +kernel
theorem dX5_shuffle_59 : decode cX5_shuffle 59 = .ok (.getfield 276, 3) := by decide +kernel
theorem dX5_shuffle_62 : decode cX5_shuffle 62 = .ok (.iconst 0, 1) := by decide +kernel
theorem dX5_shuffle_63 : decode cX5_shuffle 63 = .ok (.aload_n 0, 1) := by decide +kernel
theorem dX5_shuffle_64 : decode cX5_shuffle 64 = .ok (.getfield 31, 3) := by decide +kernel
theorem dX5_shuffle_67 : decode cX5_shuffle 67 = .ok (.iconst 0, 1) := by decide +kernel
theorem dX5_shuffle_68 : decode cX5_shuffle 68 = .ok (.bipush 24, 2) := by decide +kernel
theorem dX5_shuffle_70 : decode cX5_shuffle 70 = .ok (.invokestatic 287, 3) := by decide +kernel
theorem dX5_shuffle_73 : decode cX5_shuffle 73 = .ok (.iconst 0, 1) := by decide +kernel
theorem dX5_shuffle_74 : decode cX5_shuffle 74 = .ok (.istore 4, 2) := by decide +kernel
theorem dX5_shuffle_76 : decode cX5_shuffle 76 = .ok (.iload 4, 2) := by decide +kernel
theorem dX5_shuffle_78 : decode cX5_shuffle 78 = .ok (.iload_n 2, 1) := by decide +kernel
theorem dX5_shuffle_79 : decode cX5_shuffle 79 = .ok (.if_icmp .ge 54, 3) := by decide +kernel
theorem dX5_shuffle_82 : decode cX5_shuffle 82 = .ok (.aload_n 0, 1) := by decide +kernel
theorem dX5_shuffle_83 : decode cX5_shuffle 83 = .ok (.invokevirtual 293, 3) := by decide +kernel
theorem dX5_shuffle_86 : decode cX5_shuffle 86 = .ok (.aload_n 0, 1) := by decide +kernel
theorem dX5_shuffle_87 : decode cX5_shuffle 87 = .ok (.getfield 28, 3) := by decide +kernel
theorem dX5_shuffle_90 : decode cX5_shuffle 90 = .ok (.aload_n 0, 1) := by decide +kernel
theorem dX5_shuffle_91 : decode cX5_shuffle 91 = .ok (.getfield 31, 3) := by decide +kernel
theorem dX5_shuffle_94 : decode cX5_shuffle 94 = .ok (.iload_n 1, 1) := by decide +kernel
theorem dX5_shuffle_95 : decode cX5_shuffle 95 = .ok (.invokestatic 283, 3) := by decide +kernel
theorem dX5_shuffle_98 : decode cX5_shuffle 98 = .ok (.istore 5, 2) := by decide +kernel
theorem dX5_shuffle_100 : decode cX5_shuffle 100 = .ok (.iload 5, 2) := by decide +kernel
theorem dX5_shuffle_102 : decode cX5_shuffle 102 = .ok (.iload_n 3, 1) := by decide +kernel
theorem dX5_shuffle_103 : decode cX5_shuffle 103 = .ok (.if_icmp .ge 24, 3) := by decide +kernel
theorem dX5_shuffle_106 : decode cX5_shuffle 106 = .ok (.iload 5, 2) := by decide +kernel
theorem dX5_shuffle_108 : decode cX5_shuffle 108 = .ok (.istore_n 3, 1) := by decide +kernel
theorem dX5_shuffle_109 : decode cX5_shuffle 109 = .ok (.aload_n 0, 1) := by decide +kernel
theorem dX5_shuffle_110 : decode cX5_shuffle 110 = .ok (.getfield 31, 3) := by decide +kernel
theorem dX5_shuffle_113 : decode cX5_shuffle 113 = .ok (.iconst 0, 1) := by decide +kernel
theorem dX5_shuffle_114 : decode cX5_shuffle 114 = .ok (.aload_n 0, 1) := by decide +kernel
theorem dX5_shuffle_115 : decode cX5_shuffle 115 = .ok (.getfield 45, 3) := by decide +kernel
theorem dX5_shuffle_118 : decode cX5_shuffle 118 = .ok (.getfield 276, 3) := by decide +kernel
theorem dX5_shuffle_121 : decode cX5_shuffle 121 = .ok (.iconst 0, 1) := by decide +kernel
theorem dX5_shuffle_122 : decode cX5_shuffle 122 = .ok (.bipush 24, 2) := by decide +kernel
theorem dX5_shuffle_124 : decode cX5_shuffle 124 = .ok (.invokestatic 287, 3) := by decide +kernel
theorem dX5_shuffle_127 : decode cX5_shuffle 127 = .ok (.iinc 4 1, 3) := by decide +kernel
theorem dX5_shuffle_130 : decode cX5_shuffle 130 = .ok (.goto (-54), 3) := by decide +kernel
theorem dX5_shuffle_133 : decode cX5_shuffle 133 = .ok (.iload_n 3, 1) := by decide +kernel
theorem dX5_shuffle_134 : decode cX5_shuffle 134 = .ok (.ireturn, 1) := by decide +kernel
theorem dX5_page_0 : decode cX5_page 0 = .ok (.aload_n 0, 1) := by decide +kernel
theorem dX5_page_1 : decode cX5_page 1 = .ok (.getfield 45, 3) := by decide +kernel
theorem dX5_page_4 : decode cX5_page 4 = .ok (.getfield 83, 3) := by decide +kernel
theorem dX5_page_7 : decode cX5_page 7 = .ok (.iload_n 1, 1) := by decide +kernel
theorem dX5_page_8 : decode cX5_page 8 = .ok (.invokevirtual 92, 3) := by decide +kernel
theorem dX5_page_11 : decode cX5_page 11 = .ok (.ifCond .ne 6, 3) := by decide +kernel
theorem dX5_page_14 : decode cX5_page 14 = .ok (.ldc 96, 2) := by decide +kernel
theorem dX5_page_16 : decode cX5_page 16 = .ok (.ireturn, 1) := by decide +kernel
theorem dX5_page_17 : decode cX5_page 17 = .ok (.iload_n 2, 1) := by decide +kernel
theorem dX5_page_18 : decode cX5_page 18 = .ok (.bipush 10, 2) := by decide +kernel
theorem dX5_page_20 : decode cX5_page 20 = .ok (.if_icmp .lt 9, 3) := by decide +kernel
theorem dX5_page_23 : decode cX5_page 23 = .ok (.iload_n 2, 1) := by decide +kernel
theorem dX5_page_24 : decode cX5_page 24 = .ok (.bipush 60, 2) := by decide +kernel
theorem dX5_page_26 : decode cX5_page 26 = .ok (.if_icmp .le 6, 3) := by decide +kernel
theorem dX5_page_29 : decode cX5_page 29 = .ok (.ldc 63, 2) := by decide +kernel
theorem dX5_page_31 : decode cX5_page 31 = .ok (.ireturn, 1) := by decide +kernel
theorem dX5_page_32 : decode cX5_page 32 = .ok (.aload_n 0, 1) := by decide +kernel
theorem dX5_page_33 : decode cX5_page 33 = .ok (.getfield 45, 3) := by decide +kernel
theorem dX5_page_36 : decode cX5_page 36 = .ok (.iload_n 2, 1) := by decide +kernel
theorem dX5_page_37 : decode cX5_page 37 = .ok (.aload_n 0, 1) := by decide +kernel
theorem dX5_page_38 : decode cX5_page 38 = .ok (.getfield 34, 3) := by decide +kernel
theorem dX5_page_41 : decode cX5_page 41 = .ok (.invokevirtual 296, 3) := by decide +kernel
theorem dX5_page_44 : decode cX5_page 44 = .ok (.aload_n 0, 1) := by decide +kernel
theorem dX5_page_45 : decode cX5_page 45 = .ok (.getfield 34, 3) := by decide +kernel
theorem dX5_page_48 : decode cX5_page 48 = .ok (.iload_n 1, 1) := by decide +kernel
theorem dX5_page_49 : decode cX5_page 49 = .ok (.iaload, 1) := by decide +kernel
theorem dX5_page_50 : decode cX5_page 50 = .ok (.ireturn, 1) := by decide +kernel
theorem dX5_flips_0 : decode cX5_flips 0 = .ok (.iload_n 1, 1) := by decide +kernel
theorem dX5_flips_1 : decode cX5_flips 1 = .ok (.bipush 10, 2) := by decide +kernel
theorem dX5_flips_3 : decode cX5_flips 3 = .ok (.if_icmp .lt 9, 3) := by decide +kernel
theorem dX5_flips_6 : decode cX5_flips 6 = .ok (.iload_n 1, 1) := by decide +kernel
theorem dX5_flips_7 : decode cX5_flips 7 = .ok (.bipush 60, 2) := by decide +kernel
theorem dX5_flips_9 : decode cX5_flips 9 = .ok (.if_icmp .le 6, 3) := by decide +kernel
theorem dX5_flips_12 : decode cX5_flips 12 = .ok (.ldc 63, 2) := by decide +kernel
theorem dX5_flips_14 : decode cX5_flips 14 = .ok (.ireturn, 1) := by decide +kernel
theorem dX5_flips_15 : decode cX5_flips 15 = .ok (.aload_n 0, 1) := by decide +kernel
theorem dX5_flips_16 : decode cX5_flips 16 = .ok (.getfield 45, 3) := by decide +kernel
theorem dX5_flips_19 : decode cX5_flips 19 = .ok (.getfield 172, 3) := by decide +kernel
theorem dX5_flips_22 : decode cX5_flips 22 = .ok (.ifCond .ne 6, 3) := by decide +kernel
theorem dX5_flips_25 : decode cX5_flips 25 = .ok (.ldc 144, 2) := by decide +kernel
theorem dX5_flips_27 : decode cX5_flips 27 = .ok (.ireturn, 1) := by decide +kernel
theorem dX5_flips_28 : decode cX5_flips 28 = .ok (.aload_n 0, 1) := by decide +kernel
theorem dX5_flips_29 : decode cX5_flips 29 = .ok (.getfield 45, 3) := by decide +kernel
theorem dX5_flips_32 : decode cX5_flips 32 = .ok (.iload_n 1, 1) := by decide +kernel
theorem dX5_flips_33 : decode cX5_flips 33 = .ok (.aload_n 0, 1) := by decide +kernel
theorem dX5_flips_34 : decode cX5_flips 34 = .ok (.getfield 34, 3) := by decide +kernel
theorem dX5_flips_37 : decode cX5_flips 37 = .ok (.invokevirtual 296, 3) := by decide +kernel
theorem dX5_flips_40 : decode cX5_flips 40 = .ok (.aload_n 0, 1) := by decide +kernel
theorem dX5_flips_41 : decode cX5_flips 41 = .ok (.getfield 45, 3) := by decide +kernel
theorem dX5_flips_44 : decode cX5_flips 44 = .ok (.aload_n 0, 1) := by decide +kernel
theorem dX5_flips_45 : decode cX5_flips 45 = .ok (.getfield 34, 3) := by decide +kernel
theorem dX5_flips_48 : decode cX5_flips 48 = .ok (.invokevirtual 300, 3) := by decide +kernel
theorem dX5_flips_51 : decode cX5_flips 51 = .ok (.ireturn, 1) := by decide +kernel
theorem dX5_seed_0 : decode cX5_seed 0 = .ok (.iload_n 1, 1) := by decide +kernel
theorem dX5_seed_1 : decode cX5_seed 1 = .ok (.ifCond .ge 6, 3) := by decide +kernel
theorem dX5_seed_4 : decode cX5_seed 4 = .ok (.ldc 63, 2) := by decide +kernel
theorem dX5_seed_6 : decode cX5_seed 6 = .ok (.ireturn, 1) := by decide +kernel
theorem dX5_seed_7 : decode cX5_seed 7 = .ok (.aload_n 0, 1) := by decide +kernel
theorem dX5_seed_8 : decode cX5_seed 8 = .ok (.getfield 45, 3) := by decide +kernel
theorem dX5_seed_11 : decode cX5_seed 11 = .ok (.getfield 304, 3) := by decide +kernel
theorem dX5_seed_14 : decode cX5_seed 14 = .ok (.istore_n 2, 1) := by decide +kernel
theorem dX5_seed_15 : decode cX5_seed 15 = .ok (.aload_n 0, 1) := by decide +kernel
theorem dX5_seed_16 : decode cX5_seed 16 = .ok (.getfield 45, 3) := by decide +kernel
theorem dX5_seed_19 : decode cX5_seed 19 = .ok (.iload_n 1, 1) := by decide +kernel
theorem dX5_seed_20 : decode cX5_seed 20 = .ok (.putfield 304, 3) := by decide +kernel
theorem dX5_seed_23 : decode cX5_seed 23 = .ok (.iload_n 2, 1) := by decide +kernel
theorem dX5_seed_24 : decode cX5_seed 24 = .ok (.ireturn, 1) := by decide +kernel
theorem dX5_blind_0 : decode cX5_blind 0 = .ok (.iload_n 1, 1) := by decide +kernel
theorem dX5_blind_1 : decode cX5_blind 1 = .ok (.iconst 1, 1) := by decide +kernel
theorem dX5_blind_2 : decode cX5_blind 2 = .ok (.if_icmp .lt 9, 3) := by decide +kernel
theorem dX5_blind_5 : decode cX5_blind 5 = .ok (.iload_n 1, 1) := by decide +kernel
theorem dX5_blind_6 : decode cX5_blind 6 = .ok (.bipush 99, 2) := by decide +kernel
theorem dX5_blind_8 : decode cX5_blind 8 = .ok (.if_icmp .le 6, 3) := by decide +kernel
theorem dX5_blind_11 : decode cX5_blind 11 = .ok (.ldc 63, 2) := by decide +kernel
theorem dX5_blind_13 : decode cX5_blind 13 = .ok (.ireturn, 1) := by decide +kernel
theorem dX5_blind_14 : decode cX5_blind 14 = .ok (.aload_n 0, 1) := by decide +kernel
theorem dX5_blind_15 : decode cX5_blind 15 = .ok (.getfield 45, 3) := by decide +kernel
theorem dX5_blind_18 : decode cX5_blind 18 = .ok (.getfield 83, 3) := by decide +kernel
theorem dX5_blind_21 : decode cX5_blind 21 = .ok (.getfield 86, 3) := by decide +kernel
theorem dX5_blind_24 : decode cX5_blind 24 = .ok (.ifCond .ne 6, 3) := by decide +kernel
theorem dX5_blind_27 : decode cX5_blind 27 = .ok (.ldc 144, 2) := by decide +kernel
theorem dX5_blind_29 : decode cX5_blind 29 = .ok (.ireturn, 1) := by decide +kernel
theorem dX5_blind_30 : decode cX5_blind 30 = .ok (.iconst 0, 1) := by decide +kernel
theorem dX5_blind_31 : decode cX5_blind 31 = .ok (.istore_n 2, 1) := by decide +kernel
theorem dX5_blind_32 : decode cX5_blind 32 = .ok (.iconst 0, 1) := by decide +kernel
theorem dX5_blind_33 : decode cX5_blind 33 = .ok (.istore_n 3, 1) := by decide +kernel
theorem dX5_blind_34 : decode cX5_blind 34 = .ok (.iload_n 3, 1) := by decide +kernel
theorem dX5_blind_35 : decode cX5_blind 35 = .ok (.iload_n 1, 1) := by decide +kernel
theorem dX5_blind_36 : decode cX5_blind 36 = .ok (.if_icmp .ge 23, 3) := by decide +kernel
theorem dX5_blind_39 : decode cX5_blind 39 = .ok (.aload_n 0, 1) := by decide +kernel
theorem dX5_blind_40 : decode cX5_blind 40 = .ok (.invokevirtual 307, 3) := by decide +kernel
theorem dX5_blind_43 : decode cX5_blind 43 = .ok (.invokestatic 310, 3) := by decide +kernel
theorem dX5_blind_46 : decode cX5_blind 46 = .ok (.iconst 1, 1) := by decide +kernel
theorem dX5_blind_47 : decode cX5_blind 47 = .ok (.if_icmp .ne 6, 3) := by decide +kernel
theorem dX5_blind_50 : decode cX5_blind 50 = .ok (.iinc 2 1, 3) := by decide +kernel
theorem dX5_blind_53 : decode cX5_blind 53 = .ok (.iinc 3 1, 3) := by decide +kernel
theorem dX5_blind_56 : decode cX5_blind 56 = .ok (.goto (-22), 3) := by decide +kernel
theorem dX5_blind_59 : decode cX5_blind 59 = .ok (.iload_n 2, 1) := by decide +kernel
theorem dX5_blind_60 : decode cX5_blind 60 = .ok (.ireturn, 1) := by decide +kernel
theorem dX5_keep_0 : decode cX5_keep 0 = .ok (.iload_n 1, 1) := by decide +kernel
theorem dX5_keep_1 : decode cX5_keep 1 = .ok (.ifCond .lt 8, 3) := by decide +kernel
theorem dX5_keep_4 : decode cX5_keep 4 = .ok (.iload_n 1, 1) := by decide +kernel
theorem dX5_keep_5 : decode cX5_keep 5 = .ok (.iconst 2, 1) := by decide +kernel
theorem dX5_keep_6 : decode cX5_keep 6 = .ok (.if_icmp .lt 6, 3) := by decide +kernel
theorem dX5_keep_9 : decode cX5_keep 9 = .ok (.ldc 96, 2) := by decide +kernel
theorem dX5_keep_11 : decode cX5_keep 11 = .ok (.ireturn, 1) := by decide +kernel
theorem dX5_keep_12 : decode cX5_keep 12 = .ok (.aload_n 0, 1) := by decide +kernel
theorem dX5_keep_13 : decode cX5_keep 13 = .ok (.getfield 59, 3) := by decide +kernel
theorem dX5_keep_16 : decode cX5_keep 16 = .ok (.iload_n 1, 1) := by decide +kernel
theorem dX5_keep_17 : decode cX5_keep 17 = .ok (.aaload, 1) := by decide +kernel
theorem dX5_keep_18 : decode cX5_keep 18 = .ok (.aload_n 0, 1) := by decide +kernel
theorem dX5_keep_19 : decode cX5_keep 19 = .ok (.getfield 45, 3) := by decide +kernel
theorem dX5_keep_22 : decode cX5_keep 22 = .ok (.invokevirtual 313, 3) := by decide +kernel
theorem dX5_keep_25 : decode cX5_keep 25 = .ok (.aload_n 0, 1) := by decide +kernel
theorem dX5_keep_26 : decode cX5_keep 26 = .ok (.getfield 59, 3) := by decide +kernel
theorem dX5_keep_29 : decode cX5_keep 29 = .ok (.iload_n 1, 1) := by decide +kernel
theorem dX5_keep_30 : decode cX5_keep 30 = .ok (.aaload, 1) := by decide +kernel
theorem dX5_keep_31 : decode cX5_keep 31 = .ok (.iconst 1, 1) := by decide +kernel
theorem dX5_keep_32 : decode cX5_keep 32 = .ok (.putfield 317, 3) := by decide +kernel
theorem dX5_keep_35 : decode cX5_keep 35 = .ok (.iconst 1, 1) := by decide +kernel
theorem dX5_keep_36 : decode cX5_keep 36 = .ok (.ireturn, 1) := by decide +kernel
theorem dX5_goBack_0 : decode cX5_goBack 0 = .ok (.iload_n 1, 1) := by decide +kernel
theorem dX5_goBack_1 : decode cX5_goBack 1 = .ok (.ifCond .lt 8, 3) := by decide +kernel
theorem dX5_goBack_4 : decode cX5_goBack 4 = .ok (.iload_n 1, 1) := by decide +kernel
theorem dX5_goBack_5 : decode cX5_goBack 5 = .ok (.iconst 2, 1) := by decide +kernel
theorem dX5_goBack_6 : decode cX5_goBack 6 = .ok (.if_icmp .lt 6, 3) := by decide +kernel
theorem dX5_goBack_9 : decode cX5_goBack 9 = .ok (.ldc 96, 2) := by decide +kernel
theorem dX5_goBack_11 : decode cX5_goBack 11 = .ok (.ireturn, 1) := by decide +kernel
theorem dX5_goBack_12 : decode cX5_goBack 12 = .ok (.aload_n 0, 1) := by decide +kernel
theorem dX5_goBack_13 : decode cX5_goBack 13 = .ok (.getfield 59, 3) := by decide +kernel
theorem dX5_goBack_16 : decode cX5_goBack 16 = .ok (.iload_n 1, 1) := by decide +kernel
theorem dX5_goBack_17 : decode cX5_goBack 17 = .ok (.aaload, 1) := by decide +kernel
theorem dX5_goBack_18 : decode cX5_goBack 18 = .ok (.getfield 317, 3) := by decide +kernel
theorem dX5_goBack_21 : decode cX5_goBack 21 = .ok (.ifCond .ne 6, 3) := by decide +kernel
theorem dX5_goBack_24 : decode cX5_goBack 24 = .ok (.ldc 144, 2) := by decide +kernel
theorem dX5_goBack_26 : decode cX5_goBack 26 = .ok (.ireturn, 1) := by decide +kernel
theorem dX5_goBack_27 : decode cX5_goBack 27 = .ok (.aload_n 0, 1) := by decide +kernel
theorem dX5_goBack_28 : decode cX5_goBack 28 = .ok (.getfield 45, 3) := by decide +kernel
theorem dX5_goBack_31 : decode cX5_goBack 31 = .ok (.aload_n 0, 1) := by decide +kernel
theorem dX5_goBack_32 : decode cX5_goBack 32 = .ok (.getfield 59, 3) := by decide +kernel
theorem dX5_goBack_35 : decode cX5_goBack 35 = .ok (.iload_n 1, 1) := by decide +kernel
theorem dX5_goBack_36 : decode cX5_goBack 36 = .ok (.aaload, 1) := by decide +kernel
theorem dX5_goBack_37 : decode cX5_goBack 37 = .ok (.invokevirtual 313, 3) := by decide +kernel
theorem dX5_goBack_40 : decode cX5_goBack 40 = .ok (.aload_n 0, 1) := by decide +kernel
theorem dX5_goBack_41 : decode cX5_goBack 41 = .ok (.iconst 0, 1) := by decide +kernel
theorem dX5_goBack_42 : decode cX5_goBack 42 = .ok (.putfield 24, 3) := by decide +kernel
theorem dX5_goBack_45 : decode cX5_goBack 45 = .ok (.iconst 1, 1) := by decide +kernel
theorem dX5_goBack_46 : decode cX5_goBack 46 = .ok (.ireturn, 1) := by decide +kernel
theorem dX5_isThing_0 : decode cX5_isThing 0 = .ok (.iload_n 0, 1) := by decide +kernel
theorem dX5_isThing_1 : decode cX5_isThing 1 = .ok (.ifCond .lt 13, 3) := by decide +kernel
theorem dX5_isThing_4 : decode cX5_isThing 4 = .ok (.iload_n 0, 1) := by decide +kernel
theorem dX5_isThing_5 : decode cX5_isThing 5 = .ok (.bipush 8, 2) := by decide +kernel
theorem dX5_isThing_7 : decode cX5_isThing 7 = .ok (.if_icmp .ge 7, 3) := by decide +kernel
theorem dX5_isThing_10 : decode cX5_isThing 10 = .ok (.iconst 1, 1) := by decide +kernel
theorem dX5_isThing_11 : decode cX5_isThing 11 = .ok (.goto 4, 3) := by decide +kernel
theorem dX5_isThing_14 : decode cX5_isThing 14 = .ok (.iconst 0, 1) := by decide +kernel
theorem dX5_isThing_15 : decode cX5_isThing 15 = .ok (.ireturn, 1) := by decide +kernel
theorem dX5_isThingOrNone_0 : decode cX5_isThingOrNone 0 = .ok (.iload_n 0, 1) := by decide +kernel
theorem dX5_isThingOrNone_1 : decode cX5_isThingOrNone 1 = .ok (.iconst (-1), 1) := by decide +kernel
theorem dX5_isThingOrNone_2 : decode cX5_isThingOrNone 2 = .ok (.if_icmp .eq 10, 3) := by decide +kernel
theorem dX5_isThingOrNone_5 : decode cX5_isThingOrNone 5 = .ok (.iload_n 0, 1) := by decide +kernel
theorem dX5_isThingOrNone_6 : decode cX5_isThingOrNone 6 = .ok (.invokestatic 256, 3) := by decide +kernel
theorem dX5_isThingOrNone_9 : decode cX5_isThingOrNone 9 = .ok (.ifCond .eq 7, 3) := by decide +kernel
theorem dX5_isThingOrNone_12 : decode cX5_isThingOrNone 12 = .ok (.iconst 1, 1) := by decide +kernel
theorem dX5_isThingOrNone_13 : decode cX5_isThingOrNone 13 = .ok (.goto 4, 3) := by decide +kernel
theorem dX5_isThingOrNone_16 : decode cX5_isThingOrNone 16 = .ok (.iconst 0, 1) := by decide +kernel
theorem dX5_isThingOrNone_17 : decode cX5_isThingOrNone 17 = .ok (.ireturn, 1) := by decide +kernel
theorem dX5_freshComeTo_0 : decode cX5_freshComeTo 0 = .ok (.aload_n 0, 1) := by decide +kernel
theorem dX5_freshComeTo_1 : decode cX5_freshComeTo 1 = .ok (.getfield 24, 3) := by decide +kernel
theorem dX5_freshComeTo_4 : decode cX5_freshComeTo 4 = .ok (.ifCond .ne 18, 3) := by decide +kernel
theorem dX5_freshComeTo_7 : decode cX5_freshComeTo 7 = .ok (.aload_n 0, 1) := by decide +kernel
theorem dX5_freshComeTo_8 : decode cX5_freshComeTo 8 = .ok (.getfield 52, 3) := by decide +kernel
theorem dX5_freshComeTo_11 : decode cX5_freshComeTo 11 = .ok (.iconst (-1), 1) := by decide +kernel
theorem dX5_freshComeTo_12 : decode cX5_freshComeTo 12 = .ok (.iconst (-1), 1) := by decide +kernel
theorem dX5_freshComeTo_13 : decode cX5_freshComeTo 13 = .ok (.iconst 0, 1) := by decide +kernel
theorem dX5_freshComeTo_14 : decode cX5_freshComeTo 14 = .ok (.invokevirtual 259, 3) := by decide +kernel
theorem dX5_freshComeTo_17 : decode cX5_freshComeTo 17 = .ok (.aload_n 0, 1) := by decide +kernel
theorem dX5_freshComeTo_18 : decode cX5_freshComeTo 18 = .ok (.iconst 1, 1) := by decide +kernel
theorem dX5_freshComeTo_19 : decode cX5_freshComeTo 19 = .ok (.putfield 24, 3) := by decide +kernel
theorem dX5_freshComeTo_22 : decode cX5_freshComeTo 22 = .ok (.aload_n 0, 1) := by decide +kernel
theorem dX5_freshComeTo_23 : decode cX5_freshComeTo 23 = .ok (.getfield 52, 3) := by decide +kernel
theorem dX5_freshComeTo_26 : decode cX5_freshComeTo 26 = .ok (.areturn, 1) := by decide +kernel
theorem dX5_bestChoice_0 : decode cX5_bestChoice 0 = .ok (.iconst (-1), 1) := by decide +kernel
theorem dX5_bestChoice_1 : decode cX5_bestChoice 1 = .ok (.istore_n 2, 1) := by decide +kernel
theorem dX5_bestChoice_2 : decode cX5_bestChoice 2 = .ok (.iconst (-1), 1) := by decide +kernel
theorem dX5_bestChoice_3 : decode cX5_bestChoice 3 = .ok (.istore_n 3, 1) := by decide +kernel
theorem dX5_bestChoice_4 : decode cX5_bestChoice 4 = .ok (.iconst 0, 1) := by decide +kernel
theorem dX5_bestChoice_5 : decode cX5_bestChoice 5 = .ok (.istore 4, 2) := by decide +kernel
theorem dX5_bestChoice_7 : decode cX5_bestChoice 7 = .ok (.iload 4, 2) := by decide +kernel
theorem dX5_bestChoice_9 : decode cX5_bestChoice 9 = .ok (.bipush 6, 2) := by decide +kernel
theorem dX5_bestChoice_11 : decode cX5_bestChoice 11 = .ok (.if_icmp .ge 94, 3) := by decide +kernel
theorem dX5_bestChoice_14 : decode cX5_bestChoice 14 = .ok (.aload_n 0, 1) := by decide +kernel
theorem dX5_bestChoice_15 : decode cX5_bestChoice 15 = .ok (.getfield 45, 3) := by decide +kernel
theorem dX5_bestChoice_18 : decode cX5_bestChoice 18 = .ok (.getfield 83, 3) := by decide +kernel
theorem dX5_bestChoice_21 : decode cX5_bestChoice 21 = .ok (.aload_n 0, 1) := by decide +kernel
theorem dX5_bestChoice_22 : decode cX5_bestChoice 22 = .ok (.getfield 45, 3) := by decide +kernel
theorem dX5_bestChoice_25 : decode cX5_bestChoice 25 = .ok (.getfield 175, 3) := by decide +kernel
theorem dX5_bestChoice_28 : decode cX5_bestChoice 28 = .ok (.iload 4, 2) := by decide +kernel
theorem dX5_bestChoice_30 : decode cX5_bestChoice 30 = .ok (.invokevirtual 183, 3) := by decide +kernel
theorem dX5_bestChoice_33 : decode cX5_bestChoice 33 = .ok (.ifCond .eq 66, 3) := by decide +kernel
theorem dX5_bestChoice_36 : decode cX5_bestChoice 36 = .ok (.aload_n 0, 1) := by decide +kernel
theorem dX5_bestChoice_37 : decode cX5_bestChoice 37 = .ok (.getfield 45, 3) := by decide +kernel
theorem dX5_bestChoice_40 : decode cX5_bestChoice 40 = .ok (.getfield 83, 3) := by decide +kernel
theorem dX5_bestChoice_43 : decode cX5_bestChoice 43 = .ok (.aload_n 0, 1) := by decide +kernel
theorem dX5_bestChoice_44 : decode cX5_bestChoice 44 = .ok (.getfield 45, 3) := by decide +kernel
theorem dX5_bestChoice_47 : decode cX5_bestChoice 47 = .ok (.getfield 175, 3) := by decide +kernel
theorem dX5_bestChoice_50 : decode cX5_bestChoice 50 = .ok (.aload_n 0, 1) := by decide +kernel
theorem dX5_bestChoice_51 : decode cX5_bestChoice 51 = .ok (.getfield 45, 3) := by decide +kernel
theorem dX5_bestChoice_54 : decode cX5_bestChoice 54 = .ok (.getfield 83, 3) := by decide +kernel
theorem dX5_bestChoice_57 : decode cX5_bestChoice 57 = .ok (.aload_n 0, 1) := by decide +kernel
theorem dX5_bestChoice_58 : decode cX5_bestChoice 58 = .ok (.getfield 45, 3) := by decide +kernel
theorem dX5_bestChoice_61 : decode cX5_bestChoice 61 = .ok (.getfield 175, 3) := by decide +kernel
theorem dX5_bestChoice_64 : decode cX5_bestChoice 64 = .ok (.iload 4, 2) := by decide +kernel
theorem dX5_bestChoice_66 : decode cX5_bestChoice 66 = .ok (.invokevirtual 186, 3) := by decide +kernel
theorem dX5_bestChoice_69 : decode cX5_bestChoice 69 = .ok (.iconst (-1), 1) := by decide +kernel
theorem dX5_bestChoice_70 : decode cX5_bestChoice 70 = .ok (.invokevirtual 272, 3) := by decide +kernel
theorem dX5_bestChoice_73 : decode cX5_bestChoice 73 = .ok (.istore 5, 2) := by decide +kernel
theorem dX5_bestChoice_75 : decode cX5_bestChoice 75 = .ok (.aload_n 1, 1) := by decide +kernel
theorem dX5_bestChoice_76 : decode cX5_bestChoice 76 = .ok (.aload_n 1, 1) := by decide +kernel
theorem dX5_bestChoice_77 : decode cX5_bestChoice 77 = .ok (.iload 5, 2) := by decide +kernel
theorem dX5_bestChoice_79 : decode cX5_bestChoice 79 = .ok (.invokevirtual 266, 3) := by decide +kernel
theorem dX5_bestChoice_82 : decode cX5_bestChoice 82 = .ok (.invokevirtual 224, 3) := by decide +kernel
theorem dX5_bestChoice_85 : decode cX5_bestChoice 85 = .ok (.istore 6, 2) := by decide +kernel
theorem dX5_bestChoice_87 : decode cX5_bestChoice 87 = .ok (.iload 6, 2) := by decide +kernel
theorem dX5_bestChoice_89 : decode cX5_bestChoice 89 = .ok (.iload_n 3, 1) := by decide +kernel
theorem dX5_bestChoice_90 : decode cX5_bestChoice 90 = .ok (.if_icmp .le 9, 3) := by decide +kernel
theorem dX5_bestChoice_93 : decode cX5_bestChoice 93 = .ok (.iload 6, 2) := by decide +kernel
theorem dX5_bestChoice_95 : decode cX5_bestChoice 95 = .ok (.istore_n 3, 1) := by decide +kernel
theorem dX5_bestChoice_96 : decode cX5_bestChoice 96 = .ok (.iload 4, 2) := by decide +kernel
theorem dX5_bestChoice_98 : decode cX5_bestChoice 98 = .ok (.istore_n 2, 1) := by decide +kernel
theorem dX5_bestChoice_99 : decode cX5_bestChoice 99 = .ok (.iinc 4 1, 3) := by decide +kernel
theorem dX5_bestChoice_102 : decode cX5_bestChoice 102 = .ok (.goto (-95), 3) := by decide +kernel
theorem dX5_bestChoice_105 : decode cX5_bestChoice 105 = .ok (.iload_n 2, 1) := by decide +kernel
theorem dX5_bestChoice_106 : decode cX5_bestChoice 106 = .ok (.ireturn, 1) := by decide +kernel
theorem dX5_mustParts_0 : decode cX5_mustParts 0 = .ok (.aload_n 1, 1) := by decide +kernel
theorem dX5_mustParts_1 : decode cX5_mustParts 1 = .ok (.getfield 320, 3) := by decide +kernel
theorem dX5_mustParts_4 : decode cX5_mustParts 4 = .ok (.ifCond .ne 5, 3) := by decide +kernel
theorem dX5_mustParts_7 : decode cX5_mustParts 7 = .ok (.iconst 0, 1) := by decide +kernel
theorem dX5_mustParts_8 : decode cX5_mustParts 8 = .ok (.ireturn, 1) := by decide +kernel
theorem dX5_mustParts_9 : decode cX5_mustParts 9 = .ok (.iconst 0, 1) := by decide +kernel
theorem dX5_mustParts_10 : decode cX5_mustParts 10 = .ok (.istore_n 2, 1) := by decide +kernel
theorem dX5_mustParts_11 : decode cX5_mustParts 11 = .ok (.iconst 0, 1) := by decide +kernel
theorem dX5_mustParts_12 : decode cX5_mustParts 12 = .ok (.istore_n 3, 1) := by decide +kernel
theorem dX5_mustParts_13 : decode cX5_mustParts 13 = .ok (.iload_n 3, 1) := by decide +kernel
theorem dX5_mustParts_14 : decode cX5_mustParts 14 = .ok (.bipush 24, 2) := by decide +kernel
theorem dX5_mustParts_16 : decode cX5_mustParts 16 = .ok (.if_icmp .ge 47, 3) := by decide +kernel
theorem dX5_mustParts_19 : decode cX5_mustParts 19 = .ok (.aload_n 1, 1) := by decide +kernel
theorem dX5_mustParts_20 : decode cX5_mustParts 20 = .ok (.getfield 238, 3) := by decide +kernel
theorem dX5_mustParts_23 : decode cX5_mustParts 23 = .ok (.iload_n 3, 1) := by decide +kernel
theorem dX5_mustParts_24 : decode cX5_mustParts 24 = .ok (.ishr, 1) := by decide +kernel
theorem dX5_mustParts_25 : decode cX5_mustParts 25 = .ok (.iconst 1, 1) := by decide +kernel
theorem dX5_mustParts_26 : decode cX5_mustParts 26 = .ok (.iand, 1) := by decide +kernel
theorem dX5_mustParts_27 : decode cX5_mustParts 27 = .ok (.iconst 1, 1) := by decide +kernel
theorem dX5_mustParts_28 : decode cX5_mustParts 28 = .ok (.if_icmp .ne 29, 3) := by decide +kernel
theorem dX5_mustParts_31 : decode cX5_mustParts 31 = .ok (.aload_n 0, 1) := by decide +kernel
theorem dX5_mustParts_32 : decode cX5_mustParts 32 = .ok (.getfield 56, 3) := by decide +kernel
theorem dX5_mustParts_35 : decode cX5_mustParts 35 = .ok (.iconst (-1), 1) := by decide +kernel
theorem dX5_mustParts_36 : decode cX5_mustParts 36 = .ok (.iload_n 3, 1) := by decide +kernel
theorem dX5_mustParts_37 : decode cX5_mustParts 37 = .ok (.iconst 1, 1) := by decide +kernel
theorem dX5_mustParts_38 : decode cX5_mustParts 38 = .ok (.invokevirtual 259, 3) := by decide +kernel
theorem dX5_mustParts_41 : decode cX5_mustParts 41 = .ok (.aload_n 0, 1) := by decide +kernel
theorem dX5_mustParts_42 : decode cX5_mustParts 42 = .ok (.getfield 56, 3) := by decide +kernel
theorem dX5_mustParts_45 : decode cX5_mustParts 45 = .ok (.getfield 320, 3) := by decide +kernel
theorem dX5_mustParts_48 : decode cX5_mustParts 48 = .ok (.ifCond .ne 9, 3) := by decide +kernel
theorem dX5_mustParts_51 : decode cX5_mustParts 51 = .ok (.iload_n 2, 1) := by decide +kernel
theorem dX5_mustParts_52 : decode cX5_mustParts 52 = .ok (.iconst 1, 1) := by decide +kernel
theorem dX5_mustParts_53 : decode cX5_mustParts 53 = .ok (.iload_n 3, 1) := by decide +kernel
theorem dX5_mustParts_54 : decode cX5_mustParts 54 = .ok (.ishl, 1) := by decide +kernel
theorem dX5_mustParts_55 : decode cX5_mustParts 55 = .ok (.ior, 1) := by decide +kernel
theorem dX5_mustParts_56 : decode cX5_mustParts 56 = .ok (.istore_n 2, 1) := by decide +kernel
theorem dX5_mustParts_57 : decode cX5_mustParts 57 = .ok (.iinc 3 1, 3) := by decide +kernel
theorem dX5_mustParts_60 : decode cX5_mustParts 60 = .ok (.goto (-47), 3) := by decide +kernel
theorem dX5_mustParts_63 : decode cX5_mustParts 63 = .ok (.iload_n 2, 1) := by decide +kernel
theorem dX5_mustParts_64 : decode cX5_mustParts 64 = .ok (.ireturn, 1) := by decide +kernel
theorem dX5_neededThings_0 : decode cX5_neededThings 0 = .ok (.aload_n 1, 1) := by decide +kernel
theorem dX5_neededThings_1 : decode cX5_neededThings 1 = .ok (.getfield 320, 3) := by decide +kernel
theorem dX5_neededThings_4 : decode cX5_neededThings 4 = .ok (.ifCond .ne 5, 3) := by decide +kernel
theorem dX5_neededThings_7 : decode cX5_neededThings 7 = .ok (.iconst 0, 1) := by decide +kernel
theorem dX5_neededThings_8 : decode cX5_neededThings 8 = .ok (.ireturn, 1) := by decide +kernel
theorem dX5_neededThings_9 : decode cX5_neededThings 9 = .ok (.aload_n 1, 1) := by decide +kernel
theorem dX5_neededThings_10 : decode cX5_neededThings 10 = .ok (.invokevirtual 250, 3) := by decide +kernel
theorem dX5_neededThings_13 : decode cX5_neededThings 13 = .ok (.istore_n 2, 1) := by decide +kernel
theorem dX5_neededThings_14 : decode cX5_neededThings 14 = .ok (.iconst 0, 1) := by decide +kernel
theorem dX5_neededThings_15 : decode cX5_neededThings 15 = .ok (.istore_n 3, 1) := by decide +kernel
theorem dX5_neededThings_16 : decode cX5_neededThings 16 = .ok (.iconst 0, 1) := by decide +kernel
theorem dX5_neededThings_17 : decode cX5_neededThings 17 = .ok (.istore 4, 2) := by decide +kernel
theorem dX5_neededThings_19 : decode cX5_neededThings 19 = .ok (.iload 4, 2) := by decide +kernel
theorem dX5_neededThings_21 : decode cX5_neededThings 21 = .ok (.bipush 8, 2) := by decide +kernel
theorem dX5_neededThings_23 : decode cX5_neededThings 23 = .ok (.if_icmp .ge 47, 3) := by decide +kernel
theorem dX5_neededThings_26 : decode cX5_neededThings 26 = .ok (.iload_n 2, 1) := by decide +kernel
theorem dX5_neededThings_27 : decode cX5_neededThings 27 = .ok (.iload 4, 2) := by decide +kernel
theorem dX5_neededThings_29 : decode cX5_neededThings 29 = .ok (.ishr, 1) := by decide +kernel
theorem dX5_neededThings_30 : decode cX5_neededThings 30 = .ok (.iconst 1, 1) := by decide +kernel
theorem dX5_neededThings_31 : decode cX5_neededThings 31 = .ok (.iand, 1) := by decide +kernel
theorem dX5_neededThings_32 : decode cX5_neededThings 32 = .ok (.iconst 1, 1) := by decide +kernel
theorem dX5_neededThings_33 : decode cX5_neededThings 33 = .ok (.if_icmp .ne 31, 3) := by decide +kernel
theorem dX5_neededThings_36 : decode cX5_neededThings 36 = .ok (.aload_n 0, 1) := by decide +kernel
theorem dX5_neededThings_37 : decode cX5_neededThings 37 = .ok (.getfield 56, 3) := by decide +kernel
theorem dX5_neededThings_40 : decode cX5_neededThings 40 = .ok (.iload 4, 2) := by decide +kernel
theorem dX5_neededThings_42 : decode cX5_neededThings 42 = .ok (.iconst (-1), 1) := by decide +kernel
theorem dX5_neededThings_43 : decode cX5_neededThings 43 = .ok (.iconst 1, 1) := by decide +kernel
theorem dX5_neededThings_44 : decode cX5_neededThings 44 = .ok (.invokevirtual 259, 3) := by decide +kernel
theorem dX5_neededThings_47 : decode cX5_neededThings 47 = .ok (.aload_n 0, 1) := by decide +kernel
theorem dX5_neededThings_48 : decode cX5_neededThings 48 = .ok (.getfield 56, 3) := by decide +kernel
theorem dX5_neededThings_51 : decode cX5_neededThings 51 = .ok (.getfield 320, 3) := by decide +kernel
theorem dX5_neededThings_54 : decode cX5_neededThings 54 = .ok (.ifCond .ne 10, 3) := by decide +kernel
theorem dX5_neededThings_57 : decode cX5_neededThings 57 = .ok (.iload_n 3, 1) := by decide +kernel
theorem dX5_neededThings_58 : decode cX5_neededThings 58 = .ok (.iconst 1, 1) := by decide +kernel
theorem dX5_neededThings_59 : decode cX5_neededThings 59 = .ok (.iload 4, 2) := by decide +kernel
theorem dX5_neededThings_61 : decode cX5_neededThings 61 = .ok (.ishl, 1) := by decide +kernel
theorem dX5_neededThings_62 : decode cX5_neededThings 62 = .ok (.ior, 1) := by decide +kernel
theorem dX5_neededThings_63 : decode cX5_neededThings 63 = .ok (.istore_n 3, 1) := by decide +kernel
theorem dX5_neededThings_64 : decode cX5_neededThings 64 = .ok (.iinc 4 1, 3) := by decide +kernel
theorem dX5_neededThings_67 : decode cX5_neededThings 67 = .ok (.goto (-48), 3) := by decide +kernel
theorem dX5_neededThings_70 : decode cX5_neededThings 70 = .ok (.iload_n 3, 1) := by decide +kernel
theorem dX5_neededThings_71 : decode cX5_neededThings 71 = .ok (.ireturn, 1) := by decide +kernel
theorem dX5_nearPairs_0 : decode cX5_nearPairs 0 = .ok (.iconst 0, 1) := by decide +kernel
theorem dX5_nearPairs_1 : decode cX5_nearPairs 1 = .ok (.istore_n 3, 1) := by decide +kernel
theorem dX5_nearPairs_2 : decode cX5_nearPairs 2 = .ok (.iconst 0, 1) := by decide +kernel
theorem dX5_nearPairs_3 : decode cX5_nearPairs 3 = .ok (.istore 4, 2) := by decide +kernel
theorem dX5_nearPairs_5 : decode cX5_nearPairs 5 = .ok (.iload 4, 2) := by decide +kernel
theorem dX5_nearPairs_7 : decode cX5_nearPairs 7 = .ok (.bipush 24, 2) := by decide +kernel
theorem dX5_nearPairs_9 : decode cX5_nearPairs 9 = .ok (.if_icmp .ge 60, 3) := by decide +kernel
theorem dX5_nearPairs_12 : decode cX5_nearPairs 12 = .ok (.iload 4, 2) := by decide +kernel
theorem dX5_nearPairs_14 : decode cX5_nearPairs 14 = .ok (.iconst 1, 1) := by decide +kernel
theorem dX5_nearPairs_15 : decode cX5_nearPairs 15 = .ok (.iadd, 1) := by decide +kernel
theorem dX5_nearPairs_16 : decode cX5_nearPairs 16 = .ok (.istore 5, 2) := by decide +kernel
theorem dX5_nearPairs_18 : decode cX5_nearPairs 18 = .ok (.iload 5, 2) := by decide +kernel
theorem dX5_nearPairs_20 : decode cX5_nearPairs 20 = .ok (.bipush 24, 2) := by decide +kernel
theorem dX5_nearPairs_22 : decode cX5_nearPairs 22 = .ok (.if_icmp .ge 41, 3) := by decide +kernel
theorem dX5_nearPairs_25 : decode cX5_nearPairs 25 = .ok (.aload_n 0, 1) := by decide +kernel
theorem dX5_nearPairs_26 : decode cX5_nearPairs 26 = .ok (.iload 4, 2) := by decide +kernel
theorem dX5_nearPairs_28 : decode cX5_nearPairs 28 = .ok (.iaload, 1) := by decide +kernel
theorem dX5_nearPairs_29 : decode cX5_nearPairs 29 = .ok (.iload 5, 2) := by decide +kernel
theorem dX5_nearPairs_31 : decode cX5_nearPairs 31 = .ok (.ishr, 1) := by decide +kernel
theorem dX5_nearPairs_32 : decode cX5_nearPairs 32 = .ok (.iconst 1, 1) := by decide +kernel
theorem dX5_nearPairs_33 : decode cX5_nearPairs 33 = .ok (.iand, 1) := by decide +kernel
theorem dX5_nearPairs_34 : decode cX5_nearPairs 34 = .ok (.iconst 1, 1) := by decide +kernel
theorem dX5_nearPairs_35 : decode cX5_nearPairs 35 = .ok (.if_icmp .ne 22, 3) := by decide +kernel
theorem dX5_nearPairs_38 : decode cX5_nearPairs 38 = .ok (.aload_n 1, 1) := by decide +kernel
theorem dX5_nearPairs_39 : decode cX5_nearPairs 39 = .ok (.iload 4, 2) := by decide +kernel
theorem dX5_nearPairs_41 : decode cX5_nearPairs 41 = .ok (.iaload, 1) := by decide +kernel
theorem dX5_nearPairs_42 : decode cX5_nearPairs 42 = .ok (.aload_n 1, 1) := by decide +kernel
theorem dX5_nearPairs_43 : decode cX5_nearPairs 43 = .ok (.iload 5, 2) := by decide +kernel
theorem dX5_nearPairs_45 : decode cX5_nearPairs 45 = .ok (.iaload, 1) := by decide +kernel
theorem dX5_nearPairs_46 : decode cX5_nearPairs 46 = .ok (.isub, 1) := by decide +kernel
theorem dX5_nearPairs_47 : decode cX5_nearPairs 47 = .ok (.invokestatic 323, 3) := by decide +kernel
theorem dX5_nearPairs_50 : decode cX5_nearPairs 50 = .ok (.iload_n 2, 1) := by decide +kernel
theorem dX5_nearPairs_51 : decode cX5_nearPairs 51 = .ok (.if_icmp .ge 6, 3) := by decide +kernel
theorem dX5_nearPairs_54 : decode cX5_nearPairs 54 = .ok (.iinc 3 1, 3) := by decide +kernel
theorem dX5_nearPairs_57 : decode cX5_nearPairs 57 = .ok (.iinc 5 1, 3) := by decide +kernel
theorem dX5_nearPairs_60 : decode cX5_nearPairs 60 = .ok (.goto (-42), 3) := by decide +kernel
theorem dX5_nearPairs_63 : decode cX5_nearPairs 63 = .ok (.iinc 4 1, 3) := by decide +kernel
theorem dX5_nearPairs_66 : decode cX5_nearPairs 66 = .ok (.goto (-61), 3) := by decide +kernel
theorem dX5_nearPairs_69 : decode cX5_nearPairs 69 = .ok (.iload_n 3, 1) := by decide +kernel
theorem dX5_nearPairs_70 : decode cX5_nearPairs 70 = .ok (.ireturn, 1) := by decide +kernel
theorem dX5_mixTriedNumbers_0 : decode cX5_mixTriedNumbers 0 = .ok (.aload_n 0, 1) := by decide +kernel
theorem dX5_mixTriedNumbers_1 : decode cX5_mixTriedNumbers 1 = .ok (.getfield 45, 3) := by decide +kernel
theorem dX5_mixTriedNumbers_4 : decode cX5_mixTriedNumbers 4 = .ok (.getfield 83, 3) := by decide +kernel
theorem dX5_mixTriedNumbers_7 : decode cX5_mixTriedNumbers 7 = .ok (.getfield 86, 3) := by decide +kernel
theorem dX5_mixTriedNumbers_10 : decode cX5_mixTriedNumbers 10 = .ok (.iconst 1, 1) := by decide +kernel
theorem dX5_mixTriedNumbers_11 : decode cX5_mixTriedNumbers 11 = .ok (.isub, 1) := by decide +kernel
theorem dX5_mixTriedNumbers_12 : decode cX5_mixTriedNumbers 12 = .ok (.istore_n 1, 1) := by decide +kernel
theorem dX5_mixTriedNumbers_13 : decode cX5_mixTriedNumbers 13 = .ok (.iload_n 1, 1) := by decide +kernel
theorem dX5_mixTriedNumbers_14 : decode cX5_mixTriedNumbers 14 = .ok (.iconst 2, 1) := by decide +kernel
theorem dX5_mixTriedNumbers_15 : decode cX5_mixTriedNumbers 15 = .ok (.if_icmp .lt 46, 3) := by decide +kernel
theorem dX5_mixTriedNumbers_18 : decode cX5_mixTriedNumbers 18 = .ok (.iconst 1, 1) := by decide +kernel
theorem dX5_mixTriedNumbers_19 : decode cX5_mixTriedNumbers 19 = .ok (.aload_n 0, 1) := by decide +kernel
theorem dX5_mixTriedNumbers_20 : decode cX5_mixTriedNumbers 20 = .ok (.getfield 45, 3) := by decide +kernel
theorem dX5_mixTriedNumbers_23 : decode cX5_mixTriedNumbers 23 = .ok (.iload_n 1, 1) := by decide +kernel
theorem dX5_mixTriedNumbers_24 : decode cX5_mixTriedNumbers 24 = .ok (.invokevirtual 200, 3) := by decide +kernel
theorem dX5_mixTriedNumbers_27 : decode cX5_mixTriedNumbers 27 = .ok (.iadd, 1) := by decide +kernel
theorem dX5_mixTriedNumbers_28 : decode cX5_mixTriedNumbers 28 = .ok (.istore_n 2, 1) := by decide +kernel
theorem dX5_mixTriedNumbers_29 : decode cX5_mixTriedNumbers 29 = .ok (.aload_n 0, 1) := by decide +kernel
theorem dX5_mixTriedNumbers_30 : decode cX5_mixTriedNumbers 30 = .ok (.getfield 31, 3) := by decide +kernel
theorem dX5_mixTriedNumbers_33 : decode cX5_mixTriedNumbers 33 = .ok (.iload_n 1, 1) := by decide +kernel
theorem dX5_mixTriedNumbers_34 : decode cX5_mixTriedNumbers 34 = .ok (.iaload, 1) := by decide +kernel
theorem dX5_mixTriedNumbers_35 : decode cX5_mixTriedNumbers 35 = .ok (.istore_n 3, 1) := by decide +kernel
theorem dX5_mixTriedNumbers_36 : decode cX5_mixTriedNumbers 36 = .ok (.aload_n 0, 1) := by decide +kernel
theorem dX5_mixTriedNumbers_37 : decode cX5_mixTriedNumbers 37 = .ok (.getfield 31, 3) := by decide +kernel
theorem dX5_mixTriedNumbers_40 : decode cX5_mixTriedNumbers 40 = .ok (.iload_n 1, 1) := by decide +kernel
theorem dX5_mixTriedNumbers_41 : decode cX5_mixTriedNumbers 41 = .ok (.aload_n 0, 1) := by decide +kernel
theorem dX5_mixTriedNumbers_42 : decode cX5_mixTriedNumbers 42 = .ok (.getfield 31, 3) := by decide +kernel
theorem dX5_mixTriedNumbers_45 : decode cX5_mixTriedNumbers 45 = .ok (.iload_n 2, 1) := by decide +kernel
theorem dX5_mixTriedNumbers_46 : decode cX5_mixTriedNumbers 46 = .ok (.iaload, 1) := by decide +kernel
theorem dX5_mixTriedNumbers_47 : decode cX5_mixTriedNumbers 47 = .ok (.iastore, 1) := by decide +kernel
theorem dX5_mixTriedNumbers_48 : decode cX5_mixTriedNumbers 48 = .ok (.aload_n 0, 1) := by decide +kernel
theorem dX5_mixTriedNumbers_49 : decode cX5_mixTriedNumbers 49 = .ok (.getfield 31, 3) := by decide +kernel
theorem dX5_mixTriedNumbers_52 : decode cX5_mixTriedNumbers 52 = .ok (.iload_n 2, 1) := by decide +kernel
theorem dX5_mixTriedNumbers_53 : decode cX5_mixTriedNumbers 53 = .ok (.iload_n 3, 1) := by decide +kernel
theorem dX5_mixTriedNumbers_54 : decode cX5_mixTriedNumbers 54 = .ok (.iastore, 1) := by decide +kernel
theorem dX5_mixTriedNumbers_55 : decode cX5_mixTriedNumbers 55 = .ok (.iinc 1 (-1), 3) := by decide +kernel
theorem dX5_mixTriedNumbers_58 : decode cX5_mixTriedNumbers 58 = .ok (.goto (-45), 3) := by decide +kernel
theorem dX5_mixTriedNumbers_61 : decode cX5_mixTriedNumbers 61 = .ok (.return_, 1) := by decide +kernel
theorem dX5_blindEnd_0 : decode cX5_blindEnd 0 = .ok (.aload_n 0, 1) := by decide +kernel
theorem dX5_blindEnd_1 : decode cX5_blindEnd 1 = .ok (.getfield 45, 3) := by decide +kernel
theorem dX5_blindEnd_4 : decode cX5_blindEnd 4 = .ok (.getfield 83, 3) := by decide +kernel
theorem dX5_blindEnd_7 : decode cX5_blindEnd 7 = .ok (.iconst (-1), 1) := by decide +kernel
theorem dX5_blindEnd_8 : decode cX5_blindEnd 8 = .ok (.invokevirtual 263, 3) := by decide +kernel
theorem dX5_blindEnd_11 : decode cX5_blindEnd 11 = .ok (.istore_n 1, 1) := by decide +kernel
theorem dX5_blindEnd_12 : decode cX5_blindEnd 12 = .ok (.iconst 0, 1) := by decide +kernel
theorem dX5_blindEnd_13 : decode cX5_blindEnd 13 = .ok (.istore_n 2, 1) := by decide +kernel
theorem dX5_blindEnd_14 : decode cX5_blindEnd 14 = .ok (.iload_n 2, 1) := by decide +kernel
theorem dX5_blindEnd_15 : decode cX5_blindEnd 15 = .ok (.bipush 60, 2) := by decide +kernel
theorem dX5_blindEnd_17 : decode cX5_blindEnd 17 = .ok (.if_icmp .ge 36, 3) := by decide +kernel
theorem dX5_blindEnd_20 : decode cX5_blindEnd 20 = .ok (.aload_n 0, 1) := by decide +kernel
theorem dX5_blindEnd_21 : decode cX5_blindEnd 21 = .ok (.iload_n 1, 1) := by decide +kernel
theorem dX5_blindEnd_22 : decode cX5_blindEnd 22 = .ok (.invokevirtual 328, 3) := by decide +kernel
theorem dX5_blindEnd_25 : decode cX5_blindEnd 25 = .ok (.istore_n 3, 1) := by decide +kernel
theorem dX5_blindEnd_26 : decode cX5_blindEnd 26 = .ok (.iload_n 3, 1) := by decide +kernel
theorem dX5_blindEnd_27 : decode cX5_blindEnd 27 = .ok (.iconst (-1), 1) := by decide +kernel
theorem dX5_blindEnd_28 : decode cX5_blindEnd 28 = .ok (.if_icmp .ne 5, 3) := by decide +kernel
theorem dX5_blindEnd_31 : decode cX5_blindEnd 31 = .ok (.iload_n 1, 1) := by decide +kernel
theorem dX5_blindEnd_32 : decode cX5_blindEnd 32 = .ok (.ireturn, 1) := by decide +kernel
theorem dX5_blindEnd_33 : decode cX5_blindEnd 33 = .ok (.aload_n 0, 1) := by decide +kernel
theorem dX5_blindEnd_34 : decode cX5_blindEnd 34 = .ok (.getfield 45, 3) := by decide +kernel
theorem dX5_blindEnd_37 : decode cX5_blindEnd 37 = .ok (.getfield 83, 3) := by decide +kernel
theorem dX5_blindEnd_40 : decode cX5_blindEnd 40 = .ok (.iload_n 1, 1) := by decide +kernel
theorem dX5_blindEnd_41 : decode cX5_blindEnd 41 = .ok (.iload_n 3, 1) := by decide +kernel
theorem dX5_blindEnd_42 : decode cX5_blindEnd 42 = .ok (.iconst (-1), 1) := by decide +kernel
theorem dX5_blindEnd_43 : decode cX5_blindEnd 43 = .ok (.invokevirtual 272, 3) := by decide +kernel
theorem dX5_blindEnd_46 : decode cX5_blindEnd 46 = .ok (.istore_n 1, 1) := by decide +kernel
theorem dX5_blindEnd_47 : decode cX5_blindEnd 47 = .ok (.iinc 2 1, 3) := by decide +kernel
theorem dX5_blindEnd_50 : decode cX5_blindEnd 50 = .ok (.goto (-36), 3) := by decide +kernel
theorem dX5_blindEnd_53 : decode cX5_blindEnd 53 = .ok (.iload_n 1, 1) := by decide +kernel
theorem dX5_blindEnd_54 : decode cX5_blindEnd 54 = .ok (.ireturn, 1) := by decide +kernel
theorem dX5_blindWay_0 : decode cX5_blindWay 0 = .ok (.aload_n 0, 1) := by decide +kernel
theorem dX5_blindWay_1 : decode cX5_blindWay 1 = .ok (.getfield 45, 3) := by decide +kernel
theorem dX5_blindWay_4 : decode cX5_blindWay 4 = .ok (.getfield 83, 3) := by decide +kernel
theorem dX5_blindWay_7 : decode cX5_blindWay 7 = .ok (.astore_n 2, 1) := by decide +kernel
theorem dX5_blindWay_8 : decode cX5_blindWay 8 = .ok (.iload_n 1, 1) := by decide +kernel
theorem dX5_blindWay_9 : decode cX5_blindWay 9 = .ok (.invokestatic 194, 3) := by decide +kernel
theorem dX5_blindWay_12 : decode cX5_blindWay 12 = .ok (.ifCond .eq 5, 3) := by decide +kernel
theorem dX5_blindWay_15 : decode cX5_blindWay 15 = .ok (.iconst (-1), 1) := by decide +kernel
theorem dX5_blindWay_16 : decode cX5_blindWay 16 = .ok (.ireturn, 1) := by decide +kernel
theorem dX5_blindWay_17 : decode cX5_blindWay 17 = .ok (.aload_n 2, 1) := by decide +kernel
theorem dX5_blindWay_18 : decode cX5_blindWay 18 = .ok (.iload_n 1, 1) := by decide +kernel
theorem dX5_blindWay_19 : decode cX5_blindWay 19 = .ok (.invokestatic 178, 3) := by decide +kernel
theorem dX5_blindWay_22 : decode cX5_blindWay 22 = .ok (.invokevirtual 197, 3) := by decide +kernel
theorem dX5_blindWay_25 : decode cX5_blindWay 25 = .ok (.ifCond .eq 23, 3) := by decide +kernel
theorem dX5_blindWay_28 : decode cX5_blindWay 28 = .ok (.aload_n 2, 1) := by decide +kernel
theorem dX5_blindWay_29 : decode cX5_blindWay 29 = .ok (.iload_n 1, 1) := by decide +kernel
theorem dX5_blindWay_30 : decode cX5_blindWay 30 = .ok (.invokestatic 178, 3) := by decide +kernel
theorem dX5_blindWay_33 : decode cX5_blindWay 33 = .ok (.aload_n 0, 1) := by decide +kernel
theorem dX5_blindWay_34 : decode cX5_blindWay 34 = .ok (.getfield 45, 3) := by decide +kernel
theorem dX5_blindWay_37 : decode cX5_blindWay 37 = .ok (.bipush 6, 2) := by decide +kernel
theorem dX5_blindWay_39 : decode cX5_blindWay 39 = .ok (.invokevirtual 200, 3) := by decide +kernel
theorem dX5_blindWay_42 : decode cX5_blindWay 42 = .ok (.iconst 1, 1) := by decide +kernel
theorem dX5_blindWay_43 : decode cX5_blindWay 43 = .ok (.iadd, 1) := by decide +kernel
theorem dX5_blindWay_44 : decode cX5_blindWay 44 = .ok (.invokevirtual 203, 3) := by decide +kernel
theorem dX5_blindWay_47 : decode cX5_blindWay 47 = .ok (.ireturn, 1) := by decide +kernel
theorem dX5_blindWay_48 : decode cX5_blindWay 48 = .ok (.aload_n 2, 1) := by decide +kernel
theorem dX5_blindWay_49 : decode cX5_blindWay 49 = .ok (.iload_n 1, 1) := by decide +kernel
theorem dX5_blindWay_50 : decode cX5_blindWay 50 = .ok (.invokevirtual 215, 3) := by decide +kernel
theorem dX5_blindWay_53 : decode cX5_blindWay 53 = .ok (.istore_n 3, 1) := by decide +kernel
theorem dX5_blindWay_54 : decode cX5_blindWay 54 = .ok (.iload_n 3, 1) := by decide +kernel
theorem dX5_blindWay_55 : decode cX5_blindWay 55 = .ok (.ifCond .ne 5, 3) := by decide +kernel
theorem dX5_blindWay_58 : decode cX5_blindWay 58 = .ok (.iconst (-1), 1) := by decide +kernel
theorem dX5_blindWay_59 : decode cX5_blindWay 59 = .ok (.ireturn, 1) := by decide +kernel
theorem dX5_blindWay_60 : decode cX5_blindWay 60 = .ok (.aload_n 2, 1) := by decide +kernel
theorem dX5_blindWay_61 : decode cX5_blindWay 61 = .ok (.iload_n 1, 1) := by decide +kernel
theorem dX5_blindWay_62 : decode cX5_blindWay 62 = .ok (.iload_n 3, 1) := by decide +kernel
theorem dX5_blindWay_63 : decode cX5_blindWay 63 = .ok (.aload_n 0, 1) := by decide +kernel
theorem dX5_blindWay_64 : decode cX5_blindWay 64 = .ok (.getfield 45, 3) := by decide +kernel
theorem dX5_blindWay_67 : decode cX5_blindWay 67 = .ok (.iload_n 3, 1) := by decide +kernel
theorem dX5_blindWay_68 : decode cX5_blindWay 68 = .ok (.invokestatic 331, 3) := by decide +kernel
theorem dX5_blindWay_71 : decode cX5_blindWay 71 = .ok (.invokevirtual 200, 3) := by decide +kernel
theorem dX5_blindWay_74 : decode cX5_blindWay 74 = .ok (.invokestatic 336, 3) := by decide +kernel
theorem dX5_blindWay_77 : decode cX5_blindWay 77 = .ok (.invokevirtual 186, 3) := by decide +kernel
theorem dX5_blindWay_80 : decode cX5_blindWay 80 = .ok (.ireturn, 1) := by decide +kernel
theorem dX5_nthOf_0 : decode cX5_nthOf 0 = .ok (.iload_n 1, 1) := by decide +kernel
theorem dX5_nthOf_1 : decode cX5_nthOf 1 = .ok (.istore_n 2, 1) := by decide +kernel
theorem dX5_nthOf_2 : decode cX5_nthOf 2 = .ok (.iconst 0, 1) := by decide +kernel
theorem dX5_nthOf_3 : decode cX5_nthOf 3 = .ok (.istore_n 3, 1) := by decide +kernel
theorem dX5_nthOf_4 : decode cX5_nthOf 4 = .ok (.iload_n 3, 1) := by decide +kernel
theorem dX5_nthOf_5 : decode cX5_nthOf 5 = .ok (.bipush 6, 2) := by decide +kernel
theorem dX5_nthOf_7 : decode cX5_nthOf 7 = .ok (.if_icmp .ge 27, 3) := by decide +kernel
theorem dX5_nthOf_10 : decode cX5_nthOf 10 = .ok (.iload_n 0, 1) := by decide +kernel
theorem dX5_nthOf_11 : decode cX5_nthOf 11 = .ok (.iload_n 3, 1) := by decide +kernel
theorem dX5_nthOf_12 : decode cX5_nthOf 12 = .ok (.ishr, 1) := by decide +kernel
theorem dX5_nthOf_13 : decode cX5_nthOf 13 = .ok (.iconst 1, 1) := by decide +kernel
theorem dX5_nthOf_14 : decode cX5_nthOf 14 = .ok (.iand, 1) := by decide +kernel
theorem dX5_nthOf_15 : decode cX5_nthOf 15 = .ok (.iconst 1, 1) := by decide +kernel
theorem dX5_nthOf_16 : decode cX5_nthOf 16 = .ok (.if_icmp .ne 12, 3) := by decide +kernel
theorem dX5_nthOf_19 : decode cX5_nthOf 19 = .ok (.iload_n 2, 1) := by decide +kernel
theorem dX5_nthOf_20 : decode cX5_nthOf 20 = .ok (.ifCond .ne 5, 3) := by decide +kernel
theorem dX5_nthOf_23 : decode cX5_nthOf 23 = .ok (.iload_n 3, 1) := by decide +kernel
theorem dX5_nthOf_24 : decode cX5_nthOf 24 = .ok (.ireturn, 1) := by decide +kernel
theorem dX5_nthOf_25 : decode cX5_nthOf 25 = .ok (.iinc 2 (-1), 3) := by decide +kernel
theorem dX5_nthOf_28 : decode cX5_nthOf 28 = .ok (.iinc 3 1, 3) := by decide +kernel
theorem dX5_nthOf_31 : decode cX5_nthOf 31 = .ok (.goto (-27), 3) := by decide +kernel
theorem dX5_nthOf_34 : decode cX5_nthOf 34 = .ok (.iconst 0, 1) := by decide +kernel
theorem dX5_nthOf_35 : decode cX5_nthOf 35 = .ok (.ireturn, 1) := by decide +kernel
theorem dJ6_bitCount_0f7a4_0 : decode cJ6_bitCount_0f7a4 0 = .ok (.iload_n 0, 1) := by decide +kernel
theorem dJ6_bitCount_0f7a4_1 : decode cJ6_bitCount_0f7a4 1 = .ok (.iload_n 0, 1) := by decide +kernel
theorem dJ6_bitCount_0f7a4_2 : decode cJ6_bitCount_0f7a4 2 = .ok (.iconst 1, 1) := by decide +kernel
theorem dJ6_bitCount_0f7a4_3 : decode cJ6_bitCount_0f7a4 3 = .ok (.iushr, 1) := by decide +kernel
theorem dJ6_bitCount_0f7a4_4 : decode cJ6_bitCount_0f7a4 4 = .ok (.ldc_w 265, 3) := by decide +kernel
theorem dJ6_bitCount_0f7a4_7 : decode cJ6_bitCount_0f7a4 7 = .ok (.iand, 1) := by decide +kernel
theorem dJ6_bitCount_0f7a4_8 : decode cJ6_bitCount_0f7a4 8 = .ok (.isub, 1) := by decide +kernel
theorem dJ6_bitCount_0f7a4_9 : decode cJ6_bitCount_0f7a4 9 = .ok (.istore_n 0, 1) := by decide +kernel
theorem dJ6_bitCount_0f7a4_10 : decode cJ6_bitCount_0f7a4 10 = .ok (.iload_n 0, 1) := by decide +kernel
theorem dJ6_bitCount_0f7a4_11 : decode cJ6_bitCount_0f7a4 11 = .ok (.ldc_w 266, 3) := by decide +kernel
theorem dJ6_bitCount_0f7a4_14 : decode cJ6_bitCount_0f7a4 14 = .ok (.iand, 1) := by decide +kernel
theorem dJ6_bitCount_0f7a4_15 : decode cJ6_bitCount_0f7a4 15 = .ok (.iload_n 0, 1) := by decide +kernel
theorem dJ6_bitCount_0f7a4_16 : decode cJ6_bitCount_0f7a4 16 = .ok (.iconst 2, 1) := by decide +kernel
theorem dJ6_bitCount_0f7a4_17 : decode cJ6_bitCount_0f7a4 17 = .ok (.iushr, 1) := by decide +kernel
theorem dJ6_bitCount_0f7a4_18 : decode cJ6_bitCount_0f7a4 18 = .ok (.ldc_w 266, 3) := by decide +kernel
theorem dJ6_bitCount_0f7a4_21 : decode cJ6_bitCount_0f7a4 21 = .ok (.iand, 1) := by decide +kernel
theorem dJ6_bitCount_0f7a4_22 : decode cJ6_bitCount_0f7a4 22 = .ok (.iadd, 1) := by decide +kernel
theorem dJ6_bitCount_0f7a4_23 : decode cJ6_bitCount_0f7a4 23 = .ok (.istore_n 0, 1) := by decide +kernel
theorem dJ6_bitCount_0f7a4_24 : decode cJ6_bitCount_0f7a4 24 = .ok (.iload_n 0, 1) := by decide +kernel
theorem dJ6_bitCount_0f7a4_25 : decode cJ6_bitCount_0f7a4 25 = .ok (.iload_n 0, 1) := by decide +kernel
theorem dJ6_bitCount_0f7a4_26 : decode cJ6_bitCount_0f7a4 26 = .ok (.iconst 4, 1) := by decide +kernel
theorem dJ6_bitCount_0f7a4_27 : decode cJ6_bitCount_0f7a4 27 = .ok (.iushr, 1) := by decide +kernel
theorem dJ6_bitCount_0f7a4_28 : decode cJ6_bitCount_0f7a4 28 = .ok (.iadd, 1) := by decide +kernel
theorem dJ6_bitCount_0f7a4_29 : decode cJ6_bitCount_0f7a4 29 = .ok (.ldc_w 267, 3) := by decide +kernel
theorem dJ6_bitCount_0f7a4_32 : decode cJ6_bitCount_0f7a4 32 = .ok (.iand, 1) := by decide +kernel
theorem dJ6_bitCount_0f7a4_33 : decode cJ6_bitCount_0f7a4 33 = .ok (.istore_n 0, 1) := by decide +kernel
theorem dJ6_bitCount_0f7a4_34 : decode cJ6_bitCount_0f7a4 34 = .ok (.iload_n 0, 1) := by decide +kernel
theorem dJ6_bitCount_0f7a4_35 : decode cJ6_bitCount_0f7a4 35 = .ok (.iload_n 0, 1) := by decide +kernel
theorem dJ6_bitCount_0f7a4_36 : decode cJ6_bitCount_0f7a4 36 = .ok (.bipush 8, 2) := by decide +kernel
theorem dJ6_bitCount_0f7a4_38 : decode cJ6_bitCount_0f7a4 38 = .ok (.iushr, 1) := by decide +kernel
theorem dJ6_bitCount_0f7a4_39 : decode cJ6_bitCount_0f7a4 39 = .ok (.iadd, 1) := by decide +kernel
theorem dJ6_bitCount_0f7a4_40 : decode cJ6_bitCount_0f7a4 40 = .ok (.istore_n 0, 1) := by decide +kernel
theorem dJ6_bitCount_0f7a4_41 : decode cJ6_bitCount_0f7a4 41 = .ok (.iload_n 0, 1) := by decide +kernel
theorem dJ6_bitCount_0f7a4_42 : decode cJ6_bitCount_0f7a4 42 = .ok (.iload_n 0, 1) := by decide +kernel
theorem dJ6_bitCount_0f7a4_43 : decode cJ6_bitCount_0f7a4 43 = .ok (.bipush 16, 2) := by decide +kernel
theorem dJ6_bitCount_0f7a4_45 : decode cJ6_bitCount_0f7a4 45 = .ok (.iushr, 1) := by decide +kernel
theorem dJ6_bitCount_0f7a4_46 : decode cJ6_bitCount_0f7a4 46 = .ok (.iadd, 1) := by decide +kernel
theorem dJ6_bitCount_0f7a4_47 : decode cJ6_bitCount_0f7a4 47 = .ok (.istore_n 0, 1) := by decide +kernel
theorem dJ6_bitCount_0f7a4_48 : decode cJ6_bitCount_0f7a4 48 = .ok (.iload_n 0, 1) := by decide +kernel
theorem dJ6_bitCount_0f7a4_49 : decode cJ6_bitCount_0f7a4 49 = .ok (.bipush 63, 2) := by decide +kernel
theorem dJ6_bitCount_0f7a4_51 : decode cJ6_bitCount_0f7a4 51 = .ok (.iand, 1) := by decide +kernel
theorem dJ6_bitCount_0f7a4_52 : decode cJ6_bitCount_0f7a4 52 = .ok (.ireturn, 1) := by decide +kernel
theorem dJ9_abs_0f7a4_0 : decode cJ9_abs_0f7a4 0 = .ok (.iload_n 0, 1) := by decide +kernel
theorem dJ9_abs_0f7a4_1 : decode cJ9_abs_0f7a4 1 = .ok (.ifCond .ge 8, 3) := by decide +kernel
theorem dJ9_abs_0f7a4_4 : decode cJ9_abs_0f7a4 4 = .ok (.iload_n 0, 1) := by decide +kernel
theorem dJ9_abs_0f7a4_5 : decode cJ9_abs_0f7a4 5 = .ok (.ineg, 1) := by decide +kernel
theorem dJ9_abs_0f7a4_6 : decode cJ9_abs_0f7a4 6 = .ok (.goto 4, 3) := by decide +kernel
theorem dJ9_abs_0f7a4_9 : decode cJ9_abs_0f7a4 9 = .ok (.iload_n 0, 1) := by decide +kernel
theorem dJ9_abs_0f7a4_10 : decode cJ9_abs_0f7a4 10 = .ok (.ireturn, 1) := by decide +kernel
theorem dJ9_max_7cf53_0 : decode cJ9_max_7cf53 0 = .ok (.iload_n 0, 1) := by decide +kernel
theorem dJ9_max_7cf53_1 : decode cJ9_max_7cf53 1 = .ok (.iload_n 1, 1) := by decide +kernel
theorem dJ9_max_7cf53_2 : decode cJ9_max_7cf53 2 = .ok (.if_icmp .lt 7, 3) := by decide +kernel
theorem dJ9_max_7cf53_5 : decode cJ9_max_7cf53 5 = .ok (.iload_n 0, 1) := by decide +kernel
theorem dJ9_max_7cf53_6 : decode cJ9_max_7cf53 6 = .ok (.goto 4, 3) := by decide +kernel
theorem dJ9_max_7cf53_9 : decode cJ9_max_7cf53 9 = .ok (.iload_n 1, 1) := by decide +kernel
theorem dJ9_max_7cf53_10 : decode cJ9_max_7cf53 10 = .ok (.ireturn, 1) := by decide +kernel
theorem dJ9_min_7cf53_0 : decode cJ9_min_7cf53 0 = .ok (.iload_n 0, 1) := by decide +kernel
theorem dJ9_min_7cf53_1 : decode cJ9_min_7cf53 1 = .ok (.iload_n 1, 1) := by decide +kernel
theorem dJ9_min_7cf53_2 : decode cJ9_min_7cf53 2 = .ok (.if_icmp .gt 7, 3) := by decide +kernel
theorem dJ9_min_7cf53_5 : decode cJ9_min_7cf53 5 = .ok (.iload_n 0, 1) := by decide +kernel
theorem dJ9_min_7cf53_6 : decode cJ9_min_7cf53 6 = .ok (.goto 4, 3) := by decide +kernel
theorem dJ9_min_7cf53_9 : decode cJ9_min_7cf53 9 = .ok (.iload_n 1, 1) := by decide +kernel
theorem dJ9_min_7cf53_10 : decode cJ9_min_7cf53 10 = .ok (.ireturn, 1) := by decide +kernel
theorem dJ0_length_8abf5_0 : decode cJ0_length_8abf5 0 = .ok (.aload_n 0, 1) := by decide +kernel
theorem dJ0_length_8abf5_1 : decode cJ0_length_8abf5 1 = .ok (.getfield 9, 3) := by decide +kernel
theorem dJ0_length_8abf5_4 : decode cJ0_length_8abf5 4 = .ok (.arraylength, 1) := by decide +kernel
theorem dJ0_length_8abf5_5 : decode cJ0_length_8abf5 5 = .ok (.aload_n 0, 1) := by decide +kernel
theorem dJ0_length_8abf5_6 : decode cJ0_length_8abf5 6 = .ok (.invokevirtual 335, 3) := by decide +kernel
theorem dJ0_length_8abf5_9 : decode cJ0_length_8abf5 9 = .ok (.ishr, 1) := by decide +kernel
theorem dJ0_length_8abf5_10 : decode cJ0_length_8abf5 10 = .ok (.ireturn, 1) := by decide +kernel
theorem dJ0_charAt_5068e_0 : decode cJ0_charAt_5068e 0 = .ok (.aload_n 0, 1) := by decide +kernel
theorem dJ0_charAt_5068e_1 : decode cJ0_charAt_5068e 1 = .ok (.invokevirtual 492, 3) := by decide +kernel
theorem dJ0_charAt_5068e_4 : decode cJ0_charAt_5068e 4 = .ok (.ifCond .eq 12, 3) := by decide +kernel
theorem dJ0_charAt_5068e_7 : decode cJ0_charAt_5068e 7 = .ok (.aload_n 0, 1) := by decide +kernel
theorem dJ0_charAt_5068e_8 : decode cJ0_charAt_5068e 8 = .ok (.getfield 9, 3) := by decide +kernel
theorem dJ0_charAt_5068e_11 : decode cJ0_charAt_5068e 11 = .ok (.iload_n 1, 1) := by decide +kernel
theorem dJ0_charAt_5068e_12 : decode cJ0_charAt_5068e 12 = .ok (.invokestatic 495, 3) := by decide +kernel
theorem dJ0_charAt_5068e_15 : decode cJ0_charAt_5068e 15 = .ok (.ireturn, 1) := by decide +kernel
theorem dJ0_charAt_5068e_16 : decode cJ0_charAt_5068e 16 = .ok (.aload_n 0, 1) := by decide +kernel
theorem dJ0_charAt_5068e_17 : decode cJ0_charAt_5068e 17 = .ok (.getfield 9, 3) := by decide +kernel
theorem dJ0_charAt_5068e_20 : decode cJ0_charAt_5068e 20 = .ok (.iload_n 1, 1) := by decide +kernel
theorem dJ0_charAt_5068e_21 : decode cJ0_charAt_5068e 21 = .ok (.invokestatic 498, 3) := by decide +kernel
theorem dJ0_charAt_5068e_24 : decode cJ0_charAt_5068e 24 = .ok (.ireturn, 1) := by decide +kernel
theorem dJ0_coder_7d493_0 : decode cJ0_coder_7d493 0 = .ok (.getstatic 38, 3) := by decide +kernel
theorem dJ0_coder_7d493_3 : decode cJ0_coder_7d493 3 = .ok (.ifCond .eq 10, 3) := by decide +kernel
theorem dJ0_coder_7d493_6 : decode cJ0_coder_7d493 6 = .ok (.aload_n 0, 1) := by decide +kernel
theorem dJ0_coder_7d493_7 : decode cJ0_coder_7d493 7 = .ok (.getfield 15, 3) := by decide +kernel
theorem dJ0_coder_7d493_10 : decode cJ0_coder_7d493 10 = .ok (.goto 4, 3) := by decide +kernel
theorem dJ0_coder_7d493_13 : decode cJ0_coder_7d493 13 = .ok (.iconst 1, 1) := by decide +kernel
theorem dJ0_coder_7d493_14 : decode cJ0_coder_7d493 14 = .ok (.ireturn, 1) := by decide +kernel
theorem dJ0_isLatin1_aae02_0 : decode cJ0_isLatin1_aae02 0 = .ok (.getstatic 38, 3) := by decide +kernel
theorem dJ0_isLatin1_aae02_3 : decode cJ0_isLatin1_aae02 3 = .ok (.ifCond .eq 14, 3) := by decide +kernel
theorem dJ0_isLatin1_aae02_6 : decode cJ0_isLatin1_aae02 6 = .ok (.aload_n 0, 1) := by decide +kernel
theorem dJ0_isLatin1_aae02_7 : decode cJ0_isLatin1_aae02 7 = .ok (.getfield 15, 3) := by decide +kernel
theorem dJ0_isLatin1_aae02_10 : decode cJ0_isLatin1_aae02 10 = .ok (.ifCond .ne 7, 3) := by decide +kernel
theorem dJ0_isLatin1_aae02_13 : decode cJ0_isLatin1_aae02 13 = .ok (.iconst 1, 1) := by decide +kernel
theorem dJ0_isLatin1_aae02_14 : decode cJ0_isLatin1_aae02 14 = .ok (.goto 4, 3) := by decide +kernel
theorem dJ0_isLatin1_aae02_17 : decode cJ0_isLatin1_aae02 17 = .ok (.iconst 0, 1) := by decide +kernel
theorem dJ0_isLatin1_aae02_18 : decode cJ0_isLatin1_aae02 18 = .ok (.ireturn, 1) := by decide +kernel
theorem dJ0_checkIndex_df160_0 : decode cJ0_checkIndex_df160 0 = .ok (.iload_n 0, 1) := by decide +kernel
theorem dJ0_checkIndex_df160_1 : decode cJ0_checkIndex_df160 1 = .ok (.iload_n 1, 1) := by decide +kernel
theorem dJ0_checkIndex_df160_2 : decode cJ0_checkIndex_df160 2 = .ok (.getstatic 1053, 3) := by decide +kernel
theorem dJ0_checkIndex_df160_5 : decode cJ0_checkIndex_df160 5 = .ok (.invokestatic 1059, 3) := by decide +kernel
theorem dJ0_checkIndex_df160_8 : decode cJ0_checkIndex_df160 8 = .ok (.pop, 1) := by decide +kernel
theorem dJ0_checkIndex_df160_9 : decode cJ0_checkIndex_df160 9 = .ok (.return_, 1) := by decide +kernel
theorem dJ1_charAt_3b067_0 : decode cJ1_charAt_3b067 0 = .ok (.iload_n 1, 1) := by decide +kernel
theorem dJ1_charAt_3b067_1 : decode cJ1_charAt_3b067 1 = .ok (.aload_n 0, 1) := by decide +kernel
theorem dJ1_charAt_3b067_2 : decode cJ1_charAt_3b067 2 = .ok (.arraylength, 1) := by decide +kernel
theorem dJ1_charAt_3b067_3 : decode cJ1_charAt_3b067 3 = .ok (.invokestatic 9, 3) := by decide +kernel
theorem dJ1_charAt_3b067_6 : decode cJ1_charAt_3b067 6 = .ok (.aload_n 0, 1) := by decide +kernel
theorem dJ1_charAt_3b067_7 : decode cJ1_charAt_3b067 7 = .ok (.iload_n 1, 1) := by decide +kernel
theorem dJ1_charAt_3b067_8 : decode cJ1_charAt_3b067 8 = .ok (.baload, 1) := by decide +kernel
theorem dJ1_charAt_3b067_9 : decode cJ1_charAt_3b067 9 = .ok (.sipush 255, 3) := by decide +kernel
theorem dJ1_charAt_3b067_12 : decode cJ1_charAt_3b067 12 = .ok (.iand, 1) := by decide +kernel
theorem dJ1_charAt_3b067_13 : decode cJ1_charAt_3b067 13 = .ok (.i2c, 1) := by decide +kernel
theorem dJ1_charAt_3b067_14 : decode cJ1_charAt_3b067 14 = .ok (.ireturn, 1) := by decide +kernel
theorem dJ2_getChar_3b067_0 : decode cJ2_getChar_3b067 0 = .ok (.getstatic 44, 3) := by decide +kernel
theorem dJ2_getChar_3b067_3 : decode cJ2_getChar_3b067 3 = .ok (.ifCond .ne 25, 3) := by decide +kernel
theorem dJ2_getChar_3b067_6 : decode cJ2_getChar_3b067 6 = .ok (.iload_n 1, 1) := by decide +kernel
theorem dJ2_getChar_3b067_7 : decode cJ2_getChar_3b067 7 = .ok (.ifCond .lt 11, 3) := by decide +kernel
theorem dJ2_getChar_3b067_10 : decode cJ2_getChar_3b067 10 = .ok (.iload_n 1, 1) := by decide +kernel
theorem dJ2_getChar_3b067_11 : decode cJ2_getChar_3b067 11 = .ok (.aload_n 0, 1) := by decide +kernel
theorem dJ2_getChar_3b067_12 : decode cJ2_getChar_3b067 12 = .ok (.invokestatic 48, 3) := by decide +kernel
theorem dJ2_getChar_3b067_15 : decode cJ2_getChar_3b067 15 = .ok (.if_icmp .lt 13, 3) := by decide +kernel
theorem dJ2_getChar_3b067_18 : decode cJ2_getChar_3b067 18 = .ok (.new 52, 3) := by decide +kernel
theorem dJ2_getChar_3b067_21 : decode cJ2_getChar_3b067 21 = .ok (.dup, 1) := by decide +kernel
theorem dJ2_getChar_3b067_22 : decode cJ2_getChar_3b067 22 = .ok (.ldc 54, 2) := by decide +kernel
theorem dJ2_getChar_3b067_24 : decode cJ2_getChar_3b067 24 = .ok (.invokespecial 56, 3) := by decide +kernel
theorem dJ2_getChar_3b067_27 : decode cJ2_getChar_3b067 27 = .ok (.athrow, 1) := by decide +kernel
theorem dJ2_getChar_3b067_28 : decode cJ2_getChar_3b067 28 = .ok (.iload_n 1, 1) := by decide +kernel
theorem dJ2_getChar_3b067_29 : decode cJ2_getChar_3b067 29 = .ok (.iconst 1, 1) := by decide +kernel
theorem dJ2_getChar_3b067_30 : decode cJ2_getChar_3b067 30 = .ok (.ishl, 1) := by decide +kernel
theorem dJ2_getChar_3b067_31 : decode cJ2_getChar_3b067 31 = .ok (.istore_n 1, 1) := by decide +kernel
theorem dJ2_getChar_3b067_32 : decode cJ2_getChar_3b067 32 = .ok (.aload_n 0, 1) := by decide +kernel
theorem dJ2_getChar_3b067_33 : decode cJ2_getChar_3b067 33 = .ok (.iload_n 1, 1) := by decide +kernel
theorem dJ2_getChar_3b067_34 : decode cJ2_getChar_3b067 34 = .ok (.iinc 1 1, 3) := by decide +kernel
theorem dJ2_getChar_3b067_37 : decode cJ2_getChar_3b067 37 = .ok (.baload, 1) := by decide +kernel
theorem dJ2_getChar_3b067_38 : decode cJ2_getChar_3b067 38 = .ok (.sipush 255, 3) := by decide +kernel
theorem dJ2_getChar_3b067_41 : decode cJ2_getChar_3b067 41 = .ok (.iand, 1) := by decide +kernel
theorem dJ2_getChar_3b067_42 : decode cJ2_getChar_3b067 42 = .ok (.getstatic 59, 3) := by decide +kernel
theorem dJ2_getChar_3b067_45 : decode cJ2_getChar_3b067 45 = .ok (.ishl, 1) := by decide +kernel
theorem dJ2_getChar_3b067_46 : decode cJ2_getChar_3b067 46 = .ok (.aload_n 0, 1) := by decide +kernel
theorem dJ2_getChar_3b067_47 : decode cJ2_getChar_3b067 47 = .ok (.iload_n 1, 1) := by decide +kernel
theorem dJ2_getChar_3b067_48 : decode cJ2_getChar_3b067 48 = .ok (.baload, 1) := by decide +kernel
theorem dJ2_getChar_3b067_49 : decode cJ2_getChar_3b067 49 = .ok (.sipush 255, 3) := by decide +kernel
theorem dJ2_getChar_3b067_52 : decode cJ2_getChar_3b067 52 = .ok (.iand, 1) := by decide +kernel
theorem dJ2_getChar_3b067_53 : decode cJ2_getChar_3b067 53 = .ok (.getstatic 63, 3) := by decide +kernel
theorem dJ2_getChar_3b067_56 : decode cJ2_getChar_3b067 56 = .ok (.ishl, 1) := by decide +kernel
theorem dJ2_getChar_3b067_57 : decode cJ2_getChar_3b067 57 = .ok (.ior, 1) := by decide +kernel
theorem dJ2_getChar_3b067_58 : decode cJ2_getChar_3b067 58 = .ok (.i2c, 1) := by decide +kernel
theorem dJ2_getChar_3b067_59 : decode cJ2_getChar_3b067 59 = .ok (.ireturn, 1) := by decide +kernel
theorem dJ2_length_9d52b_0 : decode cJ2_length_9d52b 0 = .ok (.aload_n 0, 1) := by decide +kernel
theorem dJ2_length_9d52b_1 : decode cJ2_length_9d52b 1 = .ok (.arraylength, 1) := by decide +kernel
theorem dJ2_length_9d52b_2 : decode cJ2_length_9d52b 2 = .ok (.iconst 1, 1) := by decide +kernel
theorem dJ2_length_9d52b_3 : decode cJ2_length_9d52b 3 = .ok (.ishr, 1) := by decide +kernel
theorem dJ2_length_9d52b_4 : decode cJ2_length_9d52b 4 = .ok (.ireturn, 1) := by decide +kernel
theorem dJ2_charAt_3b067_0 : decode cJ2_charAt_3b067 0 = .ok (.iload_n 1, 1) := by decide +kernel
theorem dJ2_charAt_3b067_1 : decode cJ2_charAt_3b067 1 = .ok (.aload_n 0, 1) := by decide +kernel
theorem dJ2_charAt_3b067_2 : decode cJ2_charAt_3b067 2 = .ok (.invokestatic 67, 3) := by decide +kernel
theorem dJ2_charAt_3b067_5 : decode cJ2_charAt_3b067 5 = .ok (.aload_n 0, 1) := by decide +kernel
theorem dJ2_charAt_3b067_6 : decode cJ2_charAt_3b067 6 = .ok (.iload_n 1, 1) := by decide +kernel
theorem dJ2_charAt_3b067_7 : decode cJ2_charAt_3b067 7 = .ok (.invokestatic 71, 3) := by decide +kernel
theorem dJ2_charAt_3b067_10 : decode cJ2_charAt_3b067 10 = .ok (.ireturn, 1) := by decide +kernel
theorem dJ2_checkIndex_2214a_0 : decode cJ2_checkIndex_2214a 0 = .ok (.iload_n 0, 1) := by decide +kernel
theorem dJ2_checkIndex_2214a_1 : decode cJ2_checkIndex_2214a 1 = .ok (.aload_n 1, 1) := by decide +kernel
theorem dJ2_checkIndex_2214a_2 : decode cJ2_checkIndex_2214a 2 = .ok (.invokestatic 48, 3) := by decide +kernel
theorem dJ2_checkIndex_2214a_5 : decode cJ2_checkIndex_2214a 5 = .ok (.invokestatic 414, 3) := by decide +kernel
theorem dJ2_checkIndex_2214a_8 : decode cJ2_checkIndex_2214a 8 = .ok (.return_, 1) := by decide +kernel
theorem dJ7_fill_53178_0 : decode cJ7_fill_53178 0 = .ok (.iconst 0, 1) := by decide +kernel
theorem dJ7_fill_53178_1 : decode cJ7_fill_53178 1 = .ok (.istore_n 2, 1) := by decide +kernel
theorem dJ7_fill_53178_2 : decode cJ7_fill_53178 2 = .ok (.aload_n 0, 1) := by decide +kernel
theorem dJ7_fill_53178_3 : decode cJ7_fill_53178 3 = .ok (.arraylength, 1) := by decide +kernel
theorem dJ7_fill_53178_4 : decode cJ7_fill_53178 4 = .ok (.istore_n 3, 1) := by decide +kernel
theorem dJ7_fill_53178_5 : decode cJ7_fill_53178 5 = .ok (.iload_n 2, 1) := by decide +kernel
theorem dJ7_fill_53178_6 : decode cJ7_fill_53178 6 = .ok (.iload_n 3, 1) := by decide +kernel
theorem dJ7_fill_53178_7 : decode cJ7_fill_53178 7 = .ok (.if_icmp .ge 13, 3) := by decide +kernel
theorem dJ7_fill_53178_10 : decode cJ7_fill_53178 10 = .ok (.aload_n 0, 1) := by decide +kernel
theorem dJ7_fill_53178_11 : decode cJ7_fill_53178 11 = .ok (.iload_n 2, 1) := by decide +kernel
theorem dJ7_fill_53178_12 : decode cJ7_fill_53178 12 = .ok (.iload_n 1, 1) := by decide +kernel
theorem dJ7_fill_53178_13 : decode cJ7_fill_53178 13 = .ok (.iastore, 1) := by decide +kernel
theorem dJ7_fill_53178_14 : decode cJ7_fill_53178 14 = .ok (.iinc 2 1, 3) := by decide +kernel
theorem dJ7_fill_53178_17 : decode cJ7_fill_53178 17 = .ok (.goto (-12), 3) := by decide +kernel
theorem dJ7_fill_53178_20 : decode cJ7_fill_53178 20 = .ok (.return_, 1) := by decide +kernel
theorem dJ7_copyOf_59c91_0 : decode cJ7_copyOf_59c91 0 = .ok (.iload_n 1, 1) := by decide +kernel
theorem dJ7_copyOf_59c91_1 : decode cJ7_copyOf_59c91 1 = .ok (.aload_n 0, 1) := by decide +kernel
theorem dJ7_copyOf_59c91_2 : decode cJ7_copyOf_59c91 2 = .ok (.arraylength, 1) := by decide +kernel
theorem dJ7_copyOf_59c91_3 : decode cJ7_copyOf_59c91 3 = .ok (.if_icmp .ne 11, 3) := by decide +kernel
theorem dJ7_copyOf_59c91_6 : decode cJ7_copyOf_59c91 6 = .ok (.aload_n 0, 1) := by decide +kernel
theorem dJ7_copyOf_59c91_7 : decode cJ7_copyOf_59c91 7 = .ok (.invokevirtual 316, 3) := by decide +kernel
theorem dJ7_copyOf_59c91_10 : decode cJ7_copyOf_59c91 10 = .ok (.checkcast 317, 3) := by decide +kernel
theorem dJ7_copyOf_59c91_13 : decode cJ7_copyOf_59c91 13 = .ok (.areturn, 1) := by decide +kernel
theorem dJ7_copyOf_59c91_14 : decode cJ7_copyOf_59c91 14 = .ok (.iload_n 1, 1) := by decide +kernel
theorem dJ7_copyOf_59c91_15 : decode cJ7_copyOf_59c91 15 = .ok (.newarray .int, 2) := by decide +kernel
theorem dJ7_copyOf_59c91_17 : decode cJ7_copyOf_59c91 17 = .ok (.astore_n 2, 1) := by decide +kernel
theorem dJ7_copyOf_59c91_18 : decode cJ7_copyOf_59c91 18 = .ok (.aload_n 0, 1) := by decide +kernel
theorem dJ7_copyOf_59c91_19 : decode cJ7_copyOf_59c91 19 = .ok (.iconst 0, 1) := by decide +kernel
theorem dJ7_copyOf_59c91_20 : decode cJ7_copyOf_59c91 20 = .ok (.aload_n 2, 1) := by decide +kernel
theorem dJ7_copyOf_59c91_21 : decode cJ7_copyOf_59c91 21 = .ok (.iconst 0, 1) := by decide +kernel
theorem dJ7_copyOf_59c91_22 : decode cJ7_copyOf_59c91 22 = .ok (.aload_n 0, 1) := by decide +kernel
theorem dJ7_copyOf_59c91_23 : decode cJ7_copyOf_59c91 23 = .ok (.arraylength, 1) := by decide +kernel
theorem dJ7_copyOf_59c91_24 : decode cJ7_copyOf_59c91 24 = .ok (.iload_n 1, 1) := by decide +kernel
theorem dJ7_copyOf_59c91_25 : decode cJ7_copyOf_59c91 25 = .ok (.invokestatic 304, 3) := by decide +kernel
theorem dJ7_copyOf_59c91_28 : decode cJ7_copyOf_59c91 28 = .ok (.invokestatic 150, 3) := by decide +kernel
theorem dJ7_copyOf_59c91_31 : decode cJ7_copyOf_59c91 31 = .ok (.aload_n 2, 1) := by decide +kernel
theorem dJ7_copyOf_59c91_32 : decode cJ7_copyOf_59c91 32 = .ok (.areturn, 1) := by decide +kernel
theorem dJ3_checkIndex_8e157_0 : decode cJ3_checkIndex_8e157 0 = .ok (.iload_n 0, 1) := by decide +kernel
theorem dJ3_checkIndex_8e157_1 : decode cJ3_checkIndex_8e157 1 = .ok (.ifCond .lt 8, 3) := by decide +kernel
theorem dJ3_checkIndex_8e157_4 : decode cJ3_checkIndex_8e157 4 = .ok (.iload_n 0, 1) := by decide +kernel
theorem dJ3_checkIndex_8e157_5 : decode cJ3_checkIndex_8e157 5 = .ok (.iload_n 1, 1) := by decide +kernel
theorem dJ3_checkIndex_8e157_6 : decode cJ3_checkIndex_8e157 6 = .ok (.if_icmp .lt 10, 3) := by decide +kernel
theorem dJ3_checkIndex_8e157_9 : decode cJ3_checkIndex_8e157 9 = .ok (.aload_n 2, 1) := by decide +kernel
theorem dJ3_checkIndex_8e157_10 : decode cJ3_checkIndex_8e157 10 = .ok (.iload_n 0, 1) := by decide +kernel
theorem dJ3_checkIndex_8e157_11 : decode cJ3_checkIndex_8e157 11 = .ok (.iload_n 1, 1) := by decide +kernel
theorem dJ3_checkIndex_8e157_12 : decode cJ3_checkIndex_8e157 12 = .ok (.invokestatic 95, 3) := by decide +kernel
theorem dJ3_checkIndex_8e157_15 : decode cJ3_checkIndex_8e157 15 = .ok (.athrow, 1) := by decide +kernel
theorem dJ3_checkIndex_8e157_16 : decode cJ3_checkIndex_8e157 16 = .ok (.iload_n 0, 1) := by decide +kernel
theorem dJ3_checkIndex_8e157_17 : decode cJ3_checkIndex_8e157 17 = .ok (.ireturn, 1) := by decide +kernel
theorem dL_law_0 : decode cL_law 0 = .ok (.new 7, 3) := by decide +kernel
theorem dL_law_3 : decode cL_law 3 = .ok (.dup, 1) := by decide +kernel
theorem dL_law_4 : decode cL_law 4 = .ok (.invokespecial 9, 3) := by decide +kernel
theorem dL_law_7 : decode cL_law 7 = .ok (.astore_n 1, 1) := by decide +kernel
theorem dL_law_8 : decode cL_law 8 = .ok (.new 10, 3) := by decide +kernel
theorem dL_law_11 : decode cL_law 11 = .ok (.dup, 1) := by decide +kernel
theorem dL_law_12 : decode cL_law 12 = .ok (.invokespecial 12, 3) := by decide +kernel
theorem dL_law_15 : decode cL_law 15 = .ok (.astore_n 2, 1) := by decide +kernel
theorem dL_law_16 : decode cL_law 16 = .ok (.iconst 0, 1) := by decide +kernel
theorem dL_law_17 : decode cL_law 17 = .ok (.istore_n 3, 1) := by decide +kernel
theorem dL_law_18 : decode cL_law 18 = .ok (.iload_n 3, 1) := by decide +kernel
theorem dL_law_19 : decode cL_law 19 = .ok (.aload_n 0, 1) := by decide +kernel
theorem dL_law_20 : decode cL_law 20 = .ok (.arraylength, 1) := by decide +kernel
theorem dL_law_21 : decode cL_law 21 = .ok (.iconst 5, 1) := by decide +kernel
theorem dL_law_22 : decode cL_law 22 = .ok (.isub, 1) := by decide +kernel
theorem dL_law_23 : decode cL_law 23 = .ok (.if_icmp .gt 985, 3) := by decide +kernel
theorem dL_law_26 : decode cL_law 26 = .ok (.aload_n 0, 1) := by decide +kernel
theorem dL_law_27 : decode cL_law 27 = .ok (.iload_n 3, 1) := by decide +kernel
theorem dL_law_28 : decode cL_law 28 = .ok (.iaload, 1) := by decide +kernel
theorem dL_law_29 : decode cL_law 29 = .ok (.bipush 31, 2) := by decide +kernel
theorem dL_law_31 : decode cL_law 31 = .ok (.iand, 1) := by decide +kernel
theorem dL_law_32 : decode cL_law 32 = .ok (.tableswitch 970 0 31 #[144, 207, 220, 233, 266, 309, 352, 405, 438, 461, 474, 497, 520, 543, 566, 589, 602, 615, 638, 661, 694, 717, 730, 743, 766, 789, 822, 855, 878, 901, 924, 947], 144) := by decide +kernel
theorem dL_law_176 : decode cL_law 176 = .ok (.aload_n 1, 1) := by decide +kernel
theorem dL_law_177 : decode cL_law 177 = .ok (.aload_n 0, 1) := by decide +kernel
theorem dL_law_178 : decode cL_law 178 = .ok (.iload_n 3, 1) := by decide +kernel
theorem dL_law_179 : decode cL_law 179 = .ok (.iconst 1, 1) := by decide +kernel
theorem dL_law_180 : decode cL_law 180 = .ok (.iadd, 1) := by decide +kernel
theorem dL_law_181 : decode cL_law 181 = .ok (.iaload, 1) := by decide +kernel
theorem dL_law_182 : decode cL_law 182 = .ok (.aload_n 0, 1) := by decide +kernel
theorem dL_law_183 : decode cL_law 183 = .ok (.iload_n 3, 1) := by decide +kernel
theorem dL_law_184 : decode cL_law 184 = .ok (.iconst 2, 1) := by decide +kernel
theorem dL_law_185 : decode cL_law 185 = .ok (.iadd, 1) := by decide +kernel
theorem dL_law_186 : decode cL_law 186 = .ok (.iaload, 1) := by decide +kernel
theorem dL_law_187 : decode cL_law 187 = .ok (.i2l, 1) := by decide +kernel
theorem dL_law_188 : decode cL_law 188 = .ok (.bipush 32, 2) := by decide +kernel
theorem dL_law_190 : decode cL_law 190 = .ok (.lshl, 1) := by decide +kernel
theorem dL_law_191 : decode cL_law 191 = .ok (.aload_n 0, 1) := by decide +kernel
theorem dL_law_192 : decode cL_law 192 = .ok (.iload_n 3, 1) := by decide +kernel
theorem dL_law_193 : decode cL_law 193 = .ok (.iconst 3, 1) := by decide +kernel
theorem dL_law_194 : decode cL_law 194 = .ok (.iadd, 1) := by decide +kernel
theorem dL_law_195 : decode cL_law 195 = .ok (.iaload, 1) := by decide +kernel
theorem dL_law_196 : decode cL_law 196 = .ok (.i2l, 1) := by decide +kernel
theorem dL_law_197 : decode cL_law 197 = .ok (.ldc2_w 13, 3) := by decide +kernel
theorem dL_law_200 : decode cL_law 200 = .ok (.land, 1) := by decide +kernel
theorem dL_law_201 : decode cL_law 201 = .ok (.lor, 1) := by decide +kernel
theorem dL_law_202 : decode cL_law 202 = .ok (.invokevirtual 15, 3) := by decide +kernel
theorem dL_law_205 : decode cL_law 205 = .ok (.aload_n 2, 1) := by decide +kernel
theorem dL_law_206 : decode cL_law 206 = .ok (.aload_n 0, 1) := by decide +kernel
theorem dL_law_207 : decode cL_law 207 = .ok (.iload_n 3, 1) := by decide +kernel
theorem dL_law_208 : decode cL_law 208 = .ok (.iconst 1, 1) := by decide +kernel
theorem dL_law_209 : decode cL_law 209 = .ok (.iadd, 1) := by decide +kernel
theorem dL_law_210 : decode cL_law 210 = .ok (.iaload, 1) := by decide +kernel
theorem dL_law_211 : decode cL_law 211 = .ok (.aload_n 0, 1) := by decide +kernel
theorem dL_law_212 : decode cL_law 212 = .ok (.iload_n 3, 1) := by decide +kernel
theorem dL_law_213 : decode cL_law 213 = .ok (.iconst 2, 1) := by decide +kernel
theorem dL_law_214 : decode cL_law 214 = .ok (.iadd, 1) := by decide +kernel
theorem dL_law_215 : decode cL_law 215 = .ok (.iaload, 1) := by decide +kernel
theorem dL_law_216 : decode cL_law 216 = .ok (.i2l, 1) := by decide +kernel
theorem dL_law_217 : decode cL_law 217 = .ok (.bipush 32, 2) := by decide +kernel
theorem dL_law_219 : decode cL_law 219 = .ok (.lshl, 1) := by decide +kernel
theorem dL_law_220 : decode cL_law 220 = .ok (.aload_n 0, 1) := by decide +kernel
theorem dL_law_221 : decode cL_law 221 = .ok (.iload_n 3, 1) := by decide +kernel
theorem dL_law_222 : decode cL_law 222 = .ok (.iconst 3, 1) := by decide +kernel
theorem dL_law_223 : decode cL_law 223 = .ok (.iadd, 1) := by decide +kernel
theorem dL_law_224 : decode cL_law 224 = .ok (.iaload, 1) := by decide +kernel
theorem dL_law_225 : decode cL_law 225 = .ok (.i2l, 1) := by decide +kernel
theorem dL_law_226 : decode cL_law 226 = .ok (.ldc2_w 13, 3) := by decide +kernel
theorem dL_law_229 : decode cL_law 229 = .ok (.land, 1) := by decide +kernel
theorem dL_law_230 : decode cL_law 230 = .ok (.lor, 1) := by decide +kernel
theorem dL_law_231 : decode cL_law 231 = .ok (.invokevirtual 19, 3) := by decide +kernel
theorem dL_law_234 : decode cL_law 234 = .ok (.if_icmp .eq 768, 3) := by decide +kernel
theorem dL_law_237 : decode cL_law 237 = .ok (.iconst 0, 1) := by decide +kernel
theorem dL_law_238 : decode cL_law 238 = .ok (.ireturn, 1) := by decide +kernel
theorem dL_law_239 : decode cL_law 239 = .ok (.aload_n 1, 1) := by decide +kernel
theorem dL_law_240 : decode cL_law 240 = .ok (.invokevirtual 20, 3) := by decide +kernel
theorem dL_law_243 : decode cL_law 243 = .ok (.aload_n 2, 1) := by decide +kernel
theorem dL_law_244 : decode cL_law 244 = .ok (.invokevirtual 24, 3) := by decide +kernel
theorem dL_law_247 : decode cL_law 247 = .ok (.if_icmp .eq 755, 3) := by decide +kernel
theorem dL_law_250 : decode cL_law 250 = .ok (.iconst 0, 1) := by decide +kernel
theorem dL_law_251 : decode cL_law 251 = .ok (.ireturn, 1) := by decide +kernel
theorem dL_law_252 : decode cL_law 252 = .ok (.aload_n 1, 1) := by decide +kernel
theorem dL_law_253 : decode cL_law 253 = .ok (.invokevirtual 25, 3) := by decide +kernel
theorem dL_law_256 : decode cL_law 256 = .ok (.aload_n 2, 1) := by decide +kernel
theorem dL_law_257 : decode cL_law 257 = .ok (.invokevirtual 28, 3) := by decide +kernel
theorem dL_law_260 : decode cL_law 260 = .ok (.if_icmp .eq 742, 3) := by decide +kernel
theorem dL_law_263 : decode cL_law 263 = .ok (.iconst 0, 1) := by decide +kernel
theorem dL_law_264 : decode cL_law 264 = .ok (.ireturn, 1) := by decide +kernel
theorem dL_law_265 : decode cL_law 265 = .ok (.aload_n 1, 1) := by decide +kernel
theorem dL_law_266 : decode cL_law 266 = .ok (.aload_n 0, 1) := by decide +kernel
theorem dL_law_267 : decode cL_law 267 = .ok (.iload_n 3, 1) := by decide +kernel
theorem dL_law_268 : decode cL_law 268 = .ok (.iconst 1, 1) := by decide +kernel
theorem dL_law_269 : decode cL_law 269 = .ok (.iadd, 1) := by decide +kernel
theorem dL_law_270 : decode cL_law 270 = .ok (.iaload, 1) := by decide +kernel
theorem dL_law_271 : decode cL_law 271 = .ok (.aload_n 0, 1) := by decide +kernel
theorem dL_law_272 : decode cL_law 272 = .ok (.iload_n 3, 1) := by decide +kernel
theorem dL_law_273 : decode cL_law 273 = .ok (.iconst 2, 1) := by decide +kernel
theorem dL_law_274 : decode cL_law 274 = .ok (.iadd, 1) := by decide +kernel
theorem dL_law_275 : decode cL_law 275 = .ok (.iaload, 1) := by decide +kernel
theorem dL_law_276 : decode cL_law 276 = .ok (.invokevirtual 29, 3) := by decide +kernel
theorem dL_law_279 : decode cL_law 279 = .ok (.aload_n 2, 1) := by decide +kernel
theorem dL_law_280 : decode cL_law 280 = .ok (.aload_n 0, 1) := by decide +kernel
theorem dL_law_281 : decode cL_law 281 = .ok (.iload_n 3, 1) := by decide +kernel
theorem dL_law_282 : decode cL_law 282 = .ok (.iconst 1, 1) := by decide +kernel
theorem dL_law_283 : decode cL_law 283 = .ok (.iadd, 1) := by decide +kernel
theorem dL_law_284 : decode cL_law 284 = .ok (.iaload, 1) := by decide +kernel
theorem dL_law_285 : decode cL_law 285 = .ok (.aload_n 0, 1) := by decide +kernel
theorem dL_law_286 : decode cL_law 286 = .ok (.iload_n 3, 1) := by decide +kernel
theorem dL_law_287 : decode cL_law 287 = .ok (.iconst 2, 1) := by decide +kernel
theorem dL_law_288 : decode cL_law 288 = .ok (.iadd, 1) := by decide +kernel
theorem dL_law_289 : decode cL_law 289 = .ok (.iaload, 1) := by decide +kernel
theorem dL_law_290 : decode cL_law 290 = .ok (.invokevirtual 33, 3) := by decide +kernel
theorem dL_law_293 : decode cL_law 293 = .ok (.if_icmp .eq 709, 3) := by decide +kernel
theorem dL_law_296 : decode cL_law 296 = .ok (.iconst 0, 1) := by decide +kernel
theorem dL_law_297 : decode cL_law 297 = .ok (.ireturn, 1) := by decide +kernel
theorem dL_law_298 : decode cL_law 298 = .ok (.aload_n 1, 1) := by decide +kernel
theorem dL_law_299 : decode cL_law 299 = .ok (.aload_n 0, 1) := by decide +kernel
theorem dL_law_300 : decode cL_law 300 = .ok (.iload_n 3, 1) := by decide +kernel
theorem dL_law_301 : decode cL_law 301 = .ok (.iconst 1, 1) := by decide +kernel
theorem dL_law_302 : decode cL_law 302 = .ok (.iadd, 1) := by decide +kernel
theorem dL_law_303 : decode cL_law 303 = .ok (.iaload, 1) := by decide +kernel
theorem dL_law_304 : decode cL_law 304 = .ok (.aload_n 0, 1) := by decide +kernel
theorem dL_law_305 : decode cL_law 305 = .ok (.iload_n 3, 1) := by decide +kernel
theorem dL_law_306 : decode cL_law 306 = .ok (.iconst 2, 1) := by decide +kernel
theorem dL_law_307 : decode cL_law 307 = .ok (.iadd, 1) := by decide +kernel
theorem dL_law_308 : decode cL_law 308 = .ok (.iaload, 1) := by decide +kernel
theorem dL_law_309 : decode cL_law 309 = .ok (.aload_n 0, 1) := by decide +kernel
theorem dL_law_310 : decode cL_law 310 = .ok (.iload_n 3, 1) := by decide +kernel
theorem dL_law_311 : decode cL_law 311 = .ok (.iconst 3, 1) := by decide +kernel
theorem dL_law_312 : decode cL_law 312 = .ok (.iadd, 1) := by decide +kernel
theorem dL_law_313 : decode cL_law 313 = .ok (.iaload, 1) := by decide +kernel
theorem dL_law_314 : decode cL_law 314 = .ok (.invokevirtual 34, 3) := by decide +kernel
theorem dL_law_317 : decode cL_law 317 = .ok (.aload_n 2, 1) := by decide +kernel
theorem dL_law_318 : decode cL_law 318 = .ok (.aload_n 0, 1) := by decide +kernel
theorem dL_law_319 : decode cL_law 319 = .ok (.iload_n 3, 1) := by decide +kernel
theorem dL_law_320 : decode cL_law 320 = .ok (.iconst 1, 1) := by decide +kernel
theorem dL_law_321 : decode cL_law 321 = .ok (.iadd, 1) := by decide +kernel
theorem dL_law_322 : decode cL_law 322 = .ok (.iaload, 1) := by decide +kernel
theorem dL_law_323 : decode cL_law 323 = .ok (.aload_n 0, 1) := by decide +kernel
theorem dL_law_324 : decode cL_law 324 = .ok (.iload_n 3, 1) := by decide +kernel
theorem dL_law_325 : decode cL_law 325 = .ok (.iconst 2, 1) := by decide +kernel
theorem dL_law_326 : decode cL_law 326 = .ok (.iadd, 1) := by decide +kernel
theorem dL_law_327 : decode cL_law 327 = .ok (.iaload, 1) := by decide +kernel
theorem dL_law_328 : decode cL_law 328 = .ok (.aload_n 0, 1) := by decide +kernel
theorem dL_law_329 : decode cL_law 329 = .ok (.iload_n 3, 1) := by decide +kernel
theorem dL_law_330 : decode cL_law 330 = .ok (.iconst 3, 1) := by decide +kernel
theorem dL_law_331 : decode cL_law 331 = .ok (.iadd, 1) := by decide +kernel
theorem dL_law_332 : decode cL_law 332 = .ok (.iaload, 1) := by decide +kernel
theorem dL_law_333 : decode cL_law 333 = .ok (.invokevirtual 38, 3) := by decide +kernel
theorem dL_law_336 : decode cL_law 336 = .ok (.if_icmp .eq 666, 3) := by decide +kernel
theorem dL_law_339 : decode cL_law 339 = .ok (.iconst 0, 1) := by decide +kernel
theorem dL_law_340 : decode cL_law 340 = .ok (.ireturn, 1) := by decide +kernel
theorem dL_law_341 : decode cL_law 341 = .ok (.aload_n 1, 1) := by decide +kernel
theorem dL_law_342 : decode cL_law 342 = .ok (.aload_n 0, 1) := by decide +kernel
theorem dL_law_343 : decode cL_law 343 = .ok (.iload_n 3, 1) := by decide +kernel
theorem dL_law_344 : decode cL_law 344 = .ok (.iconst 1, 1) := by decide +kernel
theorem dL_law_345 : decode cL_law 345 = .ok (.iadd, 1) := by decide +kernel
theorem dL_law_346 : decode cL_law 346 = .ok (.iaload, 1) := by decide +kernel
theorem dL_law_347 : decode cL_law 347 = .ok (.aload_n 0, 1) := by decide +kernel
theorem dL_law_348 : decode cL_law 348 = .ok (.iload_n 3, 1) := by decide +kernel
theorem dL_law_349 : decode cL_law 349 = .ok (.iconst 2, 1) := by decide +kernel
theorem dL_law_350 : decode cL_law 350 = .ok (.iadd, 1) := by decide +kernel
theorem dL_law_351 : decode cL_law 351 = .ok (.iaload, 1) := by decide +kernel
theorem dL_law_352 : decode cL_law 352 = .ok (.aload_n 0, 1) := by decide +kernel
theorem dL_law_353 : decode cL_law 353 = .ok (.iload_n 3, 1) := by decide +kernel
theorem dL_law_354 : decode cL_law 354 = .ok (.iconst 3, 1) := by decide +kernel
theorem dL_law_355 : decode cL_law 355 = .ok (.iadd, 1) := by decide +kernel
theorem dL_law_356 : decode cL_law 356 = .ok (.iaload, 1) := by decide +kernel
theorem dL_law_357 : decode cL_law 357 = .ok (.invokevirtual 39, 3) := by decide +kernel
theorem dL_law_360 : decode cL_law 360 = .ok (.aload_n 2, 1) := by decide +kernel
theorem dL_law_361 : decode cL_law 361 = .ok (.aload_n 0, 1) := by decide +kernel
theorem dL_law_362 : decode cL_law 362 = .ok (.iload_n 3, 1) := by decide +kernel
theorem dL_law_363 : decode cL_law 363 = .ok (.iconst 1, 1) := by decide +kernel
theorem dL_law_364 : decode cL_law 364 = .ok (.iadd, 1) := by decide +kernel
theorem dL_law_365 : decode cL_law 365 = .ok (.iaload, 1) := by decide +kernel
theorem dL_law_366 : decode cL_law 366 = .ok (.aload_n 0, 1) := by decide +kernel
theorem dL_law_367 : decode cL_law 367 = .ok (.iload_n 3, 1) := by decide +kernel
theorem dL_law_368 : decode cL_law 368 = .ok (.iconst 2, 1) := by decide +kernel
theorem dL_law_369 : decode cL_law 369 = .ok (.iadd, 1) := by decide +kernel
theorem dL_law_370 : decode cL_law 370 = .ok (.iaload, 1) := by decide +kernel
theorem dL_law_371 : decode cL_law 371 = .ok (.aload_n 0, 1) := by decide +kernel
theorem dL_law_372 : decode cL_law 372 = .ok (.iload_n 3, 1) := by decide +kernel
theorem dL_law_373 : decode cL_law 373 = .ok (.iconst 3, 1) := by decide +kernel
theorem dL_law_374 : decode cL_law 374 = .ok (.iadd, 1) := by decide +kernel
theorem dL_law_375 : decode cL_law 375 = .ok (.iaload, 1) := by decide +kernel
theorem dL_law_376 : decode cL_law 376 = .ok (.invokevirtual 42, 3) := by decide +kernel
theorem dL_law_379 : decode cL_law 379 = .ok (.if_icmp .eq 623, 3) := by decide +kernel
theorem dL_law_382 : decode cL_law 382 = .ok (.iconst 0, 1) := by decide +kernel
theorem dL_law_383 : decode cL_law 383 = .ok (.ireturn, 1) := by decide +kernel
theorem dL_law_384 : decode cL_law 384 = .ok (.aload_n 1, 1) := by decide +kernel
theorem dL_law_385 : decode cL_law 385 = .ok (.aload_n 0, 1) := by decide +kernel
theorem dL_law_386 : decode cL_law 386 = .ok (.iload_n 3, 1) := by decide +kernel
theorem dL_law_387 : decode cL_law 387 = .ok (.iconst 1, 1) := by decide +kernel
theorem dL_law_388 : decode cL_law 388 = .ok (.iadd, 1) := by decide +kernel
theorem dL_law_389 : decode cL_law 389 = .ok (.iaload, 1) := by decide +kernel
theorem dL_law_390 : decode cL_law 390 = .ok (.aload_n 0, 1) := by decide +kernel
theorem dL_law_391 : decode cL_law 391 = .ok (.iload_n 3, 1) := by decide +kernel
theorem dL_law_392 : decode cL_law 392 = .ok (.iconst 2, 1) := by decide +kernel
theorem dL_law_393 : decode cL_law 393 = .ok (.iadd, 1) := by decide +kernel
theorem dL_law_394 : decode cL_law 394 = .ok (.iaload, 1) := by decide +kernel
theorem dL_law_395 : decode cL_law 395 = .ok (.aload_n 0, 1) := by decide +kernel
theorem dL_law_396 : decode cL_law 396 = .ok (.iload_n 3, 1) := by decide +kernel
theorem dL_law_397 : decode cL_law 397 = .ok (.iconst 3, 1) := by decide +kernel
theorem dL_law_398 : decode cL_law 398 = .ok (.iadd, 1) := by decide +kernel
theorem dL_law_399 : decode cL_law 399 = .ok (.iaload, 1) := by decide +kernel
theorem dL_law_400 : decode cL_law 400 = .ok (.aload_n 0, 1) := by decide +kernel
theorem dL_law_401 : decode cL_law 401 = .ok (.iload_n 3, 1) := by decide +kernel
theorem dL_law_402 : decode cL_law 402 = .ok (.iconst 4, 1) := by decide +kernel
theorem dL_law_403 : decode cL_law 403 = .ok (.iadd, 1) := by decide +kernel
theorem dL_law_404 : decode cL_law 404 = .ok (.iaload, 1) := by decide +kernel
theorem dL_law_405 : decode cL_law 405 = .ok (.invokevirtual 43, 3) := by decide +kernel
theorem dL_law_408 : decode cL_law 408 = .ok (.aload_n 2, 1) := by decide +kernel
theorem dL_law_409 : decode cL_law 409 = .ok (.aload_n 0, 1) := by decide +kernel
theorem dL_law_410 : decode cL_law 410 = .ok (.iload_n 3, 1) := by decide +kernel
theorem dL_law_411 : decode cL_law 411 = .ok (.iconst 1, 1) := by decide +kernel
theorem dL_law_412 : decode cL_law 412 = .ok (.iadd, 1) := by decide +kernel
theorem dL_law_413 : decode cL_law 413 = .ok (.iaload, 1) := by decide +kernel
theorem dL_law_414 : decode cL_law 414 = .ok (.aload_n 0, 1) := by decide +kernel
theorem dL_law_415 : decode cL_law 415 = .ok (.iload_n 3, 1) := by decide +kernel
theorem dL_law_416 : decode cL_law 416 = .ok (.iconst 2, 1) := by decide +kernel
theorem dL_law_417 : decode cL_law 417 = .ok (.iadd, 1) := by decide +kernel
theorem dL_law_418 : decode cL_law 418 = .ok (.iaload, 1) := by decide +kernel
theorem dL_law_419 : decode cL_law 419 = .ok (.aload_n 0, 1) := by decide +kernel
theorem dL_law_420 : decode cL_law 420 = .ok (.iload_n 3, 1) := by decide +kernel
theorem dL_law_421 : decode cL_law 421 = .ok (.iconst 3, 1) := by decide +kernel
theorem dL_law_422 : decode cL_law 422 = .ok (.iadd, 1) := by decide +kernel
theorem dL_law_423 : decode cL_law 423 = .ok (.iaload, 1) := by decide +kernel
theorem dL_law_424 : decode cL_law 424 = .ok (.aload_n 0, 1) := by decide +kernel
theorem dL_law_425 : decode cL_law 425 = .ok (.iload_n 3, 1) := by decide +kernel
theorem dL_law_426 : decode cL_law 426 = .ok (.iconst 4, 1) := by decide +kernel
theorem dL_law_427 : decode cL_law 427 = .ok (.iadd, 1) := by decide +kernel
theorem dL_law_428 : decode cL_law 428 = .ok (.iaload, 1) := by decide +kernel
theorem dL_law_429 : decode cL_law 429 = .ok (.invokevirtual 47, 3) := by decide +kernel
theorem dL_law_432 : decode cL_law 432 = .ok (.if_icmp .eq 570, 3) := by decide +kernel
theorem dL_law_435 : decode cL_law 435 = .ok (.iconst 0, 1) := by decide +kernel
theorem dL_law_436 : decode cL_law 436 = .ok (.ireturn, 1) := by decide +kernel
theorem dL_law_437 : decode cL_law 437 = .ok (.aload_n 1, 1) := by decide +kernel
theorem dL_law_438 : decode cL_law 438 = .ok (.aload_n 0, 1) := by decide +kernel
theorem dL_law_439 : decode cL_law 439 = .ok (.iload_n 3, 1) := by decide +kernel
theorem dL_law_440 : decode cL_law 440 = .ok (.iconst 1, 1) := by decide +kernel
theorem dL_law_441 : decode cL_law 441 = .ok (.iadd, 1) := by decide +kernel
theorem dL_law_442 : decode cL_law 442 = .ok (.iaload, 1) := by decide +kernel
theorem dL_law_443 : decode cL_law 443 = .ok (.aload_n 0, 1) := by decide +kernel
theorem dL_law_444 : decode cL_law 444 = .ok (.iload_n 3, 1) := by decide +kernel
theorem dL_law_445 : decode cL_law 445 = .ok (.iconst 2, 1) := by decide +kernel
theorem dL_law_446 : decode cL_law 446 = .ok (.iadd, 1) := by decide +kernel
theorem dL_law_447 : decode cL_law 447 = .ok (.iaload, 1) := by decide +kernel
theorem dL_law_448 : decode cL_law 448 = .ok (.invokevirtual 48, 3) := by decide +kernel
theorem dL_law_451 : decode cL_law 451 = .ok (.aload_n 2, 1) := by decide +kernel
theorem dL_law_452 : decode cL_law 452 = .ok (.aload_n 0, 1) := by decide +kernel
theorem dL_law_453 : decode cL_law 453 = .ok (.iload_n 3, 1) := by decide +kernel
theorem dL_law_454 : decode cL_law 454 = .ok (.iconst 1, 1) := by decide +kernel
theorem dL_law_455 : decode cL_law 455 = .ok (.iadd, 1) := by decide +kernel
theorem dL_law_456 : decode cL_law 456 = .ok (.iaload, 1) := by decide +kernel
theorem dL_law_457 : decode cL_law 457 = .ok (.aload_n 0, 1) := by decide +kernel
theorem dL_law_458 : decode cL_law 458 = .ok (.iload_n 3, 1) := by decide +kernel
theorem dL_law_459 : decode cL_law 459 = .ok (.iconst 2, 1) := by decide +kernel
theorem dL_law_460 : decode cL_law 460 = .ok (.iadd, 1) := by decide +kernel
theorem dL_law_461 : decode cL_law 461 = .ok (.iaload, 1) := by decide +kernel
theorem dL_law_462 : decode cL_law 462 = .ok (.invokevirtual 51, 3) := by decide +kernel
theorem dL_law_465 : decode cL_law 465 = .ok (.if_icmp .eq 537, 3) := by decide +kernel
theorem dL_law_468 : decode cL_law 468 = .ok (.iconst 0, 1) := by decide +kernel
theorem dL_law_469 : decode cL_law 469 = .ok (.ireturn, 1) := by decide +kernel
theorem dL_law_470 : decode cL_law 470 = .ok (.aload_n 1, 1) := by decide +kernel
theorem dL_law_471 : decode cL_law 471 = .ok (.aload_n 0, 1) := by decide +kernel
theorem dL_law_472 : decode cL_law 472 = .ok (.iload_n 3, 1) := by decide +kernel
theorem dL_law_473 : decode cL_law 473 = .ok (.iconst 1, 1) := by decide +kernel
theorem dL_law_474 : decode cL_law 474 = .ok (.iadd, 1) := by decide +kernel
theorem dL_law_475 : decode cL_law 475 = .ok (.iaload, 1) := by decide +kernel
theorem dL_law_476 : decode cL_law 476 = .ok (.invokevirtual 52, 3) := by decide +kernel
theorem dL_law_479 : decode cL_law 479 = .ok (.aload_n 2, 1) := by decide +kernel
theorem dL_law_480 : decode cL_law 480 = .ok (.aload_n 0, 1) := by decide +kernel
theorem dL_law_481 : decode cL_law 481 = .ok (.iload_n 3, 1) := by decide +kernel
theorem dL_law_482 : decode cL_law 482 = .ok (.iconst 1, 1) := by decide +kernel
theorem dL_law_483 : decode cL_law 483 = .ok (.iadd, 1) := by decide +kernel
theorem dL_law_484 : decode cL_law 484 = .ok (.iaload, 1) := by decide +kernel
theorem dL_law_485 : decode cL_law 485 = .ok (.invokevirtual 56, 3) := by decide +kernel
theorem dL_law_488 : decode cL_law 488 = .ok (.if_icmp .eq 514, 3) := by decide +kernel
theorem dL_law_491 : decode cL_law 491 = .ok (.iconst 0, 1) := by decide +kernel
theorem dL_law_492 : decode cL_law 492 = .ok (.ireturn, 1) := by decide +kernel
theorem dL_law_493 : decode cL_law 493 = .ok (.aload_n 1, 1) := by decide +kernel
theorem dL_law_494 : decode cL_law 494 = .ok (.invokevirtual 57, 3) := by decide +kernel
theorem dL_law_497 : decode cL_law 497 = .ok (.aload_n 2, 1) := by decide +kernel
theorem dL_law_498 : decode cL_law 498 = .ok (.invokevirtual 60, 3) := by decide +kernel
theorem dL_law_501 : decode cL_law 501 = .ok (.if_icmp .eq 501, 3) := by decide +kernel
theorem dL_law_504 : decode cL_law 504 = .ok (.iconst 0, 1) := by decide +kernel
theorem dL_law_505 : decode cL_law 505 = .ok (.ireturn, 1) := by decide +kernel
theorem dL_law_506 : decode cL_law 506 = .ok (.aload_n 1, 1) := by decide +kernel
theorem dL_law_507 : decode cL_law 507 = .ok (.aload_n 0, 1) := by decide +kernel
theorem dL_law_508 : decode cL_law 508 = .ok (.iload_n 3, 1) := by decide +kernel
theorem dL_law_509 : decode cL_law 509 = .ok (.iconst 1, 1) := by decide +kernel
theorem dL_law_510 : decode cL_law 510 = .ok (.iadd, 1) := by decide +kernel
theorem dL_law_511 : decode cL_law 511 = .ok (.iaload, 1) := by decide +kernel
theorem dL_law_512 : decode cL_law 512 = .ok (.invokevirtual 61, 3) := by decide +kernel
theorem dL_law_515 : decode cL_law 515 = .ok (.aload_n 2, 1) := by decide +kernel
theorem dL_law_516 : decode cL_law 516 = .ok (.aload_n 0, 1) := by decide +kernel
theorem dL_law_517 : decode cL_law 517 = .ok (.iload_n 3, 1) := by decide +kernel
theorem dL_law_518 : decode cL_law 518 = .ok (.iconst 1, 1) := by decide +kernel
theorem dL_law_519 : decode cL_law 519 = .ok (.iadd, 1) := by decide +kernel
theorem dL_law_520 : decode cL_law 520 = .ok (.iaload, 1) := by decide +kernel
theorem dL_law_521 : decode cL_law 521 = .ok (.invokevirtual 64, 3) := by decide +kernel
theorem dL_law_524 : decode cL_law 524 = .ok (.if_icmp .eq 478, 3) := by decide +kernel
theorem dL_law_527 : decode cL_law 527 = .ok (.iconst 0, 1) := by decide +kernel
theorem dL_law_528 : decode cL_law 528 = .ok (.ireturn, 1) := by decide +kernel
theorem dL_law_529 : decode cL_law 529 = .ok (.aload_n 1, 1) := by decide +kernel
theorem dL_law_530 : decode cL_law 530 = .ok (.aload_n 0, 1) := by decide +kernel
theorem dL_law_531 : decode cL_law 531 = .ok (.iload_n 3, 1) := by decide +kernel
theorem dL_law_532 : decode cL_law 532 = .ok (.iconst 1, 1) := by decide +kernel
theorem dL_law_533 : decode cL_law 533 = .ok (.iadd, 1) := by decide +kernel
theorem dL_law_534 : decode cL_law 534 = .ok (.iaload, 1) := by decide +kernel
theorem dL_law_535 : decode cL_law 535 = .ok (.invokevirtual 65, 3) := by decide +kernel
theorem dL_law_538 : decode cL_law 538 = .ok (.aload_n 2, 1) := by decide +kernel
theorem dL_law_539 : decode cL_law 539 = .ok (.aload_n 0, 1) := by decide +kernel
theorem dL_law_540 : decode cL_law 540 = .ok (.iload_n 3, 1) := by decide +kernel
theorem dL_law_541 : decode cL_law 541 = .ok (.iconst 1, 1) := by decide +kernel
theorem dL_law_542 : decode cL_law 542 = .ok (.iadd, 1) := by decide +kernel
theorem dL_law_543 : decode cL_law 543 = .ok (.iaload, 1) := by decide +kernel
theorem dL_law_544 : decode cL_law 544 = .ok (.invokevirtual 68, 3) := by decide +kernel
theorem dL_law_547 : decode cL_law 547 = .ok (.if_icmp .eq 455, 3) := by decide +kernel
theorem dL_law_550 : decode cL_law 550 = .ok (.iconst 0, 1) := by decide +kernel
theorem dL_law_551 : decode cL_law 551 = .ok (.ireturn, 1) := by decide +kernel
theorem dL_law_552 : decode cL_law 552 = .ok (.aload_n 1, 1) := by decide +kernel
theorem dL_law_553 : decode cL_law 553 = .ok (.aload_n 0, 1) := by decide +kernel
theorem dL_law_554 : decode cL_law 554 = .ok (.iload_n 3, 1) := by decide +kernel
theorem dL_law_555 : decode cL_law 555 = .ok (.iconst 1, 1) := by decide +kernel
theorem dL_law_556 : decode cL_law 556 = .ok (.iadd, 1) := by decide +kernel
theorem dL_law_557 : decode cL_law 557 = .ok (.iaload, 1) := by decide +kernel
theorem dL_law_558 : decode cL_law 558 = .ok (.invokevirtual 69, 3) := by decide +kernel
theorem dL_law_561 : decode cL_law 561 = .ok (.aload_n 2, 1) := by decide +kernel
theorem dL_law_562 : decode cL_law 562 = .ok (.aload_n 0, 1) := by decide +kernel
theorem dL_law_563 : decode cL_law 563 = .ok (.iload_n 3, 1) := by decide +kernel
theorem dL_law_564 : decode cL_law 564 = .ok (.iconst 1, 1) := by decide +kernel
theorem dL_law_565 : decode cL_law 565 = .ok (.iadd, 1) := by decide +kernel
theorem dL_law_566 : decode cL_law 566 = .ok (.iaload, 1) := by decide +kernel
theorem dL_law_567 : decode cL_law 567 = .ok (.invokevirtual 72, 3) := by decide +kernel
theorem dL_law_570 : decode cL_law 570 = .ok (.if_icmp .eq 432, 3) := by decide +kernel
theorem dL_law_573 : decode cL_law 573 = .ok (.iconst 0, 1) := by decide +kernel
theorem dL_law_574 : decode cL_law 574 = .ok (.ireturn, 1) := by decide +kernel
theorem dL_law_575 : decode cL_law 575 = .ok (.aload_n 1, 1) := by decide +kernel
theorem dL_law_576 : decode cL_law 576 = .ok (.aload_n 0, 1) := by decide +kernel
theorem dL_law_577 : decode cL_law 577 = .ok (.iload_n 3, 1) := by decide +kernel
theorem dL_law_578 : decode cL_law 578 = .ok (.iconst 1, 1) := by decide +kernel
theorem dL_law_579 : decode cL_law 579 = .ok (.iadd, 1) := by decide +kernel
theorem dL_law_580 : decode cL_law 580 = .ok (.iaload, 1) := by decide +kernel
theorem dL_law_581 : decode cL_law 581 = .ok (.invokevirtual 73, 3) := by decide +kernel
theorem dL_law_584 : decode cL_law 584 = .ok (.aload_n 2, 1) := by decide +kernel
theorem dL_law_585 : decode cL_law 585 = .ok (.aload_n 0, 1) := by decide +kernel
theorem dL_law_586 : decode cL_law 586 = .ok (.iload_n 3, 1) := by decide +kernel
theorem dL_law_587 : decode cL_law 587 = .ok (.iconst 1, 1) := by decide +kernel
theorem dL_law_588 : decode cL_law 588 = .ok (.iadd, 1) := by decide +kernel
theorem dL_law_589 : decode cL_law 589 = .ok (.iaload, 1) := by decide +kernel
theorem dL_law_590 : decode cL_law 590 = .ok (.invokevirtual 76, 3) := by decide +kernel
theorem dL_law_593 : decode cL_law 593 = .ok (.if_icmp .eq 409, 3) := by decide +kernel
theorem dL_law_596 : decode cL_law 596 = .ok (.iconst 0, 1) := by decide +kernel
theorem dL_law_597 : decode cL_law 597 = .ok (.ireturn, 1) := by decide +kernel
theorem dL_law_598 : decode cL_law 598 = .ok (.aload_n 1, 1) := by decide +kernel
theorem dL_law_599 : decode cL_law 599 = .ok (.aload_n 0, 1) := by decide +kernel
theorem dL_law_600 : decode cL_law 600 = .ok (.iload_n 3, 1) := by decide +kernel
theorem dL_law_601 : decode cL_law 601 = .ok (.iconst 1, 1) := by decide +kernel
theorem dL_law_602 : decode cL_law 602 = .ok (.iadd, 1) := by decide +kernel
theorem dL_law_603 : decode cL_law 603 = .ok (.iaload, 1) := by decide +kernel
theorem dL_law_604 : decode cL_law 604 = .ok (.invokevirtual 77, 3) := by decide +kernel
theorem dL_law_607 : decode cL_law 607 = .ok (.aload_n 2, 1) := by decide +kernel
theorem dL_law_608 : decode cL_law 608 = .ok (.aload_n 0, 1) := by decide +kernel
theorem dL_law_609 : decode cL_law 609 = .ok (.iload_n 3, 1) := by decide +kernel
theorem dL_law_610 : decode cL_law 610 = .ok (.iconst 1, 1) := by decide +kernel
theorem dL_law_611 : decode cL_law 611 = .ok (.iadd, 1) := by decide +kernel
theorem dL_law_612 : decode cL_law 612 = .ok (.iaload, 1) := by decide +kernel
theorem dL_law_613 : decode cL_law 613 = .ok (.invokevirtual 80, 3) := by decide +kernel
theorem dL_law_616 : decode cL_law 616 = .ok (.if_icmp .eq 386, 3) := by decide +kernel
theorem dL_law_619 : decode cL_law 619 = .ok (.iconst 0, 1) := by decide +kernel
theorem dL_law_620 : decode cL_law 620 = .ok (.ireturn, 1) := by decide +kernel
theorem dL_law_621 : decode cL_law 621 = .ok (.aload_n 1, 1) := by decide +kernel
theorem dL_law_622 : decode cL_law 622 = .ok (.invokevirtual 81, 3) := by decide +kernel
theorem dL_law_625 : decode cL_law 625 = .ok (.aload_n 2, 1) := by decide +kernel
theorem dL_law_626 : decode cL_law 626 = .ok (.invokevirtual 84, 3) := by decide +kernel
theorem dL_law_629 : decode cL_law 629 = .ok (.if_icmp .eq 373, 3) := by decide +kernel
theorem dL_law_632 : decode cL_law 632 = .ok (.iconst 0, 1) := by decide +kernel
theorem dL_law_633 : decode cL_law 633 = .ok (.ireturn, 1) := by decide +kernel
theorem dL_law_634 : decode cL_law 634 = .ok (.aload_n 1, 1) := by decide +kernel
theorem dL_law_635 : decode cL_law 635 = .ok (.invokevirtual 85, 3) := by decide +kernel
theorem dL_law_638 : decode cL_law 638 = .ok (.aload_n 2, 1) := by decide +kernel
theorem dL_law_639 : decode cL_law 639 = .ok (.invokevirtual 88, 3) := by decide +kernel
theorem dL_law_642 : decode cL_law 642 = .ok (.if_icmp .eq 360, 3) := by decide +kernel
theorem dL_law_645 : decode cL_law 645 = .ok (.iconst 0, 1) := by decide +kernel
theorem dL_law_646 : decode cL_law 646 = .ok (.ireturn, 1) := by decide +kernel
theorem dL_law_647 : decode cL_law 647 = .ok (.aload_n 1, 1) := by decide +kernel
theorem dL_law_648 : decode cL_law 648 = .ok (.aload_n 0, 1) := by decide +kernel
theorem dL_law_649 : decode cL_law 649 = .ok (.iload_n 3, 1) := by decide +kernel
theorem dL_law_650 : decode cL_law 650 = .ok (.iconst 1, 1) := by decide +kernel
theorem dL_law_651 : decode cL_law 651 = .ok (.iadd, 1) := by decide +kernel
theorem dL_law_652 : decode cL_law 652 = .ok (.iaload, 1) := by decide +kernel
theorem dL_law_653 : decode cL_law 653 = .ok (.invokevirtual 89, 3) := by decide +kernel
theorem dL_law_656 : decode cL_law 656 = .ok (.aload_n 2, 1) := by decide +kernel
theorem dL_law_657 : decode cL_law 657 = .ok (.aload_n 0, 1) := by decide +kernel
theorem dL_law_658 : decode cL_law 658 = .ok (.iload_n 3, 1) := by decide +kernel
theorem dL_law_659 : decode cL_law 659 = .ok (.iconst 1, 1) := by decide +kernel
theorem dL_law_660 : decode cL_law 660 = .ok (.iadd, 1) := by decide +kernel
theorem dL_law_661 : decode cL_law 661 = .ok (.iaload, 1) := by decide +kernel
theorem dL_law_662 : decode cL_law 662 = .ok (.invokevirtual 92, 3) := by decide +kernel
theorem dL_law_665 : decode cL_law 665 = .ok (.if_icmp .eq 337, 3) := by decide +kernel
theorem dL_law_668 : decode cL_law 668 = .ok (.iconst 0, 1) := by decide +kernel
theorem dL_law_669 : decode cL_law 669 = .ok (.ireturn, 1) := by decide +kernel
theorem dL_law_670 : decode cL_law 670 = .ok (.aload_n 1, 1) := by decide +kernel
theorem dL_law_671 : decode cL_law 671 = .ok (.aload_n 0, 1) := by decide +kernel
theorem dL_law_672 : decode cL_law 672 = .ok (.iload_n 3, 1) := by decide +kernel
theorem dL_law_673 : decode cL_law 673 = .ok (.iconst 1, 1) := by decide +kernel
theorem dL_law_674 : decode cL_law 674 = .ok (.iadd, 1) := by decide +kernel
theorem dL_law_675 : decode cL_law 675 = .ok (.iaload, 1) := by decide +kernel
theorem dL_law_676 : decode cL_law 676 = .ok (.invokevirtual 93, 3) := by decide +kernel
theorem dL_law_679 : decode cL_law 679 = .ok (.aload_n 2, 1) := by decide +kernel
theorem dL_law_680 : decode cL_law 680 = .ok (.aload_n 0, 1) := by decide +kernel
theorem dL_law_681 : decode cL_law 681 = .ok (.iload_n 3, 1) := by decide +kernel
theorem dL_law_682 : decode cL_law 682 = .ok (.iconst 1, 1) := by decide +kernel
theorem dL_law_683 : decode cL_law 683 = .ok (.iadd, 1) := by decide +kernel
theorem dL_law_684 : decode cL_law 684 = .ok (.iaload, 1) := by decide +kernel
theorem dL_law_685 : decode cL_law 685 = .ok (.invokevirtual 96, 3) := by decide +kernel
theorem dL_law_688 : decode cL_law 688 = .ok (.if_icmp .eq 314, 3) := by decide +kernel
theorem dL_law_691 : decode cL_law 691 = .ok (.iconst 0, 1) := by decide +kernel
theorem dL_law_692 : decode cL_law 692 = .ok (.ireturn, 1) := by decide +kernel
theorem dL_law_693 : decode cL_law 693 = .ok (.aload_n 1, 1) := by decide +kernel
theorem dL_law_694 : decode cL_law 694 = .ok (.aload_n 0, 1) := by decide +kernel
theorem dL_law_695 : decode cL_law 695 = .ok (.iload_n 3, 1) := by decide +kernel
theorem dL_law_696 : decode cL_law 696 = .ok (.iconst 1, 1) := by decide +kernel
theorem dL_law_697 : decode cL_law 697 = .ok (.iadd, 1) := by decide +kernel
theorem dL_law_698 : decode cL_law 698 = .ok (.iaload, 1) := by decide +kernel
theorem dL_law_699 : decode cL_law 699 = .ok (.aload_n 0, 1) := by decide +kernel
theorem dL_law_700 : decode cL_law 700 = .ok (.iload_n 3, 1) := by decide +kernel
theorem dL_law_701 : decode cL_law 701 = .ok (.iconst 2, 1) := by decide +kernel
theorem dL_law_702 : decode cL_law 702 = .ok (.iadd, 1) := by decide +kernel
theorem dL_law_703 : decode cL_law 703 = .ok (.iaload, 1) := by decide +kernel
theorem dL_law_704 : decode cL_law 704 = .ok (.invokevirtual 97, 3) := by decide +kernel
theorem dL_law_707 : decode cL_law 707 = .ok (.aload_n 2, 1) := by decide +kernel
theorem dL_law_708 : decode cL_law 708 = .ok (.aload_n 0, 1) := by decide +kernel
theorem dL_law_709 : decode cL_law 709 = .ok (.iload_n 3, 1) := by decide +kernel
theorem dL_law_710 : decode cL_law 710 = .ok (.iconst 1, 1) := by decide +kernel
theorem dL_law_711 : decode cL_law 711 = .ok (.iadd, 1) := by decide +kernel
theorem dL_law_712 : decode cL_law 712 = .ok (.iaload, 1) := by decide +kernel
theorem dL_law_713 : decode cL_law 713 = .ok (.aload_n 0, 1) := by decide +kernel
theorem dL_law_714 : decode cL_law 714 = .ok (.iload_n 3, 1) := by decide +kernel
theorem dL_law_715 : decode cL_law 715 = .ok (.iconst 2, 1) := by decide +kernel
theorem dL_law_716 : decode cL_law 716 = .ok (.iadd, 1) := by decide +kernel
theorem dL_law_717 : decode cL_law 717 = .ok (.iaload, 1) := by decide +kernel
theorem dL_law_718 : decode cL_law 718 = .ok (.invokevirtual 100, 3) := by decide +kernel
theorem dL_law_721 : decode cL_law 721 = .ok (.if_icmp .eq 281, 3) := by decide +kernel
theorem dL_law_724 : decode cL_law 724 = .ok (.iconst 0, 1) := by decide +kernel
theorem dL_law_725 : decode cL_law 725 = .ok (.ireturn, 1) := by decide +kernel
theorem dL_law_726 : decode cL_law 726 = .ok (.aload_n 1, 1) := by decide +kernel
theorem dL_law_727 : decode cL_law 727 = .ok (.aload_n 0, 1) := by decide +kernel
theorem dL_law_728 : decode cL_law 728 = .ok (.iload_n 3, 1) := by decide +kernel
theorem dL_law_729 : decode cL_law 729 = .ok (.iconst 1, 1) := by decide +kernel
theorem dL_law_730 : decode cL_law 730 = .ok (.iadd, 1) := by decide +kernel
theorem dL_law_731 : decode cL_law 731 = .ok (.iaload, 1) := by decide +kernel
theorem dL_law_732 : decode cL_law 732 = .ok (.invokevirtual 101, 3) := by decide +kernel
theorem dL_law_735 : decode cL_law 735 = .ok (.aload_n 2, 1) := by decide +kernel
theorem dL_law_736 : decode cL_law 736 = .ok (.aload_n 0, 1) := by decide +kernel
theorem dL_law_737 : decode cL_law 737 = .ok (.iload_n 3, 1) := by decide +kernel
theorem dL_law_738 : decode cL_law 738 = .ok (.iconst 1, 1) := by decide +kernel
theorem dL_law_739 : decode cL_law 739 = .ok (.iadd, 1) := by decide +kernel
theorem dL_law_740 : decode cL_law 740 = .ok (.iaload, 1) := by decide +kernel
theorem dL_law_741 : decode cL_law 741 = .ok (.invokevirtual 104, 3) := by decide +kernel
theorem dL_law_744 : decode cL_law 744 = .ok (.if_icmp .eq 258, 3) := by decide +kernel
theorem dL_law_747 : decode cL_law 747 = .ok (.iconst 0, 1) := by decide +kernel
theorem dL_law_748 : decode cL_law 748 = .ok (.ireturn, 1) := by decide +kernel
theorem dL_law_749 : decode cL_law 749 = .ok (.aload_n 1, 1) := by decide +kernel
theorem dL_law_750 : decode cL_law 750 = .ok (.invokevirtual 105, 3) := by decide +kernel
theorem dL_law_753 : decode cL_law 753 = .ok (.aload_n 2, 1) := by decide +kernel
theorem dL_law_754 : decode cL_law 754 = .ok (.invokevirtual 108, 3) := by decide +kernel
theorem dL_law_757 : decode cL_law 757 = .ok (.if_icmp .eq 245, 3) := by decide +kernel
theorem dL_law_760 : decode cL_law 760 = .ok (.iconst 0, 1) := by decide +kernel
theorem dL_law_761 : decode cL_law 761 = .ok (.ireturn, 1) := by decide +kernel
theorem dL_law_762 : decode cL_law 762 = .ok (.aload_n 1, 1) := by decide +kernel
theorem dL_law_763 : decode cL_law 763 = .ok (.invokevirtual 109, 3) := by decide +kernel
theorem dL_law_766 : decode cL_law 766 = .ok (.aload_n 2, 1) := by decide +kernel
theorem dL_law_767 : decode cL_law 767 = .ok (.invokevirtual 112, 3) := by decide +kernel
theorem dL_law_770 : decode cL_law 770 = .ok (.if_icmp .eq 232, 3) := by decide +kernel
theorem dL_law_773 : decode cL_law 773 = .ok (.iconst 0, 1) := by decide +kernel
theorem dL_law_774 : decode cL_law 774 = .ok (.ireturn, 1) := by decide +kernel
theorem dL_law_775 : decode cL_law 775 = .ok (.aload_n 1, 1) := by decide +kernel
theorem dL_law_776 : decode cL_law 776 = .ok (.aload_n 0, 1) := by decide +kernel
theorem dL_law_777 : decode cL_law 777 = .ok (.iload_n 3, 1) := by decide +kernel
theorem dL_law_778 : decode cL_law 778 = .ok (.iconst 1, 1) := by decide +kernel
theorem dL_law_779 : decode cL_law 779 = .ok (.iadd, 1) := by decide +kernel
theorem dL_law_780 : decode cL_law 780 = .ok (.iaload, 1) := by decide +kernel
theorem dL_law_781 : decode cL_law 781 = .ok (.invokevirtual 113, 3) := by decide +kernel
theorem dL_law_784 : decode cL_law 784 = .ok (.aload_n 2, 1) := by decide +kernel
theorem dL_law_785 : decode cL_law 785 = .ok (.aload_n 0, 1) := by decide +kernel
theorem dL_law_786 : decode cL_law 786 = .ok (.iload_n 3, 1) := by decide +kernel
theorem dL_law_787 : decode cL_law 787 = .ok (.iconst 1, 1) := by decide +kernel
theorem dL_law_788 : decode cL_law 788 = .ok (.iadd, 1) := by decide +kernel
theorem dL_law_789 : decode cL_law 789 = .ok (.iaload, 1) := by decide +kernel
theorem dL_law_790 : decode cL_law 790 = .ok (.invokevirtual 116, 3) := by decide +kernel
theorem dL_law_793 : decode cL_law 793 = .ok (.if_icmp .eq 209, 3) := by decide +kernel
theorem dL_law_796 : decode cL_law 796 = .ok (.iconst 0, 1) := by decide +kernel
theorem dL_law_797 : decode cL_law 797 = .ok (.ireturn, 1) := by decide +kernel
theorem dL_law_798 : decode cL_law 798 = .ok (.aload_n 1, 1) := by decide +kernel
theorem dL_law_799 : decode cL_law 799 = .ok (.aload_n 0, 1) := by decide +kernel
theorem dL_law_800 : decode cL_law 800 = .ok (.iload_n 3, 1) := by decide +kernel
theorem dL_law_801 : decode cL_law 801 = .ok (.iconst 1, 1) := by decide +kernel
theorem dL_law_802 : decode cL_law 802 = .ok (.iadd, 1) := by decide +kernel
theorem dL_law_803 : decode cL_law 803 = .ok (.iaload, 1) := by decide +kernel
theorem dL_law_804 : decode cL_law 804 = .ok (.invokevirtual 117, 3) := by decide +kernel
theorem dL_law_807 : decode cL_law 807 = .ok (.aload_n 2, 1) := by decide +kernel
theorem dL_law_808 : decode cL_law 808 = .ok (.aload_n 0, 1) := by decide +kernel
theorem dL_law_809 : decode cL_law 809 = .ok (.iload_n 3, 1) := by decide +kernel
theorem dL_law_810 : decode cL_law 810 = .ok (.iconst 1, 1) := by decide +kernel
theorem dL_law_811 : decode cL_law 811 = .ok (.iadd, 1) := by decide +kernel
theorem dL_law_812 : decode cL_law 812 = .ok (.iaload, 1) := by decide +kernel
theorem dL_law_813 : decode cL_law 813 = .ok (.invokevirtual 120, 3) := by decide +kernel
theorem dL_law_816 : decode cL_law 816 = .ok (.if_icmp .eq 186, 3) := by decide +kernel
theorem dL_law_819 : decode cL_law 819 = .ok (.iconst 0, 1) := by decide +kernel
theorem dL_law_820 : decode cL_law 820 = .ok (.ireturn, 1) := by decide +kernel
theorem dL_law_821 : decode cL_law 821 = .ok (.aload_n 1, 1) := by decide +kernel
theorem dL_law_822 : decode cL_law 822 = .ok (.aload_n 0, 1) := by decide +kernel
theorem dL_law_823 : decode cL_law 823 = .ok (.iload_n 3, 1) := by decide +kernel
theorem dL_law_824 : decode cL_law 824 = .ok (.iconst 1, 1) := by decide +kernel
theorem dL_law_825 : decode cL_law 825 = .ok (.iadd, 1) := by decide +kernel
theorem dL_law_826 : decode cL_law 826 = .ok (.iaload, 1) := by decide +kernel
theorem dL_law_827 : decode cL_law 827 = .ok (.aload_n 0, 1) := by decide +kernel
theorem dL_law_828 : decode cL_law 828 = .ok (.iload_n 3, 1) := by decide +kernel
theorem dL_law_829 : decode cL_law 829 = .ok (.iconst 2, 1) := by decide +kernel
theorem dL_law_830 : decode cL_law 830 = .ok (.iadd, 1) := by decide +kernel
theorem dL_law_831 : decode cL_law 831 = .ok (.iaload, 1) := by decide +kernel
theorem dL_law_832 : decode cL_law 832 = .ok (.invokevirtual 121, 3) := by decide +kernel
theorem dL_law_835 : decode cL_law 835 = .ok (.aload_n 2, 1) := by decide +kernel
theorem dL_law_836 : decode cL_law 836 = .ok (.aload_n 0, 1) := by decide +kernel
theorem dL_law_837 : decode cL_law 837 = .ok (.iload_n 3, 1) := by decide +kernel
theorem dL_law_838 : decode cL_law 838 = .ok (.iconst 1, 1) := by decide +kernel
theorem dL_law_839 : decode cL_law 839 = .ok (.iadd, 1) := by decide +kernel
theorem dL_law_840 : decode cL_law 840 = .ok (.iaload, 1) := by decide +kernel
theorem dL_law_841 : decode cL_law 841 = .ok (.aload_n 0, 1) := by decide +kernel
theorem dL_law_842 : decode cL_law 842 = .ok (.iload_n 3, 1) := by decide +kernel
theorem dL_law_843 : decode cL_law 843 = .ok (.iconst 2, 1) := by decide +kernel
theorem dL_law_844 : decode cL_law 844 = .ok (.iadd, 1) := by decide +kernel
theorem dL_law_845 : decode cL_law 845 = .ok (.iaload, 1) := by decide +kernel
theorem dL_law_846 : decode cL_law 846 = .ok (.invokevirtual 124, 3) := by decide +kernel
theorem dL_law_849 : decode cL_law 849 = .ok (.if_icmp .eq 153, 3) := by decide +kernel
theorem dL_law_852 : decode cL_law 852 = .ok (.iconst 0, 1) := by decide +kernel
theorem dL_law_853 : decode cL_law 853 = .ok (.ireturn, 1) := by decide +kernel
theorem dL_law_854 : decode cL_law 854 = .ok (.aload_n 1, 1) := by decide +kernel
theorem dL_law_855 : decode cL_law 855 = .ok (.aload_n 0, 1) := by decide +kernel
theorem dL_law_856 : decode cL_law 856 = .ok (.iload_n 3, 1) := by decide +kernel
theorem dL_law_857 : decode cL_law 857 = .ok (.iconst 1, 1) := by decide +kernel
theorem dL_law_858 : decode cL_law 858 = .ok (.iadd, 1) := by decide +kernel
theorem dL_law_859 : decode cL_law 859 = .ok (.iaload, 1) := by decide +kernel
theorem dL_law_860 : decode cL_law 860 = .ok (.aload_n 0, 1) := by decide +kernel
theorem dL_law_861 : decode cL_law 861 = .ok (.iload_n 3, 1) := by decide +kernel
theorem dL_law_862 : decode cL_law 862 = .ok (.iconst 2, 1) := by decide +kernel
theorem dL_law_863 : decode cL_law 863 = .ok (.iadd, 1) := by decide +kernel
theorem dL_law_864 : decode cL_law 864 = .ok (.iaload, 1) := by decide +kernel
theorem dL_law_865 : decode cL_law 865 = .ok (.invokevirtual 125, 3) := by decide +kernel
theorem dL_law_868 : decode cL_law 868 = .ok (.aload_n 2, 1) := by decide +kernel
theorem dL_law_869 : decode cL_law 869 = .ok (.aload_n 0, 1) := by decide +kernel
theorem dL_law_870 : decode cL_law 870 = .ok (.iload_n 3, 1) := by decide +kernel
theorem dL_law_871 : decode cL_law 871 = .ok (.iconst 1, 1) := by decide +kernel
theorem dL_law_872 : decode cL_law 872 = .ok (.iadd, 1) := by decide +kernel
theorem dL_law_873 : decode cL_law 873 = .ok (.iaload, 1) := by decide +kernel
theorem dL_law_874 : decode cL_law 874 = .ok (.aload_n 0, 1) := by decide +kernel
theorem dL_law_875 : decode cL_law 875 = .ok (.iload_n 3, 1) := by decide +kernel
theorem dL_law_876 : decode cL_law 876 = .ok (.iconst 2, 1) := by decide +kernel
theorem dL_law_877 : decode cL_law 877 = .ok (.iadd, 1) := by decide +kernel
theorem dL_law_878 : decode cL_law 878 = .ok (.iaload, 1) := by decide +kernel
theorem dL_law_879 : decode cL_law 879 = .ok (.invokevirtual 128, 3) := by decide +kernel
theorem dL_law_882 : decode cL_law 882 = .ok (.if_icmp .eq 120, 3) := by decide +kernel
theorem dL_law_885 : decode cL_law 885 = .ok (.iconst 0, 1) := by decide +kernel
theorem dL_law_886 : decode cL_law 886 = .ok (.ireturn, 1) := by decide +kernel
theorem dL_law_887 : decode cL_law 887 = .ok (.aload_n 1, 1) := by decide +kernel
theorem dL_law_888 : decode cL_law 888 = .ok (.aload_n 0, 1) := by decide +kernel
theorem dL_law_889 : decode cL_law 889 = .ok (.iload_n 3, 1) := by decide +kernel
theorem dL_law_890 : decode cL_law 890 = .ok (.iconst 1, 1) := by decide +kernel
theorem dL_law_891 : decode cL_law 891 = .ok (.iadd, 1) := by decide +kernel
theorem dL_law_892 : decode cL_law 892 = .ok (.iaload, 1) := by decide +kernel
theorem dL_law_893 : decode cL_law 893 = .ok (.invokevirtual 129, 3) := by decide +kernel
theorem dL_law_896 : decode cL_law 896 = .ok (.aload_n 2, 1) := by decide +kernel
theorem dL_law_897 : decode cL_law 897 = .ok (.aload_n 0, 1) := by decide +kernel
theorem dL_law_898 : decode cL_law 898 = .ok (.iload_n 3, 1) := by decide +kernel
theorem dL_law_899 : decode cL_law 899 = .ok (.iconst 1, 1) := by decide +kernel
theorem dL_law_900 : decode cL_law 900 = .ok (.iadd, 1) := by decide +kernel
theorem dL_law_901 : decode cL_law 901 = .ok (.iaload, 1) := by decide +kernel
theorem dL_law_902 : decode cL_law 902 = .ok (.invokevirtual 132, 3) := by decide +kernel
theorem dL_law_905 : decode cL_law 905 = .ok (.if_icmp .eq 97, 3) := by decide +kernel
theorem dL_law_908 : decode cL_law 908 = .ok (.iconst 0, 1) := by decide +kernel
theorem dL_law_909 : decode cL_law 909 = .ok (.ireturn, 1) := by decide +kernel
theorem dL_law_910 : decode cL_law 910 = .ok (.aload_n 1, 1) := by decide +kernel
theorem dL_law_911 : decode cL_law 911 = .ok (.aload_n 0, 1) := by decide +kernel
theorem dL_law_912 : decode cL_law 912 = .ok (.iload_n 3, 1) := by decide +kernel
theorem dL_law_913 : decode cL_law 913 = .ok (.iconst 1, 1) := by decide +kernel
theorem dL_law_914 : decode cL_law 914 = .ok (.iadd, 1) := by decide +kernel
theorem dL_law_915 : decode cL_law 915 = .ok (.iaload, 1) := by decide +kernel
theorem dL_law_916 : decode cL_law 916 = .ok (.invokevirtual 133, 3) := by decide +kernel
theorem dL_law_919 : decode cL_law 919 = .ok (.aload_n 2, 1) := by decide +kernel
theorem dL_law_920 : decode cL_law 920 = .ok (.aload_n 0, 1) := by decide +kernel
theorem dL_law_921 : decode cL_law 921 = .ok (.iload_n 3, 1) := by decide +kernel
theorem dL_law_922 : decode cL_law 922 = .ok (.iconst 1, 1) := by decide +kernel
theorem dL_law_923 : decode cL_law 923 = .ok (.iadd, 1) := by decide +kernel
theorem dL_law_924 : decode cL_law 924 = .ok (.iaload, 1) := by decide +kernel
theorem dL_law_925 : decode cL_law 925 = .ok (.invokevirtual 136, 3) := by decide +kernel
theorem dL_law_928 : decode cL_law 928 = .ok (.if_icmp .eq 74, 3) := by decide +kernel
theorem dL_law_931 : decode cL_law 931 = .ok (.iconst 0, 1) := by decide +kernel
theorem dL_law_932 : decode cL_law 932 = .ok (.ireturn, 1) := by decide +kernel
theorem dL_law_933 : decode cL_law 933 = .ok (.aload_n 1, 1) := by decide +kernel
theorem dL_law_934 : decode cL_law 934 = .ok (.aload_n 0, 1) := by decide +kernel
theorem dL_law_935 : decode cL_law 935 = .ok (.iload_n 3, 1) := by decide +kernel
theorem dL_law_936 : decode cL_law 936 = .ok (.iconst 1, 1) := by decide +kernel
theorem dL_law_937 : decode cL_law 937 = .ok (.iadd, 1) := by decide +kernel
theorem dL_law_938 : decode cL_law 938 = .ok (.iaload, 1) := by decide +kernel
theorem dL_law_939 : decode cL_law 939 = .ok (.invokevirtual 137, 3) := by decide +kernel
theorem dL_law_942 : decode cL_law 942 = .ok (.aload_n 2, 1) := by decide +kernel
theorem dL_law_943 : decode cL_law 943 = .ok (.aload_n 0, 1) := by decide +kernel
theorem dL_law_944 : decode cL_law 944 = .ok (.iload_n 3, 1) := by decide +kernel
theorem dL_law_945 : decode cL_law 945 = .ok (.iconst 1, 1) := by decide +kernel
theorem dL_law_946 : decode cL_law 946 = .ok (.iadd, 1) := by decide +kernel
theorem dL_law_947 : decode cL_law 947 = .ok (.iaload, 1) := by decide +kernel
theorem dL_law_948 : decode cL_law 948 = .ok (.invokevirtual 140, 3) := by decide +kernel
theorem dL_law_951 : decode cL_law 951 = .ok (.if_icmp .eq 51, 3) := by decide +kernel
theorem dL_law_954 : decode cL_law 954 = .ok (.iconst 0, 1) := by decide +kernel
theorem dL_law_955 : decode cL_law 955 = .ok (.ireturn, 1) := by decide +kernel
theorem dL_law_956 : decode cL_law 956 = .ok (.aload_n 1, 1) := by decide +kernel
theorem dL_law_957 : decode cL_law 957 = .ok (.aload_n 0, 1) := by decide +kernel
theorem dL_law_958 : decode cL_law 958 = .ok (.iload_n 3, 1) := by decide +kernel
theorem dL_law_959 : decode cL_law 959 = .ok (.iconst 1, 1) := by decide +kernel
theorem dL_law_960 : decode cL_law 960 = .ok (.iadd, 1) := by decide +kernel
theorem dL_law_961 : decode cL_law 961 = .ok (.iaload, 1) := by decide +kernel
theorem dL_law_962 : decode cL_law 962 = .ok (.invokevirtual 141, 3) := by decide +kernel
theorem dL_law_965 : decode cL_law 965 = .ok (.aload_n 2, 1) := by decide +kernel
theorem dL_law_966 : decode cL_law 966 = .ok (.aload_n 0, 1) := by decide +kernel
theorem dL_law_967 : decode cL_law 967 = .ok (.iload_n 3, 1) := by decide +kernel
theorem dL_law_968 : decode cL_law 968 = .ok (.iconst 1, 1) := by decide +kernel
theorem dL_law_969 : decode cL_law 969 = .ok (.iadd, 1) := by decide +kernel
theorem dL_law_970 : decode cL_law 970 = .ok (.iaload, 1) := by decide +kernel
theorem dL_law_971 : decode cL_law 971 = .ok (.invokevirtual 144, 3) := by decide +kernel
theorem dL_law_974 : decode cL_law 974 = .ok (.if_icmp .eq 28, 3) := by decide +kernel
theorem dL_law_977 : decode cL_law 977 = .ok (.iconst 0, 1) := by decide +kernel
theorem dL_law_978 : decode cL_law 978 = .ok (.ireturn, 1) := by decide +kernel
theorem dL_law_979 : decode cL_law 979 = .ok (.aload_n 1, 1) := by decide +kernel
theorem dL_law_980 : decode cL_law 980 = .ok (.aload_n 0, 1) := by decide +kernel
theorem dL_law_981 : decode cL_law 981 = .ok (.iload_n 3, 1) := by decide +kernel
theorem dL_law_982 : decode cL_law 982 = .ok (.iconst 1, 1) := by decide +kernel
theorem dL_law_983 : decode cL_law 983 = .ok (.iadd, 1) := by decide +kernel
theorem dL_law_984 : decode cL_law 984 = .ok (.iaload, 1) := by decide +kernel
theorem dL_law_985 : decode cL_law 985 = .ok (.invokevirtual 145, 3) := by decide +kernel
theorem dL_law_988 : decode cL_law 988 = .ok (.aload_n 2, 1) := by decide +kernel
theorem dL_law_989 : decode cL_law 989 = .ok (.aload_n 0, 1) := by decide +kernel
theorem dL_law_990 : decode cL_law 990 = .ok (.iload_n 3, 1) := by decide +kernel
theorem dL_law_991 : decode cL_law 991 = .ok (.iconst 1, 1) := by decide +kernel
theorem dL_law_992 : decode cL_law 992 = .ok (.iadd, 1) := by decide +kernel
theorem dL_law_993 : decode cL_law 993 = .ok (.iaload, 1) := by decide +kernel
theorem dL_law_994 : decode cL_law 994 = .ok (.invokevirtual 148, 3) := by decide +kernel
theorem dL_law_997 : decode cL_law 997 = .ok (.if_icmp .eq 5, 3) := by decide +kernel
theorem dL_law_1000 : decode cL_law 1000 = .ok (.iconst 0, 1) := by decide +kernel
theorem dL_law_1001 : decode cL_law 1001 = .ok (.ireturn, 1) := by decide +kernel
theorem dL_law_1002 : decode cL_law 1002 = .ok (.iinc 3 5, 3) := by decide +kernel
theorem dL_law_1005 : decode cL_law 1005 = .ok (.goto (-987), 3) := by decide +kernel
theorem dL_law_1008 : decode cL_law 1008 = .ok (.iconst 1, 1) := by decide +kernel
theorem dL_law_1009 : decode cL_law 1009 = .ok (.ireturn, 1) := by decide +kernel
