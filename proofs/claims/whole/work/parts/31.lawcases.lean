/-! ===== the law, case by case ===== -/
theorem cl_L_13 : Cond.constantLong RL 13 (4294967295) ∈ gt := gt_t 1377 (by decide +kernel) rfl
theorem lk_L_15 : Cond.methodLink RL 15 yX5_feed ∈ gt := gt_t 269 (by decide +kernel) rfl
theorem me_X5_feed : MEV RX5 yX5_feed cX5_feed 5 (some .int) 2 := ⟨⟨gt_t 272 (by decide +kernel) rfl, gt_t 1 (by decide +kernel) rfl, by decide +kernel⟩, gt_t 270 (by decide +kernel) rfl, gt_t 271 (by decide +kernel) rfl⟩
theorem lk_L_19 : Cond.methodLink RL 19 yX6_feed ∈ gt := gt_t 976 (by decide +kernel) rfl
theorem me_X6_feed : MEV RX6 yX6_feed cX6_feed 5 (some .int) 2 := ⟨⟨gt_t 979 (by decide +kernel) rfl, gt_t 6 (by decide +kernel) rfl, by decide +kernel⟩, gt_t 977 (by decide +kernel) rfl, gt_t 978 (by decide +kernel) rfl⟩
theorem lk_L_20 : Cond.methodLink RL 20 yX5_book ∈ gt := gt_t 279 (by decide +kernel) rfl
theorem me_X5_book : MEV RX5 yX5_book cX5_book 2 (some .int) 0 := ⟨⟨gt_t 282 (by decide +kernel) rfl, gt_t 1 (by decide +kernel) rfl, by decide +kernel⟩, gt_t 280 (by decide +kernel) rfl, gt_t 281 (by decide +kernel) rfl⟩
theorem lk_L_24 : Cond.methodLink RL 24 yX6_book ∈ gt := gt_t 987 (by decide +kernel) rfl
theorem me_X6_book : MEV RX6 yX6_book cX6_book 3 (some .int) 0 := ⟨⟨gt_t 990 (by decide +kernel) rfl, gt_t 6 (by decide +kernel) rfl, by decide +kernel⟩, gt_t 988 (by decide +kernel) rfl, gt_t 989 (by decide +kernel) rfl⟩
theorem lk_L_25 : Cond.methodLink RL 25 yX5_fault ∈ gt := gt_t 439 (by decide +kernel) rfl
theorem me_X5_fault : MEV RX5 yX5_fault cX5_fault 1 (some .int) 0 := ⟨⟨gt_t 442 (by decide +kernel) rfl, gt_t 1 (by decide +kernel) rfl, by decide +kernel⟩, gt_t 440 (by decide +kernel) rfl, gt_t 441 (by decide +kernel) rfl⟩
theorem lk_L_28 : Cond.methodLink RL 28 yX6_fault ∈ gt := gt_t 1047 (by decide +kernel) rfl
theorem me_X6_fault : MEV RX6 yX6_fault cX6_fault 1 (some .int) 0 := ⟨⟨gt_t 1050 (by decide +kernel) rfl, gt_t 6 (by decide +kernel) rfl, by decide +kernel⟩, gt_t 1048 (by decide +kernel) rfl, gt_t 1049 (by decide +kernel) rfl⟩
theorem lk_L_29 : Cond.methodLink RL 29 yX5_part ∈ gt := gt_t 443 (by decide +kernel) rfl
theorem me_X5_part : MEV RX5 yX5_part cX5_part 5 (some .int) 2 := ⟨⟨gt_t 446 (by decide +kernel) rfl, gt_t 1 (by decide +kernel) rfl, by decide +kernel⟩, gt_t 444 (by decide +kernel) rfl, gt_t 445 (by decide +kernel) rfl⟩
theorem lk_L_33 : Cond.methodLink RL 33 yX6_part ∈ gt := gt_t 1051 (by decide +kernel) rfl
theorem me_X6_part : MEV RX6 yX6_part cX6_part 4 (some .int) 2 := ⟨⟨gt_t 1054 (by decide +kernel) rfl, gt_t 6 (by decide +kernel) rfl, by decide +kernel⟩, gt_t 1052 (by decide +kernel) rfl, gt_t 1053 (by decide +kernel) rfl⟩
theorem lk_L_34 : Cond.methodLink RL 34 yX5_effect ∈ gt := gt_t 453 (by decide +kernel) rfl
theorem me_X5_effect : MEV RX5 yX5_effect cX5_effect 6 (some .int) 3 := ⟨⟨gt_t 456 (by decide +kernel) rfl, gt_t 1 (by decide +kernel) rfl, by decide +kernel⟩, gt_t 454 (by decide +kernel) rfl, gt_t 455 (by decide +kernel) rfl⟩
theorem lk_L_38 : Cond.methodLink RL 38 yX6_effect ∈ gt := gt_t 1064 (by decide +kernel) rfl
theorem me_X6_effect : MEV RX6 yX6_effect cX6_effect 5 (some .int) 3 := ⟨⟨gt_t 1067 (by decide +kernel) rfl, gt_t 6 (by decide +kernel) rfl, by decide +kernel⟩, gt_t 1065 (by decide +kernel) rfl, gt_t 1066 (by decide +kernel) rfl⟩
theorem lk_L_39 : Cond.methodLink RL 39 yX5_choice ∈ gt := gt_t 461 (by decide +kernel) rfl
theorem me_X5_choice : MEV RX5 yX5_choice cX5_choice 6 (some .int) 3 := ⟨⟨gt_t 464 (by decide +kernel) rfl, gt_t 1 (by decide +kernel) rfl, by decide +kernel⟩, gt_t 462 (by decide +kernel) rfl, gt_t 463 (by decide +kernel) rfl⟩
theorem lk_L_42 : Cond.methodLink RL 42 yX6_choice ∈ gt := gt_t 1068 (by decide +kernel) rfl
theorem me_X6_choice : MEV RX6 yX6_choice cX6_choice 5 (some .int) 3 := ⟨⟨gt_t 1071 (by decide +kernel) rfl, gt_t 6 (by decide +kernel) rfl, by decide +kernel⟩, gt_t 1069 (by decide +kernel) rfl, gt_t 1070 (by decide +kernel) rfl⟩
theorem lk_L_43 : Cond.methodLink RL 43 yX5_link ∈ gt := gt_t 469 (by decide +kernel) rfl
theorem me_X5_link : MEV RX5 yX5_link cX5_link 6 (some .int) 4 := ⟨⟨gt_t 472 (by decide +kernel) rfl, gt_t 1 (by decide +kernel) rfl, by decide +kernel⟩, gt_t 470 (by decide +kernel) rfl, gt_t 471 (by decide +kernel) rfl⟩
theorem lk_L_47 : Cond.methodLink RL 47 yX6_link ∈ gt := gt_t 1072 (by decide +kernel) rfl
theorem me_X6_link : MEV RX6 yX6_link cX6_link 7 (some .int) 4 := ⟨⟨gt_t 1075 (by decide +kernel) rfl, gt_t 6 (by decide +kernel) rfl, by decide +kernel⟩, gt_t 1073 (by decide +kernel) rfl, gt_t 1074 (by decide +kernel) rfl⟩
theorem lk_L_48 : Cond.methodLink RL 48 yX5_unlink ∈ gt := gt_t 481 (by decide +kernel) rfl
theorem me_X5_unlink : MEV RX5 yX5_unlink cX5_unlink 4 (some .int) 2 := ⟨⟨gt_t 484 (by decide +kernel) rfl, gt_t 1 (by decide +kernel) rfl, by decide +kernel⟩, gt_t 482 (by decide +kernel) rfl, gt_t 483 (by decide +kernel) rfl⟩
theorem lk_L_51 : Cond.methodLink RL 51 yX6_unlink ∈ gt := gt_t 1081 (by decide +kernel) rfl
theorem me_X6_unlink : MEV RX6 yX6_unlink cX6_unlink 4 (some .int) 2 := ⟨⟨gt_t 1084 (by decide +kernel) rfl, gt_t 6 (by decide +kernel) rfl, by decide +kernel⟩, gt_t 1082 (by decide +kernel) rfl, gt_t 1083 (by decide +kernel) rfl⟩
theorem lk_L_52 : Cond.methodLink RL 52 yX5_count ∈ gt := gt_t 490 (by decide +kernel) rfl
theorem me_X5_count : MEV RX5 yX5_count cX5_count 2 (some .int) 1 := ⟨⟨gt_t 493 (by decide +kernel) rfl, gt_t 1 (by decide +kernel) rfl, by decide +kernel⟩, gt_t 491 (by decide +kernel) rfl, gt_t 492 (by decide +kernel) rfl⟩
theorem lk_L_56 : Cond.methodLink RL 56 yX6_count ∈ gt := gt_t 1085 (by decide +kernel) rfl
theorem me_X6_count : MEV RX6 yX6_count cX6_count 2 (some .int) 1 := ⟨⟨gt_t 1088 (by decide +kernel) rfl, gt_t 6 (by decide +kernel) rfl, by decide +kernel⟩, gt_t 1086 (by decide +kernel) rfl, gt_t 1087 (by decide +kernel) rfl⟩
theorem lk_L_57 : Cond.methodLink RL 57 yX5_begin ∈ gt := gt_t 598 (by decide +kernel) rfl
theorem me_X5_begin : MEV RX5 yX5_begin cX5_begin 1 (some .int) 0 := ⟨⟨gt_t 601 (by decide +kernel) rfl, gt_t 1 (by decide +kernel) rfl, by decide +kernel⟩, gt_t 599 (by decide +kernel) rfl, gt_t 600 (by decide +kernel) rfl⟩
theorem lk_L_60 : Cond.methodLink RL 60 yX6_begin ∈ gt := gt_t 1163 (by decide +kernel) rfl
theorem me_X6_begin : MEV RX6 yX6_begin cX6_begin 1 (some .int) 0 := ⟨⟨gt_t 1166 (by decide +kernel) rfl, gt_t 6 (by decide +kernel) rfl, by decide +kernel⟩, gt_t 1164 (by decide +kernel) rfl, gt_t 1165 (by decide +kernel) rfl⟩
theorem lk_L_61 : Cond.methodLink RL 61 yX5_choose ∈ gt := gt_t 623 (by decide +kernel) rfl
theorem me_X5_choose : MEV RX5 yX5_choose cX5_choose 2 (some .int) 1 := ⟨⟨gt_t 626 (by decide +kernel) rfl, gt_t 1 (by decide +kernel) rfl, by decide +kernel⟩, gt_t 624 (by decide +kernel) rfl, gt_t 625 (by decide +kernel) rfl⟩
theorem lk_L_64 : Cond.methodLink RL 64 yX6_choose ∈ gt := gt_t 1179 (by decide +kernel) rfl
theorem me_X6_choose : MEV RX6 yX6_choose cX6_choose 3 (some .int) 1 := ⟨⟨gt_t 1182 (by decide +kernel) rfl, gt_t 6 (by decide +kernel) rfl, by decide +kernel⟩, gt_t 1180 (by decide +kernel) rfl, gt_t 1181 (by decide +kernel) rfl⟩
theorem lk_L_65 : Cond.methodLink RL 65 yX5_roll ∈ gt := gt_t 637 (by decide +kernel) rfl
theorem me_X5_roll : MEV RX5 yX5_roll cX5_roll 4 (some .int) 1 := ⟨⟨gt_t 640 (by decide +kernel) rfl, gt_t 1 (by decide +kernel) rfl, by decide +kernel⟩, gt_t 638 (by decide +kernel) rfl, gt_t 639 (by decide +kernel) rfl⟩
theorem lk_L_68 : Cond.methodLink RL 68 yX6_roll ∈ gt := gt_t 1187 (by decide +kernel) rfl
theorem me_X6_roll : MEV RX6 yX6_roll cX6_roll 2 (some .int) 1 := ⟨⟨gt_t 1190 (by decide +kernel) rfl, gt_t 6 (by decide +kernel) rfl, by decide +kernel⟩, gt_t 1188 (by decide +kernel) rfl, gt_t 1189 (by decide +kernel) rfl⟩
theorem lk_L_69 : Cond.methodLink RL 69 yX5_now ∈ gt := gt_t 655 (by decide +kernel) rfl
theorem me_X5_now : MEV RX5 yX5_now cX5_now 2 (some .int) 1 := ⟨⟨gt_t 658 (by decide +kernel) rfl, gt_t 1 (by decide +kernel) rfl, by decide +kernel⟩, gt_t 656 (by decide +kernel) rfl, gt_t 657 (by decide +kernel) rfl⟩
theorem lk_L_72 : Cond.methodLink RL 72 yX6_now ∈ gt := gt_t 1204 (by decide +kernel) rfl
theorem me_X6_now : MEV RX6 yX6_now cX6_now 2 (some .int) 1 := ⟨⟨gt_t 1207 (by decide +kernel) rfl, gt_t 6 (by decide +kernel) rfl, by decide +kernel⟩, gt_t 1205 (by decide +kernel) rfl, gt_t 1206 (by decide +kernel) rfl⟩
theorem lk_L_73 : Cond.methodLink RL 73 yX5_odds ∈ gt := gt_t 662 (by decide +kernel) rfl
theorem me_X5_odds : MEV RX5 yX5_odds cX5_odds 4 (some .int) 1 := ⟨⟨gt_t 665 (by decide +kernel) rfl, gt_t 1 (by decide +kernel) rfl, by decide +kernel⟩, gt_t 663 (by decide +kernel) rfl, gt_t 664 (by decide +kernel) rfl⟩
theorem lk_L_76 : Cond.methodLink RL 76 yX6_odds ∈ gt := gt_t 1213 (by decide +kernel) rfl
theorem me_X6_odds : MEV RX6 yX6_odds cX6_odds 3 (some .int) 1 := ⟨⟨gt_t 1216 (by decide +kernel) rfl, gt_t 6 (by decide +kernel) rfl, by decide +kernel⟩, gt_t 1214 (by decide +kernel) rfl, gt_t 1215 (by decide +kernel) rfl⟩
theorem lk_L_77 : Cond.methodLink RL 77 yX5_advice ∈ gt := gt_t 704 (by decide +kernel) rfl
theorem me_X5_advice : MEV RX5 yX5_advice cX5_advice 3 (some .int) 1 := ⟨⟨gt_t 707 (by decide +kernel) rfl, gt_t 1 (by decide +kernel) rfl, by decide +kernel⟩, gt_t 705 (by decide +kernel) rfl, gt_t 706 (by decide +kernel) rfl⟩
theorem lk_L_80 : Cond.methodLink RL 80 yX6_advice ∈ gt := gt_t 1239 (by decide +kernel) rfl
theorem me_X6_advice : MEV RX6 yX6_advice cX6_advice 7 (some .int) 1 := ⟨⟨gt_t 1242 (by decide +kernel) rfl, gt_t 6 (by decide +kernel) rfl, by decide +kernel⟩, gt_t 1240 (by decide +kernel) rfl, gt_t 1241 (by decide +kernel) rfl⟩
theorem lk_L_81 : Cond.methodLink RL 81 yX5_fewest ∈ gt := gt_t 714 (by decide +kernel) rfl
theorem me_X5_fewest : MEV RX5 yX5_fewest cX5_fewest 3 (some .int) 0 := ⟨⟨gt_t 717 (by decide +kernel) rfl, gt_t 1 (by decide +kernel) rfl, by decide +kernel⟩, gt_t 715 (by decide +kernel) rfl, gt_t 716 (by decide +kernel) rfl⟩
theorem lk_L_84 : Cond.methodLink RL 84 yX6_fewest ∈ gt := gt_t 1243 (by decide +kernel) rfl
theorem me_X6_fewest : MEV RX6 yX6_fewest cX6_fewest 4 (some .int) 0 := ⟨⟨gt_t 1246 (by decide +kernel) rfl, gt_t 6 (by decide +kernel) rfl, by decide +kernel⟩, gt_t 1244 (by decide +kernel) rfl, gt_t 1245 (by decide +kernel) rfl⟩
theorem lk_L_85 : Cond.methodLink RL 85 yX5_surely ∈ gt := gt_t 731 (by decide +kernel) rfl
theorem me_X5_surely : MEV RX5 yX5_surely cX5_surely 4 (some .int) 0 := ⟨⟨gt_t 734 (by decide +kernel) rfl, gt_t 1 (by decide +kernel) rfl, by decide +kernel⟩, gt_t 732 (by decide +kernel) rfl, gt_t 733 (by decide +kernel) rfl⟩
theorem lk_L_88 : Cond.methodLink RL 88 yX6_surely ∈ gt := gt_t 1247 (by decide +kernel) rfl
theorem me_X6_surely : MEV RX6 yX6_surely cX6_surely 4 (some .int) 0 := ⟨⟨gt_t 1250 (by decide +kernel) rfl, gt_t 6 (by decide +kernel) rfl, by decide +kernel⟩, gt_t 1248 (by decide +kernel) rfl, gt_t 1249 (by decide +kernel) rfl⟩
theorem lk_L_89 : Cond.methodLink RL 89 yX5_parts ∈ gt := gt_t 736 (by decide +kernel) rfl
theorem me_X5_parts : MEV RX5 yX5_parts cX5_parts 2 (some .int) 1 := ⟨⟨gt_t 739 (by decide +kernel) rfl, gt_t 1 (by decide +kernel) rfl, by decide +kernel⟩, gt_t 737 (by decide +kernel) rfl, gt_t 738 (by decide +kernel) rfl⟩
theorem lk_L_92 : Cond.methodLink RL 92 yX6_parts ∈ gt := gt_t 1259 (by decide +kernel) rfl
theorem me_X6_parts : MEV RX6 yX6_parts cX6_parts 2 (some .int) 1 := ⟨⟨gt_t 1262 (by decide +kernel) rfl, gt_t 6 (by decide +kernel) rfl, by decide +kernel⟩, gt_t 1260 (by decide +kernel) rfl, gt_t 1261 (by decide +kernel) rfl⟩
theorem lk_L_93 : Cond.methodLink RL 93 yX5_things ∈ gt := gt_t 753 (by decide +kernel) rfl
theorem me_X5_things : MEV RX5 yX5_things cX5_things 2 (some .int) 1 := ⟨⟨gt_t 756 (by decide +kernel) rfl, gt_t 1 (by decide +kernel) rfl, by decide +kernel⟩, gt_t 754 (by decide +kernel) rfl, gt_t 755 (by decide +kernel) rfl⟩
theorem lk_L_96 : Cond.methodLink RL 96 yX6_things ∈ gt := gt_t 1283 (by decide +kernel) rfl
theorem me_X6_things : MEV RX6 yX6_things cX6_things 6 (some .int) 1 := ⟨⟨gt_t 1286 (by decide +kernel) rfl, gt_t 6 (by decide +kernel) rfl, by decide +kernel⟩, gt_t 1284 (by decide +kernel) rfl, gt_t 1285 (by decide +kernel) rfl⟩
theorem lk_L_97 : Cond.methodLink RL 97 yX5_without ∈ gt := gt_t 766 (by decide +kernel) rfl
theorem me_X5_without : MEV RX5 yX5_without cX5_without 4 (some .int) 2 := ⟨⟨gt_t 769 (by decide +kernel) rfl, gt_t 1 (by decide +kernel) rfl, by decide +kernel⟩, gt_t 767 (by decide +kernel) rfl, gt_t 768 (by decide +kernel) rfl⟩
theorem lk_L_100 : Cond.methodLink RL 100 yX6_without ∈ gt := gt_t 1287 (by decide +kernel) rfl
theorem me_X6_without : MEV RX6 yX6_without cX6_without 4 (some .int) 2 := ⟨⟨gt_t 1290 (by decide +kernel) rfl, gt_t 6 (by decide +kernel) rfl, by decide +kernel⟩, gt_t 1288 (by decide +kernel) rfl, gt_t 1289 (by decide +kernel) rfl⟩
theorem lk_L_101 : Cond.methodLink RL 101 yX5_log ∈ gt := gt_t 771 (by decide +kernel) rfl
theorem me_X5_log : MEV RX5 yX5_log cX5_log 2 (some .int) 1 := ⟨⟨gt_t 774 (by decide +kernel) rfl, gt_t 1 (by decide +kernel) rfl, by decide +kernel⟩, gt_t 772 (by decide +kernel) rfl, gt_t 773 (by decide +kernel) rfl⟩
theorem lk_L_104 : Cond.methodLink RL 104 yX6_log ∈ gt := gt_t 1291 (by decide +kernel) rfl
theorem me_X6_log : MEV RX6 yX6_log cX6_log 2 (some .int) 1 := ⟨⟨gt_t 1294 (by decide +kernel) rfl, gt_t 6 (by decide +kernel) rfl, by decide +kernel⟩, gt_t 1292 (by decide +kernel) rfl, gt_t 1293 (by decide +kernel) rfl⟩
theorem lk_L_105 : Cond.methodLink RL 105 yX5_clear ∈ gt := gt_t 775 (by decide +kernel) rfl
theorem me_X5_clear : MEV RX5 yX5_clear cX5_clear 2 (some .int) 0 := ⟨⟨gt_t 778 (by decide +kernel) rfl, gt_t 1 (by decide +kernel) rfl, by decide +kernel⟩, gt_t 776 (by decide +kernel) rfl, gt_t 777 (by decide +kernel) rfl⟩
theorem lk_L_108 : Cond.methodLink RL 108 yX6_clear ∈ gt := gt_t 1295 (by decide +kernel) rfl
theorem me_X6_clear : MEV RX6 yX6_clear cX6_clear 2 (some .int) 0 := ⟨⟨gt_t 1298 (by decide +kernel) rfl, gt_t 6 (by decide +kernel) rfl, by decide +kernel⟩, gt_t 1296 (by decide +kernel) rfl, gt_t 1297 (by decide +kernel) rfl⟩
theorem lk_L_109 : Cond.methodLink RL 109 yX5_judge ∈ gt := gt_t 779 (by decide +kernel) rfl
theorem me_X5_judge : MEV RX5 yX5_judge cX5_judge 4 (some .int) 0 := ⟨⟨gt_t 782 (by decide +kernel) rfl, gt_t 1 (by decide +kernel) rfl, by decide +kernel⟩, gt_t 780 (by decide +kernel) rfl, gt_t 781 (by decide +kernel) rfl⟩
theorem lk_L_112 : Cond.methodLink RL 112 yX6_judge ∈ gt := gt_t 1299 (by decide +kernel) rfl
theorem me_X6_judge : MEV RX6 yX6_judge cX6_judge 4 (some .int) 0 := ⟨⟨gt_t 1302 (by decide +kernel) rfl, gt_t 6 (by decide +kernel) rfl, by decide +kernel⟩, gt_t 1300 (by decide +kernel) rfl, gt_t 1301 (by decide +kernel) rfl⟩
theorem lk_L_113 : Cond.methodLink RL 113 yX5_number ∈ gt := gt_t 789 (by decide +kernel) rfl
theorem me_X5_number : MEV RX5 yX5_number cX5_number 2 (some .int) 1 := ⟨⟨gt_t 792 (by decide +kernel) rfl, gt_t 1 (by decide +kernel) rfl, by decide +kernel⟩, gt_t 790 (by decide +kernel) rfl, gt_t 791 (by decide +kernel) rfl⟩
theorem lk_L_116 : Cond.methodLink RL 116 yX6_number ∈ gt := gt_t 1307 (by decide +kernel) rfl
theorem me_X6_number : MEV RX6 yX6_number cX6_number 2 (some .int) 1 := ⟨⟨gt_t 1310 (by decide +kernel) rfl, gt_t 6 (by decide +kernel) rfl, by decide +kernel⟩, gt_t 1308 (by decide +kernel) rfl, gt_t 1309 (by decide +kernel) rfl⟩
theorem lk_L_117 : Cond.methodLink RL 117 yX5_near ∈ gt := gt_t 793 (by decide +kernel) rfl
theorem me_X5_near : MEV RX5 yX5_near cX5_near 2 (some .int) 1 := ⟨⟨gt_t 796 (by decide +kernel) rfl, gt_t 1 (by decide +kernel) rfl, by decide +kernel⟩, gt_t 794 (by decide +kernel) rfl, gt_t 795 (by decide +kernel) rfl⟩
theorem lk_L_120 : Cond.methodLink RL 120 yX6_near ∈ gt := gt_t 1311 (by decide +kernel) rfl
theorem me_X6_near : MEV RX6 yX6_near cX6_near 2 (some .int) 1 := ⟨⟨gt_t 1314 (by decide +kernel) rfl, gt_t 6 (by decide +kernel) rfl, by decide +kernel⟩, gt_t 1312 (by decide +kernel) rfl, gt_t 1313 (by decide +kernel) rfl⟩
theorem lk_L_121 : Cond.methodLink RL 121 yX5_shuffle ∈ gt := gt_t 812 (by decide +kernel) rfl
theorem me_X5_shuffle : MEV RX5 yX5_shuffle cX5_shuffle 6 (some .int) 2 := ⟨⟨gt_t 815 (by decide +kernel) rfl, gt_t 1 (by decide +kernel) rfl, by decide +kernel⟩, gt_t 813 (by decide +kernel) rfl, gt_t 814 (by decide +kernel) rfl⟩
theorem lk_L_124 : Cond.methodLink RL 124 yX6_shuffle ∈ gt := gt_t 1324 (by decide +kernel) rfl
theorem me_X6_shuffle : MEV RX6 yX6_shuffle cX6_shuffle 8 (some .int) 2 := ⟨⟨gt_t 1327 (by decide +kernel) rfl, gt_t 6 (by decide +kernel) rfl, by decide +kernel⟩, gt_t 1325 (by decide +kernel) rfl, gt_t 1326 (by decide +kernel) rfl⟩
theorem lk_L_125 : Cond.methodLink RL 125 yX5_page ∈ gt := gt_t 821 (by decide +kernel) rfl
theorem me_X5_page : MEV RX5 yX5_page cX5_page 3 (some .int) 2 := ⟨⟨gt_t 824 (by decide +kernel) rfl, gt_t 1 (by decide +kernel) rfl, by decide +kernel⟩, gt_t 822 (by decide +kernel) rfl, gt_t 823 (by decide +kernel) rfl⟩
theorem lk_L_128 : Cond.methodLink RL 128 yX6_page ∈ gt := gt_t 1329 (by decide +kernel) rfl
theorem me_X6_page : MEV RX6 yX6_page cX6_page 3 (some .int) 2 := ⟨⟨gt_t 1332 (by decide +kernel) rfl, gt_t 6 (by decide +kernel) rfl, by decide +kernel⟩, gt_t 1330 (by decide +kernel) rfl, gt_t 1331 (by decide +kernel) rfl⟩
theorem lk_L_129 : Cond.methodLink RL 129 yX5_flips ∈ gt := gt_t 830 (by decide +kernel) rfl
theorem me_X5_flips : MEV RX5 yX5_flips cX5_flips 2 (some .int) 1 := ⟨⟨gt_t 833 (by decide +kernel) rfl, gt_t 1 (by decide +kernel) rfl, by decide +kernel⟩, gt_t 831 (by decide +kernel) rfl, gt_t 832 (by decide +kernel) rfl⟩
theorem lk_L_132 : Cond.methodLink RL 132 yX6_flips ∈ gt := gt_t 1341 (by decide +kernel) rfl
theorem me_X6_flips : MEV RX6 yX6_flips cX6_flips 7 (some .int) 1 := ⟨⟨gt_t 1344 (by decide +kernel) rfl, gt_t 6 (by decide +kernel) rfl, by decide +kernel⟩, gt_t 1342 (by decide +kernel) rfl, gt_t 1343 (by decide +kernel) rfl⟩
theorem lk_L_133 : Cond.methodLink RL 133 yX5_seed ∈ gt := gt_t 839 (by decide +kernel) rfl
theorem me_X5_seed : MEV RX5 yX5_seed cX5_seed 3 (some .int) 1 := ⟨⟨gt_t 842 (by decide +kernel) rfl, gt_t 1 (by decide +kernel) rfl, by decide +kernel⟩, gt_t 840 (by decide +kernel) rfl, gt_t 841 (by decide +kernel) rfl⟩
theorem lk_L_136 : Cond.methodLink RL 136 yX6_seed ∈ gt := gt_t 1345 (by decide +kernel) rfl
theorem me_X6_seed : MEV RX6 yX6_seed cX6_seed 3 (some .int) 1 := ⟨⟨gt_t 1348 (by decide +kernel) rfl, gt_t 6 (by decide +kernel) rfl, by decide +kernel⟩, gt_t 1346 (by decide +kernel) rfl, gt_t 1347 (by decide +kernel) rfl⟩
theorem lk_L_137 : Cond.methodLink RL 137 yX5_blind ∈ gt := gt_t 843 (by decide +kernel) rfl
theorem me_X5_blind : MEV RX5 yX5_blind cX5_blind 4 (some .int) 1 := ⟨⟨gt_t 846 (by decide +kernel) rfl, gt_t 1 (by decide +kernel) rfl, by decide +kernel⟩, gt_t 844 (by decide +kernel) rfl, gt_t 845 (by decide +kernel) rfl⟩
theorem lk_L_140 : Cond.methodLink RL 140 yX6_blind ∈ gt := gt_t 1349 (by decide +kernel) rfl
theorem me_X6_blind : MEV RX6 yX6_blind cX6_blind 4 (some .int) 1 := ⟨⟨gt_t 1352 (by decide +kernel) rfl, gt_t 6 (by decide +kernel) rfl, by decide +kernel⟩, gt_t 1350 (by decide +kernel) rfl, gt_t 1351 (by decide +kernel) rfl⟩
theorem lk_L_141 : Cond.methodLink RL 141 yX5_keep ∈ gt := gt_t 865 (by decide +kernel) rfl
theorem me_X5_keep : MEV RX5 yX5_keep cX5_keep 2 (some .int) 1 := ⟨⟨gt_t 868 (by decide +kernel) rfl, gt_t 1 (by decide +kernel) rfl, by decide +kernel⟩, gt_t 866 (by decide +kernel) rfl, gt_t 867 (by decide +kernel) rfl⟩
theorem lk_L_144 : Cond.methodLink RL 144 yX6_keep ∈ gt := gt_t 1365 (by decide +kernel) rfl
theorem me_X6_keep : MEV RX6 yX6_keep cX6_keep 2 (some .int) 1 := ⟨⟨gt_t 1368 (by decide +kernel) rfl, gt_t 6 (by decide +kernel) rfl, by decide +kernel⟩, gt_t 1366 (by decide +kernel) rfl, gt_t 1367 (by decide +kernel) rfl⟩
theorem lk_L_145 : Cond.methodLink RL 145 yX5_goBack ∈ gt := gt_t 874 (by decide +kernel) rfl
theorem me_X5_goBack : MEV RX5 yX5_goBack cX5_goBack 2 (some .int) 1 := ⟨⟨gt_t 877 (by decide +kernel) rfl, gt_t 1 (by decide +kernel) rfl, by decide +kernel⟩, gt_t 875 (by decide +kernel) rfl, gt_t 876 (by decide +kernel) rfl⟩
theorem lk_L_148 : Cond.methodLink RL 148 yX6_goBack ∈ gt := gt_t 1373 (by decide +kernel) rfl
theorem me_X6_goBack : MEV RX6 yX6_goBack cX6_goBack 2 (some .int) 1 := ⟨⟨gt_t 1376 (by decide +kernel) rfl, gt_t 6 (by decide +kernel) rfl, by decide +kernel⟩, gt_t 1374 (by decide +kernel) rfl, gt_t 1375 (by decide +kernel) rfl⟩
theorem sc_in {i SL : Nat} (j : Nat) (hj : j < 5) (hi : i + 5 ≤ SL) (hS : SL ≤ 2560) : inb (nI i + nI j) SL = true := by
  rw [nI_add]
  have : (nI (i + j)).toInt = ((i + j : Nat) : Int) := nI_toInt (by omega)
  simp [inb, this]
  omega
def ST_feed (RL : (Nat → Nat) → Dt → Dt → Nat → Nat → Prop) : Prop := ∀ (L : Nat → Nat) (d dm : Dt) (k n : Nat) (p1 : Int32) (p2 : Int64), RL L d dm k n → ∃ (r : Int32) (d' : Dt) (dm' : Dt), t_X5_feed L d p1 p2 = some (r, d') ∧ t_X6_feed LM dm p1 p2 = some (r, dm') ∧ RL L d' dm' k n
set_option maxRecDepth 20000 in
theorem lw_0 {RL : (Nat → Nat) → Dt → Dt → Nat → Nat → Prop} (hB : ∀ L d dm k n, RL L d dm k n → k ≤ 600000 ∧ n ≤ 7302250) (hS : ST_feed RL) {K : Kx} {Y M : Yx} {b SL i k n : Nat} {xs : Nat → Int32} {L ad : Nat → Nat} {zm : Sh} {d dm : Dt} (hC : CW K Y M b SL xs) (hx : (0, 0, 4) ∈ yI Y) (hm : (0, 0, 5) ∈ yI M) (hzm : LM = zm.1) (hi : i + 5 ≤ SL) (hR : RL L d dm k n) (hk : ∀ L ad d dm k n, RL L d dm k n → VW K Y M k n (L, ad) d zm dm 1002 [(3, .int (nI i)), (0, .ref b), (1, .ref (yo Y 0)), (2, .ref (yo M 0))] []) : VW K Y M k n (L, ad) d zm dm 176 [(3, .int (nI i)), (0, .ref b), (1, .ref (yo Y 0)), (2, .ref (yo M 0))] [] := by
  have h1 : inb (nI i + 1) SL = true := sc_in 1 (by decide) hi hC.2.2.2.2.2.2.2
  have h2 : inb (nI i + 2) SL = true := sc_in 2 (by decide) hi hC.2.2.2.2.2.2.2
  have h3 : inb (nI i + 3) SL = true := sc_in 3 (by decide) hi hC.2.2.2.2.2.2.2
  obtain ⟨r, d', dm', e1, e2, hR2⟩ := hS L d dm k n (xs (ix (nI i + 1))) (((xs (ix (nI i + 2))).toInt64 <<< ((32 : Int32).toInt64 &&& 63)) ||| ((xs (ix (nI i + 3))).toInt64 &&& 4294967295)) hR
  refine VW_aload_n 2 hC dL_law_176 rfl rfl ?_
  refine VW_aload_n 1 hC dL_law_177 rfl rfl ?_
  refine VW_iload_n 0 hC dL_law_178 rfl rfl ?_
  refine VW_iconst (v := 1) hC dL_law_179 rfl ?_
  refine VW_iadd hC dL_law_180 ?_
  refine VW_sld hC (h1) dL_law_181 ?_
  refine VW_aload_n 1 hC dL_law_182 rfl rfl ?_
  refine VW_iload_n 0 hC dL_law_183 rfl rfl ?_
  refine VW_iconst (v := 2) hC dL_law_184 rfl ?_
  refine VW_iadd hC dL_law_185 ?_
  refine VW_sld hC (h2) dL_law_186 ?_
  refine VW_i2l hC dL_law_187 ?_
  refine VW_bipush (v := 32) hC dL_law_188 rfl ?_
  refine VW_lshl hC dL_law_190 ?_
  refine VW_aload_n 1 hC dL_law_191 rfl rfl ?_
  refine VW_iload_n 0 hC dL_law_192 rfl rfl ?_
  refine VW_iconst (v := 3) hC dL_law_193 rfl ?_
  refine VW_iadd hC dL_law_194 ?_
  refine VW_sld hC (h3) dL_law_195 ?_
  refine VW_i2l hC dL_law_196 ?_
  refine VW_ldc2 hC cl_L_13 dL_law_197 ?_
  refine VW_land hC dL_law_200 ?_
  refine VW_lor hC dL_law_201 ?_
  refine VW_x (o := 0) (As := [.int (xs (ix (nI i + 1))), .long (((xs (ix (nI i + 2))).toInt64 <<< ((32 : Int32).toInt64 &&& 63)) ||| ((xs (ix (nI i + 3))).toInt64 &&& 4294967295))]) (rest := []) hC (c_X5_feed hC.1.2.2.2.2.2.2.1 hx e1) me_X5_feed lk_L_15 hx rfl rfl rfl (Nat.le_of_ble_eq_true rfl) ⟨by decide, by decide⟩ (hB _ _ _ _ _ hR) dL_law_202 ?_
  refine VW_aload_n 3 hC dL_law_205 rfl rfl ?_
  refine VW_aload_n 1 hC dL_law_206 rfl rfl ?_
  refine VW_iload_n 0 hC dL_law_207 rfl rfl ?_
  refine VW_iconst (v := 1) hC dL_law_208 rfl ?_
  refine VW_iadd hC dL_law_209 ?_
  refine VW_sld hC (h1) dL_law_210 ?_
  refine VW_aload_n 1 hC dL_law_211 rfl rfl ?_
  refine VW_iload_n 0 hC dL_law_212 rfl rfl ?_
  refine VW_iconst (v := 2) hC dL_law_213 rfl ?_
  refine VW_iadd hC dL_law_214 ?_
  refine VW_sld hC (h2) dL_law_215 ?_
  refine VW_i2l hC dL_law_216 ?_
  refine VW_bipush (v := 32) hC dL_law_217 rfl ?_
  refine VW_lshl hC dL_law_219 ?_
  refine VW_aload_n 1 hC dL_law_220 rfl rfl ?_
  refine VW_iload_n 0 hC dL_law_221 rfl rfl ?_
  refine VW_iconst (v := 3) hC dL_law_222 rfl ?_
  refine VW_iadd hC dL_law_223 ?_
  refine VW_sld hC (h3) dL_law_224 ?_
  refine VW_i2l hC dL_law_225 ?_
  refine VW_ldc2 hC cl_L_13 dL_law_226 ?_
  refine VW_land hC dL_law_229 ?_
  refine VW_lor hC dL_law_230 ?_
  refine VW_m (o := 0) (As := [.int (xs (ix (nI i + 1))), .long (((xs (ix (nI i + 2))).toInt64 <<< ((32 : Int32).toInt64 &&& 63)) ||| ((xs (ix (nI i + 3))).toInt64 &&& 4294967295))]) (rest := [.int r]) hC (c_X6_feed (z := zm) hC.2.1.2.2.2.2.2.2.1 hm (hzm ▸ e2)) me_X6_feed lk_L_19 hm rfl rfl rfl (Nat.le_of_ble_eq_true rfl) ⟨by decide, by decide⟩ (hB _ _ _ _ _ hR) dL_law_231 ?_
  refine VW_icmp_eq (tgt := 1002) hC dL_law_234 (by decide) rfl ?_
  exact hk _ _ _ _ _ _ hR2
def ST_book (RL : (Nat → Nat) → Dt → Dt → Nat → Nat → Prop) : Prop := ∀ (L : Nat → Nat) (d dm : Dt) (k n : Nat) , RL L d dm k n → ∃ (r : Int32) (d' : Dt) (dm' : Dt), t_X5_book L d  = some (r, d') ∧ t_X6_book LM dm  = some (r, dm') ∧ RL L d' dm' k n
set_option maxRecDepth 20000 in
theorem lw_1 {RL : (Nat → Nat) → Dt → Dt → Nat → Nat → Prop} (hB : ∀ L d dm k n, RL L d dm k n → k ≤ 600000 ∧ n ≤ 7302250) (hS : ST_book RL) {K : Kx} {Y M : Yx} {b SL i k n : Nat} {xs : Nat → Int32} {L ad : Nat → Nat} {zm : Sh} {d dm : Dt} (hC : CW K Y M b SL xs) (hx : (0, 0, 4) ∈ yI Y) (hm : (0, 0, 5) ∈ yI M) (hzm : LM = zm.1) (hi : i + 5 ≤ SL) (hR : RL L d dm k n) (hk : ∀ L ad d dm k n, RL L d dm k n → VW K Y M k n (L, ad) d zm dm 1002 [(3, .int (nI i)), (0, .ref b), (1, .ref (yo Y 0)), (2, .ref (yo M 0))] []) : VW K Y M k n (L, ad) d zm dm 239 [(3, .int (nI i)), (0, .ref b), (1, .ref (yo Y 0)), (2, .ref (yo M 0))] [] := by
  obtain ⟨r, d', dm', e1, e2, hR2⟩ := hS L d dm k n  hR
  refine VW_aload_n 2 hC dL_law_239 rfl rfl ?_
  refine VW_x (o := 0) (As := []) (rest := []) hC (c_X5_book hC.1.2.2.2.2.2.2.1 hx e1) me_X5_book lk_L_20 hx rfl rfl rfl (Nat.le_of_ble_eq_true rfl) ⟨by decide, by decide⟩ (hB _ _ _ _ _ hR) dL_law_240 ?_
  refine VW_aload_n 3 hC dL_law_243 rfl rfl ?_
  refine VW_m (o := 0) (As := []) (rest := [.int r]) hC (c_X6_book (z := zm) hC.2.1.2.2.2.2.2.2.1 hm (hzm ▸ e2)) me_X6_book lk_L_24 hm rfl rfl rfl (Nat.le_of_ble_eq_true rfl) ⟨by decide, by decide⟩ (hB _ _ _ _ _ hR) dL_law_244 ?_
  refine VW_icmp_eq (tgt := 1002) hC dL_law_247 (by decide) rfl ?_
  exact hk _ _ _ _ _ _ hR2
def ST_fault (RL : (Nat → Nat) → Dt → Dt → Nat → Nat → Prop) : Prop := ∀ (L : Nat → Nat) (d dm : Dt) (k n : Nat) , RL L d dm k n → ∃ (r : Int32), t_X5_fault L d  = some r ∧ t_X6_fault LM dm  = some r ∧ RL L d dm k n
set_option maxRecDepth 20000 in
theorem lw_2 {RL : (Nat → Nat) → Dt → Dt → Nat → Nat → Prop} (hB : ∀ L d dm k n, RL L d dm k n → k ≤ 600000 ∧ n ≤ 7302250) (hS : ST_fault RL) {K : Kx} {Y M : Yx} {b SL i k n : Nat} {xs : Nat → Int32} {L ad : Nat → Nat} {zm : Sh} {d dm : Dt} (hC : CW K Y M b SL xs) (hx : (0, 0, 4) ∈ yI Y) (hm : (0, 0, 5) ∈ yI M) (hzm : LM = zm.1) (hi : i + 5 ≤ SL) (hR : RL L d dm k n) (hk : ∀ L ad d dm k n, RL L d dm k n → VW K Y M k n (L, ad) d zm dm 1002 [(3, .int (nI i)), (0, .ref b), (1, .ref (yo Y 0)), (2, .ref (yo M 0))] []) : VW K Y M k n (L, ad) d zm dm 252 [(3, .int (nI i)), (0, .ref b), (1, .ref (yo Y 0)), (2, .ref (yo M 0))] [] := by
  obtain ⟨r, e1, e2, hR2⟩ := hS L d dm k n  hR
  refine VW_aload_n 2 hC dL_law_252 rfl rfl ?_
  refine VW_x (o := 0) (As := []) (rest := []) hC (c_X5_fault hC.1.2.2.2.2.2.2.1 hx e1) me_X5_fault lk_L_25 hx rfl rfl rfl (Nat.le_of_ble_eq_true rfl) ⟨by decide, by decide⟩ (hB _ _ _ _ _ hR) dL_law_253 ?_
  refine VW_aload_n 3 hC dL_law_256 rfl rfl ?_
  refine VW_m (o := 0) (As := []) (rest := [.int r]) hC (c_X6_fault (z := zm) hC.2.1.2.2.2.2.2.2.1 hm (hzm ▸ e2)) me_X6_fault lk_L_28 hm rfl rfl rfl (Nat.le_of_ble_eq_true rfl) ⟨by decide, by decide⟩ (hB _ _ _ _ _ hR) dL_law_257 ?_
  refine VW_icmp_eq (tgt := 1002) hC dL_law_260 (by decide) rfl ?_
  exact hk _ _ _ _ _ _ hR2
def ST_part (RL : (Nat → Nat) → Dt → Dt → Nat → Nat → Prop) : Prop := ∀ (L : Nat → Nat) (d dm : Dt) (k n : Nat) (p1 : Int32) (p2 : Int32), RL L d dm k n → ∃ (r : Int32), t_X5_part L d p1 p2 = some r ∧ t_X6_part LM dm p1 p2 = some r ∧ RL L d dm k n
set_option maxRecDepth 20000 in
theorem lw_3 {RL : (Nat → Nat) → Dt → Dt → Nat → Nat → Prop} (hB : ∀ L d dm k n, RL L d dm k n → k ≤ 600000 ∧ n ≤ 7302250) (hS : ST_part RL) {K : Kx} {Y M : Yx} {b SL i k n : Nat} {xs : Nat → Int32} {L ad : Nat → Nat} {zm : Sh} {d dm : Dt} (hC : CW K Y M b SL xs) (hx : (0, 0, 4) ∈ yI Y) (hm : (0, 0, 5) ∈ yI M) (hzm : LM = zm.1) (hi : i + 5 ≤ SL) (hR : RL L d dm k n) (hk : ∀ L ad d dm k n, RL L d dm k n → VW K Y M k n (L, ad) d zm dm 1002 [(3, .int (nI i)), (0, .ref b), (1, .ref (yo Y 0)), (2, .ref (yo M 0))] []) : VW K Y M k n (L, ad) d zm dm 265 [(3, .int (nI i)), (0, .ref b), (1, .ref (yo Y 0)), (2, .ref (yo M 0))] [] := by
  have h1 : inb (nI i + 1) SL = true := sc_in 1 (by decide) hi hC.2.2.2.2.2.2.2
  have h2 : inb (nI i + 2) SL = true := sc_in 2 (by decide) hi hC.2.2.2.2.2.2.2
  obtain ⟨r, e1, e2, hR2⟩ := hS L d dm k n (xs (ix (nI i + 1))) (xs (ix (nI i + 2))) hR
  refine VW_aload_n 2 hC dL_law_265 rfl rfl ?_
  refine VW_aload_n 1 hC dL_law_266 rfl rfl ?_
  refine VW_iload_n 0 hC dL_law_267 rfl rfl ?_
  refine VW_iconst (v := 1) hC dL_law_268 rfl ?_
  refine VW_iadd hC dL_law_269 ?_
  refine VW_sld hC (h1) dL_law_270 ?_
  refine VW_aload_n 1 hC dL_law_271 rfl rfl ?_
  refine VW_iload_n 0 hC dL_law_272 rfl rfl ?_
  refine VW_iconst (v := 2) hC dL_law_273 rfl ?_
  refine VW_iadd hC dL_law_274 ?_
  refine VW_sld hC (h2) dL_law_275 ?_
  refine VW_x (o := 0) (As := [.int (xs (ix (nI i + 1))), .int (xs (ix (nI i + 2)))]) (rest := []) hC (c_X5_part hC.1.2.2.2.2.2.2.1 hx e1) me_X5_part lk_L_29 hx rfl rfl rfl (Nat.le_of_ble_eq_true rfl) ⟨by decide, by decide⟩ (hB _ _ _ _ _ hR) dL_law_276 ?_
  refine VW_aload_n 3 hC dL_law_279 rfl rfl ?_
  refine VW_aload_n 1 hC dL_law_280 rfl rfl ?_
  refine VW_iload_n 0 hC dL_law_281 rfl rfl ?_
  refine VW_iconst (v := 1) hC dL_law_282 rfl ?_
  refine VW_iadd hC dL_law_283 ?_
  refine VW_sld hC (h1) dL_law_284 ?_
  refine VW_aload_n 1 hC dL_law_285 rfl rfl ?_
  refine VW_iload_n 0 hC dL_law_286 rfl rfl ?_
  refine VW_iconst (v := 2) hC dL_law_287 rfl ?_
  refine VW_iadd hC dL_law_288 ?_
  refine VW_sld hC (h2) dL_law_289 ?_
  refine VW_m (o := 0) (As := [.int (xs (ix (nI i + 1))), .int (xs (ix (nI i + 2)))]) (rest := [.int r]) hC (c_X6_part (z := zm) hC.2.1.2.2.2.2.2.2.1 hm (hzm ▸ e2)) me_X6_part lk_L_33 hm rfl rfl rfl (Nat.le_of_ble_eq_true rfl) ⟨by decide, by decide⟩ (hB _ _ _ _ _ hR) dL_law_290 ?_
  refine VW_icmp_eq (tgt := 1002) hC dL_law_293 (by decide) rfl ?_
  exact hk _ _ _ _ _ _ hR2
def ST_effect (RL : (Nat → Nat) → Dt → Dt → Nat → Nat → Prop) : Prop := ∀ (L : Nat → Nat) (d dm : Dt) (k n : Nat) (p1 : Int32) (p2 : Int32) (p3 : Int32), RL L d dm k n → ∃ (r : Int32), t_X5_effect L d p1 p2 p3 = some r ∧ t_X6_effect LM dm p1 p2 p3 = some r ∧ RL L d dm k n
set_option maxRecDepth 20000 in
theorem lw_4 {RL : (Nat → Nat) → Dt → Dt → Nat → Nat → Prop} (hB : ∀ L d dm k n, RL L d dm k n → k ≤ 600000 ∧ n ≤ 7302250) (hS : ST_effect RL) {K : Kx} {Y M : Yx} {b SL i k n : Nat} {xs : Nat → Int32} {L ad : Nat → Nat} {zm : Sh} {d dm : Dt} (hC : CW K Y M b SL xs) (hx : (0, 0, 4) ∈ yI Y) (hm : (0, 0, 5) ∈ yI M) (hzm : LM = zm.1) (hi : i + 5 ≤ SL) (hR : RL L d dm k n) (hk : ∀ L ad d dm k n, RL L d dm k n → VW K Y M k n (L, ad) d zm dm 1002 [(3, .int (nI i)), (0, .ref b), (1, .ref (yo Y 0)), (2, .ref (yo M 0))] []) : VW K Y M k n (L, ad) d zm dm 298 [(3, .int (nI i)), (0, .ref b), (1, .ref (yo Y 0)), (2, .ref (yo M 0))] [] := by
  have h1 : inb (nI i + 1) SL = true := sc_in 1 (by decide) hi hC.2.2.2.2.2.2.2
  have h2 : inb (nI i + 2) SL = true := sc_in 2 (by decide) hi hC.2.2.2.2.2.2.2
  have h3 : inb (nI i + 3) SL = true := sc_in 3 (by decide) hi hC.2.2.2.2.2.2.2
  obtain ⟨r, e1, e2, hR2⟩ := hS L d dm k n (xs (ix (nI i + 1))) (xs (ix (nI i + 2))) (xs (ix (nI i + 3))) hR
  refine VW_aload_n 2 hC dL_law_298 rfl rfl ?_
  refine VW_aload_n 1 hC dL_law_299 rfl rfl ?_
  refine VW_iload_n 0 hC dL_law_300 rfl rfl ?_
  refine VW_iconst (v := 1) hC dL_law_301 rfl ?_
  refine VW_iadd hC dL_law_302 ?_
  refine VW_sld hC (h1) dL_law_303 ?_
  refine VW_aload_n 1 hC dL_law_304 rfl rfl ?_
  refine VW_iload_n 0 hC dL_law_305 rfl rfl ?_
  refine VW_iconst (v := 2) hC dL_law_306 rfl ?_
  refine VW_iadd hC dL_law_307 ?_
  refine VW_sld hC (h2) dL_law_308 ?_
  refine VW_aload_n 1 hC dL_law_309 rfl rfl ?_
  refine VW_iload_n 0 hC dL_law_310 rfl rfl ?_
  refine VW_iconst (v := 3) hC dL_law_311 rfl ?_
  refine VW_iadd hC dL_law_312 ?_
  refine VW_sld hC (h3) dL_law_313 ?_
  refine VW_x (o := 0) (As := [.int (xs (ix (nI i + 1))), .int (xs (ix (nI i + 2))), .int (xs (ix (nI i + 3)))]) (rest := []) hC (c_X5_effect hC.1.2.2.2.2.2.2.1 hx e1) me_X5_effect lk_L_34 hx rfl rfl rfl (Nat.le_of_ble_eq_true rfl) ⟨by decide, by decide⟩ (hB _ _ _ _ _ hR) dL_law_314 ?_
  refine VW_aload_n 3 hC dL_law_317 rfl rfl ?_
  refine VW_aload_n 1 hC dL_law_318 rfl rfl ?_
  refine VW_iload_n 0 hC dL_law_319 rfl rfl ?_
  refine VW_iconst (v := 1) hC dL_law_320 rfl ?_
  refine VW_iadd hC dL_law_321 ?_
  refine VW_sld hC (h1) dL_law_322 ?_
  refine VW_aload_n 1 hC dL_law_323 rfl rfl ?_
  refine VW_iload_n 0 hC dL_law_324 rfl rfl ?_
  refine VW_iconst (v := 2) hC dL_law_325 rfl ?_
  refine VW_iadd hC dL_law_326 ?_
  refine VW_sld hC (h2) dL_law_327 ?_
  refine VW_aload_n 1 hC dL_law_328 rfl rfl ?_
  refine VW_iload_n 0 hC dL_law_329 rfl rfl ?_
  refine VW_iconst (v := 3) hC dL_law_330 rfl ?_
  refine VW_iadd hC dL_law_331 ?_
  refine VW_sld hC (h3) dL_law_332 ?_
  refine VW_m (o := 0) (As := [.int (xs (ix (nI i + 1))), .int (xs (ix (nI i + 2))), .int (xs (ix (nI i + 3)))]) (rest := [.int r]) hC (c_X6_effect (z := zm) hC.2.1.2.2.2.2.2.2.1 hm (hzm ▸ e2)) me_X6_effect lk_L_38 hm rfl rfl rfl (Nat.le_of_ble_eq_true rfl) ⟨by decide, by decide⟩ (hB _ _ _ _ _ hR) dL_law_333 ?_
  refine VW_icmp_eq (tgt := 1002) hC dL_law_336 (by decide) rfl ?_
  exact hk _ _ _ _ _ _ hR2
def ST_choice (RL : (Nat → Nat) → Dt → Dt → Nat → Nat → Prop) : Prop := ∀ (L : Nat → Nat) (d dm : Dt) (k n : Nat) (p1 : Int32) (p2 : Int32) (p3 : Int32), RL L d dm k n → ∃ (r : Int32), t_X5_choice L d p1 p2 p3 = some r ∧ t_X6_choice LM dm p1 p2 p3 = some r ∧ RL L d dm k n
set_option maxRecDepth 20000 in
theorem lw_5 {RL : (Nat → Nat) → Dt → Dt → Nat → Nat → Prop} (hB : ∀ L d dm k n, RL L d dm k n → k ≤ 600000 ∧ n ≤ 7302250) (hS : ST_choice RL) {K : Kx} {Y M : Yx} {b SL i k n : Nat} {xs : Nat → Int32} {L ad : Nat → Nat} {zm : Sh} {d dm : Dt} (hC : CW K Y M b SL xs) (hx : (0, 0, 4) ∈ yI Y) (hm : (0, 0, 5) ∈ yI M) (hzm : LM = zm.1) (hi : i + 5 ≤ SL) (hR : RL L d dm k n) (hk : ∀ L ad d dm k n, RL L d dm k n → VW K Y M k n (L, ad) d zm dm 1002 [(3, .int (nI i)), (0, .ref b), (1, .ref (yo Y 0)), (2, .ref (yo M 0))] []) : VW K Y M k n (L, ad) d zm dm 341 [(3, .int (nI i)), (0, .ref b), (1, .ref (yo Y 0)), (2, .ref (yo M 0))] [] := by
  have h1 : inb (nI i + 1) SL = true := sc_in 1 (by decide) hi hC.2.2.2.2.2.2.2
  have h2 : inb (nI i + 2) SL = true := sc_in 2 (by decide) hi hC.2.2.2.2.2.2.2
  have h3 : inb (nI i + 3) SL = true := sc_in 3 (by decide) hi hC.2.2.2.2.2.2.2
  obtain ⟨r, e1, e2, hR2⟩ := hS L d dm k n (xs (ix (nI i + 1))) (xs (ix (nI i + 2))) (xs (ix (nI i + 3))) hR
  refine VW_aload_n 2 hC dL_law_341 rfl rfl ?_
  refine VW_aload_n 1 hC dL_law_342 rfl rfl ?_
  refine VW_iload_n 0 hC dL_law_343 rfl rfl ?_
  refine VW_iconst (v := 1) hC dL_law_344 rfl ?_
  refine VW_iadd hC dL_law_345 ?_
  refine VW_sld hC (h1) dL_law_346 ?_
  refine VW_aload_n 1 hC dL_law_347 rfl rfl ?_
  refine VW_iload_n 0 hC dL_law_348 rfl rfl ?_
  refine VW_iconst (v := 2) hC dL_law_349 rfl ?_
  refine VW_iadd hC dL_law_350 ?_
  refine VW_sld hC (h2) dL_law_351 ?_
  refine VW_aload_n 1 hC dL_law_352 rfl rfl ?_
  refine VW_iload_n 0 hC dL_law_353 rfl rfl ?_
  refine VW_iconst (v := 3) hC dL_law_354 rfl ?_
  refine VW_iadd hC dL_law_355 ?_
  refine VW_sld hC (h3) dL_law_356 ?_
  refine VW_x (o := 0) (As := [.int (xs (ix (nI i + 1))), .int (xs (ix (nI i + 2))), .int (xs (ix (nI i + 3)))]) (rest := []) hC (c_X5_choice hC.1.2.2.2.2.2.2.1 hx e1) me_X5_choice lk_L_39 hx rfl rfl rfl (Nat.le_of_ble_eq_true rfl) ⟨by decide, by decide⟩ (hB _ _ _ _ _ hR) dL_law_357 ?_
  refine VW_aload_n 3 hC dL_law_360 rfl rfl ?_
  refine VW_aload_n 1 hC dL_law_361 rfl rfl ?_
  refine VW_iload_n 0 hC dL_law_362 rfl rfl ?_
  refine VW_iconst (v := 1) hC dL_law_363 rfl ?_
  refine VW_iadd hC dL_law_364 ?_
  refine VW_sld hC (h1) dL_law_365 ?_
  refine VW_aload_n 1 hC dL_law_366 rfl rfl ?_
  refine VW_iload_n 0 hC dL_law_367 rfl rfl ?_
  refine VW_iconst (v := 2) hC dL_law_368 rfl ?_
  refine VW_iadd hC dL_law_369 ?_
  refine VW_sld hC (h2) dL_law_370 ?_
  refine VW_aload_n 1 hC dL_law_371 rfl rfl ?_
  refine VW_iload_n 0 hC dL_law_372 rfl rfl ?_
  refine VW_iconst (v := 3) hC dL_law_373 rfl ?_
  refine VW_iadd hC dL_law_374 ?_
  refine VW_sld hC (h3) dL_law_375 ?_
  refine VW_m (o := 0) (As := [.int (xs (ix (nI i + 1))), .int (xs (ix (nI i + 2))), .int (xs (ix (nI i + 3)))]) (rest := [.int r]) hC (c_X6_choice (z := zm) hC.2.1.2.2.2.2.2.2.1 hm (hzm ▸ e2)) me_X6_choice lk_L_42 hm rfl rfl rfl (Nat.le_of_ble_eq_true rfl) ⟨by decide, by decide⟩ (hB _ _ _ _ _ hR) dL_law_376 ?_
  refine VW_icmp_eq (tgt := 1002) hC dL_law_379 (by decide) rfl ?_
  exact hk _ _ _ _ _ _ hR2
def ST_link (RL : (Nat → Nat) → Dt → Dt → Nat → Nat → Prop) : Prop := ∀ (L : Nat → Nat) (d dm : Dt) (k n : Nat) (p1 : Int32) (p2 : Int32) (p3 : Int32) (p4 : Int32), RL L d dm k n → ∃ (r : Int32) (d' : Dt) (dm' : Dt), t_X5_link L d p1 p2 p3 p4 = some (r, d') ∧ t_X6_link LM dm p1 p2 p3 p4 = some (r, dm') ∧ RL L d' dm' k n
set_option maxRecDepth 20000 in
theorem lw_6 {RL : (Nat → Nat) → Dt → Dt → Nat → Nat → Prop} (hB : ∀ L d dm k n, RL L d dm k n → k ≤ 600000 ∧ n ≤ 7302250) (hS : ST_link RL) {K : Kx} {Y M : Yx} {b SL i k n : Nat} {xs : Nat → Int32} {L ad : Nat → Nat} {zm : Sh} {d dm : Dt} (hC : CW K Y M b SL xs) (hx : (0, 0, 4) ∈ yI Y) (hm : (0, 0, 5) ∈ yI M) (hzm : LM = zm.1) (hi : i + 5 ≤ SL) (hR : RL L d dm k n) (hk : ∀ L ad d dm k n, RL L d dm k n → VW K Y M k n (L, ad) d zm dm 1002 [(3, .int (nI i)), (0, .ref b), (1, .ref (yo Y 0)), (2, .ref (yo M 0))] []) : VW K Y M k n (L, ad) d zm dm 384 [(3, .int (nI i)), (0, .ref b), (1, .ref (yo Y 0)), (2, .ref (yo M 0))] [] := by
  have h1 : inb (nI i + 1) SL = true := sc_in 1 (by decide) hi hC.2.2.2.2.2.2.2
  have h2 : inb (nI i + 2) SL = true := sc_in 2 (by decide) hi hC.2.2.2.2.2.2.2
  have h3 : inb (nI i + 3) SL = true := sc_in 3 (by decide) hi hC.2.2.2.2.2.2.2
  have h4 : inb (nI i + 4) SL = true := sc_in 4 (by decide) hi hC.2.2.2.2.2.2.2
  obtain ⟨r, d', dm', e1, e2, hR2⟩ := hS L d dm k n (xs (ix (nI i + 1))) (xs (ix (nI i + 2))) (xs (ix (nI i + 3))) (xs (ix (nI i + 4))) hR
  refine VW_aload_n 2 hC dL_law_384 rfl rfl ?_
  refine VW_aload_n 1 hC dL_law_385 rfl rfl ?_
  refine VW_iload_n 0 hC dL_law_386 rfl rfl ?_
  refine VW_iconst (v := 1) hC dL_law_387 rfl ?_
  refine VW_iadd hC dL_law_388 ?_
  refine VW_sld hC (h1) dL_law_389 ?_
  refine VW_aload_n 1 hC dL_law_390 rfl rfl ?_
  refine VW_iload_n 0 hC dL_law_391 rfl rfl ?_
  refine VW_iconst (v := 2) hC dL_law_392 rfl ?_
  refine VW_iadd hC dL_law_393 ?_
  refine VW_sld hC (h2) dL_law_394 ?_
  refine VW_aload_n 1 hC dL_law_395 rfl rfl ?_
  refine VW_iload_n 0 hC dL_law_396 rfl rfl ?_
  refine VW_iconst (v := 3) hC dL_law_397 rfl ?_
  refine VW_iadd hC dL_law_398 ?_
  refine VW_sld hC (h3) dL_law_399 ?_
  refine VW_aload_n 1 hC dL_law_400 rfl rfl ?_
  refine VW_iload_n 0 hC dL_law_401 rfl rfl ?_
  refine VW_iconst (v := 4) hC dL_law_402 rfl ?_
  refine VW_iadd hC dL_law_403 ?_
  refine VW_sld hC (h4) dL_law_404 ?_
  refine VW_x (o := 0) (As := [.int (xs (ix (nI i + 1))), .int (xs (ix (nI i + 2))), .int (xs (ix (nI i + 3))), .int (xs (ix (nI i + 4)))]) (rest := []) hC (c_X5_link hC.1.2.2.2.2.2.2.1 hx e1) me_X5_link lk_L_43 hx rfl rfl rfl (Nat.le_of_ble_eq_true rfl) ⟨by decide, by decide⟩ (hB _ _ _ _ _ hR) dL_law_405 ?_
  refine VW_aload_n 3 hC dL_law_408 rfl rfl ?_
  refine VW_aload_n 1 hC dL_law_409 rfl rfl ?_
  refine VW_iload_n 0 hC dL_law_410 rfl rfl ?_
  refine VW_iconst (v := 1) hC dL_law_411 rfl ?_
  refine VW_iadd hC dL_law_412 ?_
  refine VW_sld hC (h1) dL_law_413 ?_
  refine VW_aload_n 1 hC dL_law_414 rfl rfl ?_
  refine VW_iload_n 0 hC dL_law_415 rfl rfl ?_
  refine VW_iconst (v := 2) hC dL_law_416 rfl ?_
  refine VW_iadd hC dL_law_417 ?_
  refine VW_sld hC (h2) dL_law_418 ?_
  refine VW_aload_n 1 hC dL_law_419 rfl rfl ?_
  refine VW_iload_n 0 hC dL_law_420 rfl rfl ?_
  refine VW_iconst (v := 3) hC dL_law_421 rfl ?_
  refine VW_iadd hC dL_law_422 ?_
  refine VW_sld hC (h3) dL_law_423 ?_
  refine VW_aload_n 1 hC dL_law_424 rfl rfl ?_
  refine VW_iload_n 0 hC dL_law_425 rfl rfl ?_
  refine VW_iconst (v := 4) hC dL_law_426 rfl ?_
  refine VW_iadd hC dL_law_427 ?_
  refine VW_sld hC (h4) dL_law_428 ?_
  refine VW_m (o := 0) (As := [.int (xs (ix (nI i + 1))), .int (xs (ix (nI i + 2))), .int (xs (ix (nI i + 3))), .int (xs (ix (nI i + 4)))]) (rest := [.int r]) hC (c_X6_link (z := zm) hC.2.1.2.2.2.2.2.2.1 hm (hzm ▸ e2)) me_X6_link lk_L_47 hm rfl rfl rfl (Nat.le_of_ble_eq_true rfl) ⟨by decide, by decide⟩ (hB _ _ _ _ _ hR) dL_law_429 ?_
  refine VW_icmp_eq (tgt := 1002) hC dL_law_432 (by decide) rfl ?_
  exact hk _ _ _ _ _ _ hR2
def ST_unlink (RL : (Nat → Nat) → Dt → Dt → Nat → Nat → Prop) : Prop := ∀ (L : Nat → Nat) (d dm : Dt) (k n : Nat) (p1 : Int32) (p2 : Int32), RL L d dm k n → ∃ (r : Int32) (d' : Dt) (dm' : Dt), t_X5_unlink L d p1 p2 = some (r, d') ∧ t_X6_unlink LM dm p1 p2 = some (r, dm') ∧ RL L d' dm' k n
set_option maxRecDepth 20000 in
theorem lw_7 {RL : (Nat → Nat) → Dt → Dt → Nat → Nat → Prop} (hB : ∀ L d dm k n, RL L d dm k n → k ≤ 600000 ∧ n ≤ 7302250) (hS : ST_unlink RL) {K : Kx} {Y M : Yx} {b SL i k n : Nat} {xs : Nat → Int32} {L ad : Nat → Nat} {zm : Sh} {d dm : Dt} (hC : CW K Y M b SL xs) (hx : (0, 0, 4) ∈ yI Y) (hm : (0, 0, 5) ∈ yI M) (hzm : LM = zm.1) (hi : i + 5 ≤ SL) (hR : RL L d dm k n) (hk : ∀ L ad d dm k n, RL L d dm k n → VW K Y M k n (L, ad) d zm dm 1002 [(3, .int (nI i)), (0, .ref b), (1, .ref (yo Y 0)), (2, .ref (yo M 0))] []) : VW K Y M k n (L, ad) d zm dm 437 [(3, .int (nI i)), (0, .ref b), (1, .ref (yo Y 0)), (2, .ref (yo M 0))] [] := by
  have h1 : inb (nI i + 1) SL = true := sc_in 1 (by decide) hi hC.2.2.2.2.2.2.2
  have h2 : inb (nI i + 2) SL = true := sc_in 2 (by decide) hi hC.2.2.2.2.2.2.2
  obtain ⟨r, d', dm', e1, e2, hR2⟩ := hS L d dm k n (xs (ix (nI i + 1))) (xs (ix (nI i + 2))) hR
  refine VW_aload_n 2 hC dL_law_437 rfl rfl ?_
  refine VW_aload_n 1 hC dL_law_438 rfl rfl ?_
  refine VW_iload_n 0 hC dL_law_439 rfl rfl ?_
  refine VW_iconst (v := 1) hC dL_law_440 rfl ?_
  refine VW_iadd hC dL_law_441 ?_
  refine VW_sld hC (h1) dL_law_442 ?_
  refine VW_aload_n 1 hC dL_law_443 rfl rfl ?_
  refine VW_iload_n 0 hC dL_law_444 rfl rfl ?_
  refine VW_iconst (v := 2) hC dL_law_445 rfl ?_
  refine VW_iadd hC dL_law_446 ?_
  refine VW_sld hC (h2) dL_law_447 ?_
  refine VW_x (o := 0) (As := [.int (xs (ix (nI i + 1))), .int (xs (ix (nI i + 2)))]) (rest := []) hC (c_X5_unlink hC.1.2.2.2.2.2.2.1 hx e1) me_X5_unlink lk_L_48 hx rfl rfl rfl (Nat.le_of_ble_eq_true rfl) ⟨by decide, by decide⟩ (hB _ _ _ _ _ hR) dL_law_448 ?_
  refine VW_aload_n 3 hC dL_law_451 rfl rfl ?_
  refine VW_aload_n 1 hC dL_law_452 rfl rfl ?_
  refine VW_iload_n 0 hC dL_law_453 rfl rfl ?_
  refine VW_iconst (v := 1) hC dL_law_454 rfl ?_
  refine VW_iadd hC dL_law_455 ?_
  refine VW_sld hC (h1) dL_law_456 ?_
  refine VW_aload_n 1 hC dL_law_457 rfl rfl ?_
  refine VW_iload_n 0 hC dL_law_458 rfl rfl ?_
  refine VW_iconst (v := 2) hC dL_law_459 rfl ?_
  refine VW_iadd hC dL_law_460 ?_
  refine VW_sld hC (h2) dL_law_461 ?_
  refine VW_m (o := 0) (As := [.int (xs (ix (nI i + 1))), .int (xs (ix (nI i + 2)))]) (rest := [.int r]) hC (c_X6_unlink (z := zm) hC.2.1.2.2.2.2.2.2.1 hm (hzm ▸ e2)) me_X6_unlink lk_L_51 hm rfl rfl rfl (Nat.le_of_ble_eq_true rfl) ⟨by decide, by decide⟩ (hB _ _ _ _ _ hR) dL_law_462 ?_
  refine VW_icmp_eq (tgt := 1002) hC dL_law_465 (by decide) rfl ?_
  exact hk _ _ _ _ _ _ hR2
def ST_count (RL : (Nat → Nat) → Dt → Dt → Nat → Nat → Prop) : Prop := ∀ (L : Nat → Nat) (d dm : Dt) (k n : Nat) (p1 : Int32), RL L d dm k n → ∃ (r : Int32) (L' : Nat → Nat) (d' : Dt) (kc ns : Nat) (dm' : Dt), t_X5_count L d p1 = some ((r, L', d'), kc, ns) ∧ t_X6_count LM dm p1 = some (r, dm') ∧ RL L' d' dm' (k + kc) (n + ns)
set_option maxRecDepth 20000 in
theorem lw_8 {RL : (Nat → Nat) → Dt → Dt → Nat → Nat → Prop} (hB : ∀ L d dm k n, RL L d dm k n → k ≤ 600000 ∧ n ≤ 7302250) (hS : ST_count RL) {K : Kx} {Y M : Yx} {b SL i k n : Nat} {xs : Nat → Int32} {L ad : Nat → Nat} {zm : Sh} {d dm : Dt} (hC : CW K Y M b SL xs) (hx : (0, 0, 4) ∈ yI Y) (hm : (0, 0, 5) ∈ yI M) (hzm : LM = zm.1) (hi : i + 5 ≤ SL) (hR : RL L d dm k n) (hk : ∀ L ad d dm k n, RL L d dm k n → VW K Y M k n (L, ad) d zm dm 1002 [(3, .int (nI i)), (0, .ref b), (1, .ref (yo Y 0)), (2, .ref (yo M 0))] []) : VW K Y M k n (L, ad) d zm dm 470 [(3, .int (nI i)), (0, .ref b), (1, .ref (yo Y 0)), (2, .ref (yo M 0))] [] := by
  have h1 : inb (nI i + 1) SL = true := sc_in 1 (by decide) hi hC.2.2.2.2.2.2.2
  obtain ⟨r, L', d', kc, ns, dm', e1, e2, hR2⟩ := hS L d dm k n (xs (ix (nI i + 1))) hR
  refine VW_aload_n 2 hC dL_law_470 rfl rfl ?_
  refine VW_aload_n 1 hC dL_law_471 rfl rfl ?_
  refine VW_iload_n 0 hC dL_law_472 rfl rfl ?_
  refine VW_iconst (v := 1) hC dL_law_473 rfl ?_
  refine VW_iadd hC dL_law_474 ?_
  refine VW_sld hC (h1) dL_law_475 ?_
  refine VW_xA (k1 := kc) (n1 := ns) (L1 := L') (d1 := d') (o := 0) (As := [.int (xs (ix (nI i + 1)))]) (rest := []) hC (c_X5_count hC.1.2.2.2.2.2.2.1 hx e1) me_X5_count lk_L_52 hx rfl rfl rfl (Nat.le_of_ble_eq_true rfl) ⟨by decide, by decide⟩ (hB _ _ _ _ _ hR2) dL_law_476 (fun ad2 => ?_)
  refine VW_aload_n 3 hC dL_law_479 rfl rfl ?_
  refine VW_aload_n 1 hC dL_law_480 rfl rfl ?_
  refine VW_iload_n 0 hC dL_law_481 rfl rfl ?_
  refine VW_iconst (v := 1) hC dL_law_482 rfl ?_
  refine VW_iadd hC dL_law_483 ?_
  refine VW_sld hC (h1) dL_law_484 ?_
  refine VW_m (o := 0) (As := [.int (xs (ix (nI i + 1)))]) (rest := [.int r]) hC (c_X6_count (z := zm) hC.2.1.2.2.2.2.2.2.1 hm (hzm ▸ e2)) me_X6_count lk_L_56 hm rfl rfl rfl (Nat.le_of_ble_eq_true rfl) ⟨by decide, by decide⟩ (hB _ _ _ _ _ hR2) dL_law_485 ?_
  refine VW_icmp_eq (tgt := 1002) hC dL_law_488 (by decide) rfl ?_
  exact hk _ _ _ _ _ _ hR2
def ST_begin (RL : (Nat → Nat) → Dt → Dt → Nat → Nat → Prop) : Prop := ∀ (L : Nat → Nat) (d dm : Dt) (k n : Nat) , RL L d dm k n → ∃ (r : Int32) (d' : Dt) (dm' : Dt), t_X5_begin L d  = some (r, d') ∧ t_X6_begin LM dm  = some (r, dm') ∧ RL L d' dm' k n
set_option maxRecDepth 20000 in
theorem lw_9 {RL : (Nat → Nat) → Dt → Dt → Nat → Nat → Prop} (hB : ∀ L d dm k n, RL L d dm k n → k ≤ 600000 ∧ n ≤ 7302250) (hS : ST_begin RL) {K : Kx} {Y M : Yx} {b SL i k n : Nat} {xs : Nat → Int32} {L ad : Nat → Nat} {zm : Sh} {d dm : Dt} (hC : CW K Y M b SL xs) (hx : (0, 0, 4) ∈ yI Y) (hm : (0, 0, 5) ∈ yI M) (hzm : LM = zm.1) (hi : i + 5 ≤ SL) (hR : RL L d dm k n) (hk : ∀ L ad d dm k n, RL L d dm k n → VW K Y M k n (L, ad) d zm dm 1002 [(3, .int (nI i)), (0, .ref b), (1, .ref (yo Y 0)), (2, .ref (yo M 0))] []) : VW K Y M k n (L, ad) d zm dm 493 [(3, .int (nI i)), (0, .ref b), (1, .ref (yo Y 0)), (2, .ref (yo M 0))] [] := by
  obtain ⟨r, d', dm', e1, e2, hR2⟩ := hS L d dm k n  hR
  refine VW_aload_n 2 hC dL_law_493 rfl rfl ?_
  refine VW_x (o := 0) (As := []) (rest := []) hC (c_X5_begin hC.1.2.2.2.2.2.2.1 hx e1) me_X5_begin lk_L_57 hx rfl rfl rfl (Nat.le_of_ble_eq_true rfl) ⟨by decide, by decide⟩ (hB _ _ _ _ _ hR) dL_law_494 ?_
  refine VW_aload_n 3 hC dL_law_497 rfl rfl ?_
  refine VW_m (o := 0) (As := []) (rest := [.int r]) hC (c_X6_begin (z := zm) hC.2.1.2.2.2.2.2.2.1 hm (hzm ▸ e2)) me_X6_begin lk_L_60 hm rfl rfl rfl (Nat.le_of_ble_eq_true rfl) ⟨by decide, by decide⟩ (hB _ _ _ _ _ hR) dL_law_498 ?_
  refine VW_icmp_eq (tgt := 1002) hC dL_law_501 (by decide) rfl ?_
  exact hk _ _ _ _ _ _ hR2
def ST_choose (RL : (Nat → Nat) → Dt → Dt → Nat → Nat → Prop) : Prop := ∀ (L : Nat → Nat) (d dm : Dt) (k n : Nat) (p1 : Int32), RL L d dm k n → ∃ (r : Int32) (d' : Dt) (dm' : Dt), t_X5_choose L d p1 = some (r, d') ∧ t_X6_choose LM dm p1 = some (r, dm') ∧ RL L d' dm' k n
set_option maxRecDepth 20000 in
theorem lw_10 {RL : (Nat → Nat) → Dt → Dt → Nat → Nat → Prop} (hB : ∀ L d dm k n, RL L d dm k n → k ≤ 600000 ∧ n ≤ 7302250) (hS : ST_choose RL) {K : Kx} {Y M : Yx} {b SL i k n : Nat} {xs : Nat → Int32} {L ad : Nat → Nat} {zm : Sh} {d dm : Dt} (hC : CW K Y M b SL xs) (hx : (0, 0, 4) ∈ yI Y) (hm : (0, 0, 5) ∈ yI M) (hzm : LM = zm.1) (hi : i + 5 ≤ SL) (hR : RL L d dm k n) (hk : ∀ L ad d dm k n, RL L d dm k n → VW K Y M k n (L, ad) d zm dm 1002 [(3, .int (nI i)), (0, .ref b), (1, .ref (yo Y 0)), (2, .ref (yo M 0))] []) : VW K Y M k n (L, ad) d zm dm 506 [(3, .int (nI i)), (0, .ref b), (1, .ref (yo Y 0)), (2, .ref (yo M 0))] [] := by
  have h1 : inb (nI i + 1) SL = true := sc_in 1 (by decide) hi hC.2.2.2.2.2.2.2
  obtain ⟨r, d', dm', e1, e2, hR2⟩ := hS L d dm k n (xs (ix (nI i + 1))) hR
  refine VW_aload_n 2 hC dL_law_506 rfl rfl ?_
  refine VW_aload_n 1 hC dL_law_507 rfl rfl ?_
  refine VW_iload_n 0 hC dL_law_508 rfl rfl ?_
  refine VW_iconst (v := 1) hC dL_law_509 rfl ?_
  refine VW_iadd hC dL_law_510 ?_
  refine VW_sld hC (h1) dL_law_511 ?_
  refine VW_x (o := 0) (As := [.int (xs (ix (nI i + 1)))]) (rest := []) hC (c_X5_choose hC.1.2.2.2.2.2.2.1 hx e1) me_X5_choose lk_L_61 hx rfl rfl rfl (Nat.le_of_ble_eq_true rfl) ⟨by decide, by decide⟩ (hB _ _ _ _ _ hR) dL_law_512 ?_
  refine VW_aload_n 3 hC dL_law_515 rfl rfl ?_
  refine VW_aload_n 1 hC dL_law_516 rfl rfl ?_
  refine VW_iload_n 0 hC dL_law_517 rfl rfl ?_
  refine VW_iconst (v := 1) hC dL_law_518 rfl ?_
  refine VW_iadd hC dL_law_519 ?_
  refine VW_sld hC (h1) dL_law_520 ?_
  refine VW_m (o := 0) (As := [.int (xs (ix (nI i + 1)))]) (rest := [.int r]) hC (c_X6_choose (z := zm) hC.2.1.2.2.2.2.2.2.1 hm (hzm ▸ e2)) me_X6_choose lk_L_64 hm rfl rfl rfl (Nat.le_of_ble_eq_true rfl) ⟨by decide, by decide⟩ (hB _ _ _ _ _ hR) dL_law_521 ?_
  refine VW_icmp_eq (tgt := 1002) hC dL_law_524 (by decide) rfl ?_
  exact hk _ _ _ _ _ _ hR2
def ST_roll (RL : (Nat → Nat) → Dt → Dt → Nat → Nat → Prop) : Prop := ∀ (L : Nat → Nat) (d dm : Dt) (k n : Nat) (p1 : Int32), RL L d dm k n → ∃ (r : Int32) (d' : Dt) (dm' : Dt), t_X5_roll L d p1 = some (r, d') ∧ t_X6_roll LM dm p1 = some (r, dm') ∧ RL L d' dm' k n
set_option maxRecDepth 20000 in
theorem lw_11 {RL : (Nat → Nat) → Dt → Dt → Nat → Nat → Prop} (hB : ∀ L d dm k n, RL L d dm k n → k ≤ 600000 ∧ n ≤ 7302250) (hS : ST_roll RL) {K : Kx} {Y M : Yx} {b SL i k n : Nat} {xs : Nat → Int32} {L ad : Nat → Nat} {zm : Sh} {d dm : Dt} (hC : CW K Y M b SL xs) (hx : (0, 0, 4) ∈ yI Y) (hm : (0, 0, 5) ∈ yI M) (hzm : LM = zm.1) (hi : i + 5 ≤ SL) (hR : RL L d dm k n) (hk : ∀ L ad d dm k n, RL L d dm k n → VW K Y M k n (L, ad) d zm dm 1002 [(3, .int (nI i)), (0, .ref b), (1, .ref (yo Y 0)), (2, .ref (yo M 0))] []) : VW K Y M k n (L, ad) d zm dm 529 [(3, .int (nI i)), (0, .ref b), (1, .ref (yo Y 0)), (2, .ref (yo M 0))] [] := by
  have h1 : inb (nI i + 1) SL = true := sc_in 1 (by decide) hi hC.2.2.2.2.2.2.2
  obtain ⟨r, d', dm', e1, e2, hR2⟩ := hS L d dm k n (xs (ix (nI i + 1))) hR
  refine VW_aload_n 2 hC dL_law_529 rfl rfl ?_
  refine VW_aload_n 1 hC dL_law_530 rfl rfl ?_
  refine VW_iload_n 0 hC dL_law_531 rfl rfl ?_
  refine VW_iconst (v := 1) hC dL_law_532 rfl ?_
  refine VW_iadd hC dL_law_533 ?_
  refine VW_sld hC (h1) dL_law_534 ?_
  refine VW_x (o := 0) (As := [.int (xs (ix (nI i + 1)))]) (rest := []) hC (c_X5_roll hC.1.2.2.2.2.2.2.1 hx e1) me_X5_roll lk_L_65 hx rfl rfl rfl (Nat.le_of_ble_eq_true rfl) ⟨by decide, by decide⟩ (hB _ _ _ _ _ hR) dL_law_535 ?_
  refine VW_aload_n 3 hC dL_law_538 rfl rfl ?_
  refine VW_aload_n 1 hC dL_law_539 rfl rfl ?_
  refine VW_iload_n 0 hC dL_law_540 rfl rfl ?_
  refine VW_iconst (v := 1) hC dL_law_541 rfl ?_
  refine VW_iadd hC dL_law_542 ?_
  refine VW_sld hC (h1) dL_law_543 ?_
  refine VW_m (o := 0) (As := [.int (xs (ix (nI i + 1)))]) (rest := [.int r]) hC (c_X6_roll (z := zm) hC.2.1.2.2.2.2.2.2.1 hm (hzm ▸ e2)) me_X6_roll lk_L_68 hm rfl rfl rfl (Nat.le_of_ble_eq_true rfl) ⟨by decide, by decide⟩ (hB _ _ _ _ _ hR) dL_law_544 ?_
  refine VW_icmp_eq (tgt := 1002) hC dL_law_547 (by decide) rfl ?_
  exact hk _ _ _ _ _ _ hR2
def ST_now (RL : (Nat → Nat) → Dt → Dt → Nat → Nat → Prop) : Prop := ∀ (L : Nat → Nat) (d dm : Dt) (k n : Nat) (p1 : Int32), RL L d dm k n → ∃ (r : Int32), t_X5_now L d p1 = some r ∧ t_X6_now LM dm p1 = some r ∧ RL L d dm k n
set_option maxRecDepth 20000 in
theorem lw_12 {RL : (Nat → Nat) → Dt → Dt → Nat → Nat → Prop} (hB : ∀ L d dm k n, RL L d dm k n → k ≤ 600000 ∧ n ≤ 7302250) (hS : ST_now RL) {K : Kx} {Y M : Yx} {b SL i k n : Nat} {xs : Nat → Int32} {L ad : Nat → Nat} {zm : Sh} {d dm : Dt} (hC : CW K Y M b SL xs) (hx : (0, 0, 4) ∈ yI Y) (hm : (0, 0, 5) ∈ yI M) (hzm : LM = zm.1) (hi : i + 5 ≤ SL) (hR : RL L d dm k n) (hk : ∀ L ad d dm k n, RL L d dm k n → VW K Y M k n (L, ad) d zm dm 1002 [(3, .int (nI i)), (0, .ref b), (1, .ref (yo Y 0)), (2, .ref (yo M 0))] []) : VW K Y M k n (L, ad) d zm dm 552 [(3, .int (nI i)), (0, .ref b), (1, .ref (yo Y 0)), (2, .ref (yo M 0))] [] := by
  have h1 : inb (nI i + 1) SL = true := sc_in 1 (by decide) hi hC.2.2.2.2.2.2.2
  obtain ⟨r, e1, e2, hR2⟩ := hS L d dm k n (xs (ix (nI i + 1))) hR
  refine VW_aload_n 2 hC dL_law_552 rfl rfl ?_
  refine VW_aload_n 1 hC dL_law_553 rfl rfl ?_
  refine VW_iload_n 0 hC dL_law_554 rfl rfl ?_
  refine VW_iconst (v := 1) hC dL_law_555 rfl ?_
  refine VW_iadd hC dL_law_556 ?_
  refine VW_sld hC (h1) dL_law_557 ?_
  refine VW_x (o := 0) (As := [.int (xs (ix (nI i + 1)))]) (rest := []) hC (c_X5_now hC.1.2.2.2.2.2.2.1 hx e1) me_X5_now lk_L_69 hx rfl rfl rfl (Nat.le_of_ble_eq_true rfl) ⟨by decide, by decide⟩ (hB _ _ _ _ _ hR) dL_law_558 ?_
  refine VW_aload_n 3 hC dL_law_561 rfl rfl ?_
  refine VW_aload_n 1 hC dL_law_562 rfl rfl ?_
  refine VW_iload_n 0 hC dL_law_563 rfl rfl ?_
  refine VW_iconst (v := 1) hC dL_law_564 rfl ?_
  refine VW_iadd hC dL_law_565 ?_
  refine VW_sld hC (h1) dL_law_566 ?_
  refine VW_m (o := 0) (As := [.int (xs (ix (nI i + 1)))]) (rest := [.int r]) hC (c_X6_now (z := zm) hC.2.1.2.2.2.2.2.2.1 hm (hzm ▸ e2)) me_X6_now lk_L_72 hm rfl rfl rfl (Nat.le_of_ble_eq_true rfl) ⟨by decide, by decide⟩ (hB _ _ _ _ _ hR) dL_law_567 ?_
  refine VW_icmp_eq (tgt := 1002) hC dL_law_570 (by decide) rfl ?_
  exact hk _ _ _ _ _ _ hR2
def ST_odds (RL : (Nat → Nat) → Dt → Dt → Nat → Nat → Prop) : Prop := ∀ (L : Nat → Nat) (d dm : Dt) (k n : Nat) (p1 : Int32), RL L d dm k n → ∃ (r : Int32) (L' : Nat → Nat) (d' : Dt) (kc ns : Nat) (dm' : Dt), t_X5_odds L d p1 = some ((r, L', d'), kc, ns) ∧ t_X6_odds LM dm p1 = some (r, dm') ∧ RL L' d' dm' (k + kc) (n + ns)
set_option maxRecDepth 20000 in
theorem lw_13 {RL : (Nat → Nat) → Dt → Dt → Nat → Nat → Prop} (hB : ∀ L d dm k n, RL L d dm k n → k ≤ 600000 ∧ n ≤ 7302250) (hS : ST_odds RL) {K : Kx} {Y M : Yx} {b SL i k n : Nat} {xs : Nat → Int32} {L ad : Nat → Nat} {zm : Sh} {d dm : Dt} (hC : CW K Y M b SL xs) (hx : (0, 0, 4) ∈ yI Y) (hm : (0, 0, 5) ∈ yI M) (hzm : LM = zm.1) (hi : i + 5 ≤ SL) (hR : RL L d dm k n) (hk : ∀ L ad d dm k n, RL L d dm k n → VW K Y M k n (L, ad) d zm dm 1002 [(3, .int (nI i)), (0, .ref b), (1, .ref (yo Y 0)), (2, .ref (yo M 0))] []) : VW K Y M k n (L, ad) d zm dm 575 [(3, .int (nI i)), (0, .ref b), (1, .ref (yo Y 0)), (2, .ref (yo M 0))] [] := by
  have h1 : inb (nI i + 1) SL = true := sc_in 1 (by decide) hi hC.2.2.2.2.2.2.2
  obtain ⟨r, L', d', kc, ns, dm', e1, e2, hR2⟩ := hS L d dm k n (xs (ix (nI i + 1))) hR
  refine VW_aload_n 2 hC dL_law_575 rfl rfl ?_
  refine VW_aload_n 1 hC dL_law_576 rfl rfl ?_
  refine VW_iload_n 0 hC dL_law_577 rfl rfl ?_
  refine VW_iconst (v := 1) hC dL_law_578 rfl ?_
  refine VW_iadd hC dL_law_579 ?_
  refine VW_sld hC (h1) dL_law_580 ?_
  refine VW_xA (k1 := kc) (n1 := ns) (L1 := L') (d1 := d') (o := 0) (As := [.int (xs (ix (nI i + 1)))]) (rest := []) hC (c_X5_odds hC.1.2.2.2.2.2.2.1 hx e1) me_X5_odds lk_L_73 hx rfl rfl rfl (Nat.le_of_ble_eq_true rfl) ⟨by decide, by decide⟩ (hB _ _ _ _ _ hR2) dL_law_581 (fun ad2 => ?_)
  refine VW_aload_n 3 hC dL_law_584 rfl rfl ?_
  refine VW_aload_n 1 hC dL_law_585 rfl rfl ?_
  refine VW_iload_n 0 hC dL_law_586 rfl rfl ?_
  refine VW_iconst (v := 1) hC dL_law_587 rfl ?_
  refine VW_iadd hC dL_law_588 ?_
  refine VW_sld hC (h1) dL_law_589 ?_
  refine VW_m (o := 0) (As := [.int (xs (ix (nI i + 1)))]) (rest := [.int r]) hC (c_X6_odds (z := zm) hC.2.1.2.2.2.2.2.2.1 hm (hzm ▸ e2)) me_X6_odds lk_L_76 hm rfl rfl rfl (Nat.le_of_ble_eq_true rfl) ⟨by decide, by decide⟩ (hB _ _ _ _ _ hR2) dL_law_590 ?_
  refine VW_icmp_eq (tgt := 1002) hC dL_law_593 (by decide) rfl ?_
  exact hk _ _ _ _ _ _ hR2
def ST_advice (RL : (Nat → Nat) → Dt → Dt → Nat → Nat → Prop) : Prop := ∀ (L : Nat → Nat) (d dm : Dt) (k n : Nat) (p1 : Int32), RL L d dm k n → ∃ (r : Int32) (L' : Nat → Nat) (d' : Dt) (kc ns : Nat) (dm' : Dt), t_X5_advice L d p1 = some ((r, L', d'), kc, ns) ∧ t_X6_advice LM dm p1 = some (r, dm') ∧ RL L' d' dm' (k + kc) (n + ns)
set_option maxRecDepth 20000 in
theorem lw_14 {RL : (Nat → Nat) → Dt → Dt → Nat → Nat → Prop} (hB : ∀ L d dm k n, RL L d dm k n → k ≤ 600000 ∧ n ≤ 7302250) (hS : ST_advice RL) {K : Kx} {Y M : Yx} {b SL i k n : Nat} {xs : Nat → Int32} {L ad : Nat → Nat} {zm : Sh} {d dm : Dt} (hC : CW K Y M b SL xs) (hx : (0, 0, 4) ∈ yI Y) (hm : (0, 0, 5) ∈ yI M) (hzm : LM = zm.1) (hi : i + 5 ≤ SL) (hR : RL L d dm k n) (hk : ∀ L ad d dm k n, RL L d dm k n → VW K Y M k n (L, ad) d zm dm 1002 [(3, .int (nI i)), (0, .ref b), (1, .ref (yo Y 0)), (2, .ref (yo M 0))] []) : VW K Y M k n (L, ad) d zm dm 598 [(3, .int (nI i)), (0, .ref b), (1, .ref (yo Y 0)), (2, .ref (yo M 0))] [] := by
  have h1 : inb (nI i + 1) SL = true := sc_in 1 (by decide) hi hC.2.2.2.2.2.2.2
  obtain ⟨r, L', d', kc, ns, dm', e1, e2, hR2⟩ := hS L d dm k n (xs (ix (nI i + 1))) hR
  refine VW_aload_n 2 hC dL_law_598 rfl rfl ?_
  refine VW_aload_n 1 hC dL_law_599 rfl rfl ?_
  refine VW_iload_n 0 hC dL_law_600 rfl rfl ?_
  refine VW_iconst (v := 1) hC dL_law_601 rfl ?_
  refine VW_iadd hC dL_law_602 ?_
  refine VW_sld hC (h1) dL_law_603 ?_
  refine VW_xA (k1 := kc) (n1 := ns) (L1 := L') (d1 := d') (o := 0) (As := [.int (xs (ix (nI i + 1)))]) (rest := []) hC (c_X5_advice hC.1.2.2.2.2.2.2.1 hx e1) me_X5_advice lk_L_77 hx rfl rfl rfl (Nat.le_of_ble_eq_true rfl) ⟨by decide, by decide⟩ (hB _ _ _ _ _ hR2) dL_law_604 (fun ad2 => ?_)
  refine VW_aload_n 3 hC dL_law_607 rfl rfl ?_
  refine VW_aload_n 1 hC dL_law_608 rfl rfl ?_
  refine VW_iload_n 0 hC dL_law_609 rfl rfl ?_
  refine VW_iconst (v := 1) hC dL_law_610 rfl ?_
  refine VW_iadd hC dL_law_611 ?_
  refine VW_sld hC (h1) dL_law_612 ?_
  refine VW_m (o := 0) (As := [.int (xs (ix (nI i + 1)))]) (rest := [.int r]) hC (c_X6_advice (z := zm) hC.2.1.2.2.2.2.2.2.1 hm (hzm ▸ e2)) me_X6_advice lk_L_80 hm rfl rfl rfl (Nat.le_of_ble_eq_true rfl) ⟨by decide, by decide⟩ (hB _ _ _ _ _ hR2) dL_law_613 ?_
  refine VW_icmp_eq (tgt := 1002) hC dL_law_616 (by decide) rfl ?_
  exact hk _ _ _ _ _ _ hR2
def ST_fewest (RL : (Nat → Nat) → Dt → Dt → Nat → Nat → Prop) : Prop := ∀ (L : Nat → Nat) (d dm : Dt) (k n : Nat) , RL L d dm k n → ∃ (r : Int32) (L' : Nat → Nat) (d' : Dt) (kc ns : Nat) (dm' : Dt), t_X5_fewest L d  = some ((r, L', d'), kc, ns) ∧ t_X6_fewest LM dm  = some (r, dm') ∧ RL L' d' dm' (k + kc) (n + ns)
set_option maxRecDepth 20000 in
theorem lw_15 {RL : (Nat → Nat) → Dt → Dt → Nat → Nat → Prop} (hB : ∀ L d dm k n, RL L d dm k n → k ≤ 600000 ∧ n ≤ 7302250) (hS : ST_fewest RL) {K : Kx} {Y M : Yx} {b SL i k n : Nat} {xs : Nat → Int32} {L ad : Nat → Nat} {zm : Sh} {d dm : Dt} (hC : CW K Y M b SL xs) (hx : (0, 0, 4) ∈ yI Y) (hm : (0, 0, 5) ∈ yI M) (hzm : LM = zm.1) (hi : i + 5 ≤ SL) (hR : RL L d dm k n) (hk : ∀ L ad d dm k n, RL L d dm k n → VW K Y M k n (L, ad) d zm dm 1002 [(3, .int (nI i)), (0, .ref b), (1, .ref (yo Y 0)), (2, .ref (yo M 0))] []) : VW K Y M k n (L, ad) d zm dm 621 [(3, .int (nI i)), (0, .ref b), (1, .ref (yo Y 0)), (2, .ref (yo M 0))] [] := by
  obtain ⟨r, L', d', kc, ns, dm', e1, e2, hR2⟩ := hS L d dm k n  hR
  refine VW_aload_n 2 hC dL_law_621 rfl rfl ?_
  refine VW_xA (k1 := kc) (n1 := ns) (L1 := L') (d1 := d') (o := 0) (As := []) (rest := []) hC (c_X5_fewest hC.1.2.2.2.2.2.2.1 hx e1) me_X5_fewest lk_L_81 hx rfl rfl rfl (Nat.le_of_ble_eq_true rfl) ⟨by decide, by decide⟩ (hB _ _ _ _ _ hR2) dL_law_622 (fun ad2 => ?_)
  refine VW_aload_n 3 hC dL_law_625 rfl rfl ?_
  refine VW_m (o := 0) (As := []) (rest := [.int r]) hC (c_X6_fewest (z := zm) hC.2.1.2.2.2.2.2.2.1 hm (hzm ▸ e2)) me_X6_fewest lk_L_84 hm rfl rfl rfl (Nat.le_of_ble_eq_true rfl) ⟨by decide, by decide⟩ (hB _ _ _ _ _ hR2) dL_law_626 ?_
  refine VW_icmp_eq (tgt := 1002) hC dL_law_629 (by decide) rfl ?_
  exact hk _ _ _ _ _ _ hR2
def ST_surely (RL : (Nat → Nat) → Dt → Dt → Nat → Nat → Prop) : Prop := ∀ (L : Nat → Nat) (d dm : Dt) (k n : Nat) , RL L d dm k n → ∃ (r : Int32) (L' : Nat → Nat) (d' : Dt) (kc ns : Nat) (dm' : Dt), t_X5_surely L d  = some ((r, L', d'), kc, ns) ∧ t_X6_surely LM dm  = some (r, dm') ∧ RL L' d' dm' (k + kc) (n + ns)
set_option maxRecDepth 20000 in
theorem lw_16 {RL : (Nat → Nat) → Dt → Dt → Nat → Nat → Prop} (hB : ∀ L d dm k n, RL L d dm k n → k ≤ 600000 ∧ n ≤ 7302250) (hS : ST_surely RL) {K : Kx} {Y M : Yx} {b SL i k n : Nat} {xs : Nat → Int32} {L ad : Nat → Nat} {zm : Sh} {d dm : Dt} (hC : CW K Y M b SL xs) (hx : (0, 0, 4) ∈ yI Y) (hm : (0, 0, 5) ∈ yI M) (hzm : LM = zm.1) (hi : i + 5 ≤ SL) (hR : RL L d dm k n) (hk : ∀ L ad d dm k n, RL L d dm k n → VW K Y M k n (L, ad) d zm dm 1002 [(3, .int (nI i)), (0, .ref b), (1, .ref (yo Y 0)), (2, .ref (yo M 0))] []) : VW K Y M k n (L, ad) d zm dm 634 [(3, .int (nI i)), (0, .ref b), (1, .ref (yo Y 0)), (2, .ref (yo M 0))] [] := by
  obtain ⟨r, L', d', kc, ns, dm', e1, e2, hR2⟩ := hS L d dm k n  hR
  refine VW_aload_n 2 hC dL_law_634 rfl rfl ?_
  refine VW_xA (k1 := kc) (n1 := ns) (L1 := L') (d1 := d') (o := 0) (As := []) (rest := []) hC (c_X5_surely hC.1.2.2.2.2.2.2.1 hx e1) me_X5_surely lk_L_85 hx rfl rfl rfl (Nat.le_of_ble_eq_true rfl) ⟨by decide, by decide⟩ (hB _ _ _ _ _ hR2) dL_law_635 (fun ad2 => ?_)
  refine VW_aload_n 3 hC dL_law_638 rfl rfl ?_
  refine VW_m (o := 0) (As := []) (rest := [.int r]) hC (c_X6_surely (z := zm) hC.2.1.2.2.2.2.2.2.1 hm (hzm ▸ e2)) me_X6_surely lk_L_88 hm rfl rfl rfl (Nat.le_of_ble_eq_true rfl) ⟨by decide, by decide⟩ (hB _ _ _ _ _ hR2) dL_law_639 ?_
  refine VW_icmp_eq (tgt := 1002) hC dL_law_642 (by decide) rfl ?_
  exact hk _ _ _ _ _ _ hR2
def ST_parts (RL : (Nat → Nat) → Dt → Dt → Nat → Nat → Prop) : Prop := ∀ (L : Nat → Nat) (d dm : Dt) (k n : Nat) (p1 : Int32), RL L d dm k n → ∃ (r : Int32) (L' : Nat → Nat) (d' : Dt) (kc ns : Nat) (dm' : Dt), t_X5_parts L d p1 = some ((r, L', d'), kc, ns) ∧ t_X6_parts LM dm p1 = some (r, dm') ∧ RL L' d' dm' (k + kc) (n + ns)
set_option maxRecDepth 20000 in
theorem lw_17 {RL : (Nat → Nat) → Dt → Dt → Nat → Nat → Prop} (hB : ∀ L d dm k n, RL L d dm k n → k ≤ 600000 ∧ n ≤ 7302250) (hS : ST_parts RL) {K : Kx} {Y M : Yx} {b SL i k n : Nat} {xs : Nat → Int32} {L ad : Nat → Nat} {zm : Sh} {d dm : Dt} (hC : CW K Y M b SL xs) (hx : (0, 0, 4) ∈ yI Y) (hm : (0, 0, 5) ∈ yI M) (hzm : LM = zm.1) (hi : i + 5 ≤ SL) (hR : RL L d dm k n) (hk : ∀ L ad d dm k n, RL L d dm k n → VW K Y M k n (L, ad) d zm dm 1002 [(3, .int (nI i)), (0, .ref b), (1, .ref (yo Y 0)), (2, .ref (yo M 0))] []) : VW K Y M k n (L, ad) d zm dm 647 [(3, .int (nI i)), (0, .ref b), (1, .ref (yo Y 0)), (2, .ref (yo M 0))] [] := by
  have h1 : inb (nI i + 1) SL = true := sc_in 1 (by decide) hi hC.2.2.2.2.2.2.2
  obtain ⟨r, L', d', kc, ns, dm', e1, e2, hR2⟩ := hS L d dm k n (xs (ix (nI i + 1))) hR
  refine VW_aload_n 2 hC dL_law_647 rfl rfl ?_
  refine VW_aload_n 1 hC dL_law_648 rfl rfl ?_
  refine VW_iload_n 0 hC dL_law_649 rfl rfl ?_
  refine VW_iconst (v := 1) hC dL_law_650 rfl ?_
  refine VW_iadd hC dL_law_651 ?_
  refine VW_sld hC (h1) dL_law_652 ?_
  refine VW_xA (k1 := kc) (n1 := ns) (L1 := L') (d1 := d') (o := 0) (As := [.int (xs (ix (nI i + 1)))]) (rest := []) hC (c_X5_parts hC.1.2.2.2.2.2.2.1 hx e1) me_X5_parts lk_L_89 hx rfl rfl rfl (Nat.le_of_ble_eq_true rfl) ⟨by decide, by decide⟩ (hB _ _ _ _ _ hR2) dL_law_653 (fun ad2 => ?_)
  refine VW_aload_n 3 hC dL_law_656 rfl rfl ?_
  refine VW_aload_n 1 hC dL_law_657 rfl rfl ?_
  refine VW_iload_n 0 hC dL_law_658 rfl rfl ?_
  refine VW_iconst (v := 1) hC dL_law_659 rfl ?_
  refine VW_iadd hC dL_law_660 ?_
  refine VW_sld hC (h1) dL_law_661 ?_
  refine VW_m (o := 0) (As := [.int (xs (ix (nI i + 1)))]) (rest := [.int r]) hC (c_X6_parts (z := zm) hC.2.1.2.2.2.2.2.2.1 hm (hzm ▸ e2)) me_X6_parts lk_L_92 hm rfl rfl rfl (Nat.le_of_ble_eq_true rfl) ⟨by decide, by decide⟩ (hB _ _ _ _ _ hR2) dL_law_662 ?_
  refine VW_icmp_eq (tgt := 1002) hC dL_law_665 (by decide) rfl ?_
  exact hk _ _ _ _ _ _ hR2
def ST_things (RL : (Nat → Nat) → Dt → Dt → Nat → Nat → Prop) : Prop := ∀ (L : Nat → Nat) (d dm : Dt) (k n : Nat) (p1 : Int32), RL L d dm k n → ∃ (r : Int32) (L' : Nat → Nat) (d' : Dt) (kc ns : Nat) (dm' : Dt), t_X5_things L d p1 = some ((r, L', d'), kc, ns) ∧ t_X6_things LM dm p1 = some (r, dm') ∧ RL L' d' dm' (k + kc) (n + ns)
set_option maxRecDepth 20000 in
theorem lw_18 {RL : (Nat → Nat) → Dt → Dt → Nat → Nat → Prop} (hB : ∀ L d dm k n, RL L d dm k n → k ≤ 600000 ∧ n ≤ 7302250) (hS : ST_things RL) {K : Kx} {Y M : Yx} {b SL i k n : Nat} {xs : Nat → Int32} {L ad : Nat → Nat} {zm : Sh} {d dm : Dt} (hC : CW K Y M b SL xs) (hx : (0, 0, 4) ∈ yI Y) (hm : (0, 0, 5) ∈ yI M) (hzm : LM = zm.1) (hi : i + 5 ≤ SL) (hR : RL L d dm k n) (hk : ∀ L ad d dm k n, RL L d dm k n → VW K Y M k n (L, ad) d zm dm 1002 [(3, .int (nI i)), (0, .ref b), (1, .ref (yo Y 0)), (2, .ref (yo M 0))] []) : VW K Y M k n (L, ad) d zm dm 670 [(3, .int (nI i)), (0, .ref b), (1, .ref (yo Y 0)), (2, .ref (yo M 0))] [] := by
  have h1 : inb (nI i + 1) SL = true := sc_in 1 (by decide) hi hC.2.2.2.2.2.2.2
  obtain ⟨r, L', d', kc, ns, dm', e1, e2, hR2⟩ := hS L d dm k n (xs (ix (nI i + 1))) hR
  refine VW_aload_n 2 hC dL_law_670 rfl rfl ?_
  refine VW_aload_n 1 hC dL_law_671 rfl rfl ?_
  refine VW_iload_n 0 hC dL_law_672 rfl rfl ?_
  refine VW_iconst (v := 1) hC dL_law_673 rfl ?_
  refine VW_iadd hC dL_law_674 ?_
  refine VW_sld hC (h1) dL_law_675 ?_
  refine VW_xA (k1 := kc) (n1 := ns) (L1 := L') (d1 := d') (o := 0) (As := [.int (xs (ix (nI i + 1)))]) (rest := []) hC (c_X5_things hC.1.2.2.2.2.2.2.1 hx e1) me_X5_things lk_L_93 hx rfl rfl rfl (Nat.le_of_ble_eq_true rfl) ⟨by decide, by decide⟩ (hB _ _ _ _ _ hR2) dL_law_676 (fun ad2 => ?_)
  refine VW_aload_n 3 hC dL_law_679 rfl rfl ?_
  refine VW_aload_n 1 hC dL_law_680 rfl rfl ?_
  refine VW_iload_n 0 hC dL_law_681 rfl rfl ?_
  refine VW_iconst (v := 1) hC dL_law_682 rfl ?_
  refine VW_iadd hC dL_law_683 ?_
  refine VW_sld hC (h1) dL_law_684 ?_
  refine VW_m (o := 0) (As := [.int (xs (ix (nI i + 1)))]) (rest := [.int r]) hC (c_X6_things (z := zm) hC.2.1.2.2.2.2.2.2.1 hm (hzm ▸ e2)) me_X6_things lk_L_96 hm rfl rfl rfl (Nat.le_of_ble_eq_true rfl) ⟨by decide, by decide⟩ (hB _ _ _ _ _ hR2) dL_law_685 ?_
  refine VW_icmp_eq (tgt := 1002) hC dL_law_688 (by decide) rfl ?_
  exact hk _ _ _ _ _ _ hR2
def ST_without (RL : (Nat → Nat) → Dt → Dt → Nat → Nat → Prop) : Prop := ∀ (L : Nat → Nat) (d dm : Dt) (k n : Nat) (p1 : Int32) (p2 : Int32), RL L d dm k n → ∃ (r : Int32) (L' : Nat → Nat) (d' : Dt) (kc ns : Nat) (dm' : Dt), t_X5_without L d p1 p2 = some ((r, L', d'), kc, ns) ∧ t_X6_without LM dm p1 p2 = some (r, dm') ∧ RL L' d' dm' (k + kc) (n + ns)
set_option maxRecDepth 20000 in
theorem lw_19 {RL : (Nat → Nat) → Dt → Dt → Nat → Nat → Prop} (hB : ∀ L d dm k n, RL L d dm k n → k ≤ 600000 ∧ n ≤ 7302250) (hS : ST_without RL) {K : Kx} {Y M : Yx} {b SL i k n : Nat} {xs : Nat → Int32} {L ad : Nat → Nat} {zm : Sh} {d dm : Dt} (hC : CW K Y M b SL xs) (hx : (0, 0, 4) ∈ yI Y) (hm : (0, 0, 5) ∈ yI M) (hzm : LM = zm.1) (hi : i + 5 ≤ SL) (hR : RL L d dm k n) (hk : ∀ L ad d dm k n, RL L d dm k n → VW K Y M k n (L, ad) d zm dm 1002 [(3, .int (nI i)), (0, .ref b), (1, .ref (yo Y 0)), (2, .ref (yo M 0))] []) : VW K Y M k n (L, ad) d zm dm 693 [(3, .int (nI i)), (0, .ref b), (1, .ref (yo Y 0)), (2, .ref (yo M 0))] [] := by
  have h1 : inb (nI i + 1) SL = true := sc_in 1 (by decide) hi hC.2.2.2.2.2.2.2
  have h2 : inb (nI i + 2) SL = true := sc_in 2 (by decide) hi hC.2.2.2.2.2.2.2
  obtain ⟨r, L', d', kc, ns, dm', e1, e2, hR2⟩ := hS L d dm k n (xs (ix (nI i + 1))) (xs (ix (nI i + 2))) hR
  refine VW_aload_n 2 hC dL_law_693 rfl rfl ?_
  refine VW_aload_n 1 hC dL_law_694 rfl rfl ?_
  refine VW_iload_n 0 hC dL_law_695 rfl rfl ?_
  refine VW_iconst (v := 1) hC dL_law_696 rfl ?_
  refine VW_iadd hC dL_law_697 ?_
  refine VW_sld hC (h1) dL_law_698 ?_
  refine VW_aload_n 1 hC dL_law_699 rfl rfl ?_
  refine VW_iload_n 0 hC dL_law_700 rfl rfl ?_
  refine VW_iconst (v := 2) hC dL_law_701 rfl ?_
  refine VW_iadd hC dL_law_702 ?_
  refine VW_sld hC (h2) dL_law_703 ?_
  refine VW_xA (k1 := kc) (n1 := ns) (L1 := L') (d1 := d') (o := 0) (As := [.int (xs (ix (nI i + 1))), .int (xs (ix (nI i + 2)))]) (rest := []) hC (c_X5_without hC.1.2.2.2.2.2.2.1 hx e1) me_X5_without lk_L_97 hx rfl rfl rfl (Nat.le_of_ble_eq_true rfl) ⟨by decide, by decide⟩ (hB _ _ _ _ _ hR2) dL_law_704 (fun ad2 => ?_)
  refine VW_aload_n 3 hC dL_law_707 rfl rfl ?_
  refine VW_aload_n 1 hC dL_law_708 rfl rfl ?_
  refine VW_iload_n 0 hC dL_law_709 rfl rfl ?_
  refine VW_iconst (v := 1) hC dL_law_710 rfl ?_
  refine VW_iadd hC dL_law_711 ?_
  refine VW_sld hC (h1) dL_law_712 ?_
  refine VW_aload_n 1 hC dL_law_713 rfl rfl ?_
  refine VW_iload_n 0 hC dL_law_714 rfl rfl ?_
  refine VW_iconst (v := 2) hC dL_law_715 rfl ?_
  refine VW_iadd hC dL_law_716 ?_
  refine VW_sld hC (h2) dL_law_717 ?_
  refine VW_m (o := 0) (As := [.int (xs (ix (nI i + 1))), .int (xs (ix (nI i + 2)))]) (rest := [.int r]) hC (c_X6_without (z := zm) hC.2.1.2.2.2.2.2.2.1 hm (hzm ▸ e2)) me_X6_without lk_L_100 hm rfl rfl rfl (Nat.le_of_ble_eq_true rfl) ⟨by decide, by decide⟩ (hB _ _ _ _ _ hR2) dL_law_718 ?_
  refine VW_icmp_eq (tgt := 1002) hC dL_law_721 (by decide) rfl ?_
  exact hk _ _ _ _ _ _ hR2
def ST_log (RL : (Nat → Nat) → Dt → Dt → Nat → Nat → Prop) : Prop := ∀ (L : Nat → Nat) (d dm : Dt) (k n : Nat) (p1 : Int32), RL L d dm k n → ∃ (r : Int32) (d' : Dt) (dm' : Dt), t_X5_log L d p1 = some (r, d') ∧ t_X6_log LM dm p1 = some (r, dm') ∧ RL L d' dm' k n
set_option maxRecDepth 20000 in
theorem lw_20 {RL : (Nat → Nat) → Dt → Dt → Nat → Nat → Prop} (hB : ∀ L d dm k n, RL L d dm k n → k ≤ 600000 ∧ n ≤ 7302250) (hS : ST_log RL) {K : Kx} {Y M : Yx} {b SL i k n : Nat} {xs : Nat → Int32} {L ad : Nat → Nat} {zm : Sh} {d dm : Dt} (hC : CW K Y M b SL xs) (hx : (0, 0, 4) ∈ yI Y) (hm : (0, 0, 5) ∈ yI M) (hzm : LM = zm.1) (hi : i + 5 ≤ SL) (hR : RL L d dm k n) (hk : ∀ L ad d dm k n, RL L d dm k n → VW K Y M k n (L, ad) d zm dm 1002 [(3, .int (nI i)), (0, .ref b), (1, .ref (yo Y 0)), (2, .ref (yo M 0))] []) : VW K Y M k n (L, ad) d zm dm 726 [(3, .int (nI i)), (0, .ref b), (1, .ref (yo Y 0)), (2, .ref (yo M 0))] [] := by
  have h1 : inb (nI i + 1) SL = true := sc_in 1 (by decide) hi hC.2.2.2.2.2.2.2
  obtain ⟨r, d', dm', e1, e2, hR2⟩ := hS L d dm k n (xs (ix (nI i + 1))) hR
  refine VW_aload_n 2 hC dL_law_726 rfl rfl ?_
  refine VW_aload_n 1 hC dL_law_727 rfl rfl ?_
  refine VW_iload_n 0 hC dL_law_728 rfl rfl ?_
  refine VW_iconst (v := 1) hC dL_law_729 rfl ?_
  refine VW_iadd hC dL_law_730 ?_
  refine VW_sld hC (h1) dL_law_731 ?_
  refine VW_x (o := 0) (As := [.int (xs (ix (nI i + 1)))]) (rest := []) hC (c_X5_log hC.1.2.2.2.2.2.2.1 hx e1) me_X5_log lk_L_101 hx rfl rfl rfl (Nat.le_of_ble_eq_true rfl) ⟨by decide, by decide⟩ (hB _ _ _ _ _ hR) dL_law_732 ?_
  refine VW_aload_n 3 hC dL_law_735 rfl rfl ?_
  refine VW_aload_n 1 hC dL_law_736 rfl rfl ?_
  refine VW_iload_n 0 hC dL_law_737 rfl rfl ?_
  refine VW_iconst (v := 1) hC dL_law_738 rfl ?_
  refine VW_iadd hC dL_law_739 ?_
  refine VW_sld hC (h1) dL_law_740 ?_
  refine VW_m (o := 0) (As := [.int (xs (ix (nI i + 1)))]) (rest := [.int r]) hC (c_X6_log (z := zm) hC.2.1.2.2.2.2.2.2.1 hm (hzm ▸ e2)) me_X6_log lk_L_104 hm rfl rfl rfl (Nat.le_of_ble_eq_true rfl) ⟨by decide, by decide⟩ (hB _ _ _ _ _ hR) dL_law_741 ?_
  refine VW_icmp_eq (tgt := 1002) hC dL_law_744 (by decide) rfl ?_
  exact hk _ _ _ _ _ _ hR2
def ST_clear (RL : (Nat → Nat) → Dt → Dt → Nat → Nat → Prop) : Prop := ∀ (L : Nat → Nat) (d dm : Dt) (k n : Nat) , RL L d dm k n → ∃ (r : Int32) (d' : Dt) (dm' : Dt), t_X5_clear L d  = some (r, d') ∧ t_X6_clear LM dm  = some (r, dm') ∧ RL L d' dm' k n
set_option maxRecDepth 20000 in
theorem lw_21 {RL : (Nat → Nat) → Dt → Dt → Nat → Nat → Prop} (hB : ∀ L d dm k n, RL L d dm k n → k ≤ 600000 ∧ n ≤ 7302250) (hS : ST_clear RL) {K : Kx} {Y M : Yx} {b SL i k n : Nat} {xs : Nat → Int32} {L ad : Nat → Nat} {zm : Sh} {d dm : Dt} (hC : CW K Y M b SL xs) (hx : (0, 0, 4) ∈ yI Y) (hm : (0, 0, 5) ∈ yI M) (hzm : LM = zm.1) (hi : i + 5 ≤ SL) (hR : RL L d dm k n) (hk : ∀ L ad d dm k n, RL L d dm k n → VW K Y M k n (L, ad) d zm dm 1002 [(3, .int (nI i)), (0, .ref b), (1, .ref (yo Y 0)), (2, .ref (yo M 0))] []) : VW K Y M k n (L, ad) d zm dm 749 [(3, .int (nI i)), (0, .ref b), (1, .ref (yo Y 0)), (2, .ref (yo M 0))] [] := by
  obtain ⟨r, d', dm', e1, e2, hR2⟩ := hS L d dm k n  hR
  refine VW_aload_n 2 hC dL_law_749 rfl rfl ?_
  refine VW_x (o := 0) (As := []) (rest := []) hC (c_X5_clear hC.1.2.2.2.2.2.2.1 hx e1) me_X5_clear lk_L_105 hx rfl rfl rfl (Nat.le_of_ble_eq_true rfl) ⟨by decide, by decide⟩ (hB _ _ _ _ _ hR) dL_law_750 ?_
  refine VW_aload_n 3 hC dL_law_753 rfl rfl ?_
  refine VW_m (o := 0) (As := []) (rest := [.int r]) hC (c_X6_clear (z := zm) hC.2.1.2.2.2.2.2.2.1 hm (hzm ▸ e2)) me_X6_clear lk_L_108 hm rfl rfl rfl (Nat.le_of_ble_eq_true rfl) ⟨by decide, by decide⟩ (hB _ _ _ _ _ hR) dL_law_754 ?_
  refine VW_icmp_eq (tgt := 1002) hC dL_law_757 (by decide) rfl ?_
  exact hk _ _ _ _ _ _ hR2
def ST_judge (RL : (Nat → Nat) → Dt → Dt → Nat → Nat → Prop) : Prop := ∀ (L : Nat → Nat) (d dm : Dt) (k n : Nat) , RL L d dm k n → ∃ (r : Int32) (dm' : Dt), t_X5_judge L d  = some r ∧ t_X6_judge LM dm  = some (r, dm') ∧ RL L d dm' k n
set_option maxRecDepth 20000 in
theorem lw_22 {RL : (Nat → Nat) → Dt → Dt → Nat → Nat → Prop} (hB : ∀ L d dm k n, RL L d dm k n → k ≤ 600000 ∧ n ≤ 7302250) (hS : ST_judge RL) {K : Kx} {Y M : Yx} {b SL i k n : Nat} {xs : Nat → Int32} {L ad : Nat → Nat} {zm : Sh} {d dm : Dt} (hC : CW K Y M b SL xs) (hx : (0, 0, 4) ∈ yI Y) (hm : (0, 0, 5) ∈ yI M) (hzm : LM = zm.1) (hi : i + 5 ≤ SL) (hR : RL L d dm k n) (hk : ∀ L ad d dm k n, RL L d dm k n → VW K Y M k n (L, ad) d zm dm 1002 [(3, .int (nI i)), (0, .ref b), (1, .ref (yo Y 0)), (2, .ref (yo M 0))] []) : VW K Y M k n (L, ad) d zm dm 762 [(3, .int (nI i)), (0, .ref b), (1, .ref (yo Y 0)), (2, .ref (yo M 0))] [] := by
  obtain ⟨r, dm', e1, e2, hR2⟩ := hS L d dm k n  hR
  refine VW_aload_n 2 hC dL_law_762 rfl rfl ?_
  refine VW_x (o := 0) (As := []) (rest := []) hC (c_X5_judge hC.1.2.2.2.2.2.2.1 hx e1) me_X5_judge lk_L_109 hx rfl rfl rfl (Nat.le_of_ble_eq_true rfl) ⟨by decide, by decide⟩ (hB _ _ _ _ _ hR) dL_law_763 ?_
  refine VW_aload_n 3 hC dL_law_766 rfl rfl ?_
  refine VW_m (o := 0) (As := []) (rest := [.int r]) hC (c_X6_judge (z := zm) hC.2.1.2.2.2.2.2.2.1 hm (hzm ▸ e2)) me_X6_judge lk_L_112 hm rfl rfl rfl (Nat.le_of_ble_eq_true rfl) ⟨by decide, by decide⟩ (hB _ _ _ _ _ hR) dL_law_767 ?_
  refine VW_icmp_eq (tgt := 1002) hC dL_law_770 (by decide) rfl ?_
  exact hk _ _ _ _ _ _ hR2
def ST_number (RL : (Nat → Nat) → Dt → Dt → Nat → Nat → Prop) : Prop := ∀ (L : Nat → Nat) (d dm : Dt) (k n : Nat) (p1 : Int32), RL L d dm k n → ∃ (r : Int32), t_X5_number L d p1 = some r ∧ t_X6_number LM dm p1 = some r ∧ RL L d dm k n
set_option maxRecDepth 20000 in
theorem lw_23 {RL : (Nat → Nat) → Dt → Dt → Nat → Nat → Prop} (hB : ∀ L d dm k n, RL L d dm k n → k ≤ 600000 ∧ n ≤ 7302250) (hS : ST_number RL) {K : Kx} {Y M : Yx} {b SL i k n : Nat} {xs : Nat → Int32} {L ad : Nat → Nat} {zm : Sh} {d dm : Dt} (hC : CW K Y M b SL xs) (hx : (0, 0, 4) ∈ yI Y) (hm : (0, 0, 5) ∈ yI M) (hzm : LM = zm.1) (hi : i + 5 ≤ SL) (hR : RL L d dm k n) (hk : ∀ L ad d dm k n, RL L d dm k n → VW K Y M k n (L, ad) d zm dm 1002 [(3, .int (nI i)), (0, .ref b), (1, .ref (yo Y 0)), (2, .ref (yo M 0))] []) : VW K Y M k n (L, ad) d zm dm 775 [(3, .int (nI i)), (0, .ref b), (1, .ref (yo Y 0)), (2, .ref (yo M 0))] [] := by
  have h1 : inb (nI i + 1) SL = true := sc_in 1 (by decide) hi hC.2.2.2.2.2.2.2
  obtain ⟨r, e1, e2, hR2⟩ := hS L d dm k n (xs (ix (nI i + 1))) hR
  refine VW_aload_n 2 hC dL_law_775 rfl rfl ?_
  refine VW_aload_n 1 hC dL_law_776 rfl rfl ?_
  refine VW_iload_n 0 hC dL_law_777 rfl rfl ?_
  refine VW_iconst (v := 1) hC dL_law_778 rfl ?_
  refine VW_iadd hC dL_law_779 ?_
  refine VW_sld hC (h1) dL_law_780 ?_
  refine VW_x (o := 0) (As := [.int (xs (ix (nI i + 1)))]) (rest := []) hC (c_X5_number hC.1.2.2.2.2.2.2.1 hx e1) me_X5_number lk_L_113 hx rfl rfl rfl (Nat.le_of_ble_eq_true rfl) ⟨by decide, by decide⟩ (hB _ _ _ _ _ hR) dL_law_781 ?_
  refine VW_aload_n 3 hC dL_law_784 rfl rfl ?_
  refine VW_aload_n 1 hC dL_law_785 rfl rfl ?_
  refine VW_iload_n 0 hC dL_law_786 rfl rfl ?_
  refine VW_iconst (v := 1) hC dL_law_787 rfl ?_
  refine VW_iadd hC dL_law_788 ?_
  refine VW_sld hC (h1) dL_law_789 ?_
  refine VW_m (o := 0) (As := [.int (xs (ix (nI i + 1)))]) (rest := [.int r]) hC (c_X6_number (z := zm) hC.2.1.2.2.2.2.2.2.1 hm (hzm ▸ e2)) me_X6_number lk_L_116 hm rfl rfl rfl (Nat.le_of_ble_eq_true rfl) ⟨by decide, by decide⟩ (hB _ _ _ _ _ hR) dL_law_790 ?_
  refine VW_icmp_eq (tgt := 1002) hC dL_law_793 (by decide) rfl ?_
  exact hk _ _ _ _ _ _ hR2
def ST_near (RL : (Nat → Nat) → Dt → Dt → Nat → Nat → Prop) : Prop := ∀ (L : Nat → Nat) (d dm : Dt) (k n : Nat) (p1 : Int32), RL L d dm k n → ∃ (r : Int32) (d' : Dt), t_X5_near L d p1 = some (r, d') ∧ t_X6_near LM dm p1 = some r ∧ RL L d' dm k n
set_option maxRecDepth 20000 in
theorem lw_24 {RL : (Nat → Nat) → Dt → Dt → Nat → Nat → Prop} (hB : ∀ L d dm k n, RL L d dm k n → k ≤ 600000 ∧ n ≤ 7302250) (hS : ST_near RL) {K : Kx} {Y M : Yx} {b SL i k n : Nat} {xs : Nat → Int32} {L ad : Nat → Nat} {zm : Sh} {d dm : Dt} (hC : CW K Y M b SL xs) (hx : (0, 0, 4) ∈ yI Y) (hm : (0, 0, 5) ∈ yI M) (hzm : LM = zm.1) (hi : i + 5 ≤ SL) (hR : RL L d dm k n) (hk : ∀ L ad d dm k n, RL L d dm k n → VW K Y M k n (L, ad) d zm dm 1002 [(3, .int (nI i)), (0, .ref b), (1, .ref (yo Y 0)), (2, .ref (yo M 0))] []) : VW K Y M k n (L, ad) d zm dm 798 [(3, .int (nI i)), (0, .ref b), (1, .ref (yo Y 0)), (2, .ref (yo M 0))] [] := by
  have h1 : inb (nI i + 1) SL = true := sc_in 1 (by decide) hi hC.2.2.2.2.2.2.2
  obtain ⟨r, d', e1, e2, hR2⟩ := hS L d dm k n (xs (ix (nI i + 1))) hR
  refine VW_aload_n 2 hC dL_law_798 rfl rfl ?_
  refine VW_aload_n 1 hC dL_law_799 rfl rfl ?_
  refine VW_iload_n 0 hC dL_law_800 rfl rfl ?_
  refine VW_iconst (v := 1) hC dL_law_801 rfl ?_
  refine VW_iadd hC dL_law_802 ?_
  refine VW_sld hC (h1) dL_law_803 ?_
  refine VW_x (o := 0) (As := [.int (xs (ix (nI i + 1)))]) (rest := []) hC (c_X5_near hC.1.2.2.2.2.2.2.1 hx e1) me_X5_near lk_L_117 hx rfl rfl rfl (Nat.le_of_ble_eq_true rfl) ⟨by decide, by decide⟩ (hB _ _ _ _ _ hR) dL_law_804 ?_
  refine VW_aload_n 3 hC dL_law_807 rfl rfl ?_
  refine VW_aload_n 1 hC dL_law_808 rfl rfl ?_
  refine VW_iload_n 0 hC dL_law_809 rfl rfl ?_
  refine VW_iconst (v := 1) hC dL_law_810 rfl ?_
  refine VW_iadd hC dL_law_811 ?_
  refine VW_sld hC (h1) dL_law_812 ?_
  refine VW_m (o := 0) (As := [.int (xs (ix (nI i + 1)))]) (rest := [.int r]) hC (c_X6_near (z := zm) hC.2.1.2.2.2.2.2.2.1 hm (hzm ▸ e2)) me_X6_near lk_L_120 hm rfl rfl rfl (Nat.le_of_ble_eq_true rfl) ⟨by decide, by decide⟩ (hB _ _ _ _ _ hR) dL_law_813 ?_
  refine VW_icmp_eq (tgt := 1002) hC dL_law_816 (by decide) rfl ?_
  exact hk _ _ _ _ _ _ hR2
def ST_shuffle (RL : (Nat → Nat) → Dt → Dt → Nat → Nat → Prop) : Prop := ∀ (L : Nat → Nat) (d dm : Dt) (k n : Nat) (p1 : Int32) (p2 : Int32), RL L d dm k n → ∃ (r : Int32) (d' : Dt) (dm' : Dt), t_X5_shuffle L d p1 p2 = some (r, d') ∧ t_X6_shuffle LM dm p1 p2 = some (r, dm') ∧ RL L d' dm' k n
set_option maxRecDepth 20000 in
theorem lw_25 {RL : (Nat → Nat) → Dt → Dt → Nat → Nat → Prop} (hB : ∀ L d dm k n, RL L d dm k n → k ≤ 600000 ∧ n ≤ 7302250) (hS : ST_shuffle RL) {K : Kx} {Y M : Yx} {b SL i k n : Nat} {xs : Nat → Int32} {L ad : Nat → Nat} {zm : Sh} {d dm : Dt} (hC : CW K Y M b SL xs) (hx : (0, 0, 4) ∈ yI Y) (hm : (0, 0, 5) ∈ yI M) (hzm : LM = zm.1) (hi : i + 5 ≤ SL) (hR : RL L d dm k n) (hk : ∀ L ad d dm k n, RL L d dm k n → VW K Y M k n (L, ad) d zm dm 1002 [(3, .int (nI i)), (0, .ref b), (1, .ref (yo Y 0)), (2, .ref (yo M 0))] []) : VW K Y M k n (L, ad) d zm dm 821 [(3, .int (nI i)), (0, .ref b), (1, .ref (yo Y 0)), (2, .ref (yo M 0))] [] := by
  have h1 : inb (nI i + 1) SL = true := sc_in 1 (by decide) hi hC.2.2.2.2.2.2.2
  have h2 : inb (nI i + 2) SL = true := sc_in 2 (by decide) hi hC.2.2.2.2.2.2.2
  obtain ⟨r, d', dm', e1, e2, hR2⟩ := hS L d dm k n (xs (ix (nI i + 1))) (xs (ix (nI i + 2))) hR
  refine VW_aload_n 2 hC dL_law_821 rfl rfl ?_
  refine VW_aload_n 1 hC dL_law_822 rfl rfl ?_
  refine VW_iload_n 0 hC dL_law_823 rfl rfl ?_
  refine VW_iconst (v := 1) hC dL_law_824 rfl ?_
  refine VW_iadd hC dL_law_825 ?_
  refine VW_sld hC (h1) dL_law_826 ?_
  refine VW_aload_n 1 hC dL_law_827 rfl rfl ?_
  refine VW_iload_n 0 hC dL_law_828 rfl rfl ?_
  refine VW_iconst (v := 2) hC dL_law_829 rfl ?_
  refine VW_iadd hC dL_law_830 ?_
  refine VW_sld hC (h2) dL_law_831 ?_
  refine VW_x (o := 0) (As := [.int (xs (ix (nI i + 1))), .int (xs (ix (nI i + 2)))]) (rest := []) hC (c_X5_shuffle hC.1.2.2.2.2.2.2.1 hx e1) me_X5_shuffle lk_L_121 hx rfl rfl rfl (Nat.le_of_ble_eq_true rfl) ⟨by decide, by decide⟩ (hB _ _ _ _ _ hR) dL_law_832 ?_
  refine VW_aload_n 3 hC dL_law_835 rfl rfl ?_
  refine VW_aload_n 1 hC dL_law_836 rfl rfl ?_
  refine VW_iload_n 0 hC dL_law_837 rfl rfl ?_
  refine VW_iconst (v := 1) hC dL_law_838 rfl ?_
  refine VW_iadd hC dL_law_839 ?_
  refine VW_sld hC (h1) dL_law_840 ?_
  refine VW_aload_n 1 hC dL_law_841 rfl rfl ?_
  refine VW_iload_n 0 hC dL_law_842 rfl rfl ?_
  refine VW_iconst (v := 2) hC dL_law_843 rfl ?_
  refine VW_iadd hC dL_law_844 ?_
  refine VW_sld hC (h2) dL_law_845 ?_
  refine VW_m (o := 0) (As := [.int (xs (ix (nI i + 1))), .int (xs (ix (nI i + 2)))]) (rest := [.int r]) hC (c_X6_shuffle (z := zm) hC.2.1.2.2.2.2.2.2.1 hm (hzm ▸ e2)) me_X6_shuffle lk_L_124 hm rfl rfl rfl (Nat.le_of_ble_eq_true rfl) ⟨by decide, by decide⟩ (hB _ _ _ _ _ hR) dL_law_846 ?_
  refine VW_icmp_eq (tgt := 1002) hC dL_law_849 (by decide) rfl ?_
  exact hk _ _ _ _ _ _ hR2
def ST_page (RL : (Nat → Nat) → Dt → Dt → Nat → Nat → Prop) : Prop := ∀ (L : Nat → Nat) (d dm : Dt) (k n : Nat) (p1 : Int32) (p2 : Int32), RL L d dm k n → ∃ (r : Int32) (d' : Dt), t_X5_page L d p1 p2 = some (r, d') ∧ t_X6_page LM dm p1 p2 = some r ∧ RL L d' dm k n
set_option maxRecDepth 20000 in
theorem lw_26 {RL : (Nat → Nat) → Dt → Dt → Nat → Nat → Prop} (hB : ∀ L d dm k n, RL L d dm k n → k ≤ 600000 ∧ n ≤ 7302250) (hS : ST_page RL) {K : Kx} {Y M : Yx} {b SL i k n : Nat} {xs : Nat → Int32} {L ad : Nat → Nat} {zm : Sh} {d dm : Dt} (hC : CW K Y M b SL xs) (hx : (0, 0, 4) ∈ yI Y) (hm : (0, 0, 5) ∈ yI M) (hzm : LM = zm.1) (hi : i + 5 ≤ SL) (hR : RL L d dm k n) (hk : ∀ L ad d dm k n, RL L d dm k n → VW K Y M k n (L, ad) d zm dm 1002 [(3, .int (nI i)), (0, .ref b), (1, .ref (yo Y 0)), (2, .ref (yo M 0))] []) : VW K Y M k n (L, ad) d zm dm 854 [(3, .int (nI i)), (0, .ref b), (1, .ref (yo Y 0)), (2, .ref (yo M 0))] [] := by
  have h1 : inb (nI i + 1) SL = true := sc_in 1 (by decide) hi hC.2.2.2.2.2.2.2
  have h2 : inb (nI i + 2) SL = true := sc_in 2 (by decide) hi hC.2.2.2.2.2.2.2
  obtain ⟨r, d', e1, e2, hR2⟩ := hS L d dm k n (xs (ix (nI i + 1))) (xs (ix (nI i + 2))) hR
  refine VW_aload_n 2 hC dL_law_854 rfl rfl ?_
  refine VW_aload_n 1 hC dL_law_855 rfl rfl ?_
  refine VW_iload_n 0 hC dL_law_856 rfl rfl ?_
  refine VW_iconst (v := 1) hC dL_law_857 rfl ?_
  refine VW_iadd hC dL_law_858 ?_
  refine VW_sld hC (h1) dL_law_859 ?_
  refine VW_aload_n 1 hC dL_law_860 rfl rfl ?_
  refine VW_iload_n 0 hC dL_law_861 rfl rfl ?_
  refine VW_iconst (v := 2) hC dL_law_862 rfl ?_
  refine VW_iadd hC dL_law_863 ?_
  refine VW_sld hC (h2) dL_law_864 ?_
  refine VW_x (o := 0) (As := [.int (xs (ix (nI i + 1))), .int (xs (ix (nI i + 2)))]) (rest := []) hC (c_X5_page hC.1.2.2.2.2.2.2.1 hx e1) me_X5_page lk_L_125 hx rfl rfl rfl (Nat.le_of_ble_eq_true rfl) ⟨by decide, by decide⟩ (hB _ _ _ _ _ hR) dL_law_865 ?_
  refine VW_aload_n 3 hC dL_law_868 rfl rfl ?_
  refine VW_aload_n 1 hC dL_law_869 rfl rfl ?_
  refine VW_iload_n 0 hC dL_law_870 rfl rfl ?_
  refine VW_iconst (v := 1) hC dL_law_871 rfl ?_
  refine VW_iadd hC dL_law_872 ?_
  refine VW_sld hC (h1) dL_law_873 ?_
  refine VW_aload_n 1 hC dL_law_874 rfl rfl ?_
  refine VW_iload_n 0 hC dL_law_875 rfl rfl ?_
  refine VW_iconst (v := 2) hC dL_law_876 rfl ?_
  refine VW_iadd hC dL_law_877 ?_
  refine VW_sld hC (h2) dL_law_878 ?_
  refine VW_m (o := 0) (As := [.int (xs (ix (nI i + 1))), .int (xs (ix (nI i + 2)))]) (rest := [.int r]) hC (c_X6_page (z := zm) hC.2.1.2.2.2.2.2.2.1 hm (hzm ▸ e2)) me_X6_page lk_L_128 hm rfl rfl rfl (Nat.le_of_ble_eq_true rfl) ⟨by decide, by decide⟩ (hB _ _ _ _ _ hR) dL_law_879 ?_
  refine VW_icmp_eq (tgt := 1002) hC dL_law_882 (by decide) rfl ?_
  exact hk _ _ _ _ _ _ hR2
def ST_flips (RL : (Nat → Nat) → Dt → Dt → Nat → Nat → Prop) : Prop := ∀ (L : Nat → Nat) (d dm : Dt) (k n : Nat) (p1 : Int32), RL L d dm k n → ∃ (r : Int32) (d' : Dt), t_X5_flips L d p1 = some (r, d') ∧ t_X6_flips LM dm p1 = some r ∧ RL L d' dm k n
set_option maxRecDepth 20000 in
theorem lw_27 {RL : (Nat → Nat) → Dt → Dt → Nat → Nat → Prop} (hB : ∀ L d dm k n, RL L d dm k n → k ≤ 600000 ∧ n ≤ 7302250) (hS : ST_flips RL) {K : Kx} {Y M : Yx} {b SL i k n : Nat} {xs : Nat → Int32} {L ad : Nat → Nat} {zm : Sh} {d dm : Dt} (hC : CW K Y M b SL xs) (hx : (0, 0, 4) ∈ yI Y) (hm : (0, 0, 5) ∈ yI M) (hzm : LM = zm.1) (hi : i + 5 ≤ SL) (hR : RL L d dm k n) (hk : ∀ L ad d dm k n, RL L d dm k n → VW K Y M k n (L, ad) d zm dm 1002 [(3, .int (nI i)), (0, .ref b), (1, .ref (yo Y 0)), (2, .ref (yo M 0))] []) : VW K Y M k n (L, ad) d zm dm 887 [(3, .int (nI i)), (0, .ref b), (1, .ref (yo Y 0)), (2, .ref (yo M 0))] [] := by
  have h1 : inb (nI i + 1) SL = true := sc_in 1 (by decide) hi hC.2.2.2.2.2.2.2
  obtain ⟨r, d', e1, e2, hR2⟩ := hS L d dm k n (xs (ix (nI i + 1))) hR
  refine VW_aload_n 2 hC dL_law_887 rfl rfl ?_
  refine VW_aload_n 1 hC dL_law_888 rfl rfl ?_
  refine VW_iload_n 0 hC dL_law_889 rfl rfl ?_
  refine VW_iconst (v := 1) hC dL_law_890 rfl ?_
  refine VW_iadd hC dL_law_891 ?_
  refine VW_sld hC (h1) dL_law_892 ?_
  refine VW_x (o := 0) (As := [.int (xs (ix (nI i + 1)))]) (rest := []) hC (c_X5_flips hC.1.2.2.2.2.2.2.1 hx e1) me_X5_flips lk_L_129 hx rfl rfl rfl (Nat.le_of_ble_eq_true rfl) ⟨by decide, by decide⟩ (hB _ _ _ _ _ hR) dL_law_893 ?_
  refine VW_aload_n 3 hC dL_law_896 rfl rfl ?_
  refine VW_aload_n 1 hC dL_law_897 rfl rfl ?_
  refine VW_iload_n 0 hC dL_law_898 rfl rfl ?_
  refine VW_iconst (v := 1) hC dL_law_899 rfl ?_
  refine VW_iadd hC dL_law_900 ?_
  refine VW_sld hC (h1) dL_law_901 ?_
  refine VW_m (o := 0) (As := [.int (xs (ix (nI i + 1)))]) (rest := [.int r]) hC (c_X6_flips (z := zm) hC.2.1.2.2.2.2.2.2.1 hm (hzm ▸ e2)) me_X6_flips lk_L_132 hm rfl rfl rfl (Nat.le_of_ble_eq_true rfl) ⟨by decide, by decide⟩ (hB _ _ _ _ _ hR) dL_law_902 ?_
  refine VW_icmp_eq (tgt := 1002) hC dL_law_905 (by decide) rfl ?_
  exact hk _ _ _ _ _ _ hR2
def ST_seed (RL : (Nat → Nat) → Dt → Dt → Nat → Nat → Prop) : Prop := ∀ (L : Nat → Nat) (d dm : Dt) (k n : Nat) (p1 : Int32), RL L d dm k n → ∃ (r : Int32) (d' : Dt) (dm' : Dt), t_X5_seed L d p1 = some (r, d') ∧ t_X6_seed LM dm p1 = some (r, dm') ∧ RL L d' dm' k n
set_option maxRecDepth 20000 in
theorem lw_28 {RL : (Nat → Nat) → Dt → Dt → Nat → Nat → Prop} (hB : ∀ L d dm k n, RL L d dm k n → k ≤ 600000 ∧ n ≤ 7302250) (hS : ST_seed RL) {K : Kx} {Y M : Yx} {b SL i k n : Nat} {xs : Nat → Int32} {L ad : Nat → Nat} {zm : Sh} {d dm : Dt} (hC : CW K Y M b SL xs) (hx : (0, 0, 4) ∈ yI Y) (hm : (0, 0, 5) ∈ yI M) (hzm : LM = zm.1) (hi : i + 5 ≤ SL) (hR : RL L d dm k n) (hk : ∀ L ad d dm k n, RL L d dm k n → VW K Y M k n (L, ad) d zm dm 1002 [(3, .int (nI i)), (0, .ref b), (1, .ref (yo Y 0)), (2, .ref (yo M 0))] []) : VW K Y M k n (L, ad) d zm dm 910 [(3, .int (nI i)), (0, .ref b), (1, .ref (yo Y 0)), (2, .ref (yo M 0))] [] := by
  have h1 : inb (nI i + 1) SL = true := sc_in 1 (by decide) hi hC.2.2.2.2.2.2.2
  obtain ⟨r, d', dm', e1, e2, hR2⟩ := hS L d dm k n (xs (ix (nI i + 1))) hR
  refine VW_aload_n 2 hC dL_law_910 rfl rfl ?_
  refine VW_aload_n 1 hC dL_law_911 rfl rfl ?_
  refine VW_iload_n 0 hC dL_law_912 rfl rfl ?_
  refine VW_iconst (v := 1) hC dL_law_913 rfl ?_
  refine VW_iadd hC dL_law_914 ?_
  refine VW_sld hC (h1) dL_law_915 ?_
  refine VW_x (o := 0) (As := [.int (xs (ix (nI i + 1)))]) (rest := []) hC (c_X5_seed hC.1.2.2.2.2.2.2.1 hx e1) me_X5_seed lk_L_133 hx rfl rfl rfl (Nat.le_of_ble_eq_true rfl) ⟨by decide, by decide⟩ (hB _ _ _ _ _ hR) dL_law_916 ?_
  refine VW_aload_n 3 hC dL_law_919 rfl rfl ?_
  refine VW_aload_n 1 hC dL_law_920 rfl rfl ?_
  refine VW_iload_n 0 hC dL_law_921 rfl rfl ?_
  refine VW_iconst (v := 1) hC dL_law_922 rfl ?_
  refine VW_iadd hC dL_law_923 ?_
  refine VW_sld hC (h1) dL_law_924 ?_
  refine VW_m (o := 0) (As := [.int (xs (ix (nI i + 1)))]) (rest := [.int r]) hC (c_X6_seed (z := zm) hC.2.1.2.2.2.2.2.2.1 hm (hzm ▸ e2)) me_X6_seed lk_L_136 hm rfl rfl rfl (Nat.le_of_ble_eq_true rfl) ⟨by decide, by decide⟩ (hB _ _ _ _ _ hR) dL_law_925 ?_
  refine VW_icmp_eq (tgt := 1002) hC dL_law_928 (by decide) rfl ?_
  exact hk _ _ _ _ _ _ hR2
def ST_blind (RL : (Nat → Nat) → Dt → Dt → Nat → Nat → Prop) : Prop := ∀ (L : Nat → Nat) (d dm : Dt) (k n : Nat) (p1 : Int32), RL L d dm k n → ∃ (r : Int32) (d' : Dt) (dm' : Dt), t_X5_blind L d p1 = some (r, d') ∧ t_X6_blind LM dm p1 = some (r, dm') ∧ RL L d' dm' k n
set_option maxRecDepth 20000 in
theorem lw_29 {RL : (Nat → Nat) → Dt → Dt → Nat → Nat → Prop} (hB : ∀ L d dm k n, RL L d dm k n → k ≤ 600000 ∧ n ≤ 7302250) (hS : ST_blind RL) {K : Kx} {Y M : Yx} {b SL i k n : Nat} {xs : Nat → Int32} {L ad : Nat → Nat} {zm : Sh} {d dm : Dt} (hC : CW K Y M b SL xs) (hx : (0, 0, 4) ∈ yI Y) (hm : (0, 0, 5) ∈ yI M) (hzm : LM = zm.1) (hi : i + 5 ≤ SL) (hR : RL L d dm k n) (hk : ∀ L ad d dm k n, RL L d dm k n → VW K Y M k n (L, ad) d zm dm 1002 [(3, .int (nI i)), (0, .ref b), (1, .ref (yo Y 0)), (2, .ref (yo M 0))] []) : VW K Y M k n (L, ad) d zm dm 933 [(3, .int (nI i)), (0, .ref b), (1, .ref (yo Y 0)), (2, .ref (yo M 0))] [] := by
  have h1 : inb (nI i + 1) SL = true := sc_in 1 (by decide) hi hC.2.2.2.2.2.2.2
  obtain ⟨r, d', dm', e1, e2, hR2⟩ := hS L d dm k n (xs (ix (nI i + 1))) hR
  refine VW_aload_n 2 hC dL_law_933 rfl rfl ?_
  refine VW_aload_n 1 hC dL_law_934 rfl rfl ?_
  refine VW_iload_n 0 hC dL_law_935 rfl rfl ?_
  refine VW_iconst (v := 1) hC dL_law_936 rfl ?_
  refine VW_iadd hC dL_law_937 ?_
  refine VW_sld hC (h1) dL_law_938 ?_
  refine VW_x (o := 0) (As := [.int (xs (ix (nI i + 1)))]) (rest := []) hC (c_X5_blind hC.1.2.2.2.2.2.2.1 hx e1) me_X5_blind lk_L_137 hx rfl rfl rfl (Nat.le_of_ble_eq_true rfl) ⟨by decide, by decide⟩ (hB _ _ _ _ _ hR) dL_law_939 ?_
  refine VW_aload_n 3 hC dL_law_942 rfl rfl ?_
  refine VW_aload_n 1 hC dL_law_943 rfl rfl ?_
  refine VW_iload_n 0 hC dL_law_944 rfl rfl ?_
  refine VW_iconst (v := 1) hC dL_law_945 rfl ?_
  refine VW_iadd hC dL_law_946 ?_
  refine VW_sld hC (h1) dL_law_947 ?_
  refine VW_m (o := 0) (As := [.int (xs (ix (nI i + 1)))]) (rest := [.int r]) hC (c_X6_blind (z := zm) hC.2.1.2.2.2.2.2.2.1 hm (hzm ▸ e2)) me_X6_blind lk_L_140 hm rfl rfl rfl (Nat.le_of_ble_eq_true rfl) ⟨by decide, by decide⟩ (hB _ _ _ _ _ hR) dL_law_948 ?_
  refine VW_icmp_eq (tgt := 1002) hC dL_law_951 (by decide) rfl ?_
  exact hk _ _ _ _ _ _ hR2
def ST_keep (RL : (Nat → Nat) → Dt → Dt → Nat → Nat → Prop) : Prop := ∀ (L : Nat → Nat) (d dm : Dt) (k n : Nat) (p1 : Int32), RL L d dm k n → ∃ (r : Int32) (d' : Dt) (dm' : Dt), t_X5_keep L d p1 = some (r, d') ∧ t_X6_keep LM dm p1 = some (r, dm') ∧ RL L d' dm' k n
set_option maxRecDepth 20000 in
theorem lw_30 {RL : (Nat → Nat) → Dt → Dt → Nat → Nat → Prop} (hB : ∀ L d dm k n, RL L d dm k n → k ≤ 600000 ∧ n ≤ 7302250) (hS : ST_keep RL) {K : Kx} {Y M : Yx} {b SL i k n : Nat} {xs : Nat → Int32} {L ad : Nat → Nat} {zm : Sh} {d dm : Dt} (hC : CW K Y M b SL xs) (hx : (0, 0, 4) ∈ yI Y) (hm : (0, 0, 5) ∈ yI M) (hzm : LM = zm.1) (hi : i + 5 ≤ SL) (hR : RL L d dm k n) (hk : ∀ L ad d dm k n, RL L d dm k n → VW K Y M k n (L, ad) d zm dm 1002 [(3, .int (nI i)), (0, .ref b), (1, .ref (yo Y 0)), (2, .ref (yo M 0))] []) : VW K Y M k n (L, ad) d zm dm 956 [(3, .int (nI i)), (0, .ref b), (1, .ref (yo Y 0)), (2, .ref (yo M 0))] [] := by
  have h1 : inb (nI i + 1) SL = true := sc_in 1 (by decide) hi hC.2.2.2.2.2.2.2
  obtain ⟨r, d', dm', e1, e2, hR2⟩ := hS L d dm k n (xs (ix (nI i + 1))) hR
  refine VW_aload_n 2 hC dL_law_956 rfl rfl ?_
  refine VW_aload_n 1 hC dL_law_957 rfl rfl ?_
  refine VW_iload_n 0 hC dL_law_958 rfl rfl ?_
  refine VW_iconst (v := 1) hC dL_law_959 rfl ?_
  refine VW_iadd hC dL_law_960 ?_
  refine VW_sld hC (h1) dL_law_961 ?_
  refine VW_x (o := 0) (As := [.int (xs (ix (nI i + 1)))]) (rest := []) hC (c_X5_keep hC.1.2.2.2.2.2.2.1 hx e1) me_X5_keep lk_L_141 hx rfl rfl rfl (Nat.le_of_ble_eq_true rfl) ⟨by decide, by decide⟩ (hB _ _ _ _ _ hR) dL_law_962 ?_
  refine VW_aload_n 3 hC dL_law_965 rfl rfl ?_
  refine VW_aload_n 1 hC dL_law_966 rfl rfl ?_
  refine VW_iload_n 0 hC dL_law_967 rfl rfl ?_
  refine VW_iconst (v := 1) hC dL_law_968 rfl ?_
  refine VW_iadd hC dL_law_969 ?_
  refine VW_sld hC (h1) dL_law_970 ?_
  refine VW_m (o := 0) (As := [.int (xs (ix (nI i + 1)))]) (rest := [.int r]) hC (c_X6_keep (z := zm) hC.2.1.2.2.2.2.2.2.1 hm (hzm ▸ e2)) me_X6_keep lk_L_144 hm rfl rfl rfl (Nat.le_of_ble_eq_true rfl) ⟨by decide, by decide⟩ (hB _ _ _ _ _ hR) dL_law_971 ?_
  refine VW_icmp_eq (tgt := 1002) hC dL_law_974 (by decide) rfl ?_
  exact hk _ _ _ _ _ _ hR2
def ST_goBack (RL : (Nat → Nat) → Dt → Dt → Nat → Nat → Prop) : Prop := ∀ (L : Nat → Nat) (d dm : Dt) (k n : Nat) (p1 : Int32), RL L d dm k n → ∃ (r : Int32) (d' : Dt) (dm' : Dt), t_X5_goBack L d p1 = some (r, d') ∧ t_X6_goBack LM dm p1 = some (r, dm') ∧ RL L d' dm' k n
set_option maxRecDepth 20000 in
theorem lw_31 {RL : (Nat → Nat) → Dt → Dt → Nat → Nat → Prop} (hB : ∀ L d dm k n, RL L d dm k n → k ≤ 600000 ∧ n ≤ 7302250) (hS : ST_goBack RL) {K : Kx} {Y M : Yx} {b SL i k n : Nat} {xs : Nat → Int32} {L ad : Nat → Nat} {zm : Sh} {d dm : Dt} (hC : CW K Y M b SL xs) (hx : (0, 0, 4) ∈ yI Y) (hm : (0, 0, 5) ∈ yI M) (hzm : LM = zm.1) (hi : i + 5 ≤ SL) (hR : RL L d dm k n) (hk : ∀ L ad d dm k n, RL L d dm k n → VW K Y M k n (L, ad) d zm dm 1002 [(3, .int (nI i)), (0, .ref b), (1, .ref (yo Y 0)), (2, .ref (yo M 0))] []) : VW K Y M k n (L, ad) d zm dm 979 [(3, .int (nI i)), (0, .ref b), (1, .ref (yo Y 0)), (2, .ref (yo M 0))] [] := by
  have h1 : inb (nI i + 1) SL = true := sc_in 1 (by decide) hi hC.2.2.2.2.2.2.2
  obtain ⟨r, d', dm', e1, e2, hR2⟩ := hS L d dm k n (xs (ix (nI i + 1))) hR
  refine VW_aload_n 2 hC dL_law_979 rfl rfl ?_
  refine VW_aload_n 1 hC dL_law_980 rfl rfl ?_
  refine VW_iload_n 0 hC dL_law_981 rfl rfl ?_
  refine VW_iconst (v := 1) hC dL_law_982 rfl ?_
  refine VW_iadd hC dL_law_983 ?_
  refine VW_sld hC (h1) dL_law_984 ?_
  refine VW_x (o := 0) (As := [.int (xs (ix (nI i + 1)))]) (rest := []) hC (c_X5_goBack hC.1.2.2.2.2.2.2.1 hx e1) me_X5_goBack lk_L_145 hx rfl rfl rfl (Nat.le_of_ble_eq_true rfl) ⟨by decide, by decide⟩ (hB _ _ _ _ _ hR) dL_law_985 ?_
  refine VW_aload_n 3 hC dL_law_988 rfl rfl ?_
  refine VW_aload_n 1 hC dL_law_989 rfl rfl ?_
  refine VW_iload_n 0 hC dL_law_990 rfl rfl ?_
  refine VW_iconst (v := 1) hC dL_law_991 rfl ?_
  refine VW_iadd hC dL_law_992 ?_
  refine VW_sld hC (h1) dL_law_993 ?_
  refine VW_m (o := 0) (As := [.int (xs (ix (nI i + 1)))]) (rest := [.int r]) hC (c_X6_goBack (z := zm) hC.2.1.2.2.2.2.2.2.1 hm (hzm ▸ e2)) me_X6_goBack lk_L_148 hm rfl rfl rfl (Nat.le_of_ble_eq_true rfl) ⟨by decide, by decide⟩ (hB _ _ _ _ _ hR) dL_law_994 ?_
  refine VW_icmp_eq (tgt := 1002) hC dL_law_997 (by decide) rfl ?_
  exact hk _ _ _ _ _ _ hR2
