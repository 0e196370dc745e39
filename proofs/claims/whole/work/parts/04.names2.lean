set_option maxRecDepth 20000 in
theorem ggX0_build_X2_make : GoodIn wsX0_build wsX2_make := goodIn_r _ [8, 9, 10, 11, 12, 13, 78, 79, 80, 81, 82, 83, 84, 85, 86, 87] (by decide +kernel) (by decide +kernel)
set_option maxRecDepth 20000 in
theorem gX0_build_X2_make : GoodIn wsX0_build (wsV RX0 28 RX2 yX2_make wsX2_make) := goodIn_app (goodIn_of _ (by decide +kernel)) ggX0_build_X2_make
set_option maxRecDepth 20000 in
theorem ggX0_build_X4_wordCount : GoodIn wsX0_build wsX4_wordCount := goodIn_r _ [18, 19, 88, 89, 90, 91, 92, 93, 94, 95, 96, 97, 98, 99, 100, 101, 102] (by decide +kernel) (by decide +kernel)
set_option maxRecDepth 20000 in
theorem gX0_build_X4_wordCount : GoodIn wsX0_build (wsV RX0 34 RX4 yX4_wordCount wsX4_wordCount) := goodIn_app (goodIn_of _ (by decide +kernel)) ggX0_build_X4_wordCount
set_option maxRecDepth 20000 in
theorem ggX0_build_X4_wordIndex : GoodIn wsX0_build wsX4_wordIndex := goodIn_r _ [23, 19, 24, 88, 89, 90, 91, 92, 93, 94, 95, 96, 97, 98, 99, 100, 101, 102] (by decide +kernel) (by decide +kernel)
set_option maxRecDepth 20000 in
theorem gX0_build_X4_wordIndex : GoodIn wsX0_build (wsV RX0 40 RX4 yX4_wordIndex wsX4_wordIndex) := goodIn_app (goodIn_of _ (by decide +kernel)) ggX0_build_X4_wordIndex
set_option maxRecDepth 20000 in
theorem ggX0_build_X4_wordSlot : GoodIn wsX0_build wsX4_wordSlot := goodIn_r _ [28, 19, 29, 88, 89, 90, 91, 92, 93, 94, 95, 96, 97, 98, 99, 100, 101, 102] (by decide +kernel) (by decide +kernel)
set_option maxRecDepth 20000 in
theorem gX0_build_X4_wordSlot : GoodIn wsX0_build (wsV RX0 44 RX4 yX4_wordSlot wsX4_wordSlot) := goodIn_app (goodIn_of _ (by decide +kernel)) ggX0_build_X4_wordSlot
set_option maxRecDepth 20000 in
theorem ggX0_build_X4_wordKind : GoodIn wsX0_build wsX4_wordKind := goodIn_r _ [33, 19, 34, 88, 89, 90, 91, 92, 93, 94, 95, 96, 97, 98, 99, 100, 101, 102] (by decide +kernel) (by decide +kernel)
set_option maxRecDepth 20000 in
theorem gX0_build_X4_wordKind : GoodIn wsX0_build (wsV RX0 47 RX4 yX4_wordKind wsX4_wordKind) := goodIn_app (goodIn_of _ (by decide +kernel)) ggX0_build_X4_wordKind
set_option maxRecDepth 20000 in
theorem ggX0_build_X0_buildName : GoodIn wsX0_build wsX0_buildName := goodIn_r _ [39, 1, 2, 40, 3, 4, 5, 6, 7, 8, 9, 10, 11, 12, 13, 41, 42, 43, 74, 75, 76, 77, 78, 79, 80, 81, 82, 83, 84, 85, 86, 87] (by decide +kernel) (by decide +kernel)
set_option maxRecDepth 20000 in
theorem gX0_build_X0_buildName : GoodIn wsX0_build (wsV RX0 50 RX0 yX0_buildName wsX0_buildName) := goodIn_app (goodIn_of _ (by decide +kernel)) ggX0_build_X0_buildName
set_option maxRecDepth 20000 in
theorem ggX0_build_X0_buildLambda : GoodIn wsX0_build wsX0_buildLambda := goodIn_r _ [47, 1, 2, 40, 3, 4, 5, 6, 7, 8, 9, 10, 11, 12, 13, 41, 42, 43, 48, 49, 50, 51, 52, 53, 54, 55, 56, 57, 58, 59, 60, 61, 74, 75, 76, 77, 78, 79, 80, 81, 82, 83, 84, 85, 86, 87] (by decide +kernel) (by decide +kernel)
set_option maxRecDepth 20000 in
theorem gX0_build_X0_buildLambda : GoodIn wsX0_build (wsV RX0 54 RX0 yX0_buildLambda wsX0_buildLambda) := goodIn_app (goodIn_of _ (by decide +kernel)) ggX0_build_X0_buildLambda
set_option maxRecDepth 20000 in
theorem ggX0_build_X0_buildApplication : GoodIn wsX0_build wsX0_buildApplication := goodIn_r _ [65, 1, 2, 3, 40, 4, 5, 6, 7, 8, 9, 10, 11, 12, 13, 41, 42, 43, 48, 49, 50, 51, 52, 53, 54, 55, 56, 57, 58, 59, 60, 61, 66, 67, 68, 38, 69, 70, 71, 72, 73, 74, 75, 76, 77, 78, 79, 80, 81, 82, 83, 84, 85, 86, 87] (by decide +kernel) (by decide +kernel)
set_option maxRecDepth 20000 in
theorem gX0_build_X0_buildApplication : GoodIn wsX0_build (wsV RX0 57 RX0 yX0_buildApplication wsX0_buildApplication) := goodIn_app (goodIn_of _ (by decide +kernel)) ggX0_build_X0_buildApplication
set_option maxRecDepth 20000 in
theorem ggX0_build_X7_portOf : GoodIn wsX0_build wsX7_portOf := goodIn_r _ [43] (by decide +kernel) (by decide +kernel)
set_option maxRecDepth 20000 in
theorem gX0_build_X7_portOf_n61 : GoodIn wsX0_build (wsX7_portOf) := ggX0_build_X7_portOf
set_option maxRecDepth 20000 in
theorem ggX0_build_X2_link : GoodIn wsX0_build wsX2_link := goodIn_r _ [51, 52, 53, 42, 54, 55, 56, 57, 7, 58, 59, 11, 60, 61, 78, 79, 80, 81, 82, 83, 84, 85, 86, 87] (by decide +kernel) (by decide +kernel)
set_option maxRecDepth 20000 in
theorem gX0_build_X2_link : GoodIn wsX0_build (wsV RX0 64 RX2 yX2_link wsX2_link) := goodIn_app (goodIn_of _ (by decide +kernel)) ggX0_build_X2_link
theorem dX0_build_0 : decode cX0_build 0 = .ok (.aload_n 0, 1) := by decide +kernel
theorem dX0_build_1 : decode cX0_build 1 = .ok (.iconst 0, 1) := by decide +kernel
theorem dX0_build_2 : decode cX0_build 2 = .ok (.putfield 24, 3) := by decide +kernel
theorem dX0_build_5 : decode cX0_build 5 = .ok (.aload_n 0, 1) := by decide +kernel
theorem dX0_build_6 : decode cX0_build 6 = .ok (.getfield 20, 3) := by decide +kernel
theorem dX0_build_9 : decode cX0_build 9 = .ok (.bipush 6, 2) := by decide +kernel
theorem dX0_build_11 : decode cX0_build 11 = .ok (.iconst (-1), 1) := by decide +kernel
theorem dX0_build_12 : decode cX0_build 12 = .ok (.invokevirtual 28, 3) := by decide +kernel
theorem dX0_build_15 : decode cX0_build 15 = .ok (.istore_n 2, 1) := by decide +kernel
theorem dX0_build_16 : decode cX0_build 16 = .ok (.iconst 0, 1) := by decide +kernel
theorem dX0_build_17 : decode cX0_build 17 = .ok (.istore_n 3, 1) := by decide +kernel
theorem dX0_build_18 : decode cX0_build 18 = .ok (.iload_n 3, 1) := by decide +kernel
theorem dX0_build_19 : decode cX0_build 19 = .ok (.aload_n 1, 1) := by decide +kernel
theorem dX0_build_20 : decode cX0_build 20 = .ok (.invokevirtual 34, 3) := by decide +kernel
theorem dX0_build_23 : decode cX0_build 23 = .ok (.if_icmp .ge 83, 3) := by decide +kernel
theorem dX0_build_26 : decode cX0_build 26 = .ok (.aload_n 1, 1) := by decide +kernel
theorem dX0_build_27 : decode cX0_build 27 = .ok (.iload_n 3, 1) := by decide +kernel
theorem dX0_build_28 : decode cX0_build 28 = .ok (.invokevirtual 40, 3) := by decide +kernel
theorem dX0_build_31 : decode cX0_build 31 = .ok (.istore 4, 2) := by decide +kernel
theorem dX0_build_33 : decode cX0_build 33 = .ok (.aload_n 1, 1) := by decide +kernel
theorem dX0_build_34 : decode cX0_build 34 = .ok (.iload_n 3, 1) := by decide +kernel
theorem dX0_build_35 : decode cX0_build 35 = .ok (.invokevirtual 44, 3) := by decide +kernel
theorem dX0_build_38 : decode cX0_build 38 = .ok (.istore 5, 2) := by decide +kernel
theorem dX0_build_40 : decode cX0_build 40 = .ok (.aload_n 1, 1) := by decide +kernel
theorem dX0_build_41 : decode cX0_build 41 = .ok (.iload_n 3, 1) := by decide +kernel
theorem dX0_build_42 : decode cX0_build 42 = .ok (.invokevirtual 47, 3) := by decide +kernel
theorem dX0_build_45 : decode cX0_build 45 = .ok (.lookupswitch 49 #[(0, 27), (1, 38)], 27) := by decide +kernel
theorem dX0_build_72 : decode cX0_build 72 = .ok (.aload_n 0, 1) := by decide +kernel
theorem dX0_build_73 : decode cX0_build 73 = .ok (.iload 4, 2) := by decide +kernel
theorem dX0_build_75 : decode cX0_build 75 = .ok (.iload 5, 2) := by decide +kernel
theorem dX0_build_77 : decode cX0_build 77 = .ok (.invokevirtual 50, 3) := by decide +kernel
theorem dX0_build_80 : decode cX0_build 80 = .ok (.goto 20, 3) := by decide +kernel
theorem dX0_build_83 : decode cX0_build 83 = .ok (.aload_n 0, 1) := by decide +kernel
theorem dX0_build_84 : decode cX0_build 84 = .ok (.iload 4, 2) := by decide +kernel
theorem dX0_build_86 : decode cX0_build 86 = .ok (.iload 5, 2) := by decide +kernel
theorem dX0_build_88 : decode cX0_build 88 = .ok (.invokevirtual 54, 3) := by decide +kernel
theorem dX0_build_91 : decode cX0_build 91 = .ok (.goto 9, 3) := by decide +kernel
theorem dX0_build_94 : decode cX0_build 94 = .ok (.aload_n 0, 1) := by decide +kernel
theorem dX0_build_95 : decode cX0_build 95 = .ok (.iload 4, 2) := by decide +kernel
theorem dX0_build_97 : decode cX0_build 97 = .ok (.invokevirtual 57, 3) := by decide +kernel
theorem dX0_build_100 : decode cX0_build 100 = .ok (.iinc 3 1, 3) := by decide +kernel
theorem dX0_build_103 : decode cX0_build 103 = .ok (.goto (-85), 3) := by decide +kernel
theorem dX0_build_106 : decode cX0_build 106 = .ok (.aload_n 0, 1) := by decide +kernel
theorem dX0_build_107 : decode cX0_build 107 = .ok (.getfield 24, 3) := by decide +kernel
theorem dX0_build_110 : decode cX0_build 110 = .ok (.ifCond .le 21, 3) := by decide +kernel
theorem dX0_build_113 : decode cX0_build 113 = .ok (.aload_n 0, 1) := by decide +kernel
theorem dX0_build_114 : decode cX0_build 114 = .ok (.getfield 20, 3) := by decide +kernel
theorem dX0_build_117 : decode cX0_build 117 = .ok (.iload_n 2, 1) := by decide +kernel
theorem dX0_build_118 : decode cX0_build 118 = .ok (.iconst 0, 1) := by decide +kernel
theorem dX0_build_119 : decode cX0_build 119 = .ok (.invokestatic 61, 3) := by decide +kernel
theorem dX0_build_122 : decode cX0_build 122 = .ok (.aload_n 0, 1) := by decide +kernel
theorem dX0_build_123 : decode cX0_build 123 = .ok (.getfield 11, 3) := by decide +kernel
theorem dX0_build_126 : decode cX0_build 126 = .ok (.iconst 0, 1) := by decide +kernel
theorem dX0_build_127 : decode cX0_build 127 = .ok (.iaload, 1) := by decide +kernel
theorem dX0_build_128 : decode cX0_build 128 = .ok (.invokevirtual 64, 3) := by decide +kernel
theorem dX0_build_131 : decode cX0_build 131 = .ok (.return_, 1) := by decide +kernel
set_option maxRecDepth 20000 in
theorem ggX0_buildName_X2_make : GoodIn wsX0_buildName wsX2_make := goodIn_r _ [9, 10, 11, 12, 13, 14, 22, 23, 24, 25, 26, 27, 28, 29, 30, 31] (by decide +kernel) (by decide +kernel)
set_option maxRecDepth 20000 in
theorem gX0_buildName_X2_make : GoodIn wsX0_buildName (wsV RX0 28 RX2 yX2_make wsX2_make) := goodIn_app (goodIn_of _ (by decide +kernel)) ggX0_buildName_X2_make
set_option maxRecDepth 20000 in
theorem ggX0_buildName_X7_portOf : GoodIn wsX0_buildName wsX7_portOf := goodIn_r _ [17] (by decide +kernel) (by decide +kernel)
set_option maxRecDepth 20000 in
theorem gX0_buildName_X7_portOf_n61 : GoodIn wsX0_buildName (wsX7_portOf) := ggX0_buildName_X7_portOf
theorem dX0_buildName_0 : decode cX0_buildName 0 = .ok (.aload_n 0, 1) := by decide +kernel
theorem dX0_buildName_1 : decode cX0_buildName 1 = .ok (.getfield 24, 3) := by decide +kernel
theorem dX0_buildName_4 : decode cX0_buildName 4 = .ok (.bipush 43, 2) := by decide +kernel
theorem dX0_buildName_6 : decode cX0_buildName 6 = .ok (.if_icmp .ge 13, 3) := by decide +kernel
theorem dX0_buildName_9 : decode cX0_buildName 9 = .ok (.iload_n 2, 1) := by decide +kernel
theorem dX0_buildName_10 : decode cX0_buildName 10 = .ok (.ifCond .lt 9, 3) := by decide +kernel
theorem dX0_buildName_13 : decode cX0_buildName 13 = .ok (.iload_n 2, 1) := by decide +kernel
theorem dX0_buildName_14 : decode cX0_buildName 14 = .ok (.bipush 40, 2) := by decide +kernel
theorem dX0_buildName_16 : decode cX0_buildName 16 = .ok (.if_icmp .lt 4, 3) := by decide +kernel
theorem dX0_buildName_19 : decode cX0_buildName 19 = .ok (.return_, 1) := by decide +kernel
theorem dX0_buildName_20 : decode cX0_buildName 20 = .ok (.aload_n 0, 1) := by decide +kernel
theorem dX0_buildName_21 : decode cX0_buildName 21 = .ok (.getfield 20, 3) := by decide +kernel
theorem dX0_buildName_24 : decode cX0_buildName 24 = .ok (.iconst 3, 1) := by decide +kernel
theorem dX0_buildName_25 : decode cX0_buildName 25 = .ok (.iload_n 1, 1) := by decide +kernel
theorem dX0_buildName_26 : decode cX0_buildName 26 = .ok (.invokevirtual 28, 3) := by decide +kernel
theorem dX0_buildName_29 : decode cX0_buildName 29 = .ok (.istore_n 3, 1) := by decide +kernel
theorem dX0_buildName_30 : decode cX0_buildName 30 = .ok (.iconst 0, 1) := by decide +kernel
theorem dX0_buildName_31 : decode cX0_buildName 31 = .ok (.istore 4, 2) := by decide +kernel
theorem dX0_buildName_33 : decode cX0_buildName 33 = .ok (.iload 4, 2) := by decide +kernel
theorem dX0_buildName_35 : decode cX0_buildName 35 = .ok (.bipush 40, 2) := by decide +kernel
theorem dX0_buildName_37 : decode cX0_buildName 37 = .ok (.if_icmp .ge 22, 3) := by decide +kernel
theorem dX0_buildName_40 : decode cX0_buildName 40 = .ok (.aload_n 0, 1) := by decide +kernel
theorem dX0_buildName_41 : decode cX0_buildName 41 = .ok (.getfield 17, 3) := by decide +kernel
theorem dX0_buildName_44 : decode cX0_buildName 44 = .ok (.aload_n 0, 1) := by decide +kernel
theorem dX0_buildName_45 : decode cX0_buildName 45 = .ok (.getfield 24, 3) := by decide +kernel
theorem dX0_buildName_48 : decode cX0_buildName 48 = .ok (.aaload, 1) := by decide +kernel
theorem dX0_buildName_49 : decode cX0_buildName 49 = .ok (.iload 4, 2) := by decide +kernel
theorem dX0_buildName_51 : decode cX0_buildName 51 = .ok (.iconst (-1), 1) := by decide +kernel
theorem dX0_buildName_52 : decode cX0_buildName 52 = .ok (.iastore, 1) := by decide +kernel
theorem dX0_buildName_53 : decode cX0_buildName 53 = .ok (.iinc 4 1, 3) := by decide +kernel
theorem dX0_buildName_56 : decode cX0_buildName 56 = .ok (.goto (-23), 3) := by decide +kernel
theorem dX0_buildName_59 : decode cX0_buildName 59 = .ok (.aload_n 0, 1) := by decide +kernel
theorem dX0_buildName_60 : decode cX0_buildName 60 = .ok (.getfield 11, 3) := by decide +kernel
theorem dX0_buildName_63 : decode cX0_buildName 63 = .ok (.aload_n 0, 1) := by decide +kernel
theorem dX0_buildName_64 : decode cX0_buildName 64 = .ok (.getfield 24, 3) := by decide +kernel
theorem dX0_buildName_67 : decode cX0_buildName 67 = .ok (.iload_n 3, 1) := by decide +kernel
theorem dX0_buildName_68 : decode cX0_buildName 68 = .ok (.iconst 1, 1) := by decide +kernel
theorem dX0_buildName_69 : decode cX0_buildName 69 = .ok (.invokestatic 61, 3) := by decide +kernel
theorem dX0_buildName_72 : decode cX0_buildName 72 = .ok (.iastore, 1) := by decide +kernel
theorem dX0_buildName_73 : decode cX0_buildName 73 = .ok (.aload_n 0, 1) := by decide +kernel
theorem dX0_buildName_74 : decode cX0_buildName 74 = .ok (.getfield 17, 3) := by decide +kernel
theorem dX0_buildName_77 : decode cX0_buildName 77 = .ok (.aload_n 0, 1) := by decide +kernel
theorem dX0_buildName_78 : decode cX0_buildName 78 = .ok (.getfield 24, 3) := by decide +kernel
theorem dX0_buildName_81 : decode cX0_buildName 81 = .ok (.aaload, 1) := by decide +kernel
theorem dX0_buildName_82 : decode cX0_buildName 82 = .ok (.iload_n 2, 1) := by decide +kernel
theorem dX0_buildName_83 : decode cX0_buildName 83 = .ok (.iload_n 3, 1) := by decide +kernel
theorem dX0_buildName_84 : decode cX0_buildName 84 = .ok (.iconst 0, 1) := by decide +kernel
theorem dX0_buildName_85 : decode cX0_buildName 85 = .ok (.invokestatic 61, 3) := by decide +kernel
theorem dX0_buildName_88 : decode cX0_buildName 88 = .ok (.iastore, 1) := by decide +kernel
theorem dX0_buildName_89 : decode cX0_buildName 89 = .ok (.aload_n 0, 1) := by decide +kernel
theorem dX0_buildName_90 : decode cX0_buildName 90 = .ok (.dup, 1) := by decide +kernel
theorem dX0_buildName_91 : decode cX0_buildName 91 = .ok (.getfield 24, 3) := by decide +kernel
theorem dX0_buildName_94 : decode cX0_buildName 94 = .ok (.iconst 1, 1) := by decide +kernel
theorem dX0_buildName_95 : decode cX0_buildName 95 = .ok (.iadd, 1) := by decide +kernel
theorem dX0_buildName_96 : decode cX0_buildName 96 = .ok (.putfield 24, 3) := by decide +kernel
theorem dX0_buildName_99 : decode cX0_buildName 99 = .ok (.return_, 1) := by decide +kernel
set_option maxRecDepth 20000 in
theorem ggX0_buildLambda_X2_make : GoodIn wsX0_buildLambda wsX2_make := goodIn_r _ [9, 10, 11, 12, 13, 14, 36, 37, 38, 39, 40, 41, 42, 43, 44, 45] (by decide +kernel) (by decide +kernel)
set_option maxRecDepth 20000 in
theorem gX0_buildLambda_X2_make : GoodIn wsX0_buildLambda (wsV RX0 28 RX2 yX2_make wsX2_make) := goodIn_app (goodIn_of _ (by decide +kernel)) ggX0_buildLambda_X2_make
set_option maxRecDepth 20000 in
theorem ggX0_buildLambda_X7_portOf : GoodIn wsX0_buildLambda wsX7_portOf := goodIn_r _ [17] (by decide +kernel) (by decide +kernel)
set_option maxRecDepth 20000 in
theorem gX0_buildLambda_X7_portOf_n61 : GoodIn wsX0_buildLambda (wsX7_portOf) := ggX0_buildLambda_X7_portOf
set_option maxRecDepth 20000 in
theorem ggX0_buildLambda_X2_link : GoodIn wsX0_buildLambda wsX2_link := goodIn_r _ [21, 22, 23, 16, 24, 25, 26, 27, 8, 28, 29, 12, 30, 31, 36, 37, 38, 39, 40, 41, 42, 43, 44, 45] (by decide +kernel) (by decide +kernel)
set_option maxRecDepth 20000 in
theorem gX0_buildLambda_X2_link : GoodIn wsX0_buildLambda (wsV RX0 64 RX2 yX2_link wsX2_link) := goodIn_app (goodIn_of _ (by decide +kernel)) ggX0_buildLambda_X2_link
theorem dX0_buildLambda_0 : decode cX0_buildLambda 0 = .ok (.aload_n 0, 1) := by decide +kernel
theorem dX0_buildLambda_1 : decode cX0_buildLambda 1 = .ok (.getfield 24, 3) := by decide +kernel
theorem dX0_buildLambda_4 : decode cX0_buildLambda 4 = .ok (.iconst 1, 1) := by decide +kernel
theorem dX0_buildLambda_5 : decode cX0_buildLambda 5 = .ok (.if_icmp .lt 13, 3) := by decide +kernel
theorem dX0_buildLambda_8 : decode cX0_buildLambda 8 = .ok (.iload_n 2, 1) := by decide +kernel
theorem dX0_buildLambda_9 : decode cX0_buildLambda 9 = .ok (.ifCond .lt 9, 3) := by decide +kernel
theorem dX0_buildLambda_12 : decode cX0_buildLambda 12 = .ok (.iload_n 2, 1) := by decide +kernel
theorem dX0_buildLambda_13 : decode cX0_buildLambda 13 = .ok (.bipush 40, 2) := by decide +kernel
theorem dX0_buildLambda_15 : decode cX0_buildLambda 15 = .ok (.if_icmp .lt 4, 3) := by decide +kernel
theorem dX0_buildLambda_18 : decode cX0_buildLambda 18 = .ok (.return_, 1) := by decide +kernel
theorem dX0_buildLambda_19 : decode cX0_buildLambda 19 = .ok (.aload_n 0, 1) := by decide +kernel
theorem dX0_buildLambda_20 : decode cX0_buildLambda 20 = .ok (.getfield 24, 3) := by decide +kernel
theorem dX0_buildLambda_23 : decode cX0_buildLambda 23 = .ok (.iconst 1, 1) := by decide +kernel
theorem dX0_buildLambda_24 : decode cX0_buildLambda 24 = .ok (.isub, 1) := by decide +kernel
theorem dX0_buildLambda_25 : decode cX0_buildLambda 25 = .ok (.istore_n 3, 1) := by decide +kernel
theorem dX0_buildLambda_26 : decode cX0_buildLambda 26 = .ok (.aload_n 0, 1) := by decide +kernel
theorem dX0_buildLambda_27 : decode cX0_buildLambda 27 = .ok (.getfield 20, 3) := by decide +kernel
theorem dX0_buildLambda_30 : decode cX0_buildLambda 30 = .ok (.iconst 0, 1) := by decide +kernel
theorem dX0_buildLambda_31 : decode cX0_buildLambda 31 = .ok (.iload_n 1, 1) := by decide +kernel
theorem dX0_buildLambda_32 : decode cX0_buildLambda 32 = .ok (.invokevirtual 28, 3) := by decide +kernel
theorem dX0_buildLambda_35 : decode cX0_buildLambda 35 = .ok (.istore 4, 2) := by decide +kernel
theorem dX0_buildLambda_37 : decode cX0_buildLambda 37 = .ok (.aload_n 0, 1) := by decide +kernel
theorem dX0_buildLambda_38 : decode cX0_buildLambda 38 = .ok (.getfield 17, 3) := by decide +kernel
theorem dX0_buildLambda_41 : decode cX0_buildLambda 41 = .ok (.iload_n 3, 1) := by decide +kernel
theorem dX0_buildLambda_42 : decode cX0_buildLambda 42 = .ok (.aaload, 1) := by decide +kernel
theorem dX0_buildLambda_43 : decode cX0_buildLambda 43 = .ok (.iload_n 2, 1) := by decide +kernel
theorem dX0_buildLambda_44 : decode cX0_buildLambda 44 = .ok (.iaload, 1) := by decide +kernel
theorem dX0_buildLambda_45 : decode cX0_buildLambda 45 = .ok (.istore 5, 2) := by decide +kernel
theorem dX0_buildLambda_47 : decode cX0_buildLambda 47 = .ok (.iload 5, 2) := by decide +kernel
theorem dX0_buildLambda_49 : decode cX0_buildLambda 49 = .ok (.iconst (-1), 1) := by decide +kernel
theorem dX0_buildLambda_50 : decode cX0_buildLambda 50 = .ok (.if_icmp .ne 18, 3) := by decide +kernel
theorem dX0_buildLambda_53 : decode cX0_buildLambda 53 = .ok (.aload_n 0, 1) := by decide +kernel
theorem dX0_buildLambda_54 : decode cX0_buildLambda 54 = .ok (.getfield 20, 3) := by decide +kernel
theorem dX0_buildLambda_57 : decode cX0_buildLambda 57 = .ok (.iconst 5, 1) := by decide +kernel
theorem dX0_buildLambda_58 : decode cX0_buildLambda 58 = .ok (.iconst (-1), 1) := by decide +kernel
theorem dX0_buildLambda_59 : decode cX0_buildLambda 59 = .ok (.invokevirtual 28, 3) := by decide +kernel
theorem dX0_buildLambda_62 : decode cX0_buildLambda 62 = .ok (.iconst 0, 1) := by decide +kernel
theorem dX0_buildLambda_63 : decode cX0_buildLambda 63 = .ok (.invokestatic 61, 3) := by decide +kernel
theorem dX0_buildLambda_66 : decode cX0_buildLambda 66 = .ok (.istore 5, 2) := by decide +kernel
theorem dX0_buildLambda_68 : decode cX0_buildLambda 68 = .ok (.aload_n 0, 1) := by decide +kernel
theorem dX0_buildLambda_69 : decode cX0_buildLambda 69 = .ok (.getfield 20, 3) := by decide +kernel
theorem dX0_buildLambda_72 : decode cX0_buildLambda 72 = .ok (.iload 4, 2) := by decide +kernel
theorem dX0_buildLambda_74 : decode cX0_buildLambda 74 = .ok (.iconst 1, 1) := by decide +kernel
theorem dX0_buildLambda_75 : decode cX0_buildLambda 75 = .ok (.invokestatic 61, 3) := by decide +kernel
theorem dX0_buildLambda_78 : decode cX0_buildLambda 78 = .ok (.aload_n 0, 1) := by decide +kernel
theorem dX0_buildLambda_79 : decode cX0_buildLambda 79 = .ok (.getfield 11, 3) := by decide +kernel
theorem dX0_buildLambda_82 : decode cX0_buildLambda 82 = .ok (.iload_n 3, 1) := by decide +kernel
theorem dX0_buildLambda_83 : decode cX0_buildLambda 83 = .ok (.iaload, 1) := by decide +kernel
theorem dX0_buildLambda_84 : decode cX0_buildLambda 84 = .ok (.invokevirtual 64, 3) := by decide +kernel
theorem dX0_buildLambda_87 : decode cX0_buildLambda 87 = .ok (.aload_n 0, 1) := by decide +kernel
theorem dX0_buildLambda_88 : decode cX0_buildLambda 88 = .ok (.getfield 20, 3) := by decide +kernel
theorem dX0_buildLambda_91 : decode cX0_buildLambda 91 = .ok (.iload 4, 2) := by decide +kernel
theorem dX0_buildLambda_93 : decode cX0_buildLambda 93 = .ok (.iconst 2, 1) := by decide +kernel
theorem dX0_buildLambda_94 : decode cX0_buildLambda 94 = .ok (.invokestatic 61, 3) := by decide +kernel
theorem dX0_buildLambda_97 : decode cX0_buildLambda 97 = .ok (.iload 5, 2) := by decide +kernel
theorem dX0_buildLambda_99 : decode cX0_buildLambda 99 = .ok (.invokevirtual 64, 3) := by decide +kernel
theorem dX0_buildLambda_102 : decode cX0_buildLambda 102 = .ok (.aload_n 0, 1) := by decide +kernel
theorem dX0_buildLambda_103 : decode cX0_buildLambda 103 = .ok (.getfield 11, 3) := by decide +kernel
theorem dX0_buildLambda_106 : decode cX0_buildLambda 106 = .ok (.iload_n 3, 1) := by decide +kernel
theorem dX0_buildLambda_107 : decode cX0_buildLambda 107 = .ok (.iload 4, 2) := by decide +kernel
theorem dX0_buildLambda_109 : decode cX0_buildLambda 109 = .ok (.iconst 0, 1) := by decide +kernel
theorem dX0_buildLambda_110 : decode cX0_buildLambda 110 = .ok (.invokestatic 61, 3) := by decide +kernel
theorem dX0_buildLambda_113 : decode cX0_buildLambda 113 = .ok (.iastore, 1) := by decide +kernel
theorem dX0_buildLambda_114 : decode cX0_buildLambda 114 = .ok (.aload_n 0, 1) := by decide +kernel
theorem dX0_buildLambda_115 : decode cX0_buildLambda 115 = .ok (.getfield 17, 3) := by decide +kernel
theorem dX0_buildLambda_118 : decode cX0_buildLambda 118 = .ok (.iload_n 3, 1) := by decide +kernel
theorem dX0_buildLambda_119 : decode cX0_buildLambda 119 = .ok (.aaload, 1) := by decide +kernel
theorem dX0_buildLambda_120 : decode cX0_buildLambda 120 = .ok (.iload_n 2, 1) := by decide +kernel
theorem dX0_buildLambda_121 : decode cX0_buildLambda 121 = .ok (.iconst (-1), 1) := by decide +kernel
theorem dX0_buildLambda_122 : decode cX0_buildLambda 122 = .ok (.iastore, 1) := by decide +kernel
theorem dX0_buildLambda_123 : decode cX0_buildLambda 123 = .ok (.return_, 1) := by decide +kernel
set_option maxRecDepth 20000 in
theorem ggX0_buildApplication_X2_make : GoodIn wsX0_buildApplication wsX2_make := goodIn_r _ [9, 10, 11, 12, 13, 14, 45, 46, 47, 48, 49, 50, 51, 52, 53, 54] (by decide +kernel) (by decide +kernel)
set_option maxRecDepth 20000 in
theorem gX0_buildApplication_X2_make : GoodIn wsX0_buildApplication (wsV RX0 28 RX2 yX2_make wsX2_make) := goodIn_app (goodIn_of _ (by decide +kernel)) ggX0_buildApplication_X2_make
set_option maxRecDepth 20000 in
theorem ggX0_buildApplication_X7_portOf : GoodIn wsX0_buildApplication wsX7_portOf := goodIn_r _ [17] (by decide +kernel) (by decide +kernel)
set_option maxRecDepth 20000 in
theorem gX0_buildApplication_X7_portOf_n61 : GoodIn wsX0_buildApplication (wsX7_portOf) := ggX0_buildApplication_X7_portOf
set_option maxRecDepth 20000 in
theorem ggX0_buildApplication_X2_link : GoodIn wsX0_buildApplication wsX2_link := goodIn_r _ [21, 22, 23, 16, 24, 25, 26, 27, 8, 28, 29, 12, 30, 31, 45, 46, 47, 48, 49, 50, 51, 52, 53, 54] (by decide +kernel) (by decide +kernel)
set_option maxRecDepth 20000 in
theorem gX0_buildApplication_X2_link : GoodIn wsX0_buildApplication (wsV RX0 64 RX2 yX2_link wsX2_link) := goodIn_app (goodIn_of _ (by decide +kernel)) ggX0_buildApplication_X2_link
set_option maxRecDepth 20000 in
theorem ggX0_buildApplication_X0_bracket : GoodIn wsX0_buildApplication wsX0_bracket := goodIn_r _ [36, 2, 5, 6, 7, 8, 9, 10, 11, 12, 13, 14, 15, 16, 17, 18, 19, 20, 21, 22, 23, 24, 25, 26, 27, 28, 29, 30, 31, 41, 42, 43, 44, 45, 46, 47, 48, 49, 50, 51, 52, 53, 54] (by decide +kernel) (by decide +kernel)
set_option maxRecDepth 20000 in
theorem gX0_buildApplication_X0_bracket : GoodIn wsX0_buildApplication (wsV RX0 67 RX0 yX0_bracket wsX0_bracket) := goodIn_app (goodIn_of _ (by decide +kernel)) ggX0_buildApplication_X0_bracket
set_option maxRecDepth 20000 in
theorem ggX0_buildApplication_X0_share : GoodIn wsX0_buildApplication wsX0_share := goodIn_r _ [40, 2, 5, 6, 7, 8, 9, 10, 11, 12, 13, 14, 15, 16, 17, 18, 19, 20, 21, 22, 23, 24, 25, 26, 27, 28, 29, 30, 31, 41, 42, 43, 44, 45, 46, 47, 48, 49, 50, 51, 52, 53, 54] (by decide +kernel) (by decide +kernel)
set_option maxRecDepth 20000 in
theorem gX0_buildApplication_X0_share : GoodIn wsX0_buildApplication (wsV RX0 70 RX0 yX0_share wsX0_share) := goodIn_app (goodIn_of _ (by decide +kernel)) ggX0_buildApplication_X0_share
theorem dX0_buildApplication_0 : decode cX0_buildApplication 0 = .ok (.aload_n 0, 1) := by decide +kernel
theorem dX0_buildApplication_1 : decode cX0_buildApplication 1 = .ok (.getfield 24, 3) := by decide +kernel
theorem dX0_buildApplication_4 : decode cX0_buildApplication 4 = .ok (.iconst 2, 1) := by decide +kernel
theorem dX0_buildApplication_5 : decode cX0_buildApplication 5 = .ok (.if_icmp .ge 4, 3) := by decide +kernel
theorem dX0_buildApplication_8 : decode cX0_buildApplication 8 = .ok (.return_, 1) := by decide +kernel
theorem dX0_buildApplication_9 : decode cX0_buildApplication 9 = .ok (.aload_n 0, 1) := by decide +kernel
theorem dX0_buildApplication_10 : decode cX0_buildApplication 10 = .ok (.getfield 24, 3) := by decide +kernel
theorem dX0_buildApplication_13 : decode cX0_buildApplication 13 = .ok (.iconst 1, 1) := by decide +kernel
theorem dX0_buildApplication_14 : decode cX0_buildApplication 14 = .ok (.isub, 1) := by decide +kernel
theorem dX0_buildApplication_15 : decode cX0_buildApplication 15 = .ok (.istore_n 2, 1) := by decide +kernel
theorem dX0_buildApplication_16 : decode cX0_buildApplication 16 = .ok (.aload_n 0, 1) := by decide +kernel
theorem dX0_buildApplication_17 : decode cX0_buildApplication 17 = .ok (.getfield 24, 3) := by decide +kernel
theorem dX0_buildApplication_20 : decode cX0_buildApplication 20 = .ok (.iconst 2, 1) := by decide +kernel
theorem dX0_buildApplication_21 : decode cX0_buildApplication 21 = .ok (.isub, 1) := by decide +kernel
theorem dX0_buildApplication_22 : decode cX0_buildApplication 22 = .ok (.istore_n 3, 1) := by decide +kernel
theorem dX0_buildApplication_23 : decode cX0_buildApplication 23 = .ok (.aload_n 0, 1) := by decide +kernel
theorem dX0_buildApplication_24 : decode cX0_buildApplication 24 = .ok (.getfield 20, 3) := by decide +kernel
theorem dX0_buildApplication_27 : decode cX0_buildApplication 27 = .ok (.iconst 1, 1) := by decide +kernel
theorem dX0_buildApplication_28 : decode cX0_buildApplication 28 = .ok (.iload_n 1, 1) := by decide +kernel
theorem dX0_buildApplication_29 : decode cX0_buildApplication 29 = .ok (.invokevirtual 28, 3) := by decide +kernel
theorem dX0_buildApplication_32 : decode cX0_buildApplication 32 = .ok (.istore 4, 2) := by decide +kernel
theorem dX0_buildApplication_34 : decode cX0_buildApplication 34 = .ok (.aload_n 0, 1) := by decide +kernel
theorem dX0_buildApplication_35 : decode cX0_buildApplication 35 = .ok (.getfield 20, 3) := by decide +kernel
theorem dX0_buildApplication_38 : decode cX0_buildApplication 38 = .ok (.iload 4, 2) := by decide +kernel
theorem dX0_buildApplication_40 : decode cX0_buildApplication 40 = .ok (.iconst 0, 1) := by decide +kernel
theorem dX0_buildApplication_41 : decode cX0_buildApplication 41 = .ok (.invokestatic 61, 3) := by decide +kernel
theorem dX0_buildApplication_44 : decode cX0_buildApplication 44 = .ok (.aload_n 0, 1) := by decide +kernel
theorem dX0_buildApplication_45 : decode cX0_buildApplication 45 = .ok (.getfield 11, 3) := by decide +kernel
theorem dX0_buildApplication_48 : decode cX0_buildApplication 48 = .ok (.iload_n 3, 1) := by decide +kernel
theorem dX0_buildApplication_49 : decode cX0_buildApplication 49 = .ok (.iaload, 1) := by decide +kernel
theorem dX0_buildApplication_50 : decode cX0_buildApplication 50 = .ok (.invokevirtual 64, 3) := by decide +kernel
theorem dX0_buildApplication_53 : decode cX0_buildApplication 53 = .ok (.aload_n 0, 1) := by decide +kernel
theorem dX0_buildApplication_54 : decode cX0_buildApplication 54 = .ok (.getfield 20, 3) := by decide +kernel
theorem dX0_buildApplication_57 : decode cX0_buildApplication 57 = .ok (.iload 4, 2) := by decide +kernel
theorem dX0_buildApplication_59 : decode cX0_buildApplication 59 = .ok (.iconst 2, 1) := by decide +kernel
theorem dX0_buildApplication_60 : decode cX0_buildApplication 60 = .ok (.invokestatic 61, 3) := by decide +kernel
theorem dX0_buildApplication_63 : decode cX0_buildApplication 63 = .ok (.aload_n 0, 1) := by decide +kernel
theorem dX0_buildApplication_64 : decode cX0_buildApplication 64 = .ok (.getfield 11, 3) := by decide +kernel
theorem dX0_buildApplication_67 : decode cX0_buildApplication 67 = .ok (.iload_n 2, 1) := by decide +kernel
theorem dX0_buildApplication_68 : decode cX0_buildApplication 68 = .ok (.iaload, 1) := by decide +kernel
theorem dX0_buildApplication_69 : decode cX0_buildApplication 69 = .ok (.invokevirtual 64, 3) := by decide +kernel
theorem dX0_buildApplication_72 : decode cX0_buildApplication 72 = .ok (.aload_n 0, 1) := by decide +kernel
theorem dX0_buildApplication_73 : decode cX0_buildApplication 73 = .ok (.getfield 11, 3) := by decide +kernel
theorem dX0_buildApplication_76 : decode cX0_buildApplication 76 = .ok (.iload_n 3, 1) := by decide +kernel
theorem dX0_buildApplication_77 : decode cX0_buildApplication 77 = .ok (.iload 4, 2) := by decide +kernel
theorem dX0_buildApplication_79 : decode cX0_buildApplication 79 = .ok (.iconst 1, 1) := by decide +kernel
theorem dX0_buildApplication_80 : decode cX0_buildApplication 80 = .ok (.invokestatic 61, 3) := by decide +kernel
theorem dX0_buildApplication_83 : decode cX0_buildApplication 83 = .ok (.iastore, 1) := by decide +kernel
theorem dX0_buildApplication_84 : decode cX0_buildApplication 84 = .ok (.iconst 0, 1) := by decide +kernel
theorem dX0_buildApplication_85 : decode cX0_buildApplication 85 = .ok (.istore 5, 2) := by decide +kernel
theorem dX0_buildApplication_87 : decode cX0_buildApplication 87 = .ok (.iload 5, 2) := by decide +kernel
theorem dX0_buildApplication_89 : decode cX0_buildApplication 89 = .ok (.bipush 40, 2) := by decide +kernel
theorem dX0_buildApplication_91 : decode cX0_buildApplication 91 = .ok (.if_icmp .ge 56, 3) := by decide +kernel
theorem dX0_buildApplication_94 : decode cX0_buildApplication 94 = .ok (.aload_n 0, 1) := by decide +kernel
theorem dX0_buildApplication_95 : decode cX0_buildApplication 95 = .ok (.getfield 17, 3) := by decide +kernel
theorem dX0_buildApplication_98 : decode cX0_buildApplication 98 = .ok (.iload_n 2, 1) := by decide +kernel
theorem dX0_buildApplication_99 : decode cX0_buildApplication 99 = .ok (.aaload, 1) := by decide +kernel
theorem dX0_buildApplication_100 : decode cX0_buildApplication 100 = .ok (.iload 5, 2) := by decide +kernel
theorem dX0_buildApplication_102 : decode cX0_buildApplication 102 = .ok (.iaload, 1) := by decide +kernel
theorem dX0_buildApplication_103 : decode cX0_buildApplication 103 = .ok (.istore 6, 2) := by decide +kernel
theorem dX0_buildApplication_105 : decode cX0_buildApplication 105 = .ok (.iload 6, 2) := by decide +kernel
theorem dX0_buildApplication_107 : decode cX0_buildApplication 107 = .ok (.iconst (-1), 1) := by decide +kernel
theorem dX0_buildApplication_108 : decode cX0_buildApplication 108 = .ok (.if_icmp .eq 33, 3) := by decide +kernel
theorem dX0_buildApplication_111 : decode cX0_buildApplication 111 = .ok (.aload_n 0, 1) := by decide +kernel
theorem dX0_buildApplication_112 : decode cX0_buildApplication 112 = .ok (.getfield 17, 3) := by decide +kernel
theorem dX0_buildApplication_115 : decode cX0_buildApplication 115 = .ok (.iload_n 3, 1) := by decide +kernel
theorem dX0_buildApplication_116 : decode cX0_buildApplication 116 = .ok (.aaload, 1) := by decide +kernel
theorem dX0_buildApplication_117 : decode cX0_buildApplication 117 = .ok (.iload 5, 2) := by decide +kernel
theorem dX0_buildApplication_119 : decode cX0_buildApplication 119 = .ok (.aload_n 0, 1) := by decide +kernel
theorem dX0_buildApplication_120 : decode cX0_buildApplication 120 = .ok (.iload_n 1, 1) := by decide +kernel
theorem dX0_buildApplication_121 : decode cX0_buildApplication 121 = .ok (.aload_n 0, 1) := by decide +kernel
theorem dX0_buildApplication_122 : decode cX0_buildApplication 122 = .ok (.getfield 17, 3) := by decide +kernel
theorem dX0_buildApplication_125 : decode cX0_buildApplication 125 = .ok (.iload_n 3, 1) := by decide +kernel
theorem dX0_buildApplication_126 : decode cX0_buildApplication 126 = .ok (.aaload, 1) := by decide +kernel
theorem dX0_buildApplication_127 : decode cX0_buildApplication 127 = .ok (.iload 5, 2) := by decide +kernel
theorem dX0_buildApplication_129 : decode cX0_buildApplication 129 = .ok (.iaload, 1) := by decide +kernel
theorem dX0_buildApplication_130 : decode cX0_buildApplication 130 = .ok (.aload_n 0, 1) := by decide +kernel
theorem dX0_buildApplication_131 : decode cX0_buildApplication 131 = .ok (.iload_n 1, 1) := by decide +kernel
theorem dX0_buildApplication_132 : decode cX0_buildApplication 132 = .ok (.iload 6, 2) := by decide +kernel
theorem dX0_buildApplication_134 : decode cX0_buildApplication 134 = .ok (.invokevirtual 67, 3) := by decide +kernel
theorem dX0_buildApplication_137 : decode cX0_buildApplication 137 = .ok (.invokevirtual 70, 3) := by decide +kernel
theorem dX0_buildApplication_140 : decode cX0_buildApplication 140 = .ok (.iastore, 1) := by decide +kernel
theorem dX0_buildApplication_141 : decode cX0_buildApplication 141 = .ok (.iinc 5 1, 3) := by decide +kernel
theorem dX0_buildApplication_144 : decode cX0_buildApplication 144 = .ok (.goto (-57), 3) := by decide +kernel
theorem dX0_buildApplication_147 : decode cX0_buildApplication 147 = .ok (.aload_n 0, 1) := by decide +kernel
theorem dX0_buildApplication_148 : decode cX0_buildApplication 148 = .ok (.iload_n 2, 1) := by decide +kernel
theorem dX0_buildApplication_149 : decode cX0_buildApplication 149 = .ok (.putfield 24, 3) := by decide +kernel
theorem dX0_buildApplication_152 : decode cX0_buildApplication 152 = .ok (.return_, 1) := by decide +kernel
set_option maxRecDepth 20000 in
theorem ggX0_bracket_X2_make : GoodIn wsX0_bracket wsX2_make := goodIn_r _ [6, 7, 8, 9, 10, 11, 33, 34, 35, 36, 37, 38, 39, 40, 41, 42] (by decide +kernel) (by decide +kernel)
set_option maxRecDepth 20000 in
theorem gX0_bracket_X2_make : GoodIn wsX0_bracket (wsV RX0 28 RX2 yX2_make wsX2_make) := goodIn_app (goodIn_of _ (by decide +kernel)) ggX0_bracket_X2_make
set_option maxRecDepth 20000 in
theorem ggX0_bracket_X7_portOf : GoodIn wsX0_bracket wsX7_portOf := goodIn_r _ [14] (by decide +kernel) (by decide +kernel)
set_option maxRecDepth 20000 in
theorem gX0_bracket_X7_portOf_n61 : GoodIn wsX0_bracket (wsX7_portOf) := ggX0_bracket_X7_portOf
set_option maxRecDepth 20000 in
theorem ggX0_bracket_X2_link : GoodIn wsX0_bracket wsX2_link := goodIn_r _ [18, 19, 20, 13, 21, 22, 23, 24, 5, 25, 26, 9, 27, 28, 33, 34, 35, 36, 37, 38, 39, 40, 41, 42] (by decide +kernel) (by decide +kernel)
set_option maxRecDepth 20000 in
theorem gX0_bracket_X2_link : GoodIn wsX0_bracket (wsV RX0 64 RX2 yX2_link wsX2_link) := goodIn_app (goodIn_of _ (by decide +kernel)) ggX0_bracket_X2_link
theorem dX0_bracket_0 : decode cX0_bracket 0 = .ok (.aload_n 0, 1) := by decide +kernel
theorem dX0_bracket_1 : decode cX0_bracket 1 = .ok (.getfield 20, 3) := by decide +kernel
theorem dX0_bracket_4 : decode cX0_bracket 4 = .ok (.iconst 4, 1) := by decide +kernel
theorem dX0_bracket_5 : decode cX0_bracket 5 = .ok (.iload_n 1, 1) := by decide +kernel
theorem dX0_bracket_6 : decode cX0_bracket 6 = .ok (.invokevirtual 28, 3) := by decide +kernel
theorem dX0_bracket_9 : decode cX0_bracket 9 = .ok (.istore_n 3, 1) := by decide +kernel
theorem dX0_bracket_10 : decode cX0_bracket 10 = .ok (.aload_n 0, 1) := by decide +kernel
theorem dX0_bracket_11 : decode cX0_bracket 11 = .ok (.getfield 20, 3) := by decide +kernel
theorem dX0_bracket_14 : decode cX0_bracket 14 = .ok (.iload_n 3, 1) := by decide +kernel
theorem dX0_bracket_15 : decode cX0_bracket 15 = .ok (.iconst 1, 1) := by decide +kernel
theorem dX0_bracket_16 : decode cX0_bracket 16 = .ok (.invokestatic 61, 3) := by decide +kernel
theorem dX0_bracket_19 : decode cX0_bracket 19 = .ok (.iload_n 2, 1) := by decide +kernel
theorem dX0_bracket_20 : decode cX0_bracket 20 = .ok (.invokevirtual 64, 3) := by decide +kernel
theorem dX0_bracket_23 : decode cX0_bracket 23 = .ok (.iload_n 3, 1) := by decide +kernel
theorem dX0_bracket_24 : decode cX0_bracket 24 = .ok (.iconst 0, 1) := by decide +kernel
theorem dX0_bracket_25 : decode cX0_bracket 25 = .ok (.invokestatic 61, 3) := by decide +kernel
theorem dX0_bracket_28 : decode cX0_bracket 28 = .ok (.ireturn, 1) := by decide +kernel
set_option maxRecDepth 20000 in
theorem ggX0_share_X2_make : GoodIn wsX0_share wsX2_make := goodIn_r _ [6, 7, 8, 9, 10, 11, 33, 34, 35, 36, 37, 38, 39, 40, 41, 42] (by decide +kernel) (by decide +kernel)
set_option maxRecDepth 20000 in
theorem gX0_share_X2_make : GoodIn wsX0_share (wsV RX0 28 RX2 yX2_make wsX2_make) := goodIn_app (goodIn_of _ (by decide +kernel)) ggX0_share_X2_make
set_option maxRecDepth 20000 in
theorem ggX0_share_X7_portOf : GoodIn wsX0_share wsX7_portOf := goodIn_r _ [14] (by decide +kernel) (by decide +kernel)
set_option maxRecDepth 20000 in
theorem gX0_share_X7_portOf_n61 : GoodIn wsX0_share (wsX7_portOf) := ggX0_share_X7_portOf
set_option maxRecDepth 20000 in
theorem ggX0_share_X2_link : GoodIn wsX0_share wsX2_link := goodIn_r _ [18, 19, 20, 13, 21, 22, 23, 24, 5, 25, 26, 9, 27, 28, 33, 34, 35, 36, 37, 38, 39, 40, 41, 42] (by decide +kernel) (by decide +kernel)
set_option maxRecDepth 20000 in
theorem gX0_share_X2_link : GoodIn wsX0_share (wsV RX0 64 RX2 yX2_link wsX2_link) := goodIn_app (goodIn_of _ (by decide +kernel)) ggX0_share_X2_link
theorem dX0_share_0 : decode cX0_share 0 = .ok (.iload_n 2, 1) := by decide +kernel
theorem dX0_share_1 : decode cX0_share 1 = .ok (.iconst (-1), 1) := by decide +kernel
theorem dX0_share_2 : decode cX0_share 2 = .ok (.if_icmp .ne 5, 3) := by decide +kernel
theorem dX0_share_5 : decode cX0_share 5 = .ok (.iload_n 3, 1) := by decide +kernel
theorem dX0_share_6 : decode cX0_share 6 = .ok (.ireturn, 1) := by decide +kernel
theorem dX0_share_7 : decode cX0_share 7 = .ok (.aload_n 0, 1) := by decide +kernel
theorem dX0_share_8 : decode cX0_share 8 = .ok (.getfield 20, 3) := by decide +kernel
theorem dX0_share_11 : decode cX0_share 11 = .ok (.iconst 2, 1) := by decide +kernel
theorem dX0_share_12 : decode cX0_share 12 = .ok (.iload_n 1, 1) := by decide +kernel
theorem dX0_share_13 : decode cX0_share 13 = .ok (.invokevirtual 28, 3) := by decide +kernel
theorem dX0_share_16 : decode cX0_share 16 = .ok (.istore 4, 2) := by decide +kernel
theorem dX0_share_18 : decode cX0_share 18 = .ok (.aload_n 0, 1) := by decide +kernel
theorem dX0_share_19 : decode cX0_share 19 = .ok (.getfield 20, 3) := by decide +kernel
theorem dX0_share_22 : decode cX0_share 22 = .ok (.iload 4, 2) := by decide +kernel
theorem dX0_share_24 : decode cX0_share 24 = .ok (.iconst 1, 1) := by decide +kernel
theorem dX0_share_25 : decode cX0_share 25 = .ok (.invokestatic 61, 3) := by decide +kernel
theorem dX0_share_28 : decode cX0_share 28 = .ok (.iload_n 2, 1) := by decide +kernel
theorem dX0_share_29 : decode cX0_share 29 = .ok (.invokevirtual 64, 3) := by decide +kernel
theorem dX0_share_32 : decode cX0_share 32 = .ok (.aload_n 0, 1) := by decide +kernel
theorem dX0_share_33 : decode cX0_share 33 = .ok (.getfield 20, 3) := by decide +kernel
theorem dX0_share_36 : decode cX0_share 36 = .ok (.iload 4, 2) := by decide +kernel
theorem dX0_share_38 : decode cX0_share 38 = .ok (.iconst 2, 1) := by decide +kernel
theorem dX0_share_39 : decode cX0_share 39 = .ok (.invokestatic 61, 3) := by decide +kernel
theorem dX0_share_42 : decode cX0_share 42 = .ok (.iload_n 3, 1) := by decide +kernel
theorem dX0_share_43 : decode cX0_share 43 = .ok (.invokevirtual 64, 3) := by decide +kernel
theorem dX0_share_46 : decode cX0_share 46 = .ok (.iload 4, 2) := by decide +kernel
theorem dX0_share_48 : decode cX0_share 48 = .ok (.iconst 0, 1) := by decide +kernel
theorem dX0_share_49 : decode cX0_share 49 = .ok (.invokestatic 61, 3) := by decide +kernel
theorem dX0_share_52 : decode cX0_share 52 = .ok (.ireturn, 1) := by decide +kernel
set_option maxRecDepth 20000 in
theorem ggX1_init_X5_init : GoodIn wsX1_init wsX5_init := goodIn_r _ [15, 16, 2, 3, 8, 17, 18, 19, 20, 21, 22, 23, 24, 25, 26, 27, 28] (by decide +kernel) (by decide +kernel)
set_option maxRecDepth 20000 in
theorem gX1_init_X5_init_n11 : GoodIn wsX1_init (wsX5_init) := ggX1_init_X5_init
theorem dX1_init_0 : decode cX1_init 0 = .ok (.aload_n 0, 1) := by decide +kernel
theorem dX1_init_1 : decode cX1_init 1 = .ok (.invokespecial 3, 3) := by decide +kernel
theorem dX1_init_4 : decode cX1_init 4 = .ok (.aload_n 0, 1) := by decide +kernel
theorem dX1_init_5 : decode cX1_init 5 = .ok (.new 9, 3) := by decide +kernel
theorem dX1_init_8 : decode cX1_init 8 = .ok (.dup, 1) := by decide +kernel
theorem dX1_init_9 : decode cX1_init 9 = .ok (.invokespecial 11, 3) := by decide +kernel
theorem dX1_init_12 : decode cX1_init 12 = .ok (.putfield 12, 3) := by decide +kernel
theorem dX1_init_15 : decode cX1_init 15 = .ok (.aload_n 0, 1) := by decide +kernel
theorem dX1_init_16 : decode cX1_init 16 = .ok (.sipush 4067, 3) := by decide +kernel
theorem dX1_init_19 : decode cX1_init 19 = .ok (.newarray .int, 2) := by decide +kernel
theorem dX1_init_21 : decode cX1_init 21 = .ok (.putfield 18, 3) := by decide +kernel
theorem dX1_init_24 : decode cX1_init 24 = .ok (.aload_n 0, 1) := by decide +kernel
theorem dX1_init_25 : decode cX1_init 25 = .ok (.sipush 4000, 3) := by decide +kernel
theorem dX1_init_28 : decode cX1_init 28 = .ok (.newarray .int, 2) := by decide +kernel
theorem dX1_init_30 : decode cX1_init 30 = .ok (.putfield 22, 3) := by decide +kernel
theorem dX1_init_33 : decode cX1_init 33 = .ok (.aload_n 0, 1) := by decide +kernel
theorem dX1_init_34 : decode cX1_init 34 = .ok (.sipush 4000, 3) := by decide +kernel
theorem dX1_init_37 : decode cX1_init 37 = .ok (.newarray .int, 2) := by decide +kernel
theorem dX1_init_39 : decode cX1_init 39 = .ok (.putfield 25, 3) := by decide +kernel
theorem dX1_init_42 : decode cX1_init 42 = .ok (.aload_n 0, 1) := by decide +kernel
theorem dX1_init_43 : decode cX1_init 43 = .ok (.sipush 4000, 3) := by decide +kernel
theorem dX1_init_46 : decode cX1_init 46 = .ok (.newarray .int, 2) := by decide +kernel
theorem dX1_init_48 : decode cX1_init 48 = .ok (.putfield 28, 3) := by decide +kernel
theorem dX1_init_51 : decode cX1_init 51 = .ok (.aload_n 0, 1) := by decide +kernel
theorem dX1_init_52 : decode cX1_init 52 = .ok (.sipush 4000, 3) := by decide +kernel
theorem dX1_init_55 : decode cX1_init 55 = .ok (.newarray .int, 2) := by decide +kernel
theorem dX1_init_57 : decode cX1_init 57 = .ok (.putfield 31, 3) := by decide +kernel
theorem dX1_init_60 : decode cX1_init 60 = .ok (.return_, 1) := by decide +kernel
set_option maxRecDepth 20000 in
theorem ggX1_clear_X5_cut : GoodIn wsX1_clear wsX5_cut := goodIn_r _ [8, 9, 10, 11, 12, 13, 14, 15, 16, 7, 17, 26, 27, 28, 29, 30, 31] (by decide +kernel) (by decide +kernel)
set_option maxRecDepth 20000 in
theorem gX1_clear_X5_cut : GoodIn wsX1_clear (wsV RX1 41 RX5 yX5_cut wsX5_cut) := goodIn_app (goodIn_of _ (by decide +kernel)) ggX1_clear_X5_cut
theorem dX1_clear_0 : decode cX1_clear 0 = .ok (.aload_n 0, 1) := by decide +kernel
theorem dX1_clear_1 : decode cX1_clear 1 = .ok (.iconst 0, 1) := by decide +kernel
theorem dX1_clear_2 : decode cX1_clear 2 = .ok (.putfield 34, 3) := by decide +kernel
theorem dX1_clear_5 : decode cX1_clear 5 = .ok (.aload_n 0, 1) := by decide +kernel
theorem dX1_clear_6 : decode cX1_clear 6 = .ok (.iconst 0, 1) := by decide +kernel
theorem dX1_clear_7 : decode cX1_clear 7 = .ok (.putfield 38, 3) := by decide +kernel
theorem dX1_clear_10 : decode cX1_clear 10 = .ok (.aload_n 0, 1) := by decide +kernel
theorem dX1_clear_11 : decode cX1_clear 11 = .ok (.getfield 12, 3) := by decide +kernel
theorem dX1_clear_14 : decode cX1_clear 14 = .ok (.iconst 1, 1) := by decide +kernel
theorem dX1_clear_15 : decode cX1_clear 15 = .ok (.invokevirtual 41, 3) := by decide +kernel
theorem dX1_clear_18 : decode cX1_clear 18 = .ok (.return_, 1) := by decide +kernel
theorem dX1_changes_0 : decode cX1_changes 0 = .ok (.aload_n 0, 1) := by decide +kernel
theorem dX1_changes_1 : decode cX1_changes 1 = .ok (.getfield 38, 3) := by decide +kernel
theorem dX1_changes_4 : decode cX1_changes 4 = .ok (.ireturn, 1) := by decide +kernel
theorem dX1_level_0 : decode cX1_level 0 = .ok (.iload_n 1, 1) := by decide +kernel
theorem dX1_level_1 : decode cX1_level 1 = .ok (.ifCond .lt 27, 3) := by decide +kernel
theorem dX1_level_4 : decode cX1_level 4 = .ok (.iload_n 1, 1) := by decide +kernel
theorem dX1_level_5 : decode cX1_level 5 = .ok (.aload_n 0, 1) := by decide +kernel
theorem dX1_level_6 : decode cX1_level 6 = .ok (.getfield 34, 3) := by decide +kernel
theorem dX1_level_9 : decode cX1_level 9 = .ok (.if_icmp .ge 19, 3) := by decide +kernel
theorem dX1_level_12 : decode cX1_level 12 = .ok (.iload_n 1, 1) := by decide +kernel
theorem dX1_level_13 : decode cX1_level 13 = .ok (.sipush 4067, 3) := by decide +kernel
theorem dX1_level_16 : decode cX1_level 16 = .ok (.if_icmp .ge 12, 3) := by decide +kernel
theorem dX1_level_19 : decode cX1_level 19 = .ok (.aload_n 0, 1) := by decide +kernel
theorem dX1_level_20 : decode cX1_level 20 = .ok (.getfield 18, 3) := by decide +kernel
theorem dX1_level_23 : decode cX1_level 23 = .ok (.iload_n 1, 1) := by decide +kernel
theorem dX1_level_24 : decode cX1_level 24 = .ok (.iaload, 1) := by decide +kernel
theorem dX1_level_25 : decode cX1_level 25 = .ok (.goto 4, 3) := by decide +kernel
theorem dX1_level_28 : decode cX1_level 28 = .ok (.iconst 0, 1) := by decide +kernel
theorem dX1_level_29 : decode cX1_level 29 = .ok (.ireturn, 1) := by decide +kernel
set_option maxRecDepth 20000 in
theorem ggX1_addBox_X1_note : GoodIn wsX1_addBox wsX1_note := goodIn_r _ [5, 6, 7, 8, 9, 10, 11, 12, 13, 14, 4, 15, 16, 17, 18, 19, 20, 21, 22, 23, 36, 37, 38, 39, 40, 41, 42, 43, 44, 45, 46, 47, 48, 49] (by decide +kernel) (by decide +kernel)
set_option maxRecDepth 20000 in
theorem gX1_addBox_X1_note : GoodIn wsX1_addBox (wsV RX1 45 RX1 yX1_note wsX1_note) := goodIn_app (goodIn_of _ (by decide +kernel)) ggX1_addBox_X1_note
set_option maxRecDepth 20000 in
theorem ggX1_addBox_X1_insert : GoodIn wsX1_addBox wsX1_insert := goodIn_r _ [27, 16, 17, 28, 29, 30, 31, 32, 33, 34, 4, 35, 36, 37, 38, 39, 40, 41, 42, 43] (by decide +kernel) (by decide +kernel)
set_option maxRecDepth 20000 in
theorem gX1_addBox_X1_insert : GoodIn wsX1_addBox (wsV RX1 49 RX1 yX1_insert wsX1_insert) := goodIn_app (goodIn_of _ (by decide +kernel)) ggX1_addBox_X1_insert
theorem dX1_addBox_0 : decode cX1_addBox 0 = .ok (.aload_n 0, 1) := by decide +kernel
theorem dX1_addBox_1 : decode cX1_addBox 1 = .ok (.iconst 0, 1) := by decide +kernel
theorem dX1_addBox_2 : decode cX1_addBox 2 = .ok (.iload_n 1, 1) := by decide +kernel
theorem dX1_addBox_3 : decode cX1_addBox 3 = .ok (.invokevirtual 45, 3) := by decide +kernel
theorem dX1_addBox_6 : decode cX1_addBox 6 = .ok (.aload_n 0, 1) := by decide +kernel
theorem dX1_addBox_7 : decode cX1_addBox 7 = .ok (.iload_n 1, 1) := by decide +kernel
theorem dX1_addBox_8 : decode cX1_addBox 8 = .ok (.iconst 0, 1) := by decide +kernel
theorem dX1_addBox_9 : decode cX1_addBox 9 = .ok (.invokevirtual 49, 3) := by decide +kernel
theorem dX1_addBox_12 : decode cX1_addBox 12 = .ok (.return_, 1) := by decide +kernel
set_option maxRecDepth 20000 in
theorem ggX1_drop_X1_note : GoodIn wsX1_drop wsX1_note := goodIn_r _ [5, 6, 7, 8, 9, 10, 11, 12, 13, 14, 4, 15, 16, 17, 18, 19, 20, 21, 22, 23, 32, 33, 34, 35, 36, 37, 38, 39, 40, 41, 42, 43, 44, 45] (by decide +kernel) (by decide +kernel)
set_option maxRecDepth 20000 in
theorem gX1_drop_X1_note : GoodIn wsX1_drop (wsV RX1 45 RX1 yX1_note wsX1_note) := goodIn_app (goodIn_of _ (by decide +kernel)) ggX1_drop_X1_note
set_option maxRecDepth 20000 in
theorem ggX1_drop_X1_delete : GoodIn wsX1_drop wsX1_delete := goodIn_r _ [27, 16, 17, 28, 29, 30, 31, 32, 33, 34, 35, 36, 37, 38, 39] (by decide +kernel) (by decide +kernel)
set_option maxRecDepth 20000 in
theorem gX1_drop_X1_delete : GoodIn wsX1_drop (wsV RX1 52 RX1 yX1_delete wsX1_delete) := goodIn_app (goodIn_of _ (by decide +kernel)) ggX1_drop_X1_delete
theorem dX1_drop_0 : decode cX1_drop 0 = .ok (.aload_n 0, 1) := by decide +kernel
theorem dX1_drop_1 : decode cX1_drop 1 = .ok (.iconst 1, 1) := by decide +kernel
theorem dX1_drop_2 : decode cX1_drop 2 = .ok (.iload_n 1, 1) := by decide +kernel
theorem dX1_drop_3 : decode cX1_drop 3 = .ok (.invokevirtual 45, 3) := by decide +kernel
theorem dX1_drop_6 : decode cX1_drop 6 = .ok (.aload_n 0, 1) := by decide +kernel
theorem dX1_drop_7 : decode cX1_drop 7 = .ok (.iload_n 1, 1) := by decide +kernel
theorem dX1_drop_8 : decode cX1_drop 8 = .ok (.invokevirtual 52, 3) := by decide +kernel
theorem dX1_drop_11 : decode cX1_drop 11 = .ok (.return_, 1) := by decide +kernel
set_option maxRecDepth 20000 in
theorem ggX1_pairUp_X1_note : GoodIn wsX1_pairUp wsX1_note := goodIn_r _ [6, 7, 8, 9, 10, 11, 1, 12, 13, 14, 5, 15, 16, 17, 18, 19, 20, 21, 22, 23, 52, 53, 54, 55, 56, 57, 58, 59, 60, 61, 62, 63, 64, 65] (by decide +kernel) (by decide +kernel)
set_option maxRecDepth 20000 in
theorem gX1_pairUp_X1_note : GoodIn wsX1_pairUp (wsV RX1 45 RX1 yX1_note wsX1_note) := goodIn_app (goodIn_of _ (by decide +kernel)) ggX1_pairUp_X1_note
set_option maxRecDepth 20000 in
theorem ggX1_pairUp_X1_level : GoodIn wsX1_pairUp wsX1_level := goodIn_r _ [15, 16, 17, 52, 53, 54, 55, 56, 57, 58, 59] (by decide +kernel) (by decide +kernel)
set_option maxRecDepth 20000 in
theorem gX1_pairUp_X1_level : GoodIn wsX1_pairUp (wsV RX1 55 RX1 yX1_level wsX1_level) := goodIn_app (goodIn_of _ (by decide +kernel)) ggX1_pairUp_X1_level
set_option maxRecDepth 20000 in
theorem ggX1_pairUp_X5_tree : GoodIn wsX1_pairUp wsX5_tree := goodIn_r _ [27, 28, 23, 29, 30, 31, 32, 33, 34, 21, 35, 36, 37, 38, 39, 60, 61, 62, 63, 64, 65] (by decide +kernel) (by decide +kernel)
set_option maxRecDepth 20000 in
theorem gX1_pairUp_X5_tree : GoodIn wsX1_pairUp (wsV RX1 59 RX5 yX5_tree wsX5_tree) := goodIn_app (goodIn_of _ (by decide +kernel)) ggX1_pairUp_X5_tree
set_option maxRecDepth 20000 in
theorem ggX1_pairUp_X1_set : GoodIn wsX1_pairUp wsX1_set := goodIn_r _ [43, 16, 17, 52, 53, 54, 55, 56, 57, 58, 59] (by decide +kernel) (by decide +kernel)
set_option maxRecDepth 20000 in
theorem gX1_pairUp_X1_set : GoodIn wsX1_pairUp (wsV RX1 63 RX1 yX1_set wsX1_set) := goodIn_app (goodIn_of _ (by decide +kernel)) ggX1_pairUp_X1_set
set_option maxRecDepth 20000 in
theorem ggX1_pairUp_X1_delete : GoodIn wsX1_pairUp wsX1_delete := goodIn_r _ [47, 16, 17, 48, 49, 50, 51, 52, 53, 54, 55, 56, 57, 58, 59] (by decide +kernel) (by decide +kernel)
set_option maxRecDepth 20000 in
theorem gX1_pairUp_X1_delete : GoodIn wsX1_pairUp (wsV RX1 52 RX1 yX1_delete wsX1_delete) := goodIn_app (goodIn_of _ (by decide +kernel)) ggX1_pairUp_X1_delete
theorem dX1_pairUp_0 : decode cX1_pairUp 0 = .ok (.aload_n 0, 1) := by decide +kernel
theorem dX1_pairUp_1 : decode cX1_pairUp 1 = .ok (.iconst 2, 1) := by decide +kernel
theorem dX1_pairUp_2 : decode cX1_pairUp 2 = .ok (.iload_n 1, 1) := by decide +kernel
theorem dX1_pairUp_3 : decode cX1_pairUp 3 = .ok (.invokevirtual 45, 3) := by decide +kernel
theorem dX1_pairUp_6 : decode cX1_pairUp 6 = .ok (.aload_n 0, 1) := by decide +kernel
theorem dX1_pairUp_7 : decode cX1_pairUp 7 = .ok (.iload_n 1, 1) := by decide +kernel
theorem dX1_pairUp_8 : decode cX1_pairUp 8 = .ok (.aload_n 0, 1) := by decide +kernel
theorem dX1_pairUp_9 : decode cX1_pairUp 9 = .ok (.getfield 12, 3) := by decide +kernel
theorem dX1_pairUp_12 : decode cX1_pairUp 12 = .ok (.iconst 3, 1) := by decide +kernel
theorem dX1_pairUp_13 : decode cX1_pairUp 13 = .ok (.aload_n 0, 1) := by decide +kernel
theorem dX1_pairUp_14 : decode cX1_pairUp 14 = .ok (.iload_n 1, 1) := by decide +kernel
theorem dX1_pairUp_15 : decode cX1_pairUp 15 = .ok (.invokevirtual 55, 3) := by decide +kernel
theorem dX1_pairUp_18 : decode cX1_pairUp 18 = .ok (.aload_n 0, 1) := by decide +kernel
theorem dX1_pairUp_19 : decode cX1_pairUp 19 = .ok (.iload_n 1, 1) := by decide +kernel
theorem dX1_pairUp_20 : decode cX1_pairUp 20 = .ok (.iconst 1, 1) := by decide +kernel
theorem dX1_pairUp_21 : decode cX1_pairUp 21 = .ok (.iadd, 1) := by decide +kernel
theorem dX1_pairUp_22 : decode cX1_pairUp 22 = .ok (.invokevirtual 55, 3) := by decide +kernel
theorem dX1_pairUp_25 : decode cX1_pairUp 25 = .ok (.invokevirtual 59, 3) := by decide +kernel
theorem dX1_pairUp_28 : decode cX1_pairUp 28 = .ok (.invokevirtual 63, 3) := by decide +kernel
theorem dX1_pairUp_31 : decode cX1_pairUp 31 = .ok (.aload_n 0, 1) := by decide +kernel
theorem dX1_pairUp_32 : decode cX1_pairUp 32 = .ok (.iload_n 1, 1) := by decide +kernel
theorem dX1_pairUp_33 : decode cX1_pairUp 33 = .ok (.iconst 1, 1) := by decide +kernel
theorem dX1_pairUp_34 : decode cX1_pairUp 34 = .ok (.iadd, 1) := by decide +kernel
theorem dX1_pairUp_35 : decode cX1_pairUp 35 = .ok (.invokevirtual 52, 3) := by decide +kernel
theorem dX1_pairUp_38 : decode cX1_pairUp 38 = .ok (.return_, 1) := by decide +kernel
set_option maxRecDepth 20000 in
theorem ggX1_split_X1_level : GoodIn wsX1_split wsX1_level := goodIn_r _ [6, 7, 8, 51, 52, 53, 54, 55, 56, 57, 58] (by decide +kernel) (by decide +kernel)
set_option maxRecDepth 20000 in
theorem gX1_split_X1_level : GoodIn wsX1_split (wsV RX1 55 RX1 yX1_level wsX1_level) := goodIn_app (goodIn_of _ (by decide +kernel)) ggX1_split_X1_level
set_option maxRecDepth 20000 in
theorem ggX1_split_X5_form : GoodIn wsX1_split wsX5_form := goodIn_r _ [13, 14, 15, 59, 60, 61, 62, 63, 64] (by decide +kernel) (by decide +kernel)
set_option maxRecDepth 20000 in
theorem gX1_split_X5_form : GoodIn wsX1_split (wsV RX1 66 RX5 yX5_form wsX5_form) := goodIn_app (goodIn_of _ (by decide +kernel)) ggX1_split_X5_form
set_option maxRecDepth 20000 in
theorem ggX1_split_X1_note : GoodIn wsX1_split wsX1_note := goodIn_r _ [19, 20, 21, 22, 23, 24, 1, 2, 3, 4, 5, 6, 7, 8, 25, 26, 27, 12, 28, 14, 51, 52, 53, 54, 55, 56, 57, 58, 59, 60, 61, 62, 63, 64] (by decide +kernel) (by decide +kernel)
set_option maxRecDepth 20000 in
theorem gX1_split_X1_note : GoodIn wsX1_split (wsV RX1 45 RX1 yX1_note wsX1_note) := goodIn_app (goodIn_of _ (by decide +kernel)) ggX1_split_X1_note
set_option maxRecDepth 20000 in
theorem ggX1_split_X5_left : GoodIn wsX1_split wsX5_left := goodIn_r _ [32, 14, 33, 59, 60, 61, 62, 63, 64] (by decide +kernel) (by decide +kernel)
set_option maxRecDepth 20000 in
theorem gX1_split_X5_left : GoodIn wsX1_split (wsV RX1 69 RX5 yX5_left wsX5_left) := goodIn_app (goodIn_of _ (by decide +kernel)) ggX1_split_X5_left
set_option maxRecDepth 20000 in
theorem ggX1_split_X1_set : GoodIn wsX1_split wsX1_set := goodIn_r _ [37, 7, 8, 51, 52, 53, 54, 55, 56, 57, 58] (by decide +kernel) (by decide +kernel)
set_option maxRecDepth 20000 in
theorem gX1_split_X1_set : GoodIn wsX1_split (wsV RX1 63 RX1 yX1_set wsX1_set) := goodIn_app (goodIn_of _ (by decide +kernel)) ggX1_split_X1_set
set_option maxRecDepth 20000 in
theorem ggX1_split_X5_right : GoodIn wsX1_split wsX5_right := goodIn_r _ [41, 14, 42, 59, 60, 61, 62, 63, 64] (by decide +kernel) (by decide +kernel)
set_option maxRecDepth 20000 in
theorem gX1_split_X5_right : GoodIn wsX1_split (wsV RX1 72 RX5 yX5_right wsX5_right) := goodIn_app (goodIn_of _ (by decide +kernel)) ggX1_split_X5_right
set_option maxRecDepth 20000 in
theorem ggX1_split_X1_insert : GoodIn wsX1_split wsX1_insert := goodIn_r _ [46, 7, 8, 47, 48, 49, 50, 34, 35, 36, 5, 37, 51, 52, 53, 54, 55, 56, 57, 58] (by decide +kernel) (by decide +kernel)
set_option maxRecDepth 20000 in
theorem gX1_split_X1_insert : GoodIn wsX1_split (wsV RX1 49 RX1 yX1_insert wsX1_insert) := goodIn_app (goodIn_of _ (by decide +kernel)) ggX1_split_X1_insert
theorem dX1_split_0 : decode cX1_split 0 = .ok (.aload_n 0, 1) := by decide +kernel
theorem dX1_split_1 : decode cX1_split 1 = .ok (.iload_n 1, 1) := by decide +kernel
theorem dX1_split_2 : decode cX1_split 2 = .ok (.invokevirtual 55, 3) := by decide +kernel
theorem dX1_split_5 : decode cX1_split 5 = .ok (.istore_n 2, 1) := by decide +kernel
theorem dX1_split_6 : decode cX1_split 6 = .ok (.aload_n 0, 1) := by decide +kernel
theorem dX1_split_7 : decode cX1_split 7 = .ok (.getfield 12, 3) := by decide +kernel
theorem dX1_split_10 : decode cX1_split 10 = .ok (.iload_n 2, 1) := by decide +kernel
theorem dX1_split_11 : decode cX1_split 11 = .ok (.invokevirtual 66, 3) := by decide +kernel
theorem dX1_split_14 : decode cX1_split 14 = .ok (.iconst 3, 1) := by decide +kernel
theorem dX1_split_15 : decode cX1_split 15 = .ok (.if_icmp .eq 5, 3) := by decide +kernel
theorem dX1_split_18 : decode cX1_split 18 = .ok (.iconst 0, 1) := by decide +kernel
theorem dX1_split_19 : decode cX1_split 19 = .ok (.ireturn, 1) := by decide +kernel
theorem dX1_split_20 : decode cX1_split 20 = .ok (.aload_n 0, 1) := by decide +kernel
theorem dX1_split_21 : decode cX1_split 21 = .ok (.iconst 3, 1) := by decide +kernel
theorem dX1_split_22 : decode cX1_split 22 = .ok (.iload_n 1, 1) := by decide +kernel
theorem dX1_split_23 : decode cX1_split 23 = .ok (.invokevirtual 45, 3) := by decide +kernel
theorem dX1_split_26 : decode cX1_split 26 = .ok (.aload_n 0, 1) := by decide +kernel
theorem dX1_split_27 : decode cX1_split 27 = .ok (.iload_n 1, 1) := by decide +kernel
theorem dX1_split_28 : decode cX1_split 28 = .ok (.aload_n 0, 1) := by decide +kernel
theorem dX1_split_29 : decode cX1_split 29 = .ok (.getfield 12, 3) := by decide +kernel
theorem dX1_split_32 : decode cX1_split 32 = .ok (.iload_n 2, 1) := by decide +kernel
theorem dX1_split_33 : decode cX1_split 33 = .ok (.invokevirtual 69, 3) := by decide +kernel
theorem dX1_split_36 : decode cX1_split 36 = .ok (.invokevirtual 63, 3) := by decide +kernel
theorem dX1_split_39 : decode cX1_split 39 = .ok (.aload_n 0, 1) := by decide +kernel
theorem dX1_split_40 : decode cX1_split 40 = .ok (.iload_n 1, 1) := by decide +kernel
theorem dX1_split_41 : decode cX1_split 41 = .ok (.iconst 1, 1) := by decide +kernel
theorem dX1_split_42 : decode cX1_split 42 = .ok (.iadd, 1) := by decide +kernel
theorem dX1_split_43 : decode cX1_split 43 = .ok (.aload_n 0, 1) := by decide +kernel
theorem dX1_split_44 : decode cX1_split 44 = .ok (.getfield 12, 3) := by decide +kernel
theorem dX1_split_47 : decode cX1_split 47 = .ok (.iload_n 2, 1) := by decide +kernel
theorem dX1_split_48 : decode cX1_split 48 = .ok (.invokevirtual 72, 3) := by decide +kernel
theorem dX1_split_51 : decode cX1_split 51 = .ok (.invokevirtual 49, 3) := by decide +kernel
theorem dX1_split_54 : decode cX1_split 54 = .ok (.iconst 1, 1) := by decide +kernel
theorem dX1_split_55 : decode cX1_split 55 = .ok (.ireturn, 1) := by decide +kernel
set_option maxRecDepth 20000 in
theorem ggX1_enterFan_X1_note : GoodIn wsX1_enterFan wsX1_note := goodIn_r _ [6, 7, 8, 9, 10, 11, 1, 12, 13, 14, 5, 15, 16, 17, 18, 19, 20, 21, 22, 23, 44, 45, 46, 47, 48, 49, 50, 51, 52, 53, 54, 55, 56, 57] (by decide +kernel) (by decide +kernel)
set_option maxRecDepth 20000 in
theorem gX1_enterFan_X1_note : GoodIn wsX1_enterFan (wsV RX1 45 RX1 yX1_note wsX1_note) := goodIn_app (goodIn_of _ (by decide +kernel)) ggX1_enterFan_X1_note
set_option maxRecDepth 20000 in
theorem ggX1_enterFan_X1_level : GoodIn wsX1_enterFan wsX1_level := goodIn_r _ [15, 16, 17, 44, 45, 46, 47, 48, 49, 50, 51] (by decide +kernel) (by decide +kernel)
set_option maxRecDepth 20000 in
theorem gX1_enterFan_X1_level : GoodIn wsX1_enterFan (wsV RX1 55 RX1 yX1_level wsX1_level) := goodIn_app (goodIn_of _ (by decide +kernel)) ggX1_enterFan_X1_level
set_option maxRecDepth 20000 in
theorem ggX1_enterFan_X5_tree : GoodIn wsX1_enterFan wsX5_tree := goodIn_r _ [27, 28, 23, 29, 30, 31, 32, 33, 34, 21, 35, 36, 37, 38, 39, 52, 53, 54, 55, 56, 57] (by decide +kernel) (by decide +kernel)
set_option maxRecDepth 20000 in
theorem gX1_enterFan_X5_tree : GoodIn wsX1_enterFan (wsV RX1 59 RX5 yX5_tree wsX5_tree) := goodIn_app (goodIn_of _ (by decide +kernel)) ggX1_enterFan_X5_tree
set_option maxRecDepth 20000 in
theorem ggX1_enterFan_X1_set : GoodIn wsX1_enterFan wsX1_set := goodIn_r _ [43, 16, 17, 44, 45, 46, 47, 48, 49, 50, 51] (by decide +kernel) (by decide +kernel)
set_option maxRecDepth 20000 in
theorem gX1_enterFan_X1_set : GoodIn wsX1_enterFan (wsV RX1 63 RX1 yX1_set wsX1_set) := goodIn_app (goodIn_of _ (by decide +kernel)) ggX1_enterFan_X1_set
theorem dX1_enterFan_0 : decode cX1_enterFan 0 = .ok (.aload_n 0, 1) := by decide +kernel
theorem dX1_enterFan_1 : decode cX1_enterFan 1 = .ok (.iconst 4, 1) := by decide +kernel
theorem dX1_enterFan_2 : decode cX1_enterFan 2 = .ok (.iload_n 1, 1) := by decide +kernel
theorem dX1_enterFan_3 : decode cX1_enterFan 3 = .ok (.invokevirtual 45, 3) := by decide +kernel
theorem dX1_enterFan_6 : decode cX1_enterFan 6 = .ok (.aload_n 0, 1) := by decide +kernel
theorem dX1_enterFan_7 : decode cX1_enterFan 7 = .ok (.iload_n 1, 1) := by decide +kernel
theorem dX1_enterFan_8 : decode cX1_enterFan 8 = .ok (.aload_n 0, 1) := by decide +kernel
theorem dX1_enterFan_9 : decode cX1_enterFan 9 = .ok (.getfield 12, 3) := by decide +kernel
theorem dX1_enterFan_12 : decode cX1_enterFan 12 = .ok (.iload_n 2, 1) := by decide +kernel
theorem dX1_enterFan_13 : decode cX1_enterFan 13 = .ok (.iconst 1, 1) := by decide +kernel
theorem dX1_enterFan_14 : decode cX1_enterFan 14 = .ok (.if_icmp .ne 7, 3) := by decide +kernel
theorem dX1_enterFan_17 : decode cX1_enterFan 17 = .ok (.iconst 1, 1) := by decide +kernel
theorem dX1_enterFan_18 : decode cX1_enterFan 18 = .ok (.goto 4, 3) := by decide +kernel
theorem dX1_enterFan_21 : decode cX1_enterFan 21 = .ok (.iconst 2, 1) := by decide +kernel
theorem dX1_enterFan_22 : decode cX1_enterFan 22 = .ok (.aload_n 0, 1) := by decide +kernel
theorem dX1_enterFan_23 : decode cX1_enterFan 23 = .ok (.iload_n 1, 1) := by decide +kernel
theorem dX1_enterFan_24 : decode cX1_enterFan 24 = .ok (.invokevirtual 55, 3) := by decide +kernel
theorem dX1_enterFan_27 : decode cX1_enterFan 27 = .ok (.iconst 0, 1) := by decide +kernel
theorem dX1_enterFan_28 : decode cX1_enterFan 28 = .ok (.invokevirtual 59, 3) := by decide +kernel
theorem dX1_enterFan_31 : decode cX1_enterFan 31 = .ok (.invokevirtual 63, 3) := by decide +kernel
theorem dX1_enterFan_34 : decode cX1_enterFan 34 = .ok (.return_, 1) := by decide +kernel
set_option maxRecDepth 20000 in
theorem ggX1_leaveFan_X1_level : GoodIn wsX1_leaveFan wsX1_level := goodIn_r _ [6, 7, 8, 38, 39, 40, 41, 42, 43, 44, 45] (by decide +kernel) (by decide +kernel)
set_option maxRecDepth 20000 in
theorem gX1_leaveFan_X1_level : GoodIn wsX1_leaveFan (wsV RX1 55 RX1 yX1_level wsX1_level) := goodIn_app (goodIn_of _ (by decide +kernel)) ggX1_leaveFan_X1_level
set_option maxRecDepth 20000 in
theorem ggX1_leaveFan_X5_form : GoodIn wsX1_leaveFan wsX5_form := goodIn_r _ [13, 14, 15, 46, 47, 48, 49, 50, 51] (by decide +kernel) (by decide +kernel)
set_option maxRecDepth 20000 in
theorem gX1_leaveFan_X5_form : GoodIn wsX1_leaveFan (wsV RX1 66 RX5 yX5_form wsX5_form) := goodIn_app (goodIn_of _ (by decide +kernel)) ggX1_leaveFan_X5_form
set_option maxRecDepth 20000 in
theorem ggX1_leaveFan_X1_note : GoodIn wsX1_leaveFan wsX1_note := goodIn_r _ [19, 20, 21, 22, 23, 24, 1, 2, 3, 4, 5, 6, 7, 8, 25, 26, 27, 12, 28, 14, 38, 39, 40, 41, 42, 43, 44, 45, 46, 47, 48, 49, 50, 51] (by decide +kernel) (by decide +kernel)
set_option maxRecDepth 20000 in
theorem gX1_leaveFan_X1_note : GoodIn wsX1_leaveFan (wsV RX1 45 RX1 yX1_note wsX1_note) := goodIn_app (goodIn_of _ (by decide +kernel)) ggX1_leaveFan_X1_note
set_option maxRecDepth 20000 in
theorem ggX1_leaveFan_X5_left : GoodIn wsX1_leaveFan wsX5_left := goodIn_r _ [32, 14, 33, 46, 47, 48, 49, 50, 51] (by decide +kernel) (by decide +kernel)
set_option maxRecDepth 20000 in
theorem gX1_leaveFan_X5_left : GoodIn wsX1_leaveFan (wsV RX1 69 RX5 yX5_left wsX5_left) := goodIn_app (goodIn_of _ (by decide +kernel)) ggX1_leaveFan_X5_left
set_option maxRecDepth 20000 in
theorem ggX1_leaveFan_X1_set : GoodIn wsX1_leaveFan wsX1_set := goodIn_r _ [37, 7, 8, 38, 39, 40, 41, 42, 43, 44, 45] (by decide +kernel) (by decide +kernel)
set_option maxRecDepth 20000 in
theorem gX1_leaveFan_X1_set : GoodIn wsX1_leaveFan (wsV RX1 63 RX1 yX1_set wsX1_set) := goodIn_app (goodIn_of _ (by decide +kernel)) ggX1_leaveFan_X1_set
theorem dX1_leaveFan_0 : decode cX1_leaveFan 0 = .ok (.aload_n 0, 1) := by decide +kernel
theorem dX1_leaveFan_1 : decode cX1_leaveFan 1 = .ok (.iload_n 1, 1) := by decide +kernel
theorem dX1_leaveFan_2 : decode cX1_leaveFan 2 = .ok (.invokevirtual 55, 3) := by decide +kernel
theorem dX1_leaveFan_5 : decode cX1_leaveFan 5 = .ok (.istore_n 2, 1) := by decide +kernel
theorem dX1_leaveFan_6 : decode cX1_leaveFan 6 = .ok (.aload_n 0, 1) := by decide +kernel
theorem dX1_leaveFan_7 : decode cX1_leaveFan 7 = .ok (.getfield 12, 3) := by decide +kernel
theorem dX1_leaveFan_10 : decode cX1_leaveFan 10 = .ok (.iload_n 2, 1) := by decide +kernel
theorem dX1_leaveFan_11 : decode cX1_leaveFan 11 = .ok (.invokevirtual 66, 3) := by decide +kernel
theorem dX1_leaveFan_14 : decode cX1_leaveFan 14 = .ok (.istore_n 3, 1) := by decide +kernel
theorem dX1_leaveFan_15 : decode cX1_leaveFan 15 = .ok (.iload_n 3, 1) := by decide +kernel
theorem dX1_leaveFan_16 : decode cX1_leaveFan 16 = .ok (.iconst 1, 1) := by decide +kernel
theorem dX1_leaveFan_17 : decode cX1_leaveFan 17 = .ok (.if_icmp .eq 10, 3) := by decide +kernel
theorem dX1_leaveFan_20 : decode cX1_leaveFan 20 = .ok (.iload_n 3, 1) := by decide +kernel
theorem dX1_leaveFan_21 : decode cX1_leaveFan 21 = .ok (.iconst 2, 1) := by decide +kernel
theorem dX1_leaveFan_22 : decode cX1_leaveFan 22 = .ok (.if_icmp .eq 5, 3) := by decide +kernel
theorem dX1_leaveFan_25 : decode cX1_leaveFan 25 = .ok (.iconst (-1), 1) := by decide +kernel
theorem dX1_leaveFan_26 : decode cX1_leaveFan 26 = .ok (.ireturn, 1) := by decide +kernel
theorem dX1_leaveFan_27 : decode cX1_leaveFan 27 = .ok (.aload_n 0, 1) := by decide +kernel
theorem dX1_leaveFan_28 : decode cX1_leaveFan 28 = .ok (.iconst 4, 1) := by decide +kernel
theorem dX1_leaveFan_29 : decode cX1_leaveFan 29 = .ok (.iload_n 1, 1) := by decide +kernel
theorem dX1_leaveFan_30 : decode cX1_leaveFan 30 = .ok (.invokevirtual 45, 3) := by decide +kernel
theorem dX1_leaveFan_33 : decode cX1_leaveFan 33 = .ok (.aload_n 0, 1) := by decide +kernel
theorem dX1_leaveFan_34 : decode cX1_leaveFan 34 = .ok (.iload_n 1, 1) := by decide +kernel
theorem dX1_leaveFan_35 : decode cX1_leaveFan 35 = .ok (.aload_n 0, 1) := by decide +kernel
theorem dX1_leaveFan_36 : decode cX1_leaveFan 36 = .ok (.getfield 12, 3) := by decide +kernel
theorem dX1_leaveFan_39 : decode cX1_leaveFan 39 = .ok (.iload_n 2, 1) := by decide +kernel
theorem dX1_leaveFan_40 : decode cX1_leaveFan 40 = .ok (.invokevirtual 69, 3) := by decide +kernel
theorem dX1_leaveFan_43 : decode cX1_leaveFan 43 = .ok (.invokevirtual 63, 3) := by decide +kernel
theorem dX1_leaveFan_46 : decode cX1_leaveFan 46 = .ok (.iload_n 3, 1) := by decide +kernel
theorem dX1_leaveFan_47 : decode cX1_leaveFan 47 = .ok (.iconst 1, 1) := by decide +kernel
theorem dX1_leaveFan_48 : decode cX1_leaveFan 48 = .ok (.if_icmp .ne 7, 3) := by decide +kernel
theorem dX1_leaveFan_51 : decode cX1_leaveFan 51 = .ok (.iconst 1, 1) := by decide +kernel
theorem dX1_leaveFan_52 : decode cX1_leaveFan 52 = .ok (.goto 4, 3) := by decide +kernel
theorem dX1_leaveFan_55 : decode cX1_leaveFan 55 = .ok (.iconst 2, 1) := by decide +kernel
theorem dX1_leaveFan_56 : decode cX1_leaveFan 56 = .ok (.ireturn, 1) := by decide +kernel
set_option maxRecDepth 20000 in
theorem ggX1_undoTo_X1_undo : GoodIn wsX1_undoTo wsX1_undo := goodIn_r _ [6, 1, 7, 8, 9, 10, 11, 12, 13, 14, 5, 15, 16, 17, 18, 19, 20, 21, 22, 23, 24, 25, 26, 27, 28, 29, 30, 31, 32, 33, 34, 35, 36, 37, 38, 39, 40, 41, 42, 43, 44, 45, 46, 47, 48, 49, 50, 51, 52, 53, 54, 55, 56, 57, 58, 59, 60, 61, 62, 63, 64, 65] (by decide +kernel) (by decide +kernel)
set_option maxRecDepth 20000 in
theorem gX1_undoTo_X1_undo : GoodIn wsX1_undoTo (wsV RX1 75 RX1 yX1_undo wsX1_undo) := goodIn_app (goodIn_of _ (by decide +kernel)) ggX1_undoTo_X1_undo
theorem dX1_undoTo_0 : decode cX1_undoTo 0 = .ok (.aload_n 0, 1) := by decide +kernel
theorem dX1_undoTo_1 : decode cX1_undoTo 1 = .ok (.getfield 38, 3) := by decide +kernel
theorem dX1_undoTo_4 : decode cX1_undoTo 4 = .ok (.iload_n 1, 1) := by decide +kernel
theorem dX1_undoTo_5 : decode cX1_undoTo 5 = .ok (.isub, 1) := by decide +kernel
theorem dX1_undoTo_6 : decode cX1_undoTo 6 = .ok (.istore_n 2, 1) := by decide +kernel
theorem dX1_undoTo_7 : decode cX1_undoTo 7 = .ok (.iload_n 2, 1) := by decide +kernel
theorem dX1_undoTo_8 : decode cX1_undoTo 8 = .ok (.ifCond .le 13, 3) := by decide +kernel
theorem dX1_undoTo_11 : decode cX1_undoTo 11 = .ok (.aload_n 0, 1) := by decide +kernel
theorem dX1_undoTo_12 : decode cX1_undoTo 12 = .ok (.invokevirtual 75, 3) := by decide +kernel
theorem dX1_undoTo_15 : decode cX1_undoTo 15 = .ok (.iinc 2 (-1), 3) := by decide +kernel
theorem dX1_undoTo_18 : decode cX1_undoTo 18 = .ok (.goto (-11), 3) := by decide +kernel
theorem dX1_undoTo_21 : decode cX1_undoTo 21 = .ok (.return_, 1) := by decide +kernel
set_option maxRecDepth 20000 in
theorem ggX1_undo_X1_delete : GoodIn wsX1_undo wsX1_delete := goodIn_r _ [11, 12, 13, 14, 15, 16, 17, 48, 49, 50, 51, 52, 53, 54, 55] (by decide +kernel) (by decide +kernel)
set_option maxRecDepth 20000 in
theorem gX1_undo_X1_delete : GoodIn wsX1_undo (wsV RX1 52 RX1 yX1_delete wsX1_delete) := goodIn_app (goodIn_of _ (by decide +kernel)) ggX1_undo_X1_delete
set_option maxRecDepth 20000 in
theorem ggX1_undo_X1_insert : GoodIn wsX1_undo wsX1_insert := goodIn_r _ [21, 12, 13, 14, 15, 16, 17, 22, 23, 24, 10, 25, 48, 49, 50, 51, 52, 53, 54, 55] (by decide +kernel) (by decide +kernel)
set_option maxRecDepth 20000 in
theorem gX1_undo_X1_insert : GoodIn wsX1_undo (wsV RX1 49 RX1 yX1_insert wsX1_insert) := goodIn_app (goodIn_of _ (by decide +kernel)) ggX1_undo_X1_insert
set_option maxRecDepth 20000 in
theorem ggX1_undo_X1_level : GoodIn wsX1_undo wsX1_level := goodIn_r _ [29, 12, 13, 48, 49, 50, 51, 52, 53, 54, 55] (by decide +kernel) (by decide +kernel)
set_option maxRecDepth 20000 in
theorem gX1_undo_X1_level : GoodIn wsX1_undo (wsV RX1 55 RX1 yX1_level wsX1_level) := goodIn_app (goodIn_of _ (by decide +kernel)) ggX1_undo_X1_level
set_option maxRecDepth 20000 in
theorem ggX1_undo_X5_right : GoodIn wsX1_undo wsX5_right := goodIn_r _ [34, 35, 36, 56, 57, 58, 59, 60, 61] (by decide +kernel) (by decide +kernel)
set_option maxRecDepth 20000 in
theorem gX1_undo_X5_right : GoodIn wsX1_undo (wsV RX1 72 RX5 yX5_right wsX5_right) := goodIn_app (goodIn_of _ (by decide +kernel)) ggX1_undo_X5_right
set_option maxRecDepth 20000 in
theorem ggX1_undo_X1_set : GoodIn wsX1_undo wsX1_set := goodIn_r _ [25, 12, 13, 48, 49, 50, 51, 52, 53, 54, 55] (by decide +kernel) (by decide +kernel)
set_option maxRecDepth 20000 in
theorem gX1_undo_X1_set : GoodIn wsX1_undo (wsV RX1 63 RX1 yX1_set wsX1_set) := goodIn_app (goodIn_of _ (by decide +kernel)) ggX1_undo_X1_set
set_option maxRecDepth 20000 in
theorem ggX1_undo_X5_cut : GoodIn wsX1_undo wsX5_cut := goodIn_r _ [40, 35, 41, 42, 43, 36, 44, 45, 46, 33, 47, 56, 57, 58, 59, 60, 61] (by decide +kernel) (by decide +kernel)
set_option maxRecDepth 20000 in
theorem gX1_undo_X5_cut : GoodIn wsX1_undo (wsV RX1 41 RX5 yX5_cut wsX5_cut) := goodIn_app (goodIn_of _ (by decide +kernel)) ggX1_undo_X5_cut
theorem dX1_undo_0 : decode cX1_undo 0 = .ok (.aload_n 0, 1) := by decide +kernel
theorem dX1_undo_1 : decode cX1_undo 1 = .ok (.getfield 38, 3) := by decide +kernel
theorem dX1_undo_4 : decode cX1_undo 4 = .ok (.iconst 1, 1) := by decide +kernel
theorem dX1_undo_5 : decode cX1_undo 5 = .ok (.if_icmp .lt 13, 3) := by decide +kernel
theorem dX1_undo_8 : decode cX1_undo 8 = .ok (.aload_n 0, 1) := by decide +kernel
theorem dX1_undo_9 : decode cX1_undo 9 = .ok (.getfield 38, 3) := by decide +kernel
theorem dX1_undo_12 : decode cX1_undo 12 = .ok (.sipush 4000, 3) := by decide +kernel
theorem dX1_undo_15 : decode cX1_undo 15 = .ok (.if_icmp .le 4, 3) := by decide +kernel
theorem dX1_undo_18 : decode cX1_undo 18 = .ok (.return_, 1) := by decide +kernel
theorem dX1_undo_19 : decode cX1_undo 19 = .ok (.aload_n 0, 1) := by decide +kernel
theorem dX1_undo_20 : decode cX1_undo 20 = .ok (.dup, 1) := by decide +kernel
theorem dX1_undo_21 : decode cX1_undo 21 = .ok (.getfield 38, 3) := by decide +kernel
theorem dX1_undo_24 : decode cX1_undo 24 = .ok (.iconst 1, 1) := by decide +kernel
theorem dX1_undo_25 : decode cX1_undo 25 = .ok (.isub, 1) := by decide +kernel
theorem dX1_undo_26 : decode cX1_undo 26 = .ok (.putfield 38, 3) := by decide +kernel
theorem dX1_undo_29 : decode cX1_undo 29 = .ok (.aload_n 0, 1) := by decide +kernel
theorem dX1_undo_30 : decode cX1_undo 30 = .ok (.getfield 25, 3) := by decide +kernel
theorem dX1_undo_33 : decode cX1_undo 33 = .ok (.aload_n 0, 1) := by decide +kernel
theorem dX1_undo_34 : decode cX1_undo 34 = .ok (.getfield 38, 3) := by decide +kernel
theorem dX1_undo_37 : decode cX1_undo 37 = .ok (.iaload, 1) := by decide +kernel
theorem dX1_undo_38 : decode cX1_undo 38 = .ok (.istore_n 1, 1) := by decide +kernel
theorem dX1_undo_39 : decode cX1_undo 39 = .ok (.aload_n 0, 1) := by decide +kernel
theorem dX1_undo_40 : decode cX1_undo 40 = .ok (.getfield 28, 3) := by decide +kernel
theorem dX1_undo_43 : decode cX1_undo 43 = .ok (.aload_n 0, 1) := by decide +kernel
theorem dX1_undo_44 : decode cX1_undo 44 = .ok (.getfield 38, 3) := by decide +kernel
theorem dX1_undo_47 : decode cX1_undo 47 = .ok (.iaload, 1) := by decide +kernel
theorem dX1_undo_48 : decode cX1_undo 48 = .ok (.istore_n 2, 1) := by decide +kernel
theorem dX1_undo_49 : decode cX1_undo 49 = .ok (.aload_n 0, 1) := by decide +kernel
theorem dX1_undo_50 : decode cX1_undo 50 = .ok (.getfield 22, 3) := by decide +kernel
theorem dX1_undo_53 : decode cX1_undo 53 = .ok (.aload_n 0, 1) := by decide +kernel
theorem dX1_undo_54 : decode cX1_undo 54 = .ok (.getfield 38, 3) := by decide +kernel
theorem dX1_undo_57 : decode cX1_undo 57 = .ok (.iaload, 1) := by decide +kernel
theorem dX1_undo_58 : decode cX1_undo 58 = .ok (.tableswitch 91 0 3 #[30, 38, 47, 75], 30) := by decide +kernel
theorem dX1_undo_88 : decode cX1_undo 88 = .ok (.aload_n 0, 1) := by decide +kernel
theorem dX1_undo_89 : decode cX1_undo 89 = .ok (.iload_n 1, 1) := by decide +kernel
theorem dX1_undo_90 : decode cX1_undo 90 = .ok (.invokevirtual 52, 3) := by decide +kernel
theorem dX1_undo_93 : decode cX1_undo 93 = .ok (.goto 62, 3) := by decide +kernel
theorem dX1_undo_96 : decode cX1_undo 96 = .ok (.aload_n 0, 1) := by decide +kernel
theorem dX1_undo_97 : decode cX1_undo 97 = .ok (.iload_n 1, 1) := by decide +kernel
theorem dX1_undo_98 : decode cX1_undo 98 = .ok (.iload_n 2, 1) := by decide +kernel
theorem dX1_undo_99 : decode cX1_undo 99 = .ok (.invokevirtual 49, 3) := by decide +kernel
theorem dX1_undo_102 : decode cX1_undo 102 = .ok (.goto 53, 3) := by decide +kernel
theorem dX1_undo_105 : decode cX1_undo 105 = .ok (.aload_n 0, 1) := by decide +kernel
theorem dX1_undo_106 : decode cX1_undo 106 = .ok (.iload_n 1, 1) := by decide +kernel
theorem dX1_undo_107 : decode cX1_undo 107 = .ok (.iconst 1, 1) := by decide +kernel
theorem dX1_undo_108 : decode cX1_undo 108 = .ok (.iadd, 1) := by decide +kernel
theorem dX1_undo_109 : decode cX1_undo 109 = .ok (.aload_n 0, 1) := by decide +kernel
theorem dX1_undo_110 : decode cX1_undo 110 = .ok (.getfield 12, 3) := by decide +kernel
theorem dX1_undo_113 : decode cX1_undo 113 = .ok (.aload_n 0, 1) := by decide +kernel
theorem dX1_undo_114 : decode cX1_undo 114 = .ok (.iload_n 1, 1) := by decide +kernel
theorem dX1_undo_115 : decode cX1_undo 115 = .ok (.invokevirtual 55, 3) := by decide +kernel
theorem dX1_undo_118 : decode cX1_undo 118 = .ok (.invokevirtual 72, 3) := by decide +kernel
theorem dX1_undo_121 : decode cX1_undo 121 = .ok (.invokevirtual 49, 3) := by decide +kernel
theorem dX1_undo_124 : decode cX1_undo 124 = .ok (.aload_n 0, 1) := by decide +kernel
theorem dX1_undo_125 : decode cX1_undo 125 = .ok (.iload_n 1, 1) := by decide +kernel
theorem dX1_undo_126 : decode cX1_undo 126 = .ok (.iload_n 2, 1) := by decide +kernel
theorem dX1_undo_127 : decode cX1_undo 127 = .ok (.invokevirtual 63, 3) := by decide +kernel
theorem dX1_undo_130 : decode cX1_undo 130 = .ok (.goto 25, 3) := by decide +kernel
theorem dX1_undo_133 : decode cX1_undo 133 = .ok (.aload_n 0, 1) := by decide +kernel
theorem dX1_undo_134 : decode cX1_undo 134 = .ok (.iload_n 1, 1) := by decide +kernel
theorem dX1_undo_135 : decode cX1_undo 135 = .ok (.iload_n 2, 1) := by decide +kernel
theorem dX1_undo_136 : decode cX1_undo 136 = .ok (.invokevirtual 63, 3) := by decide +kernel
theorem dX1_undo_139 : decode cX1_undo 139 = .ok (.aload_n 0, 1) := by decide +kernel
theorem dX1_undo_140 : decode cX1_undo 140 = .ok (.iload_n 1, 1) := by decide +kernel
theorem dX1_undo_141 : decode cX1_undo 141 = .ok (.iconst 1, 1) := by decide +kernel
theorem dX1_undo_142 : decode cX1_undo 142 = .ok (.iadd, 1) := by decide +kernel
theorem dX1_undo_143 : decode cX1_undo 143 = .ok (.invokevirtual 52, 3) := by decide +kernel
theorem dX1_undo_146 : decode cX1_undo 146 = .ok (.goto 9, 3) := by decide +kernel
theorem dX1_undo_149 : decode cX1_undo 149 = .ok (.aload_n 0, 1) := by decide +kernel
theorem dX1_undo_150 : decode cX1_undo 150 = .ok (.iload_n 1, 1) := by decide +kernel
theorem dX1_undo_151 : decode cX1_undo 151 = .ok (.iload_n 2, 1) := by decide +kernel
theorem dX1_undo_152 : decode cX1_undo 152 = .ok (.invokevirtual 63, 3) := by decide +kernel
theorem dX1_undo_155 : decode cX1_undo 155 = .ok (.aload_n 0, 1) := by decide +kernel
theorem dX1_undo_156 : decode cX1_undo 156 = .ok (.getfield 12, 3) := by decide +kernel
theorem dX1_undo_159 : decode cX1_undo 159 = .ok (.aload_n 0, 1) := by decide +kernel
theorem dX1_undo_160 : decode cX1_undo 160 = .ok (.getfield 31, 3) := by decide +kernel
theorem dX1_undo_163 : decode cX1_undo 163 = .ok (.aload_n 0, 1) := by decide +kernel
theorem dX1_undo_164 : decode cX1_undo 164 = .ok (.getfield 38, 3) := by decide +kernel
theorem dX1_undo_167 : decode cX1_undo 167 = .ok (.iaload, 1) := by decide +kernel
theorem dX1_undo_168 : decode cX1_undo 168 = .ok (.invokevirtual 41, 3) := by decide +kernel
theorem dX1_undo_171 : decode cX1_undo 171 = .ok (.return_, 1) := by decide +kernel
set_option maxRecDepth 20000 in
theorem ggX1_note_X1_level : GoodIn wsX1_note wsX1_level := goodIn_r _ [11, 12, 13, 20, 21, 22, 23, 24, 25, 26, 27] (by decide +kernel) (by decide +kernel)
set_option maxRecDepth 20000 in
theorem gX1_note_X1_level : GoodIn wsX1_note (wsV RX1 55 RX1 yX1_level wsX1_level) := goodIn_app (goodIn_of _ (by decide +kernel)) ggX1_note_X1_level
set_option maxRecDepth 20000 in
theorem ggX1_note_X5_size : GoodIn wsX1_note wsX5_size := goodIn_r _ [18, 19, 28, 29, 30, 31, 32, 33] (by decide +kernel) (by decide +kernel)
set_option maxRecDepth 20000 in
theorem gX1_note_X5_size : GoodIn wsX1_note (wsV RX1 78 RX5 yX5_size wsX5_size) := goodIn_app (goodIn_of _ (by decide +kernel)) ggX1_note_X5_size
theorem dX1_note_0 : decode cX1_note 0 = .ok (.aload_n 0, 1) := by decide +kernel
theorem dX1_note_1 : decode cX1_note 1 = .ok (.getfield 38, 3) := by decide +kernel
theorem dX1_note_4 : decode cX1_note 4 = .ok (.sipush 4000, 3) := by decide +kernel
theorem dX1_note_7 : decode cX1_note 7 = .ok (.if_icmp .ge 63, 3) := by decide +kernel
theorem dX1_note_10 : decode cX1_note 10 = .ok (.aload_n 0, 1) := by decide +kernel
theorem dX1_note_11 : decode cX1_note 11 = .ok (.getfield 22, 3) := by decide +kernel
theorem dX1_note_14 : decode cX1_note 14 = .ok (.aload_n 0, 1) := by decide +kernel
theorem dX1_note_15 : decode cX1_note 15 = .ok (.getfield 38, 3) := by decide +kernel
theorem dX1_note_18 : decode cX1_note 18 = .ok (.iload_n 1, 1) := by decide +kernel
theorem dX1_note_19 : decode cX1_note 19 = .ok (.iastore, 1) := by decide +kernel
theorem dX1_note_20 : decode cX1_note 20 = .ok (.aload_n 0, 1) := by decide +kernel
theorem dX1_note_21 : decode cX1_note 21 = .ok (.getfield 25, 3) := by decide +kernel
theorem dX1_note_24 : decode cX1_note 24 = .ok (.aload_n 0, 1) := by decide +kernel
theorem dX1_note_25 : decode cX1_note 25 = .ok (.getfield 38, 3) := by decide +kernel
theorem dX1_note_28 : decode cX1_note 28 = .ok (.iload_n 2, 1) := by decide +kernel
theorem dX1_note_29 : decode cX1_note 29 = .ok (.iastore, 1) := by decide +kernel
theorem dX1_note_30 : decode cX1_note 30 = .ok (.aload_n 0, 1) := by decide +kernel
theorem dX1_note_31 : decode cX1_note 31 = .ok (.getfield 28, 3) := by decide +kernel
theorem dX1_note_34 : decode cX1_note 34 = .ok (.aload_n 0, 1) := by decide +kernel
theorem dX1_note_35 : decode cX1_note 35 = .ok (.getfield 38, 3) := by decide +kernel
theorem dX1_note_38 : decode cX1_note 38 = .ok (.aload_n 0, 1) := by decide +kernel
theorem dX1_note_39 : decode cX1_note 39 = .ok (.iload_n 2, 1) := by decide +kernel
theorem dX1_note_40 : decode cX1_note 40 = .ok (.invokevirtual 55, 3) := by decide +kernel
theorem dX1_note_43 : decode cX1_note 43 = .ok (.iastore, 1) := by decide +kernel
theorem dX1_note_44 : decode cX1_note 44 = .ok (.aload_n 0, 1) := by decide +kernel
theorem dX1_note_45 : decode cX1_note 45 = .ok (.getfield 31, 3) := by decide +kernel
theorem dX1_note_48 : decode cX1_note 48 = .ok (.aload_n 0, 1) := by decide +kernel
theorem dX1_note_49 : decode cX1_note 49 = .ok (.getfield 38, 3) := by decide +kernel
theorem dX1_note_52 : decode cX1_note 52 = .ok (.aload_n 0, 1) := by decide +kernel
theorem dX1_note_53 : decode cX1_note 53 = .ok (.getfield 12, 3) := by decide +kernel
theorem dX1_note_56 : decode cX1_note 56 = .ok (.invokevirtual 78, 3) := by decide +kernel
theorem dX1_note_59 : decode cX1_note 59 = .ok (.iastore, 1) := by decide +kernel
theorem dX1_note_60 : decode cX1_note 60 = .ok (.aload_n 0, 1) := by decide +kernel
theorem dX1_note_61 : decode cX1_note 61 = .ok (.dup, 1) := by decide +kernel
theorem dX1_note_62 : decode cX1_note 62 = .ok (.getfield 38, 3) := by decide +kernel
theorem dX1_note_65 : decode cX1_note 65 = .ok (.iconst 1, 1) := by decide +kernel
theorem dX1_note_66 : decode cX1_note 66 = .ok (.iadd, 1) := by decide +kernel
theorem dX1_note_67 : decode cX1_note 67 = .ok (.putfield 38, 3) := by decide +kernel
theorem dX1_note_70 : decode cX1_note 70 = .ok (.return_, 1) := by decide +kernel
set_option maxRecDepth 20000 in
theorem ggX1_insert_X1_set : GoodIn wsX1_insert wsX1_set := goodIn_r _ [11, 1, 2, 12, 13, 14, 15, 16, 17, 18, 19] (by decide +kernel) (by decide +kernel)
set_option maxRecDepth 20000 in
theorem gX1_insert_X1_set : GoodIn wsX1_insert (wsV RX1 63 RX1 yX1_set wsX1_set) := goodIn_app (goodIn_of _ (by decide +kernel)) ggX1_insert_X1_set
theorem dX1_insert_0 : decode cX1_insert 0 = .ok (.iload_n 1, 1) := by decide +kernel
theorem dX1_insert_1 : decode cX1_insert 1 = .ok (.aload_n 0, 1) := by decide +kernel
theorem dX1_insert_2 : decode cX1_insert 2 = .ok (.getfield 34, 3) := by decide +kernel
theorem dX1_insert_5 : decode cX1_insert 5 = .ok (.if_icmp .lt 12, 3) := by decide +kernel
theorem dX1_insert_8 : decode cX1_insert 8 = .ok (.aload_n 0, 1) := by decide +kernel
theorem dX1_insert_9 : decode cX1_insert 9 = .ok (.iload_n 1, 1) := by decide +kernel
theorem dX1_insert_10 : decode cX1_insert 10 = .ok (.iload_n 2, 1) := by decide +kernel
theorem dX1_insert_11 : decode cX1_insert 11 = .ok (.invokevirtual 63, 3) := by decide +kernel
theorem dX1_insert_14 : decode cX1_insert 14 = .ok (.goto 55, 3) := by decide +kernel
theorem dX1_insert_17 : decode cX1_insert 17 = .ok (.iload_n 1, 1) := by decide +kernel
theorem dX1_insert_18 : decode cX1_insert 18 = .ok (.ifCond .lt 51, 3) := by decide +kernel
theorem dX1_insert_21 : decode cX1_insert 21 = .ok (.aload_n 0, 1) := by decide +kernel
theorem dX1_insert_22 : decode cX1_insert 22 = .ok (.getfield 34, 3) := by decide +kernel
theorem dX1_insert_25 : decode cX1_insert 25 = .ok (.sipush 4067, 3) := by decide +kernel
theorem dX1_insert_28 : decode cX1_insert 28 = .ok (.if_icmp .ge 41, 3) := by decide +kernel
theorem dX1_insert_31 : decode cX1_insert 31 = .ok (.aload_n 0, 1) := by decide +kernel
theorem dX1_insert_32 : decode cX1_insert 32 = .ok (.getfield 18, 3) := by decide +kernel
theorem dX1_insert_35 : decode cX1_insert 35 = .ok (.iload_n 1, 1) := by decide +kernel
theorem dX1_insert_36 : decode cX1_insert 36 = .ok (.aload_n 0, 1) := by decide +kernel
theorem dX1_insert_37 : decode cX1_insert 37 = .ok (.getfield 18, 3) := by decide +kernel
theorem dX1_insert_40 : decode cX1_insert 40 = .ok (.iload_n 1, 1) := by decide +kernel
theorem dX1_insert_41 : decode cX1_insert 41 = .ok (.iconst 1, 1) := by decide +kernel
theorem dX1_insert_42 : decode cX1_insert 42 = .ok (.iadd, 1) := by decide +kernel
theorem dX1_insert_43 : decode cX1_insert 43 = .ok (.aload_n 0, 1) := by decide +kernel
theorem dX1_insert_44 : decode cX1_insert 44 = .ok (.getfield 34, 3) := by decide +kernel
theorem dX1_insert_47 : decode cX1_insert 47 = .ok (.iload_n 1, 1) := by decide +kernel
theorem dX1_insert_48 : decode cX1_insert 48 = .ok (.isub, 1) := by decide +kernel
theorem dX1_insert_49 : decode cX1_insert 49 = .ok (.invokestatic 82, 3) := by decide +kernel
theorem dX1_insert_52 : decode cX1_insert 52 = .ok (.aload_n 0, 1) := by decide +kernel
theorem dX1_insert_53 : decode cX1_insert 53 = .ok (.getfield 18, 3) := by decide +kernel
theorem dX1_insert_56 : decode cX1_insert 56 = .ok (.iload_n 1, 1) := by decide +kernel
theorem dX1_insert_57 : decode cX1_insert 57 = .ok (.iload_n 2, 1) := by decide +kernel
theorem dX1_insert_58 : decode cX1_insert 58 = .ok (.iastore, 1) := by decide +kernel
theorem dX1_insert_59 : decode cX1_insert 59 = .ok (.aload_n 0, 1) := by decide +kernel
theorem dX1_insert_60 : decode cX1_insert 60 = .ok (.dup, 1) := by decide +kernel
theorem dX1_insert_61 : decode cX1_insert 61 = .ok (.getfield 34, 3) := by decide +kernel
theorem dX1_insert_64 : decode cX1_insert 64 = .ok (.iconst 1, 1) := by decide +kernel
theorem dX1_insert_65 : decode cX1_insert 65 = .ok (.iadd, 1) := by decide +kernel
theorem dX1_insert_66 : decode cX1_insert 66 = .ok (.putfield 34, 3) := by decide +kernel
theorem dX1_insert_69 : decode cX1_insert 69 = .ok (.return_, 1) := by decide +kernel
theorem dX1_delete_0 : decode cX1_delete 0 = .ok (.iload_n 1, 1) := by decide +kernel
theorem dX1_delete_1 : decode cX1_delete 1 = .ok (.ifCond .lt 54, 3) := by decide +kernel
theorem dX1_delete_4 : decode cX1_delete 4 = .ok (.iload_n 1, 1) := by decide +kernel
theorem dX1_delete_5 : decode cX1_delete 5 = .ok (.aload_n 0, 1) := by decide +kernel
theorem dX1_delete_6 : decode cX1_delete 6 = .ok (.getfield 34, 3) := by decide +kernel
theorem dX1_delete_9 : decode cX1_delete 9 = .ok (.if_icmp .ge 46, 3) := by decide +kernel
theorem dX1_delete_12 : decode cX1_delete 12 = .ok (.aload_n 0, 1) := by decide +kernel
theorem dX1_delete_13 : decode cX1_delete 13 = .ok (.getfield 34, 3) := by decide +kernel
theorem dX1_delete_16 : decode cX1_delete 16 = .ok (.sipush 4067, 3) := by decide +kernel
theorem dX1_delete_19 : decode cX1_delete 19 = .ok (.if_icmp .gt 36, 3) := by decide +kernel
theorem dX1_delete_22 : decode cX1_delete 22 = .ok (.aload_n 0, 1) := by decide +kernel
theorem dX1_delete_23 : decode cX1_delete 23 = .ok (.getfield 18, 3) := by decide +kernel
theorem dX1_delete_26 : decode cX1_delete 26 = .ok (.iload_n 1, 1) := by decide +kernel
theorem dX1_delete_27 : decode cX1_delete 27 = .ok (.iconst 1, 1) := by decide +kernel
theorem dX1_delete_28 : decode cX1_delete 28 = .ok (.iadd, 1) := by decide +kernel
theorem dX1_delete_29 : decode cX1_delete 29 = .ok (.aload_n 0, 1) := by decide +kernel
theorem dX1_delete_30 : decode cX1_delete 30 = .ok (.getfield 18, 3) := by decide +kernel
theorem dX1_delete_33 : decode cX1_delete 33 = .ok (.iload_n 1, 1) := by decide +kernel
theorem dX1_delete_34 : decode cX1_delete 34 = .ok (.aload_n 0, 1) := by decide +kernel
theorem dX1_delete_35 : decode cX1_delete 35 = .ok (.getfield 34, 3) := by decide +kernel
theorem dX1_delete_38 : decode cX1_delete 38 = .ok (.iload_n 1, 1) := by decide +kernel
theorem dX1_delete_39 : decode cX1_delete 39 = .ok (.isub, 1) := by decide +kernel
theorem dX1_delete_40 : decode cX1_delete 40 = .ok (.iconst 1, 1) := by decide +kernel
theorem dX1_delete_41 : decode cX1_delete 41 = .ok (.isub, 1) := by decide +kernel
theorem dX1_delete_42 : decode cX1_delete 42 = .ok (.invokestatic 82, 3) := by decide +kernel
theorem dX1_delete_45 : decode cX1_delete 45 = .ok (.aload_n 0, 1) := by decide +kernel
theorem dX1_delete_46 : decode cX1_delete 46 = .ok (.dup, 1) := by decide +kernel
theorem dX1_delete_47 : decode cX1_delete 47 = .ok (.getfield 34, 3) := by decide +kernel
theorem dX1_delete_50 : decode cX1_delete 50 = .ok (.iconst 1, 1) := by decide +kernel
theorem dX1_delete_51 : decode cX1_delete 51 = .ok (.isub, 1) := by decide +kernel
theorem dX1_delete_52 : decode cX1_delete 52 = .ok (.putfield 34, 3) := by decide +kernel
theorem dX1_delete_55 : decode cX1_delete 55 = .ok (.return_, 1) := by decide +kernel
theorem dX1_set_0 : decode cX1_set 0 = .ok (.iload_n 1, 1) := by decide +kernel
theorem dX1_set_1 : decode cX1_set 1 = .ok (.ifCond .lt 22, 3) := by decide +kernel
theorem dX1_set_4 : decode cX1_set 4 = .ok (.iload_n 1, 1) := by decide +kernel
theorem dX1_set_5 : decode cX1_set 5 = .ok (.sipush 4067, 3) := by decide +kernel
theorem dX1_set_8 : decode cX1_set 8 = .ok (.if_icmp .ge 15, 3) := by decide +kernel
theorem dX1_set_11 : decode cX1_set 11 = .ok (.iload_n 1, 1) := by decide +kernel
theorem dX1_set_12 : decode cX1_set 12 = .ok (.aload_n 0, 1) := by decide +kernel
theorem dX1_set_13 : decode cX1_set 13 = .ok (.getfield 34, 3) := by decide +kernel
theorem dX1_set_16 : decode cX1_set 16 = .ok (.if_icmp .lt 8, 3) := by decide +kernel
theorem dX1_set_19 : decode cX1_set 19 = .ok (.iload_n 2, 1) := by decide +kernel
theorem dX1_set_20 : decode cX1_set 20 = .ok (.ifCond .ne 4, 3) := by decide +kernel
theorem dX1_set_23 : decode cX1_set 23 = .ok (.return_, 1) := by decide +kernel
theorem dX1_set_24 : decode cX1_set 24 = .ok (.aload_n 0, 1) := by decide +kernel
theorem dX1_set_25 : decode cX1_set 25 = .ok (.getfield 34, 3) := by decide +kernel
theorem dX1_set_28 : decode cX1_set 28 = .ok (.iload_n 1, 1) := by decide +kernel
theorem dX1_set_29 : decode cX1_set 29 = .ok (.if_icmp .gt 26, 3) := by decide +kernel
theorem dX1_set_32 : decode cX1_set 32 = .ok (.aload_n 0, 1) := by decide +kernel
theorem dX1_set_33 : decode cX1_set 33 = .ok (.getfield 18, 3) := by decide +kernel
theorem dX1_set_36 : decode cX1_set 36 = .ok (.aload_n 0, 1) := by decide +kernel
theorem dX1_set_37 : decode cX1_set 37 = .ok (.getfield 34, 3) := by decide +kernel
theorem dX1_set_40 : decode cX1_set 40 = .ok (.iconst 0, 1) := by decide +kernel
theorem dX1_set_41 : decode cX1_set 41 = .ok (.iastore, 1) := by decide +kernel
theorem dX1_set_42 : decode cX1_set 42 = .ok (.aload_n 0, 1) := by decide +kernel
theorem dX1_set_43 : decode cX1_set 43 = .ok (.dup, 1) := by decide +kernel
theorem dX1_set_44 : decode cX1_set 44 = .ok (.getfield 34, 3) := by decide +kernel
theorem dX1_set_47 : decode cX1_set 47 = .ok (.iconst 1, 1) := by decide +kernel
theorem dX1_set_48 : decode cX1_set 48 = .ok (.iadd, 1) := by decide +kernel
theorem dX1_set_49 : decode cX1_set 49 = .ok (.putfield 34, 3) := by decide +kernel
theorem dX1_set_52 : decode cX1_set 52 = .ok (.goto (-28), 3) := by decide +kernel
theorem dX1_set_55 : decode cX1_set 55 = .ok (.aload_n 0, 1) := by decide +kernel
theorem dX1_set_56 : decode cX1_set 56 = .ok (.getfield 18, 3) := by decide +kernel
theorem dX1_set_59 : decode cX1_set 59 = .ok (.iload_n 1, 1) := by decide +kernel
theorem dX1_set_60 : decode cX1_set 60 = .ok (.iload_n 2, 1) := by decide +kernel
theorem dX1_set_61 : decode cX1_set 61 = .ok (.iastore, 1) := by decide +kernel
theorem dX1_set_62 : decode cX1_set 62 = .ok (.return_, 1) := by decide +kernel
theorem dX2_init_0 : decode cX2_init 0 = .ok (.aload_n 0, 1) := by decide +kernel
theorem dX2_init_1 : decode cX2_init 1 = .ok (.invokespecial 3, 3) := by decide +kernel
theorem dX2_init_4 : decode cX2_init 4 = .ok (.aload_n 0, 1) := by decide +kernel
theorem dX2_init_5 : decode cX2_init 5 = .ok (.sipush 3002, 3) := by decide +kernel
theorem dX2_init_8 : decode cX2_init 8 = .ok (.newarray .int, 2) := by decide +kernel
theorem dX2_init_10 : decode cX2_init 10 = .ok (.putfield 11, 3) := by decide +kernel
theorem dX2_init_13 : decode cX2_init 13 = .ok (.aload_n 0, 1) := by decide +kernel
theorem dX2_init_14 : decode cX2_init 14 = .ok (.sipush 3002, 3) := by decide +kernel
theorem dX2_init_17 : decode cX2_init 17 = .ok (.newarray .int, 2) := by decide +kernel
theorem dX2_init_19 : decode cX2_init 19 = .ok (.putfield 15, 3) := by decide +kernel
theorem dX2_init_22 : decode cX2_init 22 = .ok (.aload_n 0, 1) := by decide +kernel
theorem dX2_init_23 : decode cX2_init 23 = .ok (.sipush 12008, 3) := by decide +kernel
theorem dX2_init_26 : decode cX2_init 26 = .ok (.newarray .int, 2) := by decide +kernel
theorem dX2_init_28 : decode cX2_init 28 = .ok (.putfield 18, 3) := by decide +kernel
theorem dX2_init_31 : decode cX2_init 31 = .ok (.aload_n 0, 1) := by decide +kernel
theorem dX2_init_32 : decode cX2_init 32 = .ok (.sipush 3002, 3) := by decide +kernel
theorem dX2_init_35 : decode cX2_init 35 = .ok (.newarray .int, 2) := by decide +kernel
theorem dX2_init_37 : decode cX2_init 37 = .ok (.putfield 21, 3) := by decide +kernel
theorem dX2_init_40 : decode cX2_init 40 = .ok (.aload_n 0, 1) := by decide +kernel
theorem dX2_init_41 : decode cX2_init 41 = .ok (.bipush 7, 2) := by decide +kernel
theorem dX2_init_43 : decode cX2_init 43 = .ok (.newarray .int, 2) := by decide +kernel
theorem dX2_init_45 : decode cX2_init 45 = .ok (.putfield 24, 3) := by decide +kernel
theorem dX2_init_48 : decode cX2_init 48 = .ok (.aload_n 0, 1) := by decide +kernel
theorem dX2_init_49 : decode cX2_init 49 = .ok (.sipush 3002, 3) := by decide +kernel
theorem dX2_init_52 : decode cX2_init 52 = .ok (.newarray .int, 2) := by decide +kernel
theorem dX2_init_54 : decode cX2_init 54 = .ok (.putfield 27, 3) := by decide +kernel
theorem dX2_init_57 : decode cX2_init 57 = .ok (.aload_n 0, 1) := by decide +kernel
theorem dX2_init_58 : decode cX2_init 58 = .ok (.sipush 3002, 3) := by decide +kernel
theorem dX2_init_61 : decode cX2_init 61 = .ok (.newarray .boolean, 2) := by decide +kernel
theorem dX2_init_63 : decode cX2_init 63 = .ok (.putfield 30, 3) := by decide +kernel
theorem dX2_init_66 : decode cX2_init 66 = .ok (.return_, 1) := by decide +kernel
theorem dX2_clear_0 : decode cX2_clear 0 = .ok (.iconst 0, 1) := by decide +kernel
theorem dX2_clear_1 : decode cX2_clear 1 = .ok (.istore_n 1, 1) := by decide +kernel
theorem dX2_clear_2 : decode cX2_clear 2 = .ok (.iload_n 1, 1) := by decide +kernel
theorem dX2_clear_3 : decode cX2_clear 3 = .ok (.sipush 3002, 3) := by decide +kernel
theorem dX2_clear_6 : decode cX2_clear 6 = .ok (.if_icmp .ge 34, 3) := by decide +kernel
theorem dX2_clear_9 : decode cX2_clear 9 = .ok (.aload_n 0, 1) := by decide +kernel
theorem dX2_clear_10 : decode cX2_clear 10 = .ok (.getfield 11, 3) := by decide +kernel
theorem dX2_clear_13 : decode cX2_clear 13 = .ok (.iload_n 1, 1) := by decide +kernel
theorem dX2_clear_14 : decode cX2_clear 14 = .ok (.iconst (-1), 1) := by decide +kernel
theorem dX2_clear_15 : decode cX2_clear 15 = .ok (.iastore, 1) := by decide +kernel
theorem dX2_clear_16 : decode cX2_clear 16 = .ok (.aload_n 0, 1) := by decide +kernel
theorem dX2_clear_17 : decode cX2_clear 17 = .ok (.getfield 30, 3) := by decide +kernel
theorem dX2_clear_20 : decode cX2_clear 20 = .ok (.iload_n 1, 1) := by decide +kernel
theorem dX2_clear_21 : decode cX2_clear 21 = .ok (.iconst 0, 1) := by decide +kernel
theorem dX2_clear_22 : decode cX2_clear 22 = .ok (.bastore, 1) := by decide +kernel
theorem dX2_clear_23 : decode cX2_clear 23 = .ok (.aload_n 0, 1) := by decide +kernel
theorem dX2_clear_24 : decode cX2_clear 24 = .ok (.getfield 21, 3) := by decide +kernel
theorem dX2_clear_27 : decode cX2_clear 27 = .ok (.iload_n 1, 1) := by decide +kernel
theorem dX2_clear_28 : decode cX2_clear 28 = .ok (.sipush 3001, 3) := by decide +kernel
theorem dX2_clear_31 : decode cX2_clear 31 = .ok (.iload_n 1, 1) := by decide +kernel
theorem dX2_clear_32 : decode cX2_clear 32 = .ok (.isub, 1) := by decide +kernel
theorem dX2_clear_33 : decode cX2_clear 33 = .ok (.iastore, 1) := by decide +kernel
theorem dX2_clear_34 : decode cX2_clear 34 = .ok (.iinc 1 1, 3) := by decide +kernel
theorem dX2_clear_37 : decode cX2_clear 37 = .ok (.goto (-35), 3) := by decide +kernel
theorem dX2_clear_40 : decode cX2_clear 40 = .ok (.iconst 0, 1) := by decide +kernel
theorem dX2_clear_41 : decode cX2_clear 41 = .ok (.istore_n 1, 1) := by decide +kernel
theorem dX2_clear_42 : decode cX2_clear 42 = .ok (.iload_n 1, 1) := by decide +kernel
theorem dX2_clear_43 : decode cX2_clear 43 = .ok (.bipush 7, 2) := by decide +kernel
theorem dX2_clear_45 : decode cX2_clear 45 = .ok (.if_icmp .ge 16, 3) := by decide +kernel
theorem dX2_clear_48 : decode cX2_clear 48 = .ok (.aload_n 0, 1) := by decide +kernel
theorem dX2_clear_49 : decode cX2_clear 49 = .ok (.getfield 24, 3) := by decide +kernel
theorem dX2_clear_52 : decode cX2_clear 52 = .ok (.iload_n 1, 1) := by decide +kernel
theorem dX2_clear_53 : decode cX2_clear 53 = .ok (.iconst 0, 1) := by decide +kernel
theorem dX2_clear_54 : decode cX2_clear 54 = .ok (.iastore, 1) := by decide +kernel
theorem dX2_clear_55 : decode cX2_clear 55 = .ok (.iinc 1 1, 3) := by decide +kernel
theorem dX2_clear_58 : decode cX2_clear 58 = .ok (.goto (-16), 3) := by decide +kernel
theorem dX2_clear_61 : decode cX2_clear 61 = .ok (.aload_n 0, 1) := by decide +kernel
theorem dX2_clear_62 : decode cX2_clear 62 = .ok (.sipush 3002, 3) := by decide +kernel
theorem dX2_clear_65 : decode cX2_clear 65 = .ok (.putfield 34, 3) := by decide +kernel
theorem dX2_clear_68 : decode cX2_clear 68 = .ok (.aload_n 0, 1) := by decide +kernel
theorem dX2_clear_69 : decode cX2_clear 69 = .ok (.iconst 0, 1) := by decide +kernel
theorem dX2_clear_70 : decode cX2_clear 70 = .ok (.putfield 38, 3) := by decide +kernel
theorem dX2_clear_73 : decode cX2_clear 73 = .ok (.aload_n 0, 1) := by decide +kernel
theorem dX2_clear_74 : decode cX2_clear 74 = .ok (.iconst 0, 1) := by decide +kernel
theorem dX2_clear_75 : decode cX2_clear 75 = .ok (.putfield 41, 3) := by decide +kernel
theorem dX2_clear_78 : decode cX2_clear 78 = .ok (.return_, 1) := by decide +kernel
theorem dX2_size_0 : decode cX2_size 0 = .ok (.sipush 3002, 3) := by decide +kernel
theorem dX2_size_3 : decode cX2_size 3 = .ok (.aload_n 0, 1) := by decide +kernel
theorem dX2_size_4 : decode cX2_size 4 = .ok (.getfield 34, 3) := by decide +kernel
theorem dX2_size_7 : decode cX2_size 7 = .ok (.isub, 1) := by decide +kernel
theorem dX2_size_8 : decode cX2_size 8 = .ok (.ireturn, 1) := by decide +kernel
theorem dX2_erasedNodes_0 : decode cX2_erasedNodes 0 = .ok (.aload_n 0, 1) := by decide +kernel
theorem dX2_erasedNodes_1 : decode cX2_erasedNodes 1 = .ok (.getfield 41, 3) := by decide +kernel
theorem dX2_erasedNodes_4 : decode cX2_erasedNodes 4 = .ok (.ireturn, 1) := by decide +kernel
theorem dX2_population_0 : decode cX2_population 0 = .ok (.iload_n 1, 1) := by decide +kernel
theorem dX2_population_1 : decode cX2_population 1 = .ok (.ifCond .lt 18, 3) := by decide +kernel
theorem dX2_population_4 : decode cX2_population 4 = .ok (.iload_n 1, 1) := by decide +kernel
theorem dX2_population_5 : decode cX2_population 5 = .ok (.bipush 7, 2) := by decide +kernel
theorem dX2_population_7 : decode cX2_population 7 = .ok (.if_icmp .ge 12, 3) := by decide +kernel
theorem dX2_population_10 : decode cX2_population 10 = .ok (.aload_n 0, 1) := by decide +kernel
theorem dX2_population_11 : decode cX2_population 11 = .ok (.getfield 24, 3) := by decide +kernel
theorem dX2_population_14 : decode cX2_population 14 = .ok (.iload_n 1, 1) := by decide +kernel
theorem dX2_population_15 : decode cX2_population 15 = .ok (.iaload, 1) := by decide +kernel
theorem dX2_population_16 : decode cX2_population 16 = .ok (.goto 4, 3) := by decide +kernel
theorem dX2_population_19 : decode cX2_population 19 = .ok (.iconst 0, 1) := by decide +kernel
theorem dX2_population_20 : decode cX2_population 20 = .ok (.ireturn, 1) := by decide +kernel
theorem dX2_kindOf_0 : decode cX2_kindOf 0 = .ok (.iload_n 1, 1) := by decide +kernel
theorem dX2_kindOf_1 : decode cX2_kindOf 1 = .ok (.ifCond .lt 19, 3) := by decide +kernel
theorem dX2_kindOf_4 : decode cX2_kindOf 4 = .ok (.iload_n 1, 1) := by decide +kernel
theorem dX2_kindOf_5 : decode cX2_kindOf 5 = .ok (.sipush 3002, 3) := by decide +kernel
theorem dX2_kindOf_8 : decode cX2_kindOf 8 = .ok (.if_icmp .ge 12, 3) := by decide +kernel
theorem dX2_kindOf_11 : decode cX2_kindOf 11 = .ok (.aload_n 0, 1) := by decide +kernel
theorem dX2_kindOf_12 : decode cX2_kindOf 12 = .ok (.getfield 11, 3) := by decide +kernel
theorem dX2_kindOf_15 : decode cX2_kindOf 15 = .ok (.iload_n 1, 1) := by decide +kernel
theorem dX2_kindOf_16 : decode cX2_kindOf 16 = .ok (.iaload, 1) := by decide +kernel
theorem dX2_kindOf_17 : decode cX2_kindOf 17 = .ok (.goto 4, 3) := by decide +kernel
theorem dX2_kindOf_20 : decode cX2_kindOf 20 = .ok (.iconst (-1), 1) := by decide +kernel
theorem dX2_kindOf_21 : decode cX2_kindOf 21 = .ok (.ireturn, 1) := by decide +kernel
theorem dX2_indexOf_0 : decode cX2_indexOf 0 = .ok (.iload_n 1, 1) := by decide +kernel
theorem dX2_indexOf_1 : decode cX2_indexOf 1 = .ok (.ifCond .lt 19, 3) := by decide +kernel
theorem dX2_indexOf_4 : decode cX2_indexOf 4 = .ok (.iload_n 1, 1) := by decide +kernel
theorem dX2_indexOf_5 : decode cX2_indexOf 5 = .ok (.sipush 3002, 3) := by decide +kernel
theorem dX2_indexOf_8 : decode cX2_indexOf 8 = .ok (.if_icmp .ge 12, 3) := by decide +kernel
theorem dX2_indexOf_11 : decode cX2_indexOf 11 = .ok (.aload_n 0, 1) := by decide +kernel
theorem dX2_indexOf_12 : decode cX2_indexOf 12 = .ok (.getfield 15, 3) := by decide +kernel
theorem dX2_indexOf_15 : decode cX2_indexOf 15 = .ok (.iload_n 1, 1) := by decide +kernel
theorem dX2_indexOf_16 : decode cX2_indexOf 16 = .ok (.iaload, 1) := by decide +kernel
theorem dX2_indexOf_17 : decode cX2_indexOf 17 = .ok (.goto 4, 3) := by decide +kernel
theorem dX2_indexOf_20 : decode cX2_indexOf 20 = .ok (.iconst (-1), 1) := by decide +kernel
theorem dX2_indexOf_21 : decode cX2_indexOf 21 = .ok (.ireturn, 1) := by decide +kernel
theorem dX2_across_0 : decode cX2_across 0 = .ok (.iload_n 1, 1) := by decide +kernel
theorem dX2_across_1 : decode cX2_across 1 = .ok (.ifCond .lt 21, 3) := by decide +kernel
theorem dX2_across_4 : decode cX2_across 4 = .ok (.iload_n 1, 1) := by decide +kernel
theorem dX2_across_5 : decode cX2_across 5 = .ok (.aload_n 0, 1) := by decide +kernel
theorem dX2_across_6 : decode cX2_across 6 = .ok (.getfield 18, 3) := by decide +kernel
theorem dX2_across_9 : decode cX2_across 9 = .ok (.arraylength, 1) := by decide +kernel
theorem dX2_across_10 : decode cX2_across 10 = .ok (.if_icmp .ge 12, 3) := by decide +kernel
theorem dX2_across_13 : decode cX2_across 13 = .ok (.aload_n 0, 1) := by decide +kernel
theorem dX2_across_14 : decode cX2_across 14 = .ok (.getfield 18, 3) := by decide +kernel
theorem dX2_across_17 : decode cX2_across 17 = .ok (.iload_n 1, 1) := by decide +kernel
theorem dX2_across_18 : decode cX2_across 18 = .ok (.iaload, 1) := by decide +kernel
theorem dX2_across_19 : decode cX2_across 19 = .ok (.goto 4, 3) := by decide +kernel
theorem dX2_across_22 : decode cX2_across 22 = .ok (.iconst (-1), 1) := by decide +kernel
theorem dX2_across_23 : decode cX2_across 23 = .ok (.ireturn, 1) := by decide +kernel
theorem dX2_make_0 : decode cX2_make 0 = .ok (.aload_n 0, 1) := by decide +kernel
theorem dX2_make_1 : decode cX2_make 1 = .ok (.getfield 34, 3) := by decide +kernel
theorem dX2_make_4 : decode cX2_make 4 = .ok (.iconst 1, 1) := by decide +kernel
theorem dX2_make_5 : decode cX2_make 5 = .ok (.if_icmp .lt 23, 3) := by decide +kernel
theorem dX2_make_8 : decode cX2_make 8 = .ok (.aload_n 0, 1) := by decide +kernel
theorem dX2_make_9 : decode cX2_make 9 = .ok (.getfield 34, 3) := by decide +kernel
theorem dX2_make_12 : decode cX2_make 12 = .ok (.sipush 3002, 3) := by decide +kernel
theorem dX2_make_15 : decode cX2_make 15 = .ok (.if_icmp .gt 13, 3) := by decide +kernel
theorem dX2_make_18 : decode cX2_make 18 = .ok (.iload_n 1, 1) := by decide +kernel
theorem dX2_make_19 : decode cX2_make 19 = .ok (.ifCond .lt 9, 3) := by decide +kernel
theorem dX2_make_22 : decode cX2_make 22 = .ok (.iload_n 1, 1) := by decide +kernel
theorem dX2_make_23 : decode cX2_make 23 = .ok (.bipush 7, 2) := by decide +kernel
theorem dX2_make_25 : decode cX2_make 25 = .ok (.if_icmp .lt 5, 3) := by decide +kernel
theorem dX2_make_28 : decode cX2_make 28 = .ok (.iconst (-1), 1) := by decide +kernel
theorem dX2_make_29 : decode cX2_make 29 = .ok (.ireturn, 1) := by decide +kernel
theorem dX2_make_30 : decode cX2_make 30 = .ok (.aload_n 0, 1) := by decide +kernel
theorem dX2_make_31 : decode cX2_make 31 = .ok (.getfield 21, 3) := by decide +kernel
theorem dX2_make_34 : decode cX2_make 34 = .ok (.aload_n 0, 1) := by decide +kernel
theorem dX2_make_35 : decode cX2_make 35 = .ok (.getfield 34, 3) := by decide +kernel
theorem dX2_make_38 : decode cX2_make 38 = .ok (.iconst 1, 1) := by decide +kernel
theorem dX2_make_39 : decode cX2_make 39 = .ok (.isub, 1) := by decide +kernel
theorem dX2_make_40 : decode cX2_make 40 = .ok (.iaload, 1) := by decide +kernel
theorem dX2_make_41 : decode cX2_make 41 = .ok (.istore_n 3, 1) := by decide +kernel
theorem dX2_make_42 : decode cX2_make 42 = .ok (.iload_n 3, 1) := by decide +kernel
theorem dX2_make_43 : decode cX2_make 43 = .ok (.ifCond .lt 10, 3) := by decide +kernel
theorem dX2_make_46 : decode cX2_make 46 = .ok (.iload_n 3, 1) := by decide +kernel
theorem dX2_make_47 : decode cX2_make 47 = .ok (.sipush 3002, 3) := by decide +kernel
theorem dX2_make_50 : decode cX2_make 50 = .ok (.if_icmp .lt 5, 3) := by decide +kernel
theorem dX2_make_53 : decode cX2_make 53 = .ok (.iconst (-1), 1) := by decide +kernel
theorem dX2_make_54 : decode cX2_make 54 = .ok (.ireturn, 1) := by decide +kernel
theorem dX2_make_55 : decode cX2_make 55 = .ok (.aload_n 0, 1) := by decide +kernel
theorem dX2_make_56 : decode cX2_make 56 = .ok (.dup, 1) := by decide +kernel
theorem dX2_make_57 : decode cX2_make 57 = .ok (.getfield 34, 3) := by decide +kernel
theorem dX2_make_60 : decode cX2_make 60 = .ok (.iconst 1, 1) := by decide +kernel
theorem dX2_make_61 : decode cX2_make 61 = .ok (.isub, 1) := by decide +kernel
theorem dX2_make_62 : decode cX2_make 62 = .ok (.putfield 34, 3) := by decide +kernel
theorem dX2_make_65 : decode cX2_make 65 = .ok (.aload_n 0, 1) := by decide +kernel
theorem dX2_make_66 : decode cX2_make 66 = .ok (.getfield 11, 3) := by decide +kernel
theorem dX2_make_69 : decode cX2_make 69 = .ok (.iload_n 3, 1) := by decide +kernel
theorem dX2_make_70 : decode cX2_make 70 = .ok (.iload_n 1, 1) := by decide +kernel
theorem dX2_make_71 : decode cX2_make 71 = .ok (.iastore, 1) := by decide +kernel
theorem dX2_make_72 : decode cX2_make 72 = .ok (.aload_n 0, 1) := by decide +kernel
theorem dX2_make_73 : decode cX2_make 73 = .ok (.getfield 15, 3) := by decide +kernel
theorem dX2_make_76 : decode cX2_make 76 = .ok (.iload_n 3, 1) := by decide +kernel
theorem dX2_make_77 : decode cX2_make 77 = .ok (.iload_n 2, 1) := by decide +kernel
theorem dX2_make_78 : decode cX2_make 78 = .ok (.iastore, 1) := by decide +kernel
theorem dX2_make_79 : decode cX2_make 79 = .ok (.aload_n 0, 1) := by decide +kernel
theorem dX2_make_80 : decode cX2_make 80 = .ok (.getfield 24, 3) := by decide +kernel
theorem dX2_make_83 : decode cX2_make 83 = .ok (.iload_n 1, 1) := by decide +kernel
theorem dX2_make_84 : decode cX2_make 84 = .ok (.dup2, 1) := by decide +kernel
theorem dX2_make_85 : decode cX2_make 85 = .ok (.iaload, 1) := by decide +kernel
theorem dX2_make_86 : decode cX2_make 86 = .ok (.iconst 1, 1) := by decide +kernel
theorem dX2_make_87 : decode cX2_make 87 = .ok (.iadd, 1) := by decide +kernel
theorem dX2_make_88 : decode cX2_make 88 = .ok (.iastore, 1) := by decide +kernel
theorem dX2_make_89 : decode cX2_make 89 = .ok (.iload_n 3, 1) := by decide +kernel
theorem dX2_make_90 : decode cX2_make 90 = .ok (.ireturn, 1) := by decide +kernel
set_option maxRecDepth 20000 in
theorem ggX2_discard_X2_kindOf : GoodIn wsX2_discard wsX2_kindOf := goodIn_r _ [9, 3, 10, 11, 12, 13, 14, 15, 16, 17, 18, 19] (by decide +kernel) (by decide +kernel)
set_option maxRecDepth 20000 in
theorem gX2_discard_X2_kindOf : GoodIn wsX2_discard (wsV RX2 44 RX2 yX2_kindOf wsX2_kindOf) := goodIn_app (goodIn_of _ (by decide +kernel)) ggX2_discard_X2_kindOf
theorem dX2_discard_0 : decode cX2_discard 0 = .ok (.aload_n 0, 1) := by decide +kernel
theorem dX2_discard_1 : decode cX2_discard 1 = .ok (.iload_n 1, 1) := by decide +kernel
theorem dX2_discard_2 : decode cX2_discard 2 = .ok (.invokevirtual 44, 3) := by decide +kernel
theorem dX2_discard_5 : decode cX2_discard 5 = .ok (.istore_n 2, 1) := by decide +kernel
theorem dX2_discard_6 : decode cX2_discard 6 = .ok (.iload_n 2, 1) := by decide +kernel
theorem dX2_discard_7 : decode cX2_discard 7 = .ok (.ifCond .lt 19, 3) := by decide +kernel
theorem dX2_discard_10 : decode cX2_discard 10 = .ok (.iload_n 2, 1) := by decide +kernel
theorem dX2_discard_11 : decode cX2_discard 11 = .ok (.bipush 7, 2) := by decide +kernel
theorem dX2_discard_13 : decode cX2_discard 13 = .ok (.if_icmp .ge 13, 3) := by decide +kernel
theorem dX2_discard_16 : decode cX2_discard 16 = .ok (.aload_n 0, 1) := by decide +kernel
theorem dX2_discard_17 : decode cX2_discard 17 = .ok (.getfield 34, 3) := by decide +kernel
theorem dX2_discard_20 : decode cX2_discard 20 = .ok (.sipush 3002, 3) := by decide +kernel
theorem dX2_discard_23 : decode cX2_discard 23 = .ok (.if_icmp .lt 4, 3) := by decide +kernel
theorem dX2_discard_26 : decode cX2_discard 26 = .ok (.return_, 1) := by decide +kernel
theorem dX2_discard_27 : decode cX2_discard 27 = .ok (.aload_n 0, 1) := by decide +kernel
theorem dX2_discard_28 : decode cX2_discard 28 = .ok (.getfield 24, 3) := by decide +kernel
theorem dX2_discard_31 : decode cX2_discard 31 = .ok (.iload_n 2, 1) := by decide +kernel
theorem dX2_discard_32 : decode cX2_discard 32 = .ok (.dup2, 1) := by decide +kernel
theorem dX2_discard_33 : decode cX2_discard 33 = .ok (.iaload, 1) := by decide +kernel
theorem dX2_discard_34 : decode cX2_discard 34 = .ok (.iconst 1, 1) := by decide +kernel
theorem dX2_discard_35 : decode cX2_discard 35 = .ok (.isub, 1) := by decide +kernel
theorem dX2_discard_36 : decode cX2_discard 36 = .ok (.iastore, 1) := by decide +kernel
theorem dX2_discard_37 : decode cX2_discard 37 = .ok (.aload_n 0, 1) := by decide +kernel
theorem dX2_discard_38 : decode cX2_discard 38 = .ok (.getfield 11, 3) := by decide +kernel
theorem dX2_discard_41 : decode cX2_discard 41 = .ok (.iload_n 1, 1) := by decide +kernel
theorem dX2_discard_42 : decode cX2_discard 42 = .ok (.iconst (-1), 1) := by decide +kernel
theorem dX2_discard_43 : decode cX2_discard 43 = .ok (.iastore, 1) := by decide +kernel
theorem dX2_discard_44 : decode cX2_discard 44 = .ok (.aload_n 0, 1) := by decide +kernel
theorem dX2_discard_45 : decode cX2_discard 45 = .ok (.getfield 21, 3) := by decide +kernel
theorem dX2_discard_48 : decode cX2_discard 48 = .ok (.aload_n 0, 1) := by decide +kernel
theorem dX2_discard_49 : decode cX2_discard 49 = .ok (.getfield 34, 3) := by decide +kernel
theorem dX2_discard_52 : decode cX2_discard 52 = .ok (.iload_n 1, 1) := by decide +kernel
theorem dX2_discard_53 : decode cX2_discard 53 = .ok (.iastore, 1) := by decide +kernel
theorem dX2_discard_54 : decode cX2_discard 54 = .ok (.aload_n 0, 1) := by decide +kernel
theorem dX2_discard_55 : decode cX2_discard 55 = .ok (.dup, 1) := by decide +kernel
theorem dX2_discard_56 : decode cX2_discard 56 = .ok (.getfield 34, 3) := by decide +kernel
theorem dX2_discard_59 : decode cX2_discard 59 = .ok (.iconst 1, 1) := by decide +kernel
theorem dX2_discard_60 : decode cX2_discard 60 = .ok (.iadd, 1) := by decide +kernel
theorem dX2_discard_61 : decode cX2_discard 61 = .ok (.putfield 34, 3) := by decide +kernel
theorem dX2_discard_64 : decode cX2_discard 64 = .ok (.return_, 1) := by decide +kernel
set_option maxRecDepth 20000 in
theorem ggX2_link_X7_nodeAt : GoodIn wsX2_link wsX7_nodeAt := goodIn_r _ [4] (by decide +kernel) (by decide +kernel)
set_option maxRecDepth 20000 in
theorem gX2_link_X7_nodeAt_n48 : GoodIn wsX2_link (wsX7_nodeAt) := ggX2_link_X7_nodeAt
set_option maxRecDepth 20000 in
theorem ggX2_link_X2_rouse : GoodIn wsX2_link wsX2_rouse := goodIn_r _ [9, 10, 11, 12, 13, 14, 15, 16, 17, 18, 19, 20, 21, 22, 23] (by decide +kernel) (by decide +kernel)
set_option maxRecDepth 20000 in
theorem gX2_link_X2_rouse : GoodIn wsX2_link (wsV RX2 51 RX2 yX2_rouse wsX2_rouse) := goodIn_app (goodIn_of _ (by decide +kernel)) ggX2_link_X2_rouse
theorem dX2_link_0 : decode cX2_link 0 = .ok (.iload_n 1, 1) := by decide +kernel
theorem dX2_link_1 : decode cX2_link 1 = .ok (.ifCond .lt 25, 3) := by decide +kernel
theorem dX2_link_4 : decode cX2_link 4 = .ok (.iload_n 1, 1) := by decide +kernel
theorem dX2_link_5 : decode cX2_link 5 = .ok (.aload_n 0, 1) := by decide +kernel
theorem dX2_link_6 : decode cX2_link 6 = .ok (.getfield 18, 3) := by decide +kernel
theorem dX2_link_9 : decode cX2_link 9 = .ok (.arraylength, 1) := by decide +kernel
theorem dX2_link_10 : decode cX2_link 10 = .ok (.if_icmp .ge 16, 3) := by decide +kernel
theorem dX2_link_13 : decode cX2_link 13 = .ok (.iload_n 2, 1) := by decide +kernel
theorem dX2_link_14 : decode cX2_link 14 = .ok (.ifCond .lt 12, 3) := by decide +kernel
theorem dX2_link_17 : decode cX2_link 17 = .ok (.iload_n 2, 1) := by decide +kernel
theorem dX2_link_18 : decode cX2_link 18 = .ok (.aload_n 0, 1) := by decide +kernel
theorem dX2_link_19 : decode cX2_link 19 = .ok (.getfield 18, 3) := by decide +kernel
theorem dX2_link_22 : decode cX2_link 22 = .ok (.arraylength, 1) := by decide +kernel
theorem dX2_link_23 : decode cX2_link 23 = .ok (.if_icmp .lt 4, 3) := by decide +kernel
theorem dX2_link_26 : decode cX2_link 26 = .ok (.return_, 1) := by decide +kernel
theorem dX2_link_27 : decode cX2_link 27 = .ok (.aload_n 0, 1) := by decide +kernel
theorem dX2_link_28 : decode cX2_link 28 = .ok (.getfield 18, 3) := by decide +kernel
theorem dX2_link_31 : decode cX2_link 31 = .ok (.iload_n 1, 1) := by decide +kernel
theorem dX2_link_32 : decode cX2_link 32 = .ok (.iload_n 2, 1) := by decide +kernel
theorem dX2_link_33 : decode cX2_link 33 = .ok (.iastore, 1) := by decide +kernel
theorem dX2_link_34 : decode cX2_link 34 = .ok (.aload_n 0, 1) := by decide +kernel
theorem dX2_link_35 : decode cX2_link 35 = .ok (.getfield 18, 3) := by decide +kernel
theorem dX2_link_38 : decode cX2_link 38 = .ok (.iload_n 2, 1) := by decide +kernel
theorem dX2_link_39 : decode cX2_link 39 = .ok (.iload_n 1, 1) := by decide +kernel
theorem dX2_link_40 : decode cX2_link 40 = .ok (.iastore, 1) := by decide +kernel
theorem dX2_link_41 : decode cX2_link 41 = .ok (.aload_n 0, 1) := by decide +kernel
theorem dX2_link_42 : decode cX2_link 42 = .ok (.iload_n 1, 1) := by decide +kernel
theorem dX2_link_43 : decode cX2_link 43 = .ok (.invokestatic 48, 3) := by decide +kernel
theorem dX2_link_46 : decode cX2_link 46 = .ok (.invokevirtual 51, 3) := by decide +kernel
theorem dX2_link_49 : decode cX2_link 49 = .ok (.aload_n 0, 1) := by decide +kernel
theorem dX2_link_50 : decode cX2_link 50 = .ok (.iload_n 2, 1) := by decide +kernel
theorem dX2_link_51 : decode cX2_link 51 = .ok (.invokestatic 48, 3) := by decide +kernel
theorem dX2_link_54 : decode cX2_link 54 = .ok (.invokevirtual 51, 3) := by decide +kernel
theorem dX2_link_57 : decode cX2_link 57 = .ok (.return_, 1) := by decide +kernel
set_option maxRecDepth 20000 in
theorem ggX2_replace_X2_across : GoodIn wsX2_replace wsX2_across := goodIn_r _ [5, 6, 22, 23, 24, 25, 26, 27, 28, 29, 30, 31] (by decide +kernel) (by decide +kernel)
set_option maxRecDepth 20000 in
theorem gX2_replace_X2_across : GoodIn wsX2_replace (wsV RX2 55 RX2 yX2_across wsX2_across) := goodIn_app (goodIn_of _ (by decide +kernel)) ggX2_replace_X2_across
set_option maxRecDepth 20000 in
theorem ggX2_replace_X2_link : GoodIn wsX2_replace wsX2_link := goodIn_r _ [10, 6, 11, 12, 13, 14, 15, 16, 4, 17, 18, 19, 20, 21, 22, 23, 24, 25, 26, 27, 28, 29, 30, 31] (by decide +kernel) (by decide +kernel)
set_option maxRecDepth 20000 in
theorem gX2_replace_X2_link : GoodIn wsX2_replace (wsV RX2 58 RX2 yX2_link wsX2_link) := goodIn_app (goodIn_of _ (by decide +kernel)) ggX2_replace_X2_link
theorem dX2_replace_0 : decode cX2_replace 0 = .ok (.aload_n 0, 1) := by decide +kernel
theorem dX2_replace_1 : decode cX2_replace 1 = .ok (.iload_n 2, 1) := by decide +kernel
theorem dX2_replace_2 : decode cX2_replace 2 = .ok (.aload_n 0, 1) := by decide +kernel
theorem dX2_replace_3 : decode cX2_replace 3 = .ok (.iload_n 1, 1) := by decide +kernel
theorem dX2_replace_4 : decode cX2_replace 4 = .ok (.invokevirtual 55, 3) := by decide +kernel
theorem dX2_replace_7 : decode cX2_replace 7 = .ok (.invokevirtual 58, 3) := by decide +kernel
theorem dX2_replace_10 : decode cX2_replace 10 = .ok (.return_, 1) := by decide +kernel
set_option maxRecDepth 20000 in
theorem ggX2_join_X2_across : GoodIn wsX2_join wsX2_across := goodIn_r _ [5, 6, 22, 23, 24, 25, 26, 27, 28, 29, 30, 31] (by decide +kernel) (by decide +kernel)
set_option maxRecDepth 20000 in
theorem gX2_join_X2_across : GoodIn wsX2_join (wsV RX2 55 RX2 yX2_across wsX2_across) := goodIn_app (goodIn_of _ (by decide +kernel)) ggX2_join_X2_across
set_option maxRecDepth 20000 in
theorem ggX2_join_X2_link : GoodIn wsX2_join wsX2_link := goodIn_r _ [10, 6, 11, 12, 13, 14, 15, 16, 4, 17, 18, 19, 20, 21, 22, 23, 24, 25, 26, 27, 28, 29, 30, 31] (by decide +kernel) (by decide +kernel)
set_option maxRecDepth 20000 in
theorem gX2_join_X2_link : GoodIn wsX2_join (wsV RX2 58 RX2 yX2_link wsX2_link) := goodIn_app (goodIn_of _ (by decide +kernel)) ggX2_join_X2_link
theorem dX2_join_0 : decode cX2_join 0 = .ok (.aload_n 0, 1) := by decide +kernel
theorem dX2_join_1 : decode cX2_join 1 = .ok (.aload_n 0, 1) := by decide +kernel
theorem dX2_join_2 : decode cX2_join 2 = .ok (.iload_n 1, 1) := by decide +kernel
theorem dX2_join_3 : decode cX2_join 3 = .ok (.invokevirtual 55, 3) := by decide +kernel
theorem dX2_join_6 : decode cX2_join 6 = .ok (.aload_n 0, 1) := by decide +kernel
theorem dX2_join_7 : decode cX2_join 7 = .ok (.iload_n 2, 1) := by decide +kernel
theorem dX2_join_8 : decode cX2_join 8 = .ok (.invokevirtual 55, 3) := by decide +kernel
theorem dX2_join_11 : decode cX2_join 11 = .ok (.invokevirtual 58, 3) := by decide +kernel
theorem dX2_join_14 : decode cX2_join 14 = .ok (.return_, 1) := by decide +kernel
set_option maxRecDepth 20000 in
theorem ggX2_eraseAll_X2_calm : GoodIn wsX2_eraseAll wsX2_calm := goodIn_r _ [8, 9, 10, 11, 12, 13, 14, 15, 16, 7, 17, 18, 19, 20, 21, 22, 23, 24, 25, 26, 27, 28, 29, 30, 31, 32, 33, 34, 35, 36, 37, 38, 39, 40, 41, 42, 43, 44, 45, 46, 47, 48, 49, 50, 51, 52, 53, 54, 55, 56, 57, 58, 59, 60, 61, 62, 63, 64, 65, 2, 3, 66, 67, 68, 69, 70, 71, 72, 73, 74, 75] (by decide +kernel) (by decide +kernel)
set_option maxRecDepth 20000 in
theorem gX2_eraseAll_X2_calm : GoodIn wsX2_eraseAll (wsV RX2 63 RX2 yX2_calm wsX2_calm) := goodIn_app (goodIn_of _ (by decide +kernel)) ggX2_eraseAll_X2_calm
theorem dX2_eraseAll_0 : decode cX2_eraseAll 0 = .ok (.iconst 0, 1) := by decide +kernel
theorem dX2_eraseAll_1 : decode cX2_eraseAll 1 = .ok (.istore_n 1, 1) := by decide +kernel
theorem dX2_eraseAll_2 : decode cX2_eraseAll 2 = .ok (.iload_n 1, 1) := by decide +kernel
theorem dX2_eraseAll_3 : decode cX2_eraseAll 3 = .ok (.ldc 62, 2) := by decide +kernel
theorem dX2_eraseAll_5 : decode cX2_eraseAll 5 = .ok (.if_icmp .ge 49, 3) := by decide +kernel
theorem dX2_eraseAll_8 : decode cX2_eraseAll 8 = .ok (.aload_n 0, 1) := by decide +kernel
theorem dX2_eraseAll_9 : decode cX2_eraseAll 9 = .ok (.getfield 38, 3) := by decide +kernel
theorem dX2_eraseAll_12 : decode cX2_eraseAll 12 = .ok (.ifCond .le 42, 3) := by decide +kernel
theorem dX2_eraseAll_15 : decode cX2_eraseAll 15 = .ok (.aload_n 0, 1) := by decide +kernel
theorem dX2_eraseAll_16 : decode cX2_eraseAll 16 = .ok (.getfield 38, 3) := by decide +kernel
theorem dX2_eraseAll_19 : decode cX2_eraseAll 19 = .ok (.sipush 3002, 3) := by decide +kernel
theorem dX2_eraseAll_22 : decode cX2_eraseAll 22 = .ok (.if_icmp .gt 32, 3) := by decide +kernel
theorem dX2_eraseAll_25 : decode cX2_eraseAll 25 = .ok (.aload_n 0, 1) := by decide +kernel
theorem dX2_eraseAll_26 : decode cX2_eraseAll 26 = .ok (.dup, 1) := by decide +kernel
theorem dX2_eraseAll_27 : decode cX2_eraseAll 27 = .ok (.getfield 38, 3) := by decide +kernel
theorem dX2_eraseAll_30 : decode cX2_eraseAll 30 = .ok (.iconst 1, 1) := by decide +kernel
theorem dX2_eraseAll_31 : decode cX2_eraseAll 31 = .ok (.isub, 1) := by decide +kernel
theorem dX2_eraseAll_32 : decode cX2_eraseAll 32 = .ok (.putfield 38, 3) := by decide +kernel
theorem dX2_eraseAll_35 : decode cX2_eraseAll 35 = .ok (.aload_n 0, 1) := by decide +kernel
theorem dX2_eraseAll_36 : decode cX2_eraseAll 36 = .ok (.aload_n 0, 1) := by decide +kernel
theorem dX2_eraseAll_37 : decode cX2_eraseAll 37 = .ok (.getfield 27, 3) := by decide +kernel
theorem dX2_eraseAll_40 : decode cX2_eraseAll 40 = .ok (.aload_n 0, 1) := by decide +kernel
theorem dX2_eraseAll_41 : decode cX2_eraseAll 41 = .ok (.getfield 38, 3) := by decide +kernel
theorem dX2_eraseAll_44 : decode cX2_eraseAll 44 = .ok (.iaload, 1) := by decide +kernel
theorem dX2_eraseAll_45 : decode cX2_eraseAll 45 = .ok (.invokevirtual 63, 3) := by decide +kernel
theorem dX2_eraseAll_48 : decode cX2_eraseAll 48 = .ok (.iinc 1 1, 3) := by decide +kernel
theorem dX2_eraseAll_51 : decode cX2_eraseAll 51 = .ok (.goto (-49), 3) := by decide +kernel
theorem dX2_eraseAll_54 : decode cX2_eraseAll 54 = .ok (.return_, 1) := by decide +kernel
theorem dX2_rouse_0 : decode cX2_rouse 0 = .ok (.iload_n 1, 1) := by decide +kernel
theorem dX2_rouse_1 : decode cX2_rouse 1 = .ok (.ifCond .lt 20, 3) := by decide +kernel
theorem dX2_rouse_4 : decode cX2_rouse 4 = .ok (.iload_n 1, 1) := by decide +kernel
theorem dX2_rouse_5 : decode cX2_rouse 5 = .ok (.sipush 3002, 3) := by decide +kernel
theorem dX2_rouse_8 : decode cX2_rouse 8 = .ok (.if_icmp .ge 13, 3) := by decide +kernel
theorem dX2_rouse_11 : decode cX2_rouse 11 = .ok (.aload_n 0, 1) := by decide +kernel
theorem dX2_rouse_12 : decode cX2_rouse 12 = .ok (.getfield 38, 3) := by decide +kernel
theorem dX2_rouse_15 : decode cX2_rouse 15 = .ok (.sipush 3002, 3) := by decide +kernel
theorem dX2_rouse_18 : decode cX2_rouse 18 = .ok (.if_icmp .lt 4, 3) := by decide +kernel
theorem dX2_rouse_21 : decode cX2_rouse 21 = .ok (.return_, 1) := by decide +kernel
theorem dX2_rouse_22 : decode cX2_rouse 22 = .ok (.aload_n 0, 1) := by decide +kernel
theorem dX2_rouse_23 : decode cX2_rouse 23 = .ok (.getfield 11, 3) := by decide +kernel
theorem dX2_rouse_26 : decode cX2_rouse 26 = .ok (.iload_n 1, 1) := by decide +kernel
theorem dX2_rouse_27 : decode cX2_rouse 27 = .ok (.iaload, 1) := by decide +kernel
theorem dX2_rouse_28 : decode cX2_rouse 28 = .ok (.iconst 5, 1) := by decide +kernel
theorem dX2_rouse_29 : decode cX2_rouse 29 = .ok (.if_icmp .ne 39, 3) := by decide +kernel
theorem dX2_rouse_32 : decode cX2_rouse 32 = .ok (.aload_n 0, 1) := by decide +kernel
theorem dX2_rouse_33 : decode cX2_rouse 33 = .ok (.getfield 30, 3) := by decide +kernel
theorem dX2_rouse_36 : decode cX2_rouse 36 = .ok (.iload_n 1, 1) := by decide +kernel
theorem dX2_rouse_37 : decode cX2_rouse 37 = .ok (.baload, 1) := by decide +kernel
theorem dX2_rouse_38 : decode cX2_rouse 38 = .ok (.ifCond .ne 30, 3) := by decide +kernel
theorem dX2_rouse_41 : decode cX2_rouse 41 = .ok (.aload_n 0, 1) := by decide +kernel
theorem dX2_rouse_42 : decode cX2_rouse 42 = .ok (.getfield 30, 3) := by decide +kernel
theorem dX2_rouse_45 : decode cX2_rouse 45 = .ok (.iload_n 1, 1) := by decide +kernel
theorem dX2_rouse_46 : decode cX2_rouse 46 = .ok (.iconst 1, 1) := by decide +kernel
theorem dX2_rouse_47 : decode cX2_rouse 47 = .ok (.bastore, 1) := by decide +kernel
theorem dX2_rouse_48 : decode cX2_rouse 48 = .ok (.aload_n 0, 1) := by decide +kernel
theorem dX2_rouse_49 : decode cX2_rouse 49 = .ok (.getfield 27, 3) := by decide +kernel
theorem dX2_rouse_52 : decode cX2_rouse 52 = .ok (.aload_n 0, 1) := by decide +kernel
theorem dX2_rouse_53 : decode cX2_rouse 53 = .ok (.getfield 38, 3) := by decide +kernel
theorem dX2_rouse_56 : decode cX2_rouse 56 = .ok (.iload_n 1, 1) := by decide +kernel
theorem dX2_rouse_57 : decode cX2_rouse 57 = .ok (.iastore, 1) := by decide +kernel
theorem dX2_rouse_58 : decode cX2_rouse 58 = .ok (.aload_n 0, 1) := by decide +kernel
theorem dX2_rouse_59 : decode cX2_rouse 59 = .ok (.dup, 1) := by decide +kernel
theorem dX2_rouse_60 : decode cX2_rouse 60 = .ok (.getfield 38, 3) := by decide +kernel
theorem dX2_rouse_63 : decode cX2_rouse 63 = .ok (.iconst 1, 1) := by decide +kernel
theorem dX2_rouse_64 : decode cX2_rouse 64 = .ok (.iadd, 1) := by decide +kernel
theorem dX2_rouse_65 : decode cX2_rouse 65 = .ok (.putfield 38, 3) := by decide +kernel
theorem dX2_rouse_68 : decode cX2_rouse 68 = .ok (.return_, 1) := by decide +kernel
set_option maxRecDepth 20000 in
theorem ggX2_calm_X7_portOf : GoodIn wsX2_calm wsX7_portOf := goodIn_r _ [5] (by decide +kernel) (by decide +kernel)
set_option maxRecDepth 20000 in
theorem gX2_calm_X7_portOf_n66 : GoodIn wsX2_calm (wsX7_portOf) := ggX2_calm_X7_portOf
set_option maxRecDepth 20000 in
theorem ggX2_calm_X2_across : GoodIn wsX2_calm wsX2_across := goodIn_r _ [10, 11, 61, 62, 63, 64, 65, 66, 67, 68, 69, 70] (by decide +kernel) (by decide +kernel)
set_option maxRecDepth 20000 in
theorem gX2_calm_X2_across : GoodIn wsX2_calm (wsV RX2 55 RX2 yX2_across wsX2_across) := goodIn_app (goodIn_of _ (by decide +kernel)) ggX2_calm_X2_across
set_option maxRecDepth 20000 in
theorem ggX2_calm_X7_nodeAt : GoodIn wsX2_calm wsX7_nodeAt := goodIn_r _ [13] (by decide +kernel) (by decide +kernel)
set_option maxRecDepth 20000 in
theorem gX2_calm_X7_nodeAt_n48 : GoodIn wsX2_calm (wsX7_nodeAt) := ggX2_calm_X7_nodeAt
set_option maxRecDepth 20000 in
theorem ggX2_calm_X2_kindOf : GoodIn wsX2_calm wsX2_kindOf := goodIn_r _ [17, 2, 61, 62, 63, 64, 65, 66, 67, 68, 69, 70] (by decide +kernel) (by decide +kernel)
set_option maxRecDepth 20000 in
theorem gX2_calm_X2_kindOf : GoodIn wsX2_calm (wsV RX2 44 RX2 yX2_kindOf wsX2_kindOf) := goodIn_app (goodIn_of _ (by decide +kernel)) ggX2_calm_X2_kindOf
set_option maxRecDepth 20000 in
theorem ggX2_calm_X2_discard : GoodIn wsX2_calm wsX2_discard := goodIn_r _ [21, 22, 23, 2, 24, 14, 15, 16, 9, 17, 61, 62, 63, 64, 65, 66, 67, 68, 69, 70] (by decide +kernel) (by decide +kernel)
set_option maxRecDepth 20000 in
theorem gX2_calm_X2_discard : GoodIn wsX2_calm (wsV RX2 70 RX2 yX2_discard wsX2_discard) := goodIn_app (goodIn_of _ (by decide +kernel)) ggX2_calm_X2_discard
set_option maxRecDepth 20000 in
theorem ggX2_calm_X7_whichAt : GoodIn wsX2_calm wsX7_whichAt := goodIn_r _ [26] (by decide +kernel) (by decide +kernel)
set_option maxRecDepth 20000 in
theorem gX2_calm_X7_whichAt_n73 : GoodIn wsX2_calm (wsX7_whichAt) := ggX2_calm_X7_whichAt
set_option maxRecDepth 20000 in
theorem ggX2_calm_X2_yields : GoodIn wsX2_calm wsX2_yields := goodIn_r _ [30, 14, 15, 16, 9, 17, 2, 3, 4, 5, 31, 32, 33, 34, 6, 7, 8, 10, 11, 12, 13, 61, 62, 63, 64, 65, 66, 67, 68, 69, 70] (by decide +kernel) (by decide +kernel)
set_option maxRecDepth 20000 in
theorem gX2_calm_X2_yields : GoodIn wsX2_calm (wsV RX2 76 RX2 yX2_yields wsX2_yields) := goodIn_app (goodIn_of _ (by decide +kernel)) ggX2_calm_X2_yields
set_option maxRecDepth 20000 in
theorem ggX2_calm_X2_erase : GoodIn wsX2_calm wsX2_erase := goodIn_r _ [38, 39, 14, 15, 16, 9, 17, 2, 40, 4, 41, 3, 5, 31, 32, 33, 34, 6, 7, 8, 10, 11, 12, 13, 18, 19, 20, 21, 22, 23, 24, 42, 43, 44, 45, 46, 47, 48, 49, 50, 51, 52, 53, 54, 55, 56, 57, 58, 59, 1, 60, 61, 62, 63, 64, 65, 66, 67, 68, 69, 70] (by decide +kernel) (by decide +kernel)
set_option maxRecDepth 20000 in
theorem gX2_calm_X2_erase : GoodIn wsX2_calm (wsV RX2 80 RX2 yX2_erase wsX2_erase) := goodIn_app (goodIn_of _ (by decide +kernel)) ggX2_calm_X2_erase
theorem dX2_calm_0 : decode cX2_calm 0 = .ok (.iload_n 1, 1) := by decide +kernel
theorem dX2_calm_1 : decode cX2_calm 1 = .ok (.ifCond .lt 10, 3) := by decide +kernel
theorem dX2_calm_4 : decode cX2_calm 4 = .ok (.iload_n 1, 1) := by decide +kernel
theorem dX2_calm_5 : decode cX2_calm 5 = .ok (.sipush 3002, 3) := by decide +kernel
theorem dX2_calm_8 : decode cX2_calm 8 = .ok (.if_icmp .lt 4, 3) := by decide +kernel
theorem dX2_calm_11 : decode cX2_calm 11 = .ok (.return_, 1) := by decide +kernel
theorem dX2_calm_12 : decode cX2_calm 12 = .ok (.aload_n 0, 1) := by decide +kernel
theorem dX2_calm_13 : decode cX2_calm 13 = .ok (.getfield 30, 3) := by decide +kernel
theorem dX2_calm_16 : decode cX2_calm 16 = .ok (.iload_n 1, 1) := by decide +kernel
theorem dX2_calm_17 : decode cX2_calm 17 = .ok (.iconst 0, 1) := by decide +kernel
theorem dX2_calm_18 : decode cX2_calm 18 = .ok (.bastore, 1) := by decide +kernel
theorem dX2_calm_19 : decode cX2_calm 19 = .ok (.aload_n 0, 1) := by decide +kernel
theorem dX2_calm_20 : decode cX2_calm 20 = .ok (.getfield 11, 3) := by decide +kernel
theorem dX2_calm_23 : decode cX2_calm 23 = .ok (.iload_n 1, 1) := by decide +kernel
theorem dX2_calm_24 : decode cX2_calm 24 = .ok (.iaload, 1) := by decide +kernel
theorem dX2_calm_25 : decode cX2_calm 25 = .ok (.iconst 5, 1) := by decide +kernel
theorem dX2_calm_26 : decode cX2_calm 26 = .ok (.if_icmp .eq 4, 3) := by decide +kernel
theorem dX2_calm_29 : decode cX2_calm 29 = .ok (.return_, 1) := by decide +kernel
theorem dX2_calm_30 : decode cX2_calm 30 = .ok (.aload_n 0, 1) := by decide +kernel
theorem dX2_calm_31 : decode cX2_calm 31 = .ok (.iload_n 1, 1) := by decide +kernel
theorem dX2_calm_32 : decode cX2_calm 32 = .ok (.iconst 0, 1) := by decide +kernel
theorem dX2_calm_33 : decode cX2_calm 33 = .ok (.invokestatic 66, 3) := by decide +kernel
theorem dX2_calm_36 : decode cX2_calm 36 = .ok (.invokevirtual 55, 3) := by decide +kernel
theorem dX2_calm_39 : decode cX2_calm 39 = .ok (.istore_n 2, 1) := by decide +kernel
theorem dX2_calm_40 : decode cX2_calm 40 = .ok (.iload_n 2, 1) := by decide +kernel
theorem dX2_calm_41 : decode cX2_calm 41 = .ok (.invokestatic 48, 3) := by decide +kernel
theorem dX2_calm_44 : decode cX2_calm 44 = .ok (.istore_n 3, 1) := by decide +kernel
theorem dX2_calm_45 : decode cX2_calm 45 = .ok (.aload_n 0, 1) := by decide +kernel
theorem dX2_calm_46 : decode cX2_calm 46 = .ok (.iload_n 3, 1) := by decide +kernel
theorem dX2_calm_47 : decode cX2_calm 47 = .ok (.invokevirtual 44, 3) := by decide +kernel
theorem dX2_calm_50 : decode cX2_calm 50 = .ok (.iconst 5, 1) := by decide +kernel
theorem dX2_calm_51 : decode cX2_calm 51 = .ok (.if_icmp .ne 16, 3) := by decide +kernel
theorem dX2_calm_54 : decode cX2_calm 54 = .ok (.aload_n 0, 1) := by decide +kernel
theorem dX2_calm_55 : decode cX2_calm 55 = .ok (.iload_n 1, 1) := by decide +kernel
theorem dX2_calm_56 : decode cX2_calm 56 = .ok (.invokevirtual 70, 3) := by decide +kernel
theorem dX2_calm_59 : decode cX2_calm 59 = .ok (.aload_n 0, 1) := by decide +kernel
theorem dX2_calm_60 : decode cX2_calm 60 = .ok (.iload_n 3, 1) := by decide +kernel
theorem dX2_calm_61 : decode cX2_calm 61 = .ok (.invokevirtual 70, 3) := by decide +kernel
theorem dX2_calm_64 : decode cX2_calm 64 = .ok (.goto 20, 3) := by decide +kernel
theorem dX2_calm_67 : decode cX2_calm 67 = .ok (.aload_n 0, 1) := by decide +kernel
theorem dX2_calm_68 : decode cX2_calm 68 = .ok (.iload_n 3, 1) := by decide +kernel
theorem dX2_calm_69 : decode cX2_calm 69 = .ok (.iload_n 2, 1) := by decide +kernel
theorem dX2_calm_70 : decode cX2_calm 70 = .ok (.invokestatic 73, 3) := by decide +kernel
theorem dX2_calm_73 : decode cX2_calm 73 = .ok (.invokevirtual 76, 3) := by decide +kernel
theorem dX2_calm_76 : decode cX2_calm 76 = .ok (.ifCond .eq 8, 3) := by decide +kernel
theorem dX2_calm_79 : decode cX2_calm 79 = .ok (.aload_n 0, 1) := by decide +kernel
theorem dX2_calm_80 : decode cX2_calm 80 = .ok (.iload_n 3, 1) := by decide +kernel
theorem dX2_calm_81 : decode cX2_calm 81 = .ok (.invokevirtual 80, 3) := by decide +kernel
theorem dX2_calm_84 : decode cX2_calm 84 = .ok (.return_, 1) := by decide +kernel
set_option maxRecDepth 20000 in
theorem ggX2_yields_X2_kindOf : GoodIn wsX2_yields wsX2_kindOf := goodIn_r _ [5, 6, 21, 22, 23, 24, 25, 26, 27, 28, 29, 30] (by decide +kernel) (by decide +kernel)
set_option maxRecDepth 20000 in
theorem gX2_yields_X2_kindOf : GoodIn wsX2_yields (wsV RX2 44 RX2 yX2_kindOf wsX2_kindOf) := goodIn_app (goodIn_of _ (by decide +kernel)) ggX2_yields_X2_kindOf
set_option maxRecDepth 20000 in
theorem ggX2_yields_X7_portOf : GoodIn wsX2_yields wsX7_portOf := goodIn_r _ [9] (by decide +kernel) (by decide +kernel)
set_option maxRecDepth 20000 in
theorem gX2_yields_X7_portOf_n66 : GoodIn wsX2_yields (wsX7_portOf) := ggX2_yields_X7_portOf
set_option maxRecDepth 20000 in
theorem ggX2_yields_X2_isErased : GoodIn wsX2_yields wsX2_isErased := goodIn_r _ [13, 14, 15, 16, 4, 17, 18, 19, 8, 20, 1, 2, 3, 5, 6, 21, 22, 23, 24, 25, 26, 27, 28, 29, 30] (by decide +kernel) (by decide +kernel)
set_option maxRecDepth 20000 in
theorem gX2_yields_X2_isErased : GoodIn wsX2_yields (wsV RX2 83 RX2 yX2_isErased wsX2_isErased) := goodIn_app (goodIn_of _ (by decide +kernel)) ggX2_yields_X2_isErased
theorem dX2_yields_0 : decode cX2_yields 0 = .ok (.aload_n 0, 1) := by decide +kernel
theorem dX2_yields_1 : decode cX2_yields 1 = .ok (.iload_n 1, 1) := by decide +kernel
theorem dX2_yields_2 : decode cX2_yields 2 = .ok (.invokevirtual 44, 3) := by decide +kernel
theorem dX2_yields_5 : decode cX2_yields 5 = .ok (.istore_n 3, 1) := by decide +kernel
theorem dX2_yields_6 : decode cX2_yields 6 = .ok (.iload_n 3, 1) := by decide +kernel
theorem dX2_yields_7 : decode cX2_yields 7 = .ok (.iconst (-1), 1) := by decide +kernel
theorem dX2_yields_8 : decode cX2_yields 8 = .ok (.if_icmp .eq 9, 3) := by decide +kernel
theorem dX2_yields_11 : decode cX2_yields 11 = .ok (.iload_n 3, 1) := by decide +kernel
theorem dX2_yields_12 : decode cX2_yields 12 = .ok (.bipush 6, 2) := by decide +kernel
theorem dX2_yields_14 : decode cX2_yields 14 = .ok (.if_icmp .ne 5, 3) := by decide +kernel
theorem dX2_yields_17 : decode cX2_yields 17 = .ok (.iconst 0, 1) := by decide +kernel
theorem dX2_yields_18 : decode cX2_yields 18 = .ok (.ireturn, 1) := by decide +kernel
theorem dX2_yields_19 : decode cX2_yields 19 = .ok (.iload_n 2, 1) := by decide +kernel
theorem dX2_yields_20 : decode cX2_yields 20 = .ok (.ifCond .ne 5, 3) := by decide +kernel
theorem dX2_yields_23 : decode cX2_yields 23 = .ok (.iconst 1, 1) := by decide +kernel
theorem dX2_yields_24 : decode cX2_yields 24 = .ok (.ireturn, 1) := by decide +kernel
theorem dX2_yields_25 : decode cX2_yields 25 = .ok (.iload_n 3, 1) := by decide +kernel
theorem dX2_yields_26 : decode cX2_yields 26 = .ok (.iconst 2, 1) := by decide +kernel
theorem dX2_yields_27 : decode cX2_yields 27 = .ok (.if_icmp .ne 33, 3) := by decide +kernel
theorem dX2_yields_30 : decode cX2_yields 30 = .ok (.aload_n 0, 1) := by decide +kernel
theorem dX2_yields_31 : decode cX2_yields 31 = .ok (.iload_n 1, 1) := by decide +kernel
theorem dX2_yields_32 : decode cX2_yields 32 = .ok (.iconst 1, 1) := by decide +kernel
theorem dX2_yields_33 : decode cX2_yields 33 = .ok (.invokestatic 66, 3) := by decide +kernel
theorem dX2_yields_36 : decode cX2_yields 36 = .ok (.invokevirtual 83, 3) := by decide +kernel
theorem dX2_yields_39 : decode cX2_yields 39 = .ok (.ifCond .eq 19, 3) := by decide +kernel
theorem dX2_yields_42 : decode cX2_yields 42 = .ok (.aload_n 0, 1) := by decide +kernel
theorem dX2_yields_43 : decode cX2_yields 43 = .ok (.iload_n 1, 1) := by decide +kernel
theorem dX2_yields_44 : decode cX2_yields 44 = .ok (.iconst 2, 1) := by decide +kernel
theorem dX2_yields_45 : decode cX2_yields 45 = .ok (.invokestatic 66, 3) := by decide +kernel
theorem dX2_yields_48 : decode cX2_yields 48 = .ok (.invokevirtual 83, 3) := by decide +kernel
theorem dX2_yields_51 : decode cX2_yields 51 = .ok (.ifCond .eq 7, 3) := by decide +kernel
theorem dX2_yields_54 : decode cX2_yields 54 = .ok (.iconst 1, 1) := by decide +kernel
theorem dX2_yields_55 : decode cX2_yields 55 = .ok (.goto 4, 3) := by decide +kernel
theorem dX2_yields_58 : decode cX2_yields 58 = .ok (.iconst 0, 1) := by decide +kernel
theorem dX2_yields_59 : decode cX2_yields 59 = .ok (.ireturn, 1) := by decide +kernel
theorem dX2_yields_60 : decode cX2_yields 60 = .ok (.iload_n 2, 1) := by decide +kernel
theorem dX2_yields_61 : decode cX2_yields 61 = .ok (.iconst 1, 1) := by decide +kernel
theorem dX2_yields_62 : decode cX2_yields 62 = .ok (.if_icmp .ne 22, 3) := by decide +kernel
theorem dX2_yields_65 : decode cX2_yields 65 = .ok (.iload_n 3, 1) := by decide +kernel
theorem dX2_yields_66 : decode cX2_yields 66 = .ok (.iconst 3, 1) := by decide +kernel
theorem dX2_yields_67 : decode cX2_yields 67 = .ok (.if_icmp .eq 13, 3) := by decide +kernel
theorem dX2_yields_70 : decode cX2_yields 70 = .ok (.iload_n 3, 1) := by decide +kernel
theorem dX2_yields_71 : decode cX2_yields 71 = .ok (.iconst 4, 1) := by decide +kernel
theorem dX2_yields_72 : decode cX2_yields 72 = .ok (.if_icmp .eq 8, 3) := by decide +kernel
theorem dX2_yields_75 : decode cX2_yields 75 = .ok (.iload_n 3, 1) := by decide +kernel
theorem dX2_yields_76 : decode cX2_yields 76 = .ok (.iconst 1, 1) := by decide +kernel
theorem dX2_yields_77 : decode cX2_yields 77 = .ok (.if_icmp .ne 7, 3) := by decide +kernel
theorem dX2_yields_80 : decode cX2_yields 80 = .ok (.iconst 1, 1) := by decide +kernel
theorem dX2_yields_81 : decode cX2_yields 81 = .ok (.goto 4, 3) := by decide +kernel
theorem dX2_yields_84 : decode cX2_yields 84 = .ok (.iconst 0, 1) := by decide +kernel
theorem dX2_yields_85 : decode cX2_yields 85 = .ok (.ireturn, 1) := by decide +kernel
set_option maxRecDepth 20000 in
theorem ggX2_isErased_X2_across : GoodIn wsX2_isErased wsX2_across := goodIn_r _ [5, 6, 15, 16, 17, 18, 19, 20, 21, 22, 23, 24] (by decide +kernel) (by decide +kernel)
set_option maxRecDepth 20000 in
theorem gX2_isErased_X2_across : GoodIn wsX2_isErased (wsV RX2 55 RX2 yX2_across wsX2_across) := goodIn_app (goodIn_of _ (by decide +kernel)) ggX2_isErased_X2_across
set_option maxRecDepth 20000 in
theorem ggX2_isErased_X7_nodeAt : GoodIn wsX2_isErased wsX7_nodeAt := goodIn_r _ [9] (by decide +kernel) (by decide +kernel)
set_option maxRecDepth 20000 in
theorem gX2_isErased_X7_nodeAt_n48 : GoodIn wsX2_isErased (wsX7_nodeAt) := ggX2_isErased_X7_nodeAt
set_option maxRecDepth 20000 in
theorem ggX2_isErased_X2_kindOf : GoodIn wsX2_isErased wsX2_kindOf := goodIn_r _ [13, 14, 15, 16, 17, 18, 19, 20, 21, 22, 23, 24] (by decide +kernel) (by decide +kernel)
set_option maxRecDepth 20000 in
theorem gX2_isErased_X2_kindOf : GoodIn wsX2_isErased (wsV RX2 44 RX2 yX2_kindOf wsX2_kindOf) := goodIn_app (goodIn_of _ (by decide +kernel)) ggX2_isErased_X2_kindOf
theorem dX2_isErased_0 : decode cX2_isErased 0 = .ok (.aload_n 0, 1) := by decide +kernel
theorem dX2_isErased_1 : decode cX2_isErased 1 = .ok (.aload_n 0, 1) := by decide +kernel
theorem dX2_isErased_2 : decode cX2_isErased 2 = .ok (.iload_n 1, 1) := by decide +kernel
theorem dX2_isErased_3 : decode cX2_isErased 3 = .ok (.invokevirtual 55, 3) := by decide +kernel
theorem dX2_isErased_6 : decode cX2_isErased 6 = .ok (.invokestatic 48, 3) := by decide +kernel
theorem dX2_isErased_9 : decode cX2_isErased 9 = .ok (.invokevirtual 44, 3) := by decide +kernel
theorem dX2_isErased_12 : decode cX2_isErased 12 = .ok (.iconst 5, 1) := by decide +kernel
theorem dX2_isErased_13 : decode cX2_isErased 13 = .ok (.if_icmp .ne 7, 3) := by decide +kernel
theorem dX2_isErased_16 : decode cX2_isErased 16 = .ok (.iconst 1, 1) := by decide +kernel
theorem dX2_isErased_17 : decode cX2_isErased 17 = .ok (.goto 4, 3) := by decide +kernel
theorem dX2_isErased_20 : decode cX2_isErased 20 = .ok (.iconst 0, 1) := by decide +kernel
theorem dX2_isErased_21 : decode cX2_isErased 21 = .ok (.ireturn, 1) := by decide +kernel
set_option maxRecDepth 20000 in
theorem ggX2_erase_X2_kindOf : GoodIn wsX2_erase wsX2_kindOf := goodIn_r _ [6, 7, 51, 52, 53, 54, 55, 56, 57, 58, 59, 60] (by decide +kernel) (by decide +kernel)
set_option maxRecDepth 20000 in
theorem gX2_erase_X2_kindOf : GoodIn wsX2_erase (wsV RX2 44 RX2 yX2_kindOf wsX2_kindOf) := goodIn_app (goodIn_of _ (by decide +kernel)) ggX2_erase_X2_kindOf
set_option maxRecDepth 20000 in
theorem ggX2_erase_X7_otherPorts : GoodIn wsX2_erase wsX7_otherPorts := goodIn_r _ [10] (by decide +kernel) (by decide +kernel)
set_option maxRecDepth 20000 in
theorem gX2_erase_X7_otherPorts_n87 : GoodIn wsX2_erase (wsX7_otherPorts) := ggX2_erase_X7_otherPorts
set_option maxRecDepth 20000 in
theorem ggX2_erase_X7_portOf : GoodIn wsX2_erase wsX7_portOf := goodIn_r _ [12] (by decide +kernel) (by decide +kernel)
set_option maxRecDepth 20000 in
theorem gX2_erase_X7_portOf_n66 : GoodIn wsX2_erase (wsX7_portOf) := ggX2_erase_X7_portOf
set_option maxRecDepth 20000 in
theorem ggX2_erase_X2_isErased : GoodIn wsX2_erase wsX2_isErased := goodIn_r _ [16, 17, 18, 19, 5, 20, 21, 22, 9, 23, 2, 3, 4, 6, 7, 51, 52, 53, 54, 55, 56, 57, 58, 59, 60] (by decide +kernel) (by decide +kernel)
set_option maxRecDepth 20000 in
theorem gX2_erase_X2_isErased : GoodIn wsX2_erase (wsV RX2 83 RX2 yX2_isErased wsX2_isErased) := goodIn_app (goodIn_of _ (by decide +kernel)) ggX2_erase_X2_isErased
set_option maxRecDepth 20000 in
theorem ggX2_erase_X2_across : GoodIn wsX2_erase wsX2_across := goodIn_r _ [20, 21, 51, 52, 53, 54, 55, 56, 57, 58, 59, 60] (by decide +kernel) (by decide +kernel)
set_option maxRecDepth 20000 in
theorem gX2_erase_X2_across : GoodIn wsX2_erase (wsV RX2 55 RX2 yX2_across wsX2_across) := goodIn_app (goodIn_of _ (by decide +kernel)) ggX2_erase_X2_across
set_option maxRecDepth 20000 in
theorem ggX2_erase_X7_nodeAt : GoodIn wsX2_erase wsX7_nodeAt := goodIn_r _ [23] (by decide +kernel) (by decide +kernel)
set_option maxRecDepth 20000 in
theorem gX2_erase_X7_nodeAt_n48 : GoodIn wsX2_erase (wsX7_nodeAt) := ggX2_erase_X7_nodeAt
set_option maxRecDepth 20000 in
theorem ggX2_erase_X2_discard : GoodIn wsX2_erase wsX2_discard := goodIn_r _ [27, 28, 29, 7, 30, 2, 3, 4, 5, 6, 51, 52, 53, 54, 55, 56, 57, 58, 59, 60] (by decide +kernel) (by decide +kernel)
set_option maxRecDepth 20000 in
theorem gX2_erase_X2_discard : GoodIn wsX2_erase (wsV RX2 70 RX2 yX2_discard wsX2_discard) := goodIn_app (goodIn_of _ (by decide +kernel)) ggX2_erase_X2_discard
set_option maxRecDepth 20000 in
theorem ggX2_erase_X2_make : GoodIn wsX2_erase wsX2_make := goodIn_r _ [34, 28, 30, 7, 35, 29, 51, 52, 53, 54, 55, 56, 57, 58, 59, 60] (by decide +kernel) (by decide +kernel)
set_option maxRecDepth 20000 in
theorem gX2_erase_X2_make : GoodIn wsX2_erase (wsV RX2 90 RX2 yX2_make wsX2_make) := goodIn_app (goodIn_of _ (by decide +kernel)) ggX2_erase_X2_make
set_option maxRecDepth 20000 in
theorem ggX2_erase_X2_replace : GoodIn wsX2_erase wsX2_replace := goodIn_r _ [39, 17, 18, 19, 5, 20, 21, 40, 41, 42, 43, 22, 9, 23, 44, 45, 46, 47, 48, 7, 49, 50, 51, 52, 53, 54, 55, 56, 57, 58, 59, 60] (by decide +kernel) (by decide +kernel)
set_option maxRecDepth 20000 in
theorem gX2_erase_X2_replace : GoodIn wsX2_erase (wsV RX2 93 RX2 yX2_replace wsX2_replace) := goodIn_app (goodIn_of _ (by decide +kernel)) ggX2_erase_X2_replace
theorem dX2_erase_0 : decode cX2_erase 0 = .ok (.aload_n 0, 1) := by decide +kernel
theorem dX2_erase_1 : decode cX2_erase 1 = .ok (.iload_n 1, 1) := by decide +kernel
theorem dX2_erase_2 : decode cX2_erase 2 = .ok (.invokevirtual 44, 3) := by decide +kernel
theorem dX2_erase_5 : decode cX2_erase 5 = .ok (.invokestatic 87, 3) := by decide +kernel
theorem dX2_erase_8 : decode cX2_erase 8 = .ok (.istore_n 2, 1) := by decide +kernel
theorem dX2_erase_9 : decode cX2_erase 9 = .ok (.iconst 0, 1) := by decide +kernel
theorem dX2_erase_10 : decode cX2_erase 10 = .ok (.istore_n 3, 1) := by decide +kernel
theorem dX2_erase_11 : decode cX2_erase 11 = .ok (.iload_n 3, 1) := by decide +kernel
theorem dX2_erase_12 : decode cX2_erase 12 = .ok (.iload_n 2, 1) := by decide +kernel
theorem dX2_erase_13 : decode cX2_erase 13 = .ok (.if_icmp .gt 57, 3) := by decide +kernel
theorem dX2_erase_16 : decode cX2_erase 16 = .ok (.iload_n 1, 1) := by decide +kernel
theorem dX2_erase_17 : decode cX2_erase 17 = .ok (.iload_n 3, 1) := by decide +kernel
theorem dX2_erase_18 : decode cX2_erase 18 = .ok (.invokestatic 66, 3) := by decide +kernel
theorem dX2_erase_21 : decode cX2_erase 21 = .ok (.istore 4, 2) := by decide +kernel
theorem dX2_erase_23 : decode cX2_erase 23 = .ok (.aload_n 0, 1) := by decide +kernel
theorem dX2_erase_24 : decode cX2_erase 24 = .ok (.iload 4, 2) := by decide +kernel
theorem dX2_erase_26 : decode cX2_erase 26 = .ok (.invokevirtual 83, 3) := by decide +kernel
theorem dX2_erase_29 : decode cX2_erase 29 = .ok (.ifCond .eq 19, 3) := by decide +kernel
