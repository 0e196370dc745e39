theorem dX5_add_49 : decode cX5_add 49 = .ok (.iload 5, 2) := by decide +kernel
theorem dX5_add_51 : decode cX5_add 51 = .ok (.iload 4, 2) := by decide +kernel
theorem dX5_add_53 : decode cX5_add 53 = .ok (.iastore, 1) := by decide +kernel
theorem dX5_add_54 : decode cX5_add 54 = .ok (.aload_n 0, 1) := by decide +kernel
theorem dX5_add_55 : decode cX5_add 55 = .ok (.getfield 21, 3) := by decide +kernel
theorem dX5_add_58 : decode cX5_add 58 = .ok (.iload 5, 2) := by decide +kernel
theorem dX5_add_60 : decode cX5_add 60 = .ok (.aload_n 0, 1) := by decide +kernel
theorem dX5_add_61 : decode cX5_add 61 = .ok (.getfield 24, 3) := by decide +kernel
theorem dX5_add_64 : decode cX5_add 64 = .ok (.iload_n 1, 1) := by decide +kernel
theorem dX5_add_65 : decode cX5_add 65 = .ok (.iaload, 1) := by decide +kernel
theorem dX5_add_66 : decode cX5_add 66 = .ok (.iastore, 1) := by decide +kernel
theorem dX5_add_67 : decode cX5_add 67 = .ok (.aload_n 0, 1) := by decide +kernel
theorem dX5_add_68 : decode cX5_add 68 = .ok (.getfield 24, 3) := by decide +kernel
theorem dX5_add_71 : decode cX5_add 71 = .ok (.iload_n 1, 1) := by decide +kernel
theorem dX5_add_72 : decode cX5_add 72 = .ok (.iload 5, 2) := by decide +kernel
theorem dX5_add_74 : decode cX5_add 74 = .ok (.iastore, 1) := by decide +kernel
theorem dX5_add_75 : decode cX5_add 75 = .ok (.aload_n 0, 1) := by decide +kernel
theorem dX5_add_76 : decode cX5_add 76 = .ok (.dup, 1) := by decide +kernel
theorem dX5_add_77 : decode cX5_add 77 = .ok (.getfield 27, 3) := by decide +kernel
theorem dX5_add_80 : decode cX5_add 80 = .ok (.iconst 1, 1) := by decide +kernel
theorem dX5_add_81 : decode cX5_add 81 = .ok (.iadd, 1) := by decide +kernel
theorem dX5_add_82 : decode cX5_add 82 = .ok (.putfield 27, 3) := by decide +kernel
theorem dX5_add_85 : decode cX5_add 85 = .ok (.iload 5, 2) := by decide +kernel
theorem dX5_add_87 : decode cX5_add 87 = .ok (.ireturn, 1) := by decide +kernel
theorem dX5_bucketOf_0 : decode cX5_bucketOf 0 = .ok (.iload_n 0, 1) := by decide +kernel
theorem dX5_bucketOf_1 : decode cX5_bucketOf 1 = .ok (.sipush 1009, 3) := by decide +kernel
theorem dX5_bucketOf_4 : decode cX5_bucketOf 4 = .ok (.imul, 1) := by decide +kernel
theorem dX5_bucketOf_5 : decode cX5_bucketOf 5 = .ok (.iload_n 1, 1) := by decide +kernel
theorem dX5_bucketOf_6 : decode cX5_bucketOf 6 = .ok (.bipush 31, 2) := by decide +kernel
theorem dX5_bucketOf_8 : decode cX5_bucketOf 8 = .ok (.imul, 1) := by decide +kernel
theorem dX5_bucketOf_9 : decode cX5_bucketOf 9 = .ok (.iadd, 1) := by decide +kernel
theorem dX5_bucketOf_10 : decode cX5_bucketOf 10 = .ok (.iload_n 2, 1) := by decide +kernel
theorem dX5_bucketOf_11 : decode cX5_bucketOf 11 = .ok (.sipush 577, 3) := by decide +kernel
theorem dX5_bucketOf_14 : decode cX5_bucketOf 14 = .ok (.imul, 1) := by decide +kernel
theorem dX5_bucketOf_15 : decode cX5_bucketOf 15 = .ok (.iadd, 1) := by decide +kernel
theorem dX5_bucketOf_16 : decode cX5_bucketOf 16 = .ok (.sipush 4095, 3) := by decide +kernel
theorem dX5_bucketOf_19 : decode cX5_bucketOf 19 = .ok (.iand, 1) := by decide +kernel
theorem dX5_bucketOf_20 : decode cX5_bucketOf 20 = .ok (.ireturn, 1) := by decide +kernel
set_option maxRecDepth 20000 in
theorem ggX6_init_X1_init : GoodIn wsX6_init wsX1_init := goodIn_r _ [20, 21, 2, 3, 22, 23, 24, 25, 10, 26, 27, 28, 29, 30, 31, 32, 33, 34, 35, 36, 37, 38, 39, 64, 65, 66, 67, 68, 69, 40, 41, 42, 43, 44, 45, 46, 47] (by decide +kernel) (by decide +kernel)
set_option maxRecDepth 20000 in
theorem gX6_init_X1_init_n11 : GoodIn wsX6_init (wsX1_init) := ggX6_init_X1_init
theorem dX6_init_0 : decode cX6_init 0 = .ok (.aload_n 0, 1) := by decide +kernel
theorem dX6_init_1 : decode cX6_init 1 = .ok (.invokespecial 3, 3) := by decide +kernel
theorem dX6_init_4 : decode cX6_init 4 = .ok (.aload_n 0, 1) := by decide +kernel
theorem dX6_init_5 : decode cX6_init 5 = .ok (.new 9, 3) := by decide +kernel
theorem dX6_init_8 : decode cX6_init 8 = .ok (.dup, 1) := by decide +kernel
theorem dX6_init_9 : decode cX6_init 9 = .ok (.invokespecial 11, 3) := by decide +kernel
theorem dX6_init_12 : decode cX6_init 12 = .ok (.putfield 12, 3) := by decide +kernel
theorem dX6_init_15 : decode cX6_init 15 = .ok (.aload_n 0, 1) := by decide +kernel
theorem dX6_init_16 : decode cX6_init 16 = .ok (.sipush 4000, 3) := by decide +kernel
theorem dX6_init_19 : decode cX6_init 19 = .ok (.newarray .char, 2) := by decide +kernel
theorem dX6_init_21 : decode cX6_init 21 = .ok (.putfield 18, 3) := by decide +kernel
theorem dX6_init_24 : decode cX6_init 24 = .ok (.aload_n 0, 1) := by decide +kernel
theorem dX6_init_25 : decode cX6_init 25 = .ok (.sipush 4000, 3) := by decide +kernel
theorem dX6_init_28 : decode cX6_init 28 = .ok (.newarray .int, 2) := by decide +kernel
theorem dX6_init_30 : decode cX6_init 30 = .ok (.putfield 22, 3) := by decide +kernel
theorem dX6_init_33 : decode cX6_init 33 = .ok (.aload_n 0, 1) := by decide +kernel
theorem dX6_init_34 : decode cX6_init 34 = .ok (.sipush 4000, 3) := by decide +kernel
theorem dX6_init_37 : decode cX6_init 37 = .ok (.newarray .int, 2) := by decide +kernel
theorem dX6_init_39 : decode cX6_init 39 = .ok (.putfield 26, 3) := by decide +kernel
theorem dX6_init_42 : decode cX6_init 42 = .ok (.aload_n 0, 1) := by decide +kernel
theorem dX6_init_43 : decode cX6_init 43 = .ok (.sipush 4000, 3) := by decide +kernel
theorem dX6_init_46 : decode cX6_init 46 = .ok (.newarray .int, 2) := by decide +kernel
theorem dX6_init_48 : decode cX6_init 48 = .ok (.putfield 29, 3) := by decide +kernel
theorem dX6_init_51 : decode cX6_init 51 = .ok (.aload_n 0, 1) := by decide +kernel
theorem dX6_init_52 : decode cX6_init 52 = .ok (.sipush 4000, 3) := by decide +kernel
theorem dX6_init_55 : decode cX6_init 55 = .ok (.newarray .int, 2) := by decide +kernel
theorem dX6_init_57 : decode cX6_init 57 = .ok (.putfield 32, 3) := by decide +kernel
theorem dX6_init_60 : decode cX6_init 60 = .ok (.aload_n 0, 1) := by decide +kernel
theorem dX6_init_61 : decode cX6_init 61 = .ok (.sipush 4000, 3) := by decide +kernel
theorem dX6_init_64 : decode cX6_init 64 = .ok (.newarray .int, 2) := by decide +kernel
theorem dX6_init_66 : decode cX6_init 66 = .ok (.putfield 35, 3) := by decide +kernel
theorem dX6_init_69 : decode cX6_init 69 = .ok (.aload_n 0, 1) := by decide +kernel
theorem dX6_init_70 : decode cX6_init 70 = .ok (.sipush 4000, 3) := by decide +kernel
theorem dX6_init_73 : decode cX6_init 73 = .ok (.newarray .int, 2) := by decide +kernel
theorem dX6_init_75 : decode cX6_init 75 = .ok (.putfield 38, 3) := by decide +kernel
theorem dX6_init_78 : decode cX6_init 78 = .ok (.aload_n 0, 1) := by decide +kernel
theorem dX6_init_79 : decode cX6_init 79 = .ok (.sipush 2048, 3) := by decide +kernel
theorem dX6_init_82 : decode cX6_init 82 = .ok (.newarray .int, 2) := by decide +kernel
theorem dX6_init_84 : decode cX6_init 84 = .ok (.putfield 41, 3) := by decide +kernel
theorem dX6_init_87 : decode cX6_init 87 = .ok (.aload_n 0, 1) := by decide +kernel
theorem dX6_init_88 : decode cX6_init 88 = .ok (.aload_n 1, 1) := by decide +kernel
theorem dX6_init_89 : decode cX6_init 89 = .ok (.putfield 44, 3) := by decide +kernel
theorem dX6_init_92 : decode cX6_init 92 = .ok (.return_, 1) := by decide +kernel
set_option maxRecDepth 20000 in
theorem ggX6_begin_X1_clear : GoodIn wsX6_begin wsX1_clear := goodIn_r _ [12, 13, 14, 15, 16, 17, 18, 19, 20, 21, 22, 23, 24, 25, 26, 27, 28, 29, 49, 50, 51, 52, 53, 54, 55, 56, 57, 58, 59, 60, 61, 62] (by decide +kernel) (by decide +kernel)
set_option maxRecDepth 20000 in
theorem gX6_begin_X1_clear : GoodIn wsX6_begin (wsV RX6 48 RX1 yX1_clear wsX1_clear) := goodIn_app (goodIn_of _ (by decide +kernel)) ggX6_begin_X1_clear
set_option maxRecDepth 20000 in
theorem ggX6_begin_X7_portOf : GoodIn wsX6_begin wsX7_portOf := goodIn_r _ [32] (by decide +kernel) (by decide +kernel)
set_option maxRecDepth 20000 in
theorem gX6_begin_X7_portOf_n67 : GoodIn wsX6_begin (wsX7_portOf) := ggX6_begin_X7_portOf
theorem dX6_begin_0 : decode cX6_begin 0 = .ok (.aload_n 0, 1) := by decide +kernel
theorem dX6_begin_1 : decode cX6_begin 1 = .ok (.getfield 12, 3) := by decide +kernel
theorem dX6_begin_4 : decode cX6_begin 4 = .ok (.invokevirtual 48, 3) := by decide +kernel
theorem dX6_begin_7 : decode cX6_begin 7 = .ok (.aload_n 0, 1) := by decide +kernel
theorem dX6_begin_8 : decode cX6_begin 8 = .ok (.iconst 0, 1) := by decide +kernel
theorem dX6_begin_9 : decode cX6_begin 9 = .ok (.putfield 51, 3) := by decide +kernel
theorem dX6_begin_12 : decode cX6_begin 12 = .ok (.aload_n 0, 1) := by decide +kernel
theorem dX6_begin_13 : decode cX6_begin 13 = .ok (.iconst 0, 1) := by decide +kernel
theorem dX6_begin_14 : decode cX6_begin 14 = .ok (.putfield 55, 3) := by decide +kernel
theorem dX6_begin_17 : decode cX6_begin 17 = .ok (.aload_n 0, 1) := by decide +kernel
theorem dX6_begin_18 : decode cX6_begin 18 = .ok (.iconst 0, 1) := by decide +kernel
theorem dX6_begin_19 : decode cX6_begin 19 = .ok (.putfield 58, 3) := by decide +kernel
theorem dX6_begin_22 : decode cX6_begin 22 = .ok (.aload_n 0, 1) := by decide +kernel
theorem dX6_begin_23 : decode cX6_begin 23 = .ok (.iconst 0, 1) := by decide +kernel
theorem dX6_begin_24 : decode cX6_begin 24 = .ok (.putfield 61, 3) := by decide +kernel
theorem dX6_begin_27 : decode cX6_begin 27 = .ok (.aload_n 0, 1) := by decide +kernel
theorem dX6_begin_28 : decode cX6_begin 28 = .ok (.iconst 0, 1) := by decide +kernel
theorem dX6_begin_29 : decode cX6_begin 29 = .ok (.putfield 64, 3) := by decide +kernel
theorem dX6_begin_32 : decode cX6_begin 32 = .ok (.aload_n 0, 1) := by decide +kernel
theorem dX6_begin_33 : decode cX6_begin 33 = .ok (.iconst 0, 1) := by decide +kernel
theorem dX6_begin_34 : decode cX6_begin 34 = .ok (.iconst 0, 1) := by decide +kernel
theorem dX6_begin_35 : decode cX6_begin 35 = .ok (.invokestatic 67, 3) := by decide +kernel
theorem dX6_begin_38 : decode cX6_begin 38 = .ok (.putfield 71, 3) := by decide +kernel
theorem dX6_begin_41 : decode cX6_begin 41 = .ok (.return_, 1) := by decide +kernel
theorem dX6_told_0 : decode cX6_told 0 = .ok (.aload_n 0, 1) := by decide +kernel
theorem dX6_told_1 : decode cX6_told 1 = .ok (.getfield 51, 3) := by decide +kernel
theorem dX6_told_4 : decode cX6_told 4 = .ok (.ireturn, 1) := by decide +kernel
theorem dX6_letterAt_0 : decode cX6_letterAt 0 = .ok (.iload_n 1, 1) := by decide +kernel
theorem dX6_letterAt_1 : decode cX6_letterAt 1 = .ok (.ifCond .lt 27, 3) := by decide +kernel
theorem dX6_letterAt_4 : decode cX6_letterAt 4 = .ok (.iload_n 1, 1) := by decide +kernel
theorem dX6_letterAt_5 : decode cX6_letterAt 5 = .ok (.aload_n 0, 1) := by decide +kernel
theorem dX6_letterAt_6 : decode cX6_letterAt 6 = .ok (.getfield 51, 3) := by decide +kernel
theorem dX6_letterAt_9 : decode cX6_letterAt 9 = .ok (.if_icmp .ge 19, 3) := by decide +kernel
theorem dX6_letterAt_12 : decode cX6_letterAt 12 = .ok (.iload_n 1, 1) := by decide +kernel
theorem dX6_letterAt_13 : decode cX6_letterAt 13 = .ok (.sipush 4000, 3) := by decide +kernel
theorem dX6_letterAt_16 : decode cX6_letterAt 16 = .ok (.if_icmp .ge 12, 3) := by decide +kernel
theorem dX6_letterAt_19 : decode cX6_letterAt 19 = .ok (.aload_n 0, 1) := by decide +kernel
theorem dX6_letterAt_20 : decode cX6_letterAt 20 = .ok (.getfield 18, 3) := by decide +kernel
theorem dX6_letterAt_23 : decode cX6_letterAt 23 = .ok (.iload_n 1, 1) := by decide +kernel
theorem dX6_letterAt_24 : decode cX6_letterAt 24 = .ok (.caload, 1) := by decide +kernel
theorem dX6_letterAt_25 : decode cX6_letterAt 25 = .ok (.goto 4, 3) := by decide +kernel
theorem dX6_letterAt_28 : decode cX6_letterAt 28 = .ok (.iconst (-1), 1) := by decide +kernel
theorem dX6_letterAt_29 : decode cX6_letterAt 29 = .ok (.ireturn, 1) := by decide +kernel
set_option maxRecDepth 20000 in
theorem ggX6_nodeLeft_X7_nodeAt : GoodIn wsX6_nodeLeft wsX7_nodeAt := goodIn_r _ [4] (by decide +kernel) (by decide +kernel)
set_option maxRecDepth 20000 in
theorem gX6_nodeLeft_X7_nodeAt_n74 : GoodIn wsX6_nodeLeft (wsX7_nodeAt) := ggX6_nodeLeft_X7_nodeAt
theorem dX6_nodeLeft_0 : decode cX6_nodeLeft 0 = .ok (.aload_n 0, 1) := by decide +kernel
theorem dX6_nodeLeft_1 : decode cX6_nodeLeft 1 = .ok (.getfield 71, 3) := by decide +kernel
theorem dX6_nodeLeft_4 : decode cX6_nodeLeft 4 = .ok (.invokestatic 74, 3) := by decide +kernel
theorem dX6_nodeLeft_7 : decode cX6_nodeLeft 7 = .ok (.ireturn, 1) := by decide +kernel
set_option maxRecDepth 20000 in
theorem ggX6_nodeAhead_X2_across : GoodIn wsX6_nodeAhead wsX2_across := goodIn_r _ [7, 8, 28, 29, 30, 31, 32, 33, 34, 35, 36, 37] (by decide +kernel) (by decide +kernel)
set_option maxRecDepth 20000 in
theorem gX6_nodeAhead_X2_across : GoodIn wsX6_nodeAhead (wsV RX6 78 RX2 yX2_across wsX2_across) := goodIn_app (goodIn_of _ (by decide +kernel)) ggX6_nodeAhead_X2_across
set_option maxRecDepth 20000 in
theorem ggX6_nodeAhead_X7_nodeAt : GoodIn wsX6_nodeAhead wsX7_nodeAt := goodIn_r _ [11] (by decide +kernel) (by decide +kernel)
set_option maxRecDepth 20000 in
theorem gX6_nodeAhead_X7_nodeAt_n74 : GoodIn wsX6_nodeAhead (wsX7_nodeAt) := ggX6_nodeAhead_X7_nodeAt
theorem dX6_nodeAhead_0 : decode cX6_nodeAhead 0 = .ok (.aload_n 0, 1) := by decide +kernel
theorem dX6_nodeAhead_1 : decode cX6_nodeAhead 1 = .ok (.getfield 44, 3) := by decide +kernel
theorem dX6_nodeAhead_4 : decode cX6_nodeAhead 4 = .ok (.aload_n 0, 1) := by decide +kernel
theorem dX6_nodeAhead_5 : decode cX6_nodeAhead 5 = .ok (.getfield 71, 3) := by decide +kernel
theorem dX6_nodeAhead_8 : decode cX6_nodeAhead 8 = .ok (.invokevirtual 78, 3) := by decide +kernel
theorem dX6_nodeAhead_11 : decode cX6_nodeAhead 11 = .ok (.invokestatic 74, 3) := by decide +kernel
theorem dX6_nodeAhead_14 : decode cX6_nodeAhead 14 = .ok (.ireturn, 1) := by decide +kernel
set_option maxRecDepth 20000 in
theorem ggX6_advance_X2_across : GoodIn wsX6_advance wsX2_across := goodIn_r _ [9, 10, 240, 241, 242, 243, 244, 245, 246, 247, 248, 249] (by decide +kernel) (by decide +kernel)
set_option maxRecDepth 20000 in
theorem gX6_advance_X2_across : GoodIn wsX6_advance (wsV RX6 78 RX2 yX2_across wsX2_across) := goodIn_app (goodIn_of _ (by decide +kernel)) ggX6_advance_X2_across
set_option maxRecDepth 20000 in
theorem ggX6_advance_X6_isMeeting : GoodIn wsX6_advance wsX6_isMeeting := goodIn_r _ [15, 3, 2, 16, 17, 18, 19, 20, 21, 22, 23, 8, 24, 25, 224, 225, 226, 227, 228, 229, 230, 231, 232, 233, 234, 235, 236, 237, 238, 239, 240, 241, 242, 243, 244, 245, 246, 247, 248, 249] (by decide +kernel) (by decide +kernel)
set_option maxRecDepth 20000 in
theorem gX6_advance_X6_isMeeting : GoodIn wsX6_advance (wsV RX6 83 RX6 yX6_isMeeting wsX6_isMeeting) := goodIn_app (goodIn_of _ (by decide +kernel)) ggX6_advance_X6_isMeeting
set_option maxRecDepth 20000 in
theorem ggX6_advance_X7_nodeAt : GoodIn wsX6_advance wsX7_nodeAt := goodIn_r _ [20] (by decide +kernel) (by decide +kernel)
set_option maxRecDepth 20000 in
theorem gX6_advance_X7_nodeAt_n74 : GoodIn wsX6_advance (wsX7_nodeAt) := ggX6_advance_X7_nodeAt
set_option maxRecDepth 20000 in
theorem ggX6_advance_X7_whichAt : GoodIn wsX6_advance wsX7_whichAt := goodIn_r _ [18] (by decide +kernel) (by decide +kernel)
set_option maxRecDepth 20000 in
theorem gX6_advance_X7_whichAt_n87 : GoodIn wsX6_advance (wsX7_whichAt) := ggX6_advance_X7_whichAt
set_option maxRecDepth 20000 in
theorem ggX6_advance_X6_arrive : GoodIn wsX6_advance wsX6_arrive := goodIn_r _ [29, 2, 30, 31, 32, 33, 8, 34, 35, 21, 22, 23, 24, 25, 36, 37, 38, 14, 39, 40, 41, 42, 43, 44, 45, 46, 47, 48, 49, 50, 51, 52, 53, 54, 55, 56, 57, 58, 59, 60, 61, 62, 63, 64, 65, 66, 67, 68, 69, 70, 71, 72, 73, 74, 75, 76, 77, 78, 79, 80, 81, 82, 83, 84, 85, 86, 87, 88, 89, 90, 91, 92, 93, 94, 95, 96, 3, 97, 17, 98, 99, 100, 101, 102, 103, 104, 105, 106, 107, 108, 109, 110, 111, 112, 113, 114, 115, 116, 117, 118, 119, 120, 121, 122, 123, 124, 125, 126, 127, 128, 129, 130, 131, 132, 133, 134, 135, 136, 137, 138, 139, 140, 141, 142, 143, 144, 145, 146, 147, 148, 149, 150, 151, 152, 153, 154, 155, 156, 157, 158, 159, 160, 161, 162, 163, 164, 165, 166, 167, 168, 169, 170, 171, 172, 173, 174, 175, 176, 177, 178, 179, 180, 181, 182, 183, 184, 185, 186, 187, 188, 189, 190, 191, 192, 193, 194, 195, 196, 197, 198, 199, 200, 201, 202, 203, 224, 225, 226, 227, 228, 229, 230, 231, 232, 233, 234, 235, 236, 237, 238, 239, 240, 241, 242, 243, 244, 245, 246, 247, 248, 249, 250, 251, 252, 253, 254, 255, 256, 257, 258, 259, 260, 261, 262, 263] (by decide +kernel) (by decide +kernel)
set_option maxRecDepth 20000 in
theorem gX6_advance_X6_arrive : GoodIn wsX6_advance (wsV RX6 90 RX6 yX6_arrive wsX6_arrive) := goodIn_app (goodIn_of _ (by decide +kernel)) ggX6_advance_X6_arrive
set_option maxRecDepth 20000 in
theorem ggX6_advance_X6_endTerm : GoodIn wsX6_advance wsX6_endTerm := goodIn_r _ [207, 84, 85, 30, 87, 86, 3, 208, 209, 210, 76, 211, 92, 212, 213, 214, 215, 124, 125, 123, 127, 126, 135, 136, 137, 138, 78, 79, 139, 70, 71, 72, 144, 145, 146, 147, 148, 149, 150, 151, 128, 74, 75, 77, 170, 171, 172, 132, 173, 134, 174, 216, 217, 218, 219, 183, 164, 169, 184, 185, 186, 187, 97, 17, 98, 48, 49, 50, 14, 51, 52, 53, 220, 221, 222, 223, 44, 46, 47, 224, 225, 226, 227, 228, 229, 230, 231, 232, 233, 234, 235, 236, 237, 238, 239, 250, 251, 252, 253, 254, 255, 256, 257, 258, 259, 260, 261, 262, 263] (by decide +kernel) (by decide +kernel)
set_option maxRecDepth 20000 in
theorem gX6_advance_X6_endTerm : GoodIn wsX6_advance (wsV RX6 93 RX6 yX6_endTerm wsX6_endTerm) := goodIn_app (goodIn_of _ (by decide +kernel)) ggX6_advance_X6_endTerm
theorem dX6_advance_0 : decode cX6_advance 0 = .ok (.aload_n 0, 1) := by decide +kernel
theorem dX6_advance_1 : decode cX6_advance 1 = .ok (.getfield 55, 3) := by decide +kernel
theorem dX6_advance_4 : decode cX6_advance 4 = .ok (.sipush 4000, 3) := by decide +kernel
theorem dX6_advance_7 : decode cX6_advance 7 = .ok (.if_icmp .ge 83, 3) := by decide +kernel
theorem dX6_advance_10 : decode cX6_advance 10 = .ok (.aload_n 0, 1) := by decide +kernel
theorem dX6_advance_11 : decode cX6_advance 11 = .ok (.getfield 44, 3) := by decide +kernel
theorem dX6_advance_14 : decode cX6_advance 14 = .ok (.aload_n 0, 1) := by decide +kernel
theorem dX6_advance_15 : decode cX6_advance 15 = .ok (.getfield 71, 3) := by decide +kernel
theorem dX6_advance_18 : decode cX6_advance 18 = .ok (.invokevirtual 78, 3) := by decide +kernel
theorem dX6_advance_21 : decode cX6_advance 21 = .ok (.istore_n 1, 1) := by decide +kernel
theorem dX6_advance_22 : decode cX6_advance 22 = .ok (.aload_n 0, 1) := by decide +kernel
theorem dX6_advance_23 : decode cX6_advance 23 = .ok (.iload_n 1, 1) := by decide +kernel
theorem dX6_advance_24 : decode cX6_advance 24 = .ok (.invokevirtual 83, 3) := by decide +kernel
theorem dX6_advance_27 : decode cX6_advance 27 = .ok (.ifCond .eq 5, 3) := by decide +kernel
theorem dX6_advance_30 : decode cX6_advance 30 = .ok (.iconst 5, 1) := by decide +kernel
theorem dX6_advance_31 : decode cX6_advance 31 = .ok (.ireturn, 1) := by decide +kernel
theorem dX6_advance_32 : decode cX6_advance 32 = .ok (.aload_n 0, 1) := by decide +kernel
theorem dX6_advance_33 : decode cX6_advance 33 = .ok (.getfield 22, 3) := by decide +kernel
theorem dX6_advance_36 : decode cX6_advance 36 = .ok (.aload_n 0, 1) := by decide +kernel
theorem dX6_advance_37 : decode cX6_advance 37 = .ok (.getfield 55, 3) := by decide +kernel
theorem dX6_advance_40 : decode cX6_advance 40 = .ok (.aload_n 0, 1) := by decide +kernel
theorem dX6_advance_41 : decode cX6_advance 41 = .ok (.getfield 71, 3) := by decide +kernel
theorem dX6_advance_44 : decode cX6_advance 44 = .ok (.iastore, 1) := by decide +kernel
theorem dX6_advance_45 : decode cX6_advance 45 = .ok (.aload_n 0, 1) := by decide +kernel
theorem dX6_advance_46 : decode cX6_advance 46 = .ok (.dup, 1) := by decide +kernel
theorem dX6_advance_47 : decode cX6_advance 47 = .ok (.getfield 55, 3) := by decide +kernel
theorem dX6_advance_50 : decode cX6_advance 50 = .ok (.iconst 1, 1) := by decide +kernel
theorem dX6_advance_51 : decode cX6_advance 51 = .ok (.iadd, 1) := by decide +kernel
theorem dX6_advance_52 : decode cX6_advance 52 = .ok (.putfield 55, 3) := by decide +kernel
theorem dX6_advance_55 : decode cX6_advance 55 = .ok (.aload_n 0, 1) := by decide +kernel
theorem dX6_advance_56 : decode cX6_advance 56 = .ok (.iload_n 1, 1) := by decide +kernel
theorem dX6_advance_57 : decode cX6_advance 57 = .ok (.invokestatic 74, 3) := by decide +kernel
theorem dX6_advance_60 : decode cX6_advance 60 = .ok (.iload_n 1, 1) := by decide +kernel
theorem dX6_advance_61 : decode cX6_advance 61 = .ok (.invokestatic 87, 3) := by decide +kernel
theorem dX6_advance_64 : decode cX6_advance 64 = .ok (.invokevirtual 90, 3) := by decide +kernel
theorem dX6_advance_67 : decode cX6_advance 67 = .ok (.istore_n 2, 1) := by decide +kernel
theorem dX6_advance_68 : decode cX6_advance 68 = .ok (.iload_n 2, 1) := by decide +kernel
theorem dX6_advance_69 : decode cX6_advance 69 = .ok (.bipush 7, 2) := by decide +kernel
theorem dX6_advance_71 : decode cX6_advance 71 = .ok (.if_icmp .ne 8, 3) := by decide +kernel
theorem dX6_advance_74 : decode cX6_advance 74 = .ok (.aload_n 0, 1) := by decide +kernel
theorem dX6_advance_75 : decode cX6_advance 75 = .ok (.invokevirtual 93, 3) := by decide +kernel
theorem dX6_advance_78 : decode cX6_advance 78 = .ok (.istore_n 2, 1) := by decide +kernel
theorem dX6_advance_79 : decode cX6_advance 79 = .ok (.iload_n 2, 1) := by decide +kernel
theorem dX6_advance_80 : decode cX6_advance 80 = .ok (.bipush 6, 2) := by decide +kernel
theorem dX6_advance_82 : decode cX6_advance 82 = .ok (.if_icmp .eq 5, 3) := by decide +kernel
theorem dX6_advance_85 : decode cX6_advance 85 = .ok (.iload_n 2, 1) := by decide +kernel
theorem dX6_advance_86 : decode cX6_advance 86 = .ok (.ireturn, 1) := by decide +kernel
theorem dX6_advance_87 : decode cX6_advance 87 = .ok (.goto (-87), 3) := by decide +kernel
theorem dX6_advance_90 : decode cX6_advance 90 = .ok (.iconst 3, 1) := by decide +kernel
theorem dX6_advance_91 : decode cX6_advance 91 = .ok (.ireturn, 1) := by decide +kernel
set_option maxRecDepth 20000 in
theorem ggX6_stepBack_X7_nodeAt : GoodIn wsX6_stepBack wsX7_nodeAt := goodIn_r _ [10] (by decide +kernel) (by decide +kernel)
set_option maxRecDepth 20000 in
theorem gX6_stepBack_X7_nodeAt_n74 : GoodIn wsX6_stepBack (wsX7_nodeAt) := ggX6_stepBack_X7_nodeAt
set_option maxRecDepth 20000 in
theorem ggX6_stepBack_X2_kindOf : GoodIn wsX6_stepBack wsX2_kindOf := goodIn_r _ [15, 16, 84, 85, 86, 87, 88, 89, 90, 91, 92, 93] (by decide +kernel) (by decide +kernel)
set_option maxRecDepth 20000 in
theorem gX6_stepBack_X2_kindOf : GoodIn wsX6_stepBack (wsV RX6 97 RX2 yX2_kindOf wsX2_kindOf) := goodIn_app (goodIn_of _ (by decide +kernel)) ggX6_stepBack_X2_kindOf
set_option maxRecDepth 20000 in
theorem ggX6_stepBack_X1_undo : GoodIn wsX6_stepBack wsX1_undo := goodIn_r _ [21, 22, 23, 24, 25, 26, 27, 28, 29, 30, 20, 31, 32, 33, 34, 35, 36, 37, 38, 39, 40, 41, 42, 43, 44, 45, 46, 47, 48, 49, 50, 51, 52, 53, 54, 55, 56, 57, 58, 59, 60, 61, 62, 63, 64, 65, 66, 67, 94, 95, 96, 97, 98, 99, 100, 101, 102, 103, 104, 105, 106, 107] (by decide +kernel) (by decide +kernel)
set_option maxRecDepth 20000 in
theorem gX6_stepBack_X1_undo : GoodIn wsX6_stepBack (wsV RX6 100 RX1 yX1_undo wsX1_undo) := goodIn_app (goodIn_of _ (by decide +kernel)) ggX6_stepBack_X1_undo
theorem dX6_stepBack_0 : decode cX6_stepBack 0 = .ok (.aload_n 0, 1) := by decide +kernel
theorem dX6_stepBack_1 : decode cX6_stepBack 1 = .ok (.getfield 55, 3) := by decide +kernel
theorem dX6_stepBack_4 : decode cX6_stepBack 4 = .ok (.iconst 1, 1) := by decide +kernel
theorem dX6_stepBack_5 : decode cX6_stepBack 5 = .ok (.if_icmp .lt 13, 3) := by decide +kernel
theorem dX6_stepBack_8 : decode cX6_stepBack 8 = .ok (.aload_n 0, 1) := by decide +kernel
theorem dX6_stepBack_9 : decode cX6_stepBack 9 = .ok (.getfield 55, 3) := by decide +kernel
theorem dX6_stepBack_12 : decode cX6_stepBack 12 = .ok (.sipush 4000, 3) := by decide +kernel
theorem dX6_stepBack_15 : decode cX6_stepBack 15 = .ok (.if_icmp .le 4, 3) := by decide +kernel
theorem dX6_stepBack_18 : decode cX6_stepBack 18 = .ok (.return_, 1) := by decide +kernel
theorem dX6_stepBack_19 : decode cX6_stepBack 19 = .ok (.aload_n 0, 1) := by decide +kernel
theorem dX6_stepBack_20 : decode cX6_stepBack 20 = .ok (.getfield 44, 3) := by decide +kernel
theorem dX6_stepBack_23 : decode cX6_stepBack 23 = .ok (.aload_n 0, 1) := by decide +kernel
theorem dX6_stepBack_24 : decode cX6_stepBack 24 = .ok (.getfield 71, 3) := by decide +kernel
theorem dX6_stepBack_27 : decode cX6_stepBack 27 = .ok (.invokestatic 74, 3) := by decide +kernel
theorem dX6_stepBack_30 : decode cX6_stepBack 30 = .ok (.invokevirtual 97, 3) := by decide +kernel
theorem dX6_stepBack_33 : decode cX6_stepBack 33 = .ok (.iconst 1, 1) := by decide +kernel
theorem dX6_stepBack_34 : decode cX6_stepBack 34 = .ok (.if_icmp .eq 13, 3) := by decide +kernel
theorem dX6_stepBack_37 : decode cX6_stepBack 37 = .ok (.aload_n 0, 1) := by decide +kernel
theorem dX6_stepBack_38 : decode cX6_stepBack 38 = .ok (.getfield 12, 3) := by decide +kernel
theorem dX6_stepBack_41 : decode cX6_stepBack 41 = .ok (.invokevirtual 100, 3) := by decide +kernel
theorem dX6_stepBack_44 : decode cX6_stepBack 44 = .ok (.goto 37, 3) := by decide +kernel
theorem dX6_stepBack_47 : decode cX6_stepBack 47 = .ok (.aload_n 0, 1) := by decide +kernel
theorem dX6_stepBack_48 : decode cX6_stepBack 48 = .ok (.getfield 58, 3) := by decide +kernel
theorem dX6_stepBack_51 : decode cX6_stepBack 51 = .ok (.ifCond .le 30, 3) := by decide +kernel
theorem dX6_stepBack_54 : decode cX6_stepBack 54 = .ok (.aload_n 0, 1) := by decide +kernel
theorem dX6_stepBack_55 : decode cX6_stepBack 55 = .ok (.getfield 51, 3) := by decide +kernel
theorem dX6_stepBack_58 : decode cX6_stepBack 58 = .ok (.ifCond .le 23, 3) := by decide +kernel
theorem dX6_stepBack_61 : decode cX6_stepBack 61 = .ok (.aload_n 0, 1) := by decide +kernel
theorem dX6_stepBack_62 : decode cX6_stepBack 62 = .ok (.dup, 1) := by decide +kernel
theorem dX6_stepBack_63 : decode cX6_stepBack 63 = .ok (.getfield 58, 3) := by decide +kernel
theorem dX6_stepBack_66 : decode cX6_stepBack 66 = .ok (.iconst 1, 1) := by decide +kernel
theorem dX6_stepBack_67 : decode cX6_stepBack 67 = .ok (.isub, 1) := by decide +kernel
theorem dX6_stepBack_68 : decode cX6_stepBack 68 = .ok (.putfield 58, 3) := by decide +kernel
theorem dX6_stepBack_71 : decode cX6_stepBack 71 = .ok (.aload_n 0, 1) := by decide +kernel
theorem dX6_stepBack_72 : decode cX6_stepBack 72 = .ok (.dup, 1) := by decide +kernel
theorem dX6_stepBack_73 : decode cX6_stepBack 73 = .ok (.getfield 51, 3) := by decide +kernel
theorem dX6_stepBack_76 : decode cX6_stepBack 76 = .ok (.iconst 1, 1) := by decide +kernel
theorem dX6_stepBack_77 : decode cX6_stepBack 77 = .ok (.isub, 1) := by decide +kernel
theorem dX6_stepBack_78 : decode cX6_stepBack 78 = .ok (.putfield 51, 3) := by decide +kernel
theorem dX6_stepBack_81 : decode cX6_stepBack 81 = .ok (.aload_n 0, 1) := by decide +kernel
theorem dX6_stepBack_82 : decode cX6_stepBack 82 = .ok (.dup, 1) := by decide +kernel
theorem dX6_stepBack_83 : decode cX6_stepBack 83 = .ok (.getfield 55, 3) := by decide +kernel
theorem dX6_stepBack_86 : decode cX6_stepBack 86 = .ok (.iconst 1, 1) := by decide +kernel
theorem dX6_stepBack_87 : decode cX6_stepBack 87 = .ok (.isub, 1) := by decide +kernel
theorem dX6_stepBack_88 : decode cX6_stepBack 88 = .ok (.putfield 55, 3) := by decide +kernel
theorem dX6_stepBack_91 : decode cX6_stepBack 91 = .ok (.aload_n 0, 1) := by decide +kernel
theorem dX6_stepBack_92 : decode cX6_stepBack 92 = .ok (.aload_n 0, 1) := by decide +kernel
theorem dX6_stepBack_93 : decode cX6_stepBack 93 = .ok (.getfield 22, 3) := by decide +kernel
theorem dX6_stepBack_96 : decode cX6_stepBack 96 = .ok (.aload_n 0, 1) := by decide +kernel
theorem dX6_stepBack_97 : decode cX6_stepBack 97 = .ok (.getfield 55, 3) := by decide +kernel
theorem dX6_stepBack_100 : decode cX6_stepBack 100 = .ok (.iaload, 1) := by decide +kernel
theorem dX6_stepBack_101 : decode cX6_stepBack 101 = .ok (.putfield 71, 3) := by decide +kernel
theorem dX6_stepBack_104 : decode cX6_stepBack 104 = .ok (.return_, 1) := by decide +kernel
set_option maxRecDepth 20000 in
theorem ggX6_isMeeting_X7_whichAt : GoodIn wsX6_isMeeting wsX7_whichAt := goodIn_r _ [5] (by decide +kernel) (by decide +kernel)
set_option maxRecDepth 20000 in
theorem gX6_isMeeting_X7_whichAt_n87 : GoodIn wsX6_isMeeting (wsX7_whichAt) := ggX6_isMeeting_X7_whichAt
set_option maxRecDepth 20000 in
theorem ggX6_isMeeting_X7_nodeAt : GoodIn wsX6_isMeeting wsX7_nodeAt := goodIn_r _ [7] (by decide +kernel) (by decide +kernel)
set_option maxRecDepth 20000 in
theorem gX6_isMeeting_X7_nodeAt_n74 : GoodIn wsX6_isMeeting (wsX7_nodeAt) := ggX6_isMeeting_X7_nodeAt
set_option maxRecDepth 20000 in
theorem ggX6_isMeeting_X2_kindOf : GoodIn wsX6_isMeeting wsX2_kindOf := goodIn_r _ [12, 13, 30, 31, 32, 33, 34, 35, 36, 37, 38, 39] (by decide +kernel) (by decide +kernel)
set_option maxRecDepth 20000 in
theorem gX6_isMeeting_X2_kindOf : GoodIn wsX6_isMeeting (wsV RX6 97 RX2 yX2_kindOf wsX2_kindOf) := goodIn_app (goodIn_of _ (by decide +kernel)) ggX6_isMeeting_X2_kindOf
theorem dX6_isMeeting_0 : decode cX6_isMeeting 0 = .ok (.aload_n 0, 1) := by decide +kernel
theorem dX6_isMeeting_1 : decode cX6_isMeeting 1 = .ok (.getfield 71, 3) := by decide +kernel
theorem dX6_isMeeting_4 : decode cX6_isMeeting 4 = .ok (.invokestatic 87, 3) := by decide +kernel
theorem dX6_isMeeting_7 : decode cX6_isMeeting 7 = .ok (.ifCond .ne 33, 3) := by decide +kernel
theorem dX6_isMeeting_10 : decode cX6_isMeeting 10 = .ok (.aload_n 0, 1) := by decide +kernel
theorem dX6_isMeeting_11 : decode cX6_isMeeting 11 = .ok (.getfield 44, 3) := by decide +kernel
theorem dX6_isMeeting_14 : decode cX6_isMeeting 14 = .ok (.aload_n 0, 1) := by decide +kernel
theorem dX6_isMeeting_15 : decode cX6_isMeeting 15 = .ok (.getfield 71, 3) := by decide +kernel
theorem dX6_isMeeting_18 : decode cX6_isMeeting 18 = .ok (.invokestatic 74, 3) := by decide +kernel
theorem dX6_isMeeting_21 : decode cX6_isMeeting 21 = .ok (.invokevirtual 97, 3) := by decide +kernel
theorem dX6_isMeeting_24 : decode cX6_isMeeting 24 = .ok (.bipush 6, 2) := by decide +kernel
theorem dX6_isMeeting_26 : decode cX6_isMeeting 26 = .ok (.if_icmp .eq 14, 3) := by decide +kernel
theorem dX6_isMeeting_29 : decode cX6_isMeeting 29 = .ok (.iload_n 1, 1) := by decide +kernel
theorem dX6_isMeeting_30 : decode cX6_isMeeting 30 = .ok (.invokestatic 87, 3) := by decide +kernel
theorem dX6_isMeeting_33 : decode cX6_isMeeting 33 = .ok (.ifCond .ne 7, 3) := by decide +kernel
theorem dX6_isMeeting_36 : decode cX6_isMeeting 36 = .ok (.iconst 1, 1) := by decide +kernel
theorem dX6_isMeeting_37 : decode cX6_isMeeting 37 = .ok (.goto 4, 3) := by decide +kernel
theorem dX6_isMeeting_40 : decode cX6_isMeeting 40 = .ok (.iconst 0, 1) := by decide +kernel
theorem dX6_isMeeting_41 : decode cX6_isMeeting 41 = .ok (.ireturn, 1) := by decide +kernel
set_option maxRecDepth 20000 in
theorem ggX6_arrive_X2_indexOf : GoodIn wsX6_arrive wsX2_indexOf := goodIn_r _ [7, 8, 201, 202, 203, 204, 205, 206, 207, 208, 209, 210] (by decide +kernel) (by decide +kernel)
set_option maxRecDepth 20000 in
theorem gX6_arrive_X2_indexOf : GoodIn wsX6_arrive (wsV RX6 103 RX2 yX2_indexOf wsX2_indexOf) := goodIn_app (goodIn_of _ (by decide +kernel)) ggX6_arrive_X2_indexOf
set_option maxRecDepth 20000 in
theorem ggX6_arrive_X2_kindOf : GoodIn wsX6_arrive wsX2_kindOf := goodIn_r _ [12, 13, 201, 202, 203, 204, 205, 206, 207, 208, 209, 210] (by decide +kernel) (by decide +kernel)
set_option maxRecDepth 20000 in
theorem gX6_arrive_X2_kindOf : GoodIn wsX6_arrive (wsV RX6 97 RX2 yX2_kindOf wsX2_kindOf) := goodIn_app (goodIn_of _ (by decide +kernel)) ggX6_arrive_X2_kindOf
set_option maxRecDepth 20000 in
theorem ggX6_arrive_X6_atLambda : GoodIn wsX6_arrive wsX6_atLambda := goodIn_r _ [18, 19, 20, 21, 17, 22, 23, 24, 25, 26, 1, 27, 28, 29, 30, 31, 32, 3, 4, 5, 6, 7, 8, 33, 34, 35, 36, 37, 2, 38, 39, 40, 41, 42, 43, 44, 45, 46, 47, 48, 49, 50, 51, 52, 53, 54, 55, 56, 57, 58, 59, 60, 61, 62, 63, 64, 65, 66, 67, 68, 69, 70, 71, 72, 73, 74, 75, 76, 77, 78, 79, 80, 81, 82, 83, 84, 85, 86, 87, 88, 89, 90, 91, 185, 186, 187, 188, 189, 190, 191, 192, 193, 194, 195, 196, 197, 198, 199, 200, 201, 202, 203, 204, 205, 206, 207, 208, 209, 210, 211, 212, 213, 214, 215, 216, 217, 218] (by decide +kernel) (by decide +kernel)
set_option maxRecDepth 20000 in
theorem gX6_arrive_X6_atLambda : GoodIn wsX6_arrive (wsV RX6 106 RX6 yX6_atLambda wsX6_atLambda) := goodIn_app (goodIn_of _ (by decide +kernel)) ggX6_arrive_X6_atLambda
set_option maxRecDepth 20000 in
theorem ggX6_arrive_X6_readApplication : GoodIn wsX6_arrive wsX6_readApplication := goodIn_r _ [95, 27, 28, 29, 17, 30, 31, 32, 59, 60, 61, 62, 63, 64, 65, 66, 2, 67, 68, 69, 55, 70, 71, 72, 73, 74, 75, 76, 77, 78, 79, 185, 186, 187, 188, 189, 190, 191, 192, 193, 194, 195, 196, 197, 198, 199, 200, 211, 212, 213, 214, 215, 216, 217, 218] (by decide +kernel) (by decide +kernel)
set_option maxRecDepth 20000 in
theorem gX6_arrive_X6_readApplication : GoodIn wsX6_arrive (wsV RX6 109 RX6 yX6_readApplication wsX6_readApplication) := goodIn_app (goodIn_of _ (by decide +kernel)) ggX6_arrive_X6_readApplication
set_option maxRecDepth 20000 in
theorem ggX6_arrive_X1_drop : GoodIn wsX6_arrive wsX1_drop := goodIn_r _ [99, 100, 101, 102, 55, 103, 71, 104, 105, 106, 107, 108, 109, 53, 54, 56, 57, 58, 110, 111, 112, 113, 114, 115, 116, 117, 118, 119, 120, 49, 50, 51, 211, 212, 213, 214, 215, 216, 217, 218, 219, 220, 221, 222, 223, 224] (by decide +kernel) (by decide +kernel)
set_option maxRecDepth 20000 in
theorem gX6_arrive_X1_drop : GoodIn wsX6_arrive (wsV RX6 112 RX1 yX1_drop wsX1_drop) := goodIn_app (goodIn_of _ (by decide +kernel)) ggX6_arrive_X1_drop
set_option maxRecDepth 20000 in
theorem ggX6_arrive_X1_addBox : GoodIn wsX6_arrive wsX1_addBox := goodIn_r _ [124, 100, 101, 102, 55, 103, 71, 104, 105, 106, 107, 108, 109, 53, 54, 56, 57, 58, 110, 111, 112, 113, 114, 115, 125, 126, 127, 128, 120, 49, 50, 51, 129, 130, 131, 132, 211, 212, 213, 214, 215, 216, 217, 218, 219, 220, 221, 222, 223, 224] (by decide +kernel) (by decide +kernel)
set_option maxRecDepth 20000 in
theorem gX6_arrive_X1_addBox : GoodIn wsX6_arrive (wsV RX6 116 RX1 yX1_addBox wsX1_addBox) := goodIn_app (goodIn_of _ (by decide +kernel)) ggX6_arrive_X1_addBox
set_option maxRecDepth 20000 in
theorem ggX6_arrive_X6_leaveBy : GoodIn wsX6_arrive wsX6_leaveBy := goodIn_r _ [75, 76, 77, 78, 79, 185, 186, 187, 188, 189, 190, 191, 192, 193, 194, 195, 196, 197, 198, 199, 200] (by decide +kernel) (by decide +kernel)
set_option maxRecDepth 20000 in
theorem gX6_arrive_X6_leaveBy : GoodIn wsX6_arrive (wsV RX6 119 RX6 yX6_leaveBy wsX6_leaveBy) := goodIn_app (goodIn_of _ (by decide +kernel)) ggX6_arrive_X6_leaveBy
set_option maxRecDepth 20000 in
theorem ggX6_arrive_X6_atBracket : GoodIn wsX6_arrive wsX6_atBracket := goodIn_r _ [136, 2, 137, 138, 139, 55, 140, 108, 109, 53, 54, 56, 57, 58, 141, 142, 143, 113, 144, 115, 145, 100, 101, 102, 103, 71, 104, 105, 106, 107, 110, 111, 112, 114, 146, 147, 148, 149, 150, 129, 130, 131, 132, 151, 152, 153, 154, 155, 125, 126, 127, 128, 120, 49, 50, 51, 72, 73, 74, 17, 75, 76, 77, 78, 79, 156, 157, 158, 159, 160, 161, 162, 163, 164, 165, 166, 167, 168, 169, 170, 171, 172, 116, 117, 118, 119, 185, 186, 187, 188, 189, 190, 191, 192, 193, 194, 195, 196, 197, 198, 199, 200, 211, 212, 213, 214, 215, 216, 217, 218, 219, 220, 221, 222, 223, 224] (by decide +kernel) (by decide +kernel)
set_option maxRecDepth 20000 in
theorem gX6_arrive_X6_atBracket : GoodIn wsX6_arrive (wsV RX6 122 RX6 yX6_atBracket wsX6_atBracket) := goodIn_app (goodIn_of _ (by decide +kernel)) ggX6_arrive_X6_atBracket
set_option maxRecDepth 20000 in
theorem ggX6_arrive_X6_atFan : GoodIn wsX6_arrive wsX6_atFan := goodIn_r _ [176, 2, 177, 178, 179, 55, 180, 108, 109, 53, 54, 56, 57, 58, 141, 142, 143, 113, 144, 115, 145, 100, 101, 102, 103, 71, 104, 105, 106, 107, 110, 111, 112, 114, 146, 147, 148, 149, 150, 129, 130, 131, 132, 72, 73, 74, 17, 75, 76, 77, 78, 79, 181, 182, 183, 184, 160, 161, 162, 163, 164, 155, 165, 166, 167, 168, 169, 170, 171, 172, 185, 186, 187, 188, 189, 190, 191, 192, 193, 194, 195, 196, 197, 198, 199, 200, 211, 212, 213, 214, 215, 216, 217, 218, 219, 220, 221, 222, 223, 224] (by decide +kernel) (by decide +kernel)
set_option maxRecDepth 20000 in
theorem gX6_arrive_X6_atFan : GoodIn wsX6_arrive (wsV RX6 126 RX6 yX6_atFan wsX6_atFan) := goodIn_app (goodIn_of _ (by decide +kernel)) ggX6_arrive_X6_atFan
theorem dX6_arrive_0 : decode cX6_arrive 0 = .ok (.aload_n 0, 1) := by decide +kernel
theorem dX6_arrive_1 : decode cX6_arrive 1 = .ok (.getfield 44, 3) := by decide +kernel
theorem dX6_arrive_4 : decode cX6_arrive 4 = .ok (.iload_n 1, 1) := by decide +kernel
theorem dX6_arrive_5 : decode cX6_arrive 5 = .ok (.invokevirtual 103, 3) := by decide +kernel
theorem dX6_arrive_8 : decode cX6_arrive 8 = .ok (.istore_n 3, 1) := by decide +kernel
theorem dX6_arrive_9 : decode cX6_arrive 9 = .ok (.aload_n 0, 1) := by decide +kernel
theorem dX6_arrive_10 : decode cX6_arrive 10 = .ok (.getfield 44, 3) := by decide +kernel
theorem dX6_arrive_13 : decode cX6_arrive 13 = .ok (.iload_n 1, 1) := by decide +kernel
theorem dX6_arrive_14 : decode cX6_arrive 14 = .ok (.invokevirtual 97, 3) := by decide +kernel
theorem dX6_arrive_17 : decode cX6_arrive 17 = .ok (.tableswitch 105 0 4 #[35, 42, 97, 57, 89], 35) := by decide +kernel
theorem dX6_arrive_52 : decode cX6_arrive 52 = .ok (.aload_n 0, 1) := by decide +kernel
theorem dX6_arrive_53 : decode cX6_arrive 53 = .ok (.iload_n 1, 1) := by decide +kernel
theorem dX6_arrive_54 : decode cX6_arrive 54 = .ok (.iload_n 2, 1) := by decide +kernel
theorem dX6_arrive_55 : decode cX6_arrive 55 = .ok (.invokevirtual 106, 3) := by decide +kernel
theorem dX6_arrive_58 : decode cX6_arrive 58 = .ok (.ireturn, 1) := by decide +kernel
theorem dX6_arrive_59 : decode cX6_arrive 59 = .ok (.iload_n 2, 1) := by decide +kernel
theorem dX6_arrive_60 : decode cX6_arrive 60 = .ok (.iconst 1, 1) := by decide +kernel
theorem dX6_arrive_61 : decode cX6_arrive 61 = .ok (.if_icmp .ne 11, 3) := by decide +kernel
theorem dX6_arrive_64 : decode cX6_arrive 64 = .ok (.aload_n 0, 1) := by decide +kernel
theorem dX6_arrive_65 : decode cX6_arrive 65 = .ok (.iload_n 1, 1) := by decide +kernel
theorem dX6_arrive_66 : decode cX6_arrive 66 = .ok (.invokevirtual 109, 3) := by decide +kernel
theorem dX6_arrive_69 : decode cX6_arrive 69 = .ok (.goto 4, 3) := by decide +kernel
theorem dX6_arrive_72 : decode cX6_arrive 72 = .ok (.iconst 4, 1) := by decide +kernel
theorem dX6_arrive_73 : decode cX6_arrive 73 = .ok (.ireturn, 1) := by decide +kernel
theorem dX6_arrive_74 : decode cX6_arrive 74 = .ok (.iload_n 2, 1) := by decide +kernel
theorem dX6_arrive_75 : decode cX6_arrive 75 = .ok (.ifCond .ne 14, 3) := by decide +kernel
theorem dX6_arrive_78 : decode cX6_arrive 78 = .ok (.aload_n 0, 1) := by decide +kernel
theorem dX6_arrive_79 : decode cX6_arrive 79 = .ok (.getfield 12, 3) := by decide +kernel
theorem dX6_arrive_82 : decode cX6_arrive 82 = .ok (.iload_n 3, 1) := by decide +kernel
theorem dX6_arrive_83 : decode cX6_arrive 83 = .ok (.invokevirtual 112, 3) := by decide +kernel
theorem dX6_arrive_86 : decode cX6_arrive 86 = .ok (.goto 11, 3) := by decide +kernel
theorem dX6_arrive_89 : decode cX6_arrive 89 = .ok (.aload_n 0, 1) := by decide +kernel
theorem dX6_arrive_90 : decode cX6_arrive 90 = .ok (.getfield 12, 3) := by decide +kernel
theorem dX6_arrive_93 : decode cX6_arrive 93 = .ok (.iload_n 3, 1) := by decide +kernel
theorem dX6_arrive_94 : decode cX6_arrive 94 = .ok (.invokevirtual 116, 3) := by decide +kernel
theorem dX6_arrive_97 : decode cX6_arrive 97 = .ok (.aload_n 0, 1) := by decide +kernel
theorem dX6_arrive_98 : decode cX6_arrive 98 = .ok (.iload_n 1, 1) := by decide +kernel
theorem dX6_arrive_99 : decode cX6_arrive 99 = .ok (.iconst 1, 1) := by decide +kernel
theorem dX6_arrive_100 : decode cX6_arrive 100 = .ok (.iload_n 2, 1) := by decide +kernel
theorem dX6_arrive_101 : decode cX6_arrive 101 = .ok (.isub, 1) := by decide +kernel
theorem dX6_arrive_102 : decode cX6_arrive 102 = .ok (.invokevirtual 119, 3) := by decide +kernel
theorem dX6_arrive_105 : decode cX6_arrive 105 = .ok (.ireturn, 1) := by decide +kernel
theorem dX6_arrive_106 : decode cX6_arrive 106 = .ok (.aload_n 0, 1) := by decide +kernel
theorem dX6_arrive_107 : decode cX6_arrive 107 = .ok (.iload_n 1, 1) := by decide +kernel
theorem dX6_arrive_108 : decode cX6_arrive 108 = .ok (.iload_n 3, 1) := by decide +kernel
theorem dX6_arrive_109 : decode cX6_arrive 109 = .ok (.iload_n 2, 1) := by decide +kernel
theorem dX6_arrive_110 : decode cX6_arrive 110 = .ok (.invokevirtual 122, 3) := by decide +kernel
theorem dX6_arrive_113 : decode cX6_arrive 113 = .ok (.ireturn, 1) := by decide +kernel
theorem dX6_arrive_114 : decode cX6_arrive 114 = .ok (.aload_n 0, 1) := by decide +kernel
theorem dX6_arrive_115 : decode cX6_arrive 115 = .ok (.iload_n 1, 1) := by decide +kernel
theorem dX6_arrive_116 : decode cX6_arrive 116 = .ok (.iload_n 3, 1) := by decide +kernel
theorem dX6_arrive_117 : decode cX6_arrive 117 = .ok (.iload_n 2, 1) := by decide +kernel
theorem dX6_arrive_118 : decode cX6_arrive 118 = .ok (.invokevirtual 126, 3) := by decide +kernel
theorem dX6_arrive_121 : decode cX6_arrive 121 = .ok (.ireturn, 1) := by decide +kernel
theorem dX6_arrive_122 : decode cX6_arrive 122 = .ok (.iconst 4, 1) := by decide +kernel
theorem dX6_arrive_123 : decode cX6_arrive 123 = .ok (.ireturn, 1) := by decide +kernel
set_option maxRecDepth 20000 in
theorem ggX6_leaveBy_X7_portOf : GoodIn wsX6_leaveBy wsX7_portOf := goodIn_r _ [4] (by decide +kernel) (by decide +kernel)
set_option maxRecDepth 20000 in
theorem gX6_leaveBy_X7_portOf_n67 : GoodIn wsX6_leaveBy (wsX7_portOf) := ggX6_leaveBy_X7_portOf
theorem dX6_leaveBy_0 : decode cX6_leaveBy 0 = .ok (.aload_n 0, 1) := by decide +kernel
theorem dX6_leaveBy_1 : decode cX6_leaveBy 1 = .ok (.iload_n 1, 1) := by decide +kernel
theorem dX6_leaveBy_2 : decode cX6_leaveBy 2 = .ok (.iload_n 2, 1) := by decide +kernel
theorem dX6_leaveBy_3 : decode cX6_leaveBy 3 = .ok (.invokestatic 67, 3) := by decide +kernel
theorem dX6_leaveBy_6 : decode cX6_leaveBy 6 = .ok (.putfield 71, 3) := by decide +kernel
theorem dX6_leaveBy_9 : decode cX6_leaveBy 9 = .ok (.bipush 6, 2) := by decide +kernel
theorem dX6_leaveBy_11 : decode cX6_leaveBy 11 = .ok (.ireturn, 1) := by decide +kernel
set_option maxRecDepth 20000 in
theorem ggX6_atBracket_X1_split : GoodIn wsX6_atBracket wsX1_split := goodIn_r _ [6, 7, 8, 9, 10, 5, 11, 12, 13, 14, 15, 16, 17, 18, 19, 20, 21, 22, 23, 24, 25, 26, 27, 28, 29, 30, 31, 32, 33, 34, 35, 36, 37, 38, 39, 40, 41, 42, 43, 44, 45, 46, 47, 48, 49, 50, 51, 52, 53, 54, 55, 102, 103, 104, 105, 106, 107, 108, 109, 110, 111, 112, 113, 114, 115] (by decide +kernel) (by decide +kernel)
set_option maxRecDepth 20000 in
theorem gX6_atBracket_X1_split : GoodIn wsX6_atBracket (wsV RX6 129 RX1 yX1_split wsX1_split) := goodIn_app (goodIn_of _ (by decide +kernel)) ggX6_atBracket_X1_split
set_option maxRecDepth 20000 in
theorem ggX6_atBracket_X6_leaveBy : GoodIn wsX6_atBracket wsX6_leaveBy := goodIn_r _ [60, 61, 62, 63, 64, 86, 87, 88, 89, 90, 91, 92, 93, 94, 95, 96, 97, 98, 99, 100, 101] (by decide +kernel) (by decide +kernel)
set_option maxRecDepth 20000 in
theorem gX6_atBracket_X6_leaveBy : GoodIn wsX6_atBracket (wsV RX6 119 RX6 yX6_leaveBy wsX6_leaveBy) := goodIn_app (goodIn_of _ (by decide +kernel)) ggX6_atBracket_X6_leaveBy
set_option maxRecDepth 20000 in
theorem ggX6_atBracket_X1_pairUp : GoodIn wsX6_atBracket wsX1_pairUp := goodIn_r _ [68, 7, 21, 22, 23, 5, 24, 25, 26, 27, 28, 29, 8, 9, 10, 11, 12, 13, 30, 31, 32, 17, 33, 19, 69, 70, 71, 72, 73, 20, 38, 47, 74, 75, 76, 77, 78, 79, 80, 81, 39, 40, 41, 42, 82, 83, 84, 85, 52, 53, 54, 55, 102, 103, 104, 105, 106, 107, 108, 109, 110, 111, 112, 113, 114, 115] (by decide +kernel) (by decide +kernel)
set_option maxRecDepth 20000 in
theorem gX6_atBracket_X1_pairUp : GoodIn wsX6_atBracket (wsV RX6 132 RX1 yX1_pairUp wsX1_pairUp) := goodIn_app (goodIn_of _ (by decide +kernel)) ggX6_atBracket_X1_pairUp
theorem dX6_atBracket_0 : decode cX6_atBracket 0 = .ok (.iload_n 3, 1) := by decide +kernel
theorem dX6_atBracket_1 : decode cX6_atBracket 1 = .ok (.ifCond .ne 25, 3) := by decide +kernel
theorem dX6_atBracket_4 : decode cX6_atBracket 4 = .ok (.aload_n 0, 1) := by decide +kernel
theorem dX6_atBracket_5 : decode cX6_atBracket 5 = .ok (.getfield 12, 3) := by decide +kernel
theorem dX6_atBracket_8 : decode cX6_atBracket 8 = .ok (.iload_n 2, 1) := by decide +kernel
theorem dX6_atBracket_9 : decode cX6_atBracket 9 = .ok (.invokevirtual 129, 3) := by decide +kernel
theorem dX6_atBracket_12 : decode cX6_atBracket 12 = .ok (.ifCond .eq 12, 3) := by decide +kernel
theorem dX6_atBracket_15 : decode cX6_atBracket 15 = .ok (.aload_n 0, 1) := by decide +kernel
theorem dX6_atBracket_16 : decode cX6_atBracket 16 = .ok (.iload_n 1, 1) := by decide +kernel
theorem dX6_atBracket_17 : decode cX6_atBracket 17 = .ok (.iconst 1, 1) := by decide +kernel
theorem dX6_atBracket_18 : decode cX6_atBracket 18 = .ok (.invokevirtual 119, 3) := by decide +kernel
theorem dX6_atBracket_21 : decode cX6_atBracket 21 = .ok (.goto 4, 3) := by decide +kernel
theorem dX6_atBracket_24 : decode cX6_atBracket 24 = .ok (.iconst 4, 1) := by decide +kernel
theorem dX6_atBracket_25 : decode cX6_atBracket 25 = .ok (.ireturn, 1) := by decide +kernel
theorem dX6_atBracket_26 : decode cX6_atBracket 26 = .ok (.aload_n 0, 1) := by decide +kernel
theorem dX6_atBracket_27 : decode cX6_atBracket 27 = .ok (.getfield 12, 3) := by decide +kernel
theorem dX6_atBracket_30 : decode cX6_atBracket 30 = .ok (.iload_n 2, 1) := by decide +kernel
theorem dX6_atBracket_31 : decode cX6_atBracket 31 = .ok (.invokevirtual 132, 3) := by decide +kernel
theorem dX6_atBracket_34 : decode cX6_atBracket 34 = .ok (.aload_n 0, 1) := by decide +kernel
theorem dX6_atBracket_35 : decode cX6_atBracket 35 = .ok (.iload_n 1, 1) := by decide +kernel
theorem dX6_atBracket_36 : decode cX6_atBracket 36 = .ok (.iconst 0, 1) := by decide +kernel
theorem dX6_atBracket_37 : decode cX6_atBracket 37 = .ok (.invokevirtual 119, 3) := by decide +kernel
theorem dX6_atBracket_40 : decode cX6_atBracket 40 = .ok (.ireturn, 1) := by decide +kernel
set_option maxRecDepth 20000 in
theorem ggX6_atFan_X1_leaveFan : GoodIn wsX6_atFan wsX1_leaveFan := goodIn_r _ [6, 7, 8, 9, 10, 5, 11, 12, 13, 14, 15, 16, 17, 18, 19, 20, 21, 22, 23, 24, 25, 26, 27, 28, 29, 30, 31, 32, 33, 34, 35, 36, 37, 38, 39, 40, 41, 42, 86, 87, 88, 89, 90, 91, 92, 93, 94, 95, 96, 97, 98, 99] (by decide +kernel) (by decide +kernel)
set_option maxRecDepth 20000 in
theorem gX6_atFan_X1_leaveFan : GoodIn wsX6_atFan (wsV RX6 135 RX1 yX1_leaveFan wsX1_leaveFan) := goodIn_app (goodIn_of _ (by decide +kernel)) ggX6_atFan_X1_leaveFan
set_option maxRecDepth 20000 in
theorem ggX6_atFan_X6_leaveBy : GoodIn wsX6_atFan wsX6_leaveBy := goodIn_r _ [47, 48, 49, 50, 51, 70, 71, 72, 73, 74, 75, 76, 77, 78, 79, 80, 81, 82, 83, 84, 85] (by decide +kernel) (by decide +kernel)
set_option maxRecDepth 20000 in
theorem gX6_atFan_X6_leaveBy : GoodIn wsX6_atFan (wsV RX6 119 RX6 yX6_leaveBy wsX6_leaveBy) := goodIn_app (goodIn_of _ (by decide +kernel)) ggX6_atFan_X6_leaveBy
set_option maxRecDepth 20000 in
theorem ggX6_atFan_X1_enterFan : GoodIn wsX6_atFan wsX1_enterFan := goodIn_r _ [55, 7, 21, 22, 23, 5, 24, 25, 26, 27, 28, 29, 8, 9, 10, 11, 12, 13, 30, 31, 32, 17, 33, 19, 56, 57, 58, 59, 60, 20, 38, 61, 62, 63, 64, 65, 66, 67, 68, 69, 39, 40, 41, 42, 86, 87, 88, 89, 90, 91, 92, 93, 94, 95, 96, 97, 98, 99] (by decide +kernel) (by decide +kernel)
set_option maxRecDepth 20000 in
theorem gX6_atFan_X1_enterFan : GoodIn wsX6_atFan (wsV RX6 138 RX1 yX1_enterFan wsX1_enterFan) := goodIn_app (goodIn_of _ (by decide +kernel)) ggX6_atFan_X1_enterFan
theorem dX6_atFan_0 : decode cX6_atFan 0 = .ok (.iload_n 3, 1) := by decide +kernel
theorem dX6_atFan_1 : decode cX6_atFan 1 = .ok (.ifCond .ne 31, 3) := by decide +kernel
theorem dX6_atFan_4 : decode cX6_atFan 4 = .ok (.aload_n 0, 1) := by decide +kernel
theorem dX6_atFan_5 : decode cX6_atFan 5 = .ok (.getfield 12, 3) := by decide +kernel
theorem dX6_atFan_8 : decode cX6_atFan 8 = .ok (.iload_n 2, 1) := by decide +kernel
theorem dX6_atFan_9 : decode cX6_atFan 9 = .ok (.invokevirtual 135, 3) := by decide +kernel
theorem dX6_atFan_12 : decode cX6_atFan 12 = .ok (.istore 4, 2) := by decide +kernel
theorem dX6_atFan_14 : decode cX6_atFan 14 = .ok (.iload 4, 2) := by decide +kernel
theorem dX6_atFan_16 : decode cX6_atFan 16 = .ok (.iconst (-1), 1) := by decide +kernel
theorem dX6_atFan_17 : decode cX6_atFan 17 = .ok (.if_icmp .ne 7, 3) := by decide +kernel
theorem dX6_atFan_20 : decode cX6_atFan 20 = .ok (.iconst 4, 1) := by decide +kernel
theorem dX6_atFan_21 : decode cX6_atFan 21 = .ok (.goto 10, 3) := by decide +kernel
theorem dX6_atFan_24 : decode cX6_atFan 24 = .ok (.aload_n 0, 1) := by decide +kernel
theorem dX6_atFan_25 : decode cX6_atFan 25 = .ok (.iload_n 1, 1) := by decide +kernel
theorem dX6_atFan_26 : decode cX6_atFan 26 = .ok (.iload 4, 2) := by decide +kernel
theorem dX6_atFan_28 : decode cX6_atFan 28 = .ok (.invokevirtual 119, 3) := by decide +kernel
theorem dX6_atFan_31 : decode cX6_atFan 31 = .ok (.ireturn, 1) := by decide +kernel
theorem dX6_atFan_32 : decode cX6_atFan 32 = .ok (.aload_n 0, 1) := by decide +kernel
theorem dX6_atFan_33 : decode cX6_atFan 33 = .ok (.getfield 12, 3) := by decide +kernel
theorem dX6_atFan_36 : decode cX6_atFan 36 = .ok (.iload_n 2, 1) := by decide +kernel
theorem dX6_atFan_37 : decode cX6_atFan 37 = .ok (.iload_n 3, 1) := by decide +kernel
theorem dX6_atFan_38 : decode cX6_atFan 38 = .ok (.invokevirtual 138, 3) := by decide +kernel
theorem dX6_atFan_41 : decode cX6_atFan 41 = .ok (.aload_n 0, 1) := by decide +kernel
theorem dX6_atFan_42 : decode cX6_atFan 42 = .ok (.iload_n 1, 1) := by decide +kernel
theorem dX6_atFan_43 : decode cX6_atFan 43 = .ok (.iconst 0, 1) := by decide +kernel
theorem dX6_atFan_44 : decode cX6_atFan 44 = .ok (.invokevirtual 119, 3) := by decide +kernel
theorem dX6_atFan_47 : decode cX6_atFan 47 = .ok (.ireturn, 1) := by decide +kernel
set_option maxRecDepth 20000 in
theorem ggX6_atLambda_X6_readAbstraction : GoodIn wsX6_atLambda wsX6_readAbstraction := goodIn_r _ [5, 6, 7, 8, 9, 10, 11, 12, 13, 4, 14, 15, 16, 17, 18, 19, 20, 21, 22, 23, 24, 25, 26, 27, 28, 29, 30, 31, 32, 33, 34, 35, 36, 37, 38, 39, 40, 41, 42, 43, 44, 45, 46, 47, 48, 49, 50, 51, 52, 53, 54, 55, 56, 57, 58, 59, 60, 61, 62, 63, 64, 65, 66, 67, 68, 69, 70, 83, 84, 85, 86, 87, 88, 89, 90, 91, 92, 93, 94, 95, 96, 97, 98, 99, 100, 101, 102, 103, 104, 105, 106, 107, 108, 109, 110, 111, 112, 113, 114, 115, 116] (by decide +kernel) (by decide +kernel)
set_option maxRecDepth 20000 in
theorem gX6_atLambda_X6_readAbstraction : GoodIn wsX6_atLambda (wsV RX6 142 RX6 yX6_readAbstraction wsX6_readAbstraction) := goodIn_app (goodIn_of _ (by decide +kernel)) ggX6_atLambda_X6_readAbstraction
set_option maxRecDepth 20000 in
theorem ggX6_atLambda_X6_readVariable : GoodIn wsX6_atLambda wsX6_readVariable := goodIn_r _ [74, 10, 6, 7, 8, 17, 18, 19, 20, 21, 22, 75, 76, 77, 4, 78, 27, 28, 43, 44, 45, 46, 47, 48, 49, 79, 80, 81, 82, 11, 12, 13, 14, 15, 16, 83, 84, 85, 86, 87, 88, 89, 90, 91, 92, 93, 94, 95, 96, 97, 98, 99, 100, 101, 102, 103, 104, 105, 106, 107, 108, 109, 110, 111, 112, 113, 114, 115, 116] (by decide +kernel) (by decide +kernel)
set_option maxRecDepth 20000 in
theorem gX6_atLambda_X6_readVariable : GoodIn wsX6_atLambda (wsV RX6 145 RX6 yX6_readVariable wsX6_readVariable) := goodIn_app (goodIn_of _ (by decide +kernel)) ggX6_atLambda_X6_readVariable
theorem dX6_atLambda_0 : decode cX6_atLambda 0 = .ok (.iload_n 2, 1) := by decide +kernel
theorem dX6_atLambda_1 : decode cX6_atLambda 1 = .ok (.lookupswitch 39 #[(0, 27), (2, 33)], 27) := by decide +kernel
theorem dX6_atLambda_28 : decode cX6_atLambda 28 = .ok (.aload_n 0, 1) := by decide +kernel
theorem dX6_atLambda_29 : decode cX6_atLambda 29 = .ok (.iload_n 1, 1) := by decide +kernel
theorem dX6_atLambda_30 : decode cX6_atLambda 30 = .ok (.invokevirtual 142, 3) := by decide +kernel
theorem dX6_atLambda_33 : decode cX6_atLambda 33 = .ok (.ireturn, 1) := by decide +kernel
theorem dX6_atLambda_34 : decode cX6_atLambda 34 = .ok (.aload_n 0, 1) := by decide +kernel
theorem dX6_atLambda_35 : decode cX6_atLambda 35 = .ok (.iload_n 1, 1) := by decide +kernel
theorem dX6_atLambda_36 : decode cX6_atLambda 36 = .ok (.invokevirtual 145, 3) := by decide +kernel
theorem dX6_atLambda_39 : decode cX6_atLambda 39 = .ok (.ireturn, 1) := by decide +kernel
theorem dX6_atLambda_40 : decode cX6_atLambda 40 = .ok (.iconst 4, 1) := by decide +kernel
theorem dX6_atLambda_41 : decode cX6_atLambda 41 = .ok (.ireturn, 1) := by decide +kernel
set_option maxRecDepth 20000 in
theorem ggX6_readAbstraction_X6_tell : GoodIn wsX6_readAbstraction wsX6_tell := goodIn_r _ [10, 11, 12, 67, 68, 69, 70, 71, 72, 73, 74, 75, 76, 77, 78, 79, 80, 81, 82] (by decide +kernel) (by decide +kernel)
set_option maxRecDepth 20000 in
theorem gX6_readAbstraction_X6_tell : GoodIn wsX6_readAbstraction (wsV RX6 148 RX6 yX6_tell wsX6_tell) := goodIn_app (goodIn_of _ (by decide +kernel)) ggX6_readAbstraction_X6_tell
set_option maxRecDepth 20000 in
theorem ggX6_readAbstraction_X2_indexOf : GoodIn wsX6_readAbstraction wsX2_indexOf := goodIn_r _ [17, 18, 83, 84, 85, 86, 87, 88, 89, 90, 91, 92] (by decide +kernel) (by decide +kernel)
set_option maxRecDepth 20000 in
theorem gX6_readAbstraction_X2_indexOf : GoodIn wsX6_readAbstraction (wsV RX6 103 RX2 yX2_indexOf wsX2_indexOf) := goodIn_app (goodIn_of _ (by decide +kernel)) ggX6_readAbstraction_X2_indexOf
set_option maxRecDepth 20000 in
theorem ggX6_readAbstraction_X6_keepLevels : GoodIn wsX6_readAbstraction wsX6_keepLevels := goodIn_r _ [22, 4, 23, 24, 25, 26, 27, 9, 28, 29, 30, 31, 32, 33, 34, 35, 36, 37, 38, 39, 40, 41, 42, 43, 44, 45, 67, 68, 69, 70, 71, 72, 73, 74, 75, 76, 77, 78, 79, 80, 81, 82, 93, 94, 95, 96, 97, 98, 99, 100] (by decide +kernel) (by decide +kernel)
set_option maxRecDepth 20000 in
theorem gX6_readAbstraction_X6_keepLevels : GoodIn wsX6_readAbstraction (wsV RX6 152 RX6 yX6_keepLevels wsX6_keepLevels) := goodIn_app (goodIn_of _ (by decide +kernel)) ggX6_readAbstraction_X6_keepLevels
set_option maxRecDepth 20000 in
theorem ggX6_readAbstraction_X6_push : GoodIn wsX6_readAbstraction wsX6_push := goodIn_r _ [49, 50, 51, 52, 53, 24, 54, 55, 56, 42, 57, 58, 67, 68, 69, 70, 71, 72, 73, 74, 75, 76, 77, 78, 79, 80, 81, 82, 93, 94, 95, 96, 97, 98, 99, 100] (by decide +kernel) (by decide +kernel)
set_option maxRecDepth 20000 in
theorem gX6_readAbstraction_X6_push : GoodIn wsX6_readAbstraction (wsV RX6 155 RX6 yX6_push wsX6_push) := goodIn_app (goodIn_of _ (by decide +kernel)) ggX6_readAbstraction_X6_push
set_option maxRecDepth 20000 in
theorem ggX6_readAbstraction_X6_leaveBy : GoodIn wsX6_readAbstraction wsX6_leaveBy := goodIn_r _ [62, 63, 64, 65, 66, 67, 68, 69, 70, 71, 72, 73, 74, 75, 76, 77, 78, 79, 80, 81, 82] (by decide +kernel) (by decide +kernel)
set_option maxRecDepth 20000 in
theorem gX6_readAbstraction_X6_leaveBy : GoodIn wsX6_readAbstraction (wsV RX6 119 RX6 yX6_leaveBy wsX6_leaveBy) := goodIn_app (goodIn_of _ (by decide +kernel)) ggX6_readAbstraction_X6_leaveBy
theorem dX6_readAbstraction_0 : decode cX6_readAbstraction 0 = .ok (.aload_n 0, 1) := by decide +kernel
theorem dX6_readAbstraction_1 : decode cX6_readAbstraction 1 = .ok (.bipush 92, 2) := by decide +kernel
theorem dX6_readAbstraction_3 : decode cX6_readAbstraction 3 = .ok (.invokevirtual 148, 3) := by decide +kernel
theorem dX6_readAbstraction_6 : decode cX6_readAbstraction 6 = .ok (.ifCond .eq 13, 3) := by decide +kernel
theorem dX6_readAbstraction_9 : decode cX6_readAbstraction 9 = .ok (.aload_n 0, 1) := by decide +kernel
theorem dX6_readAbstraction_10 : decode cX6_readAbstraction 10 = .ok (.getfield 61, 3) := by decide +kernel
theorem dX6_readAbstraction_13 : decode cX6_readAbstraction 13 = .ok (.sipush 4000, 3) := by decide +kernel
theorem dX6_readAbstraction_16 : decode cX6_readAbstraction 16 = .ok (.if_icmp .lt 5, 3) := by decide +kernel
theorem dX6_readAbstraction_19 : decode cX6_readAbstraction 19 = .ok (.iconst 3, 1) := by decide +kernel
theorem dX6_readAbstraction_20 : decode cX6_readAbstraction 20 = .ok (.ireturn, 1) := by decide +kernel
theorem dX6_readAbstraction_21 : decode cX6_readAbstraction 21 = .ok (.aload_n 0, 1) := by decide +kernel
theorem dX6_readAbstraction_22 : decode cX6_readAbstraction 22 = .ok (.getfield 35, 3) := by decide +kernel
theorem dX6_readAbstraction_25 : decode cX6_readAbstraction 25 = .ok (.aload_n 0, 1) := by decide +kernel
theorem dX6_readAbstraction_26 : decode cX6_readAbstraction 26 = .ok (.getfield 61, 3) := by decide +kernel
theorem dX6_readAbstraction_29 : decode cX6_readAbstraction 29 = .ok (.iload_n 1, 1) := by decide +kernel
theorem dX6_readAbstraction_30 : decode cX6_readAbstraction 30 = .ok (.iastore, 1) := by decide +kernel
theorem dX6_readAbstraction_31 : decode cX6_readAbstraction 31 = .ok (.aload_n 0, 1) := by decide +kernel
theorem dX6_readAbstraction_32 : decode cX6_readAbstraction 32 = .ok (.getfield 38, 3) := by decide +kernel
theorem dX6_readAbstraction_35 : decode cX6_readAbstraction 35 = .ok (.aload_n 0, 1) := by decide +kernel
theorem dX6_readAbstraction_36 : decode cX6_readAbstraction 36 = .ok (.getfield 61, 3) := by decide +kernel
theorem dX6_readAbstraction_39 : decode cX6_readAbstraction 39 = .ok (.aload_n 0, 1) := by decide +kernel
theorem dX6_readAbstraction_40 : decode cX6_readAbstraction 40 = .ok (.getfield 64, 3) := by decide +kernel
theorem dX6_readAbstraction_43 : decode cX6_readAbstraction 43 = .ok (.iastore, 1) := by decide +kernel
theorem dX6_readAbstraction_44 : decode cX6_readAbstraction 44 = .ok (.aload_n 0, 1) := by decide +kernel
theorem dX6_readAbstraction_45 : decode cX6_readAbstraction 45 = .ok (.dup, 1) := by decide +kernel
theorem dX6_readAbstraction_46 : decode cX6_readAbstraction 46 = .ok (.getfield 61, 3) := by decide +kernel
theorem dX6_readAbstraction_49 : decode cX6_readAbstraction 49 = .ok (.iconst 1, 1) := by decide +kernel
theorem dX6_readAbstraction_50 : decode cX6_readAbstraction 50 = .ok (.iadd, 1) := by decide +kernel
theorem dX6_readAbstraction_51 : decode cX6_readAbstraction 51 = .ok (.putfield 61, 3) := by decide +kernel
theorem dX6_readAbstraction_54 : decode cX6_readAbstraction 54 = .ok (.aload_n 0, 1) := by decide +kernel
theorem dX6_readAbstraction_55 : decode cX6_readAbstraction 55 = .ok (.aload_n 0, 1) := by decide +kernel
theorem dX6_readAbstraction_56 : decode cX6_readAbstraction 56 = .ok (.getfield 44, 3) := by decide +kernel
theorem dX6_readAbstraction_59 : decode cX6_readAbstraction 59 = .ok (.iload_n 1, 1) := by decide +kernel
theorem dX6_readAbstraction_60 : decode cX6_readAbstraction 60 = .ok (.invokevirtual 103, 3) := by decide +kernel
theorem dX6_readAbstraction_63 : decode cX6_readAbstraction 63 = .ok (.invokevirtual 152, 3) := by decide +kernel
theorem dX6_readAbstraction_66 : decode cX6_readAbstraction 66 = .ok (.aload_n 0, 1) := by decide +kernel
theorem dX6_readAbstraction_67 : decode cX6_readAbstraction 67 = .ok (.iconst 0, 1) := by decide +kernel
theorem dX6_readAbstraction_68 : decode cX6_readAbstraction 68 = .ok (.iload_n 1, 1) := by decide +kernel
theorem dX6_readAbstraction_69 : decode cX6_readAbstraction 69 = .ok (.invokevirtual 155, 3) := by decide +kernel
theorem dX6_readAbstraction_72 : decode cX6_readAbstraction 72 = .ok (.aload_n 0, 1) := by decide +kernel
theorem dX6_readAbstraction_73 : decode cX6_readAbstraction 73 = .ok (.iload_n 1, 1) := by decide +kernel
theorem dX6_readAbstraction_74 : decode cX6_readAbstraction 74 = .ok (.iconst 1, 1) := by decide +kernel
theorem dX6_readAbstraction_75 : decode cX6_readAbstraction 75 = .ok (.invokevirtual 119, 3) := by decide +kernel
theorem dX6_readAbstraction_78 : decode cX6_readAbstraction 78 = .ok (.ireturn, 1) := by decide +kernel
set_option maxRecDepth 20000 in
theorem ggX6_readApplication_X6_tell : GoodIn wsX6_readApplication wsX6_tell := goodIn_r _ [5, 6, 7, 31, 32, 33, 34, 35, 36, 37, 38, 39, 40, 41, 42, 43, 44, 45, 46] (by decide +kernel) (by decide +kernel)
set_option maxRecDepth 20000 in
theorem gX6_readApplication_X6_tell : GoodIn wsX6_readApplication (wsV RX6 148 RX6 yX6_tell wsX6_tell) := goodIn_app (goodIn_of _ (by decide +kernel)) ggX6_readApplication_X6_tell
set_option maxRecDepth 20000 in
theorem ggX6_readApplication_X6_push : GoodIn wsX6_readApplication wsX6_push := goodIn_r _ [11, 12, 13, 14, 15, 16, 17, 18, 19, 20, 21, 22, 31, 32, 33, 34, 35, 36, 37, 38, 39, 40, 41, 42, 43, 44, 45, 46, 47, 48, 49, 50, 51, 52, 53, 54] (by decide +kernel) (by decide +kernel)
set_option maxRecDepth 20000 in
theorem gX6_readApplication_X6_push : GoodIn wsX6_readApplication (wsV RX6 155 RX6 yX6_push wsX6_push) := goodIn_app (goodIn_of _ (by decide +kernel)) ggX6_readApplication_X6_push
set_option maxRecDepth 20000 in
theorem ggX6_readApplication_X6_leaveBy : GoodIn wsX6_readApplication wsX6_leaveBy := goodIn_r _ [26, 27, 28, 29, 30, 31, 32, 33, 34, 35, 36, 37, 38, 39, 40, 41, 42, 43, 44, 45, 46] (by decide +kernel) (by decide +kernel)
set_option maxRecDepth 20000 in
theorem gX6_readApplication_X6_leaveBy : GoodIn wsX6_readApplication (wsV RX6 119 RX6 yX6_leaveBy wsX6_leaveBy) := goodIn_app (goodIn_of _ (by decide +kernel)) ggX6_readApplication_X6_leaveBy
theorem dX6_readApplication_0 : decode cX6_readApplication 0 = .ok (.aload_n 0, 1) := by decide +kernel
theorem dX6_readApplication_1 : decode cX6_readApplication 1 = .ok (.bipush 40, 2) := by decide +kernel
theorem dX6_readApplication_3 : decode cX6_readApplication 3 = .ok (.invokevirtual 148, 3) := by decide +kernel
theorem dX6_readApplication_6 : decode cX6_readApplication 6 = .ok (.ifCond .ne 5, 3) := by decide +kernel
theorem dX6_readApplication_9 : decode cX6_readApplication 9 = .ok (.iconst 3, 1) := by decide +kernel
theorem dX6_readApplication_10 : decode cX6_readApplication 10 = .ok (.ireturn, 1) := by decide +kernel
theorem dX6_readApplication_11 : decode cX6_readApplication 11 = .ok (.aload_n 0, 1) := by decide +kernel
theorem dX6_readApplication_12 : decode cX6_readApplication 12 = .ok (.iconst 1, 1) := by decide +kernel
theorem dX6_readApplication_13 : decode cX6_readApplication 13 = .ok (.iload_n 1, 1) := by decide +kernel
theorem dX6_readApplication_14 : decode cX6_readApplication 14 = .ok (.invokevirtual 155, 3) := by decide +kernel
theorem dX6_readApplication_17 : decode cX6_readApplication 17 = .ok (.aload_n 0, 1) := by decide +kernel
theorem dX6_readApplication_18 : decode cX6_readApplication 18 = .ok (.iload_n 1, 1) := by decide +kernel
theorem dX6_readApplication_19 : decode cX6_readApplication 19 = .ok (.iconst 0, 1) := by decide +kernel
theorem dX6_readApplication_20 : decode cX6_readApplication 20 = .ok (.invokevirtual 119, 3) := by decide +kernel
theorem dX6_readApplication_23 : decode cX6_readApplication 23 = .ok (.ireturn, 1) := by decide +kernel
set_option maxRecDepth 20000 in
theorem ggX6_readVariable_X2_indexOf : GoodIn wsX6_readVariable wsX2_indexOf := goodIn_r _ [9, 10, 51, 52, 53, 54, 55, 56, 57, 58, 59, 60] (by decide +kernel) (by decide +kernel)
set_option maxRecDepth 20000 in
theorem gX6_readVariable_X2_indexOf : GoodIn wsX6_readVariable (wsV RX6 103 RX2 yX2_indexOf wsX2_indexOf) := goodIn_app (goodIn_of _ (by decide +kernel)) ggX6_readVariable_X2_indexOf
set_option maxRecDepth 20000 in
theorem ggX6_readVariable_X6_hasLevels : GoodIn wsX6_readVariable wsX6_hasLevels := goodIn_r _ [15, 16, 17, 18, 19, 20, 21, 22, 23, 24, 35, 36, 37, 38, 39, 40, 41, 42, 43, 44, 45, 46, 47, 48, 49, 50, 61, 62, 63, 64, 65, 66, 67, 68] (by decide +kernel) (by decide +kernel)
set_option maxRecDepth 20000 in
theorem gX6_readVariable_X6_hasLevels : GoodIn wsX6_readVariable (wsV RX6 158 RX6 yX6_hasLevels wsX6_hasLevels) := goodIn_app (goodIn_of _ (by decide +kernel)) ggX6_readVariable_X6_hasLevels
set_option maxRecDepth 20000 in
theorem ggX6_readVariable_X6_tellNumber : GoodIn wsX6_readVariable wsX6_tellNumber := goodIn_r _ [28, 29, 30, 31, 14, 32, 33, 34, 35, 36, 37, 38, 39, 40, 41, 42, 43, 44, 45, 46, 47, 48, 49, 50] (by decide +kernel) (by decide +kernel)
set_option maxRecDepth 20000 in
theorem gX6_readVariable_X6_tellNumber : GoodIn wsX6_readVariable (wsV RX6 162 RX6 yX6_tellNumber wsX6_tellNumber) := goodIn_app (goodIn_of _ (by decide +kernel)) ggX6_readVariable_X6_tellNumber
theorem dX6_readVariable_0 : decode cX6_readVariable 0 = .ok (.aload_n 0, 1) := by decide +kernel
theorem dX6_readVariable_1 : decode cX6_readVariable 1 = .ok (.getfield 44, 3) := by decide +kernel
theorem dX6_readVariable_4 : decode cX6_readVariable 4 = .ok (.iload_n 1, 1) := by decide +kernel
theorem dX6_readVariable_5 : decode cX6_readVariable 5 = .ok (.invokevirtual 103, 3) := by decide +kernel
theorem dX6_readVariable_8 : decode cX6_readVariable 8 = .ok (.istore_n 2, 1) := by decide +kernel
theorem dX6_readVariable_9 : decode cX6_readVariable 9 = .ok (.aload_n 0, 1) := by decide +kernel
theorem dX6_readVariable_10 : decode cX6_readVariable 10 = .ok (.getfield 61, 3) := by decide +kernel
theorem dX6_readVariable_13 : decode cX6_readVariable 13 = .ok (.iconst 1, 1) := by decide +kernel
theorem dX6_readVariable_14 : decode cX6_readVariable 14 = .ok (.isub, 1) := by decide +kernel
theorem dX6_readVariable_15 : decode cX6_readVariable 15 = .ok (.istore_n 3, 1) := by decide +kernel
theorem dX6_readVariable_16 : decode cX6_readVariable 16 = .ok (.iload_n 3, 1) := by decide +kernel
theorem dX6_readVariable_17 : decode cX6_readVariable 17 = .ok (.ifCond .lt 55, 3) := by decide +kernel
theorem dX6_readVariable_20 : decode cX6_readVariable 20 = .ok (.aload_n 0, 1) := by decide +kernel
theorem dX6_readVariable_21 : decode cX6_readVariable 21 = .ok (.getfield 35, 3) := by decide +kernel
theorem dX6_readVariable_24 : decode cX6_readVariable 24 = .ok (.iload_n 3, 1) := by decide +kernel
theorem dX6_readVariable_25 : decode cX6_readVariable 25 = .ok (.iaload, 1) := by decide +kernel
theorem dX6_readVariable_26 : decode cX6_readVariable 26 = .ok (.iload_n 1, 1) := by decide +kernel
theorem dX6_readVariable_27 : decode cX6_readVariable 27 = .ok (.if_icmp .ne 39, 3) := by decide +kernel
theorem dX6_readVariable_30 : decode cX6_readVariable 30 = .ok (.aload_n 0, 1) := by decide +kernel
theorem dX6_readVariable_31 : decode cX6_readVariable 31 = .ok (.aload_n 0, 1) := by decide +kernel
theorem dX6_readVariable_32 : decode cX6_readVariable 32 = .ok (.getfield 38, 3) := by decide +kernel
theorem dX6_readVariable_35 : decode cX6_readVariable 35 = .ok (.iload_n 3, 1) := by decide +kernel
theorem dX6_readVariable_36 : decode cX6_readVariable 36 = .ok (.iaload, 1) := by decide +kernel
theorem dX6_readVariable_37 : decode cX6_readVariable 37 = .ok (.iload_n 2, 1) := by decide +kernel
theorem dX6_readVariable_38 : decode cX6_readVariable 38 = .ok (.invokevirtual 158, 3) := by decide +kernel
theorem dX6_readVariable_41 : decode cX6_readVariable 41 = .ok (.ifCond .eq 25, 3) := by decide +kernel
theorem dX6_readVariable_44 : decode cX6_readVariable 44 = .ok (.aload_n 0, 1) := by decide +kernel
theorem dX6_readVariable_45 : decode cX6_readVariable 45 = .ok (.aload_n 0, 1) := by decide +kernel
theorem dX6_readVariable_46 : decode cX6_readVariable 46 = .ok (.getfield 61, 3) := by decide +kernel
theorem dX6_readVariable_49 : decode cX6_readVariable 49 = .ok (.iconst 1, 1) := by decide +kernel
theorem dX6_readVariable_50 : decode cX6_readVariable 50 = .ok (.isub, 1) := by decide +kernel
theorem dX6_readVariable_51 : decode cX6_readVariable 51 = .ok (.iload_n 3, 1) := by decide +kernel
theorem dX6_readVariable_52 : decode cX6_readVariable 52 = .ok (.isub, 1) := by decide +kernel
theorem dX6_readVariable_53 : decode cX6_readVariable 53 = .ok (.invokevirtual 162, 3) := by decide +kernel
theorem dX6_readVariable_56 : decode cX6_readVariable 56 = .ok (.ifCond .eq 8, 3) := by decide +kernel
theorem dX6_readVariable_59 : decode cX6_readVariable 59 = .ok (.bipush 7, 2) := by decide +kernel
theorem dX6_readVariable_61 : decode cX6_readVariable 61 = .ok (.goto 4, 3) := by decide +kernel
theorem dX6_readVariable_64 : decode cX6_readVariable 64 = .ok (.iconst 3, 1) := by decide +kernel
theorem dX6_readVariable_65 : decode cX6_readVariable 65 = .ok (.ireturn, 1) := by decide +kernel
theorem dX6_readVariable_66 : decode cX6_readVariable 66 = .ok (.iinc 3 (-1), 3) := by decide +kernel
theorem dX6_readVariable_69 : decode cX6_readVariable 69 = .ok (.goto (-53), 3) := by decide +kernel
theorem dX6_readVariable_72 : decode cX6_readVariable 72 = .ok (.iconst 4, 1) := by decide +kernel
theorem dX6_readVariable_73 : decode cX6_readVariable 73 = .ok (.ireturn, 1) := by decide +kernel
set_option maxRecDepth 20000 in
theorem ggX6_endTerm_X1_undoTo : GoodIn wsX6_endTerm wsX1_undoTo := goodIn_r _ [11, 12, 13, 14, 15, 10, 16, 17, 18, 19, 20, 21, 22, 23, 24, 25, 26, 27, 28, 29, 30, 31, 32, 33, 34, 35, 36, 37, 38, 39, 40, 41, 42, 43, 44, 45, 46, 47, 48, 49, 50, 51, 52, 53, 54, 55, 56, 57, 58, 59, 60, 61, 95, 96, 97, 98, 99, 100, 101, 102, 103, 104, 105, 106, 107, 108] (by decide +kernel) (by decide +kernel)
set_option maxRecDepth 20000 in
theorem gX6_endTerm_X1_undoTo : GoodIn wsX6_endTerm (wsV RX6 165 RX1 yX1_undoTo wsX1_undoTo) := goodIn_app (goodIn_of _ (by decide +kernel)) ggX6_endTerm_X1_undoTo
set_option maxRecDepth 20000 in
theorem ggX6_endTerm_X7_portOf : GoodIn wsX6_endTerm wsX7_portOf := goodIn_r _ [64] (by decide +kernel) (by decide +kernel)
set_option maxRecDepth 20000 in
theorem gX6_endTerm_X7_portOf_n67 : GoodIn wsX6_endTerm (wsX7_portOf) := ggX6_endTerm_X7_portOf
set_option maxRecDepth 20000 in
theorem ggX6_endTerm_X6_tell : GoodIn wsX6_endTerm wsX6_tell := goodIn_r _ [69, 70, 71, 79, 80, 81, 82, 83, 84, 85, 86, 87, 88, 89, 90, 91, 92, 93, 94] (by decide +kernel) (by decide +kernel)
set_option maxRecDepth 20000 in
theorem gX6_endTerm_X6_tell : GoodIn wsX6_endTerm (wsV RX6 148 RX6 yX6_tell wsX6_tell) := goodIn_app (goodIn_of _ (by decide +kernel)) ggX6_endTerm_X6_tell
set_option maxRecDepth 20000 in
theorem ggX6_endTerm_X6_forgetBinder : GoodIn wsX6_endTerm wsX6_forgetBinder := goodIn_r _ [75, 76, 77, 78, 79, 80, 81, 82, 83, 84, 85, 86, 87, 88, 89, 90, 91, 92, 93, 94] (by decide +kernel) (by decide +kernel)
set_option maxRecDepth 20000 in
theorem gX6_endTerm_X6_forgetBinder : GoodIn wsX6_endTerm (wsV RX6 168 RX6 yX6_forgetBinder wsX6_forgetBinder) := goodIn_app (goodIn_of _ (by decide +kernel)) ggX6_endTerm_X6_forgetBinder
theorem dX6_endTerm_0 : decode cX6_endTerm 0 = .ok (.aload_n 0, 1) := by decide +kernel
theorem dX6_endTerm_1 : decode cX6_endTerm 1 = .ok (.getfield 58, 3) := by decide +kernel
theorem dX6_endTerm_4 : decode cX6_endTerm 4 = .ok (.iconst 1, 1) := by decide +kernel
theorem dX6_endTerm_5 : decode cX6_endTerm 5 = .ok (.isub, 1) := by decide +kernel
theorem dX6_endTerm_6 : decode cX6_endTerm 6 = .ok (.istore_n 1, 1) := by decide +kernel
theorem dX6_endTerm_7 : decode cX6_endTerm 7 = .ok (.iload_n 1, 1) := by decide +kernel
theorem dX6_endTerm_8 : decode cX6_endTerm 8 = .ok (.ifCond .lt 115, 3) := by decide +kernel
theorem dX6_endTerm_11 : decode cX6_endTerm 11 = .ok (.iload_n 1, 1) := by decide +kernel
theorem dX6_endTerm_12 : decode cX6_endTerm 12 = .ok (.sipush 4000, 3) := by decide +kernel
theorem dX6_endTerm_15 : decode cX6_endTerm 15 = .ok (.if_icmp .ge 108, 3) := by decide +kernel
theorem dX6_endTerm_18 : decode cX6_endTerm 18 = .ok (.aload_n 0, 1) := by decide +kernel
theorem dX6_endTerm_19 : decode cX6_endTerm 19 = .ok (.getfield 26, 3) := by decide +kernel
theorem dX6_endTerm_22 : decode cX6_endTerm 22 = .ok (.iload_n 1, 1) := by decide +kernel
theorem dX6_endTerm_23 : decode cX6_endTerm 23 = .ok (.iaload, 1) := by decide +kernel
theorem dX6_endTerm_24 : decode cX6_endTerm 24 = .ok (.iconst 1, 1) := by decide +kernel
theorem dX6_endTerm_25 : decode cX6_endTerm 25 = .ok (.if_icmp .ne 53, 3) := by decide +kernel
theorem dX6_endTerm_28 : decode cX6_endTerm 28 = .ok (.aload_n 0, 1) := by decide +kernel
theorem dX6_endTerm_29 : decode cX6_endTerm 29 = .ok (.getfield 12, 3) := by decide +kernel
theorem dX6_endTerm_32 : decode cX6_endTerm 32 = .ok (.aload_n 0, 1) := by decide +kernel
theorem dX6_endTerm_33 : decode cX6_endTerm 33 = .ok (.getfield 32, 3) := by decide +kernel
theorem dX6_endTerm_36 : decode cX6_endTerm 36 = .ok (.iload_n 1, 1) := by decide +kernel
theorem dX6_endTerm_37 : decode cX6_endTerm 37 = .ok (.iaload, 1) := by decide +kernel
theorem dX6_endTerm_38 : decode cX6_endTerm 38 = .ok (.invokevirtual 165, 3) := by decide +kernel
theorem dX6_endTerm_41 : decode cX6_endTerm 41 = .ok (.aload_n 0, 1) := by decide +kernel
theorem dX6_endTerm_42 : decode cX6_endTerm 42 = .ok (.getfield 26, 3) := by decide +kernel
theorem dX6_endTerm_45 : decode cX6_endTerm 45 = .ok (.iload_n 1, 1) := by decide +kernel
theorem dX6_endTerm_46 : decode cX6_endTerm 46 = .ok (.iconst 2, 1) := by decide +kernel
theorem dX6_endTerm_47 : decode cX6_endTerm 47 = .ok (.iastore, 1) := by decide +kernel
theorem dX6_endTerm_48 : decode cX6_endTerm 48 = .ok (.aload_n 0, 1) := by decide +kernel
theorem dX6_endTerm_49 : decode cX6_endTerm 49 = .ok (.aload_n 0, 1) := by decide +kernel
theorem dX6_endTerm_50 : decode cX6_endTerm 50 = .ok (.getfield 29, 3) := by decide +kernel
theorem dX6_endTerm_53 : decode cX6_endTerm 53 = .ok (.iload_n 1, 1) := by decide +kernel
theorem dX6_endTerm_54 : decode cX6_endTerm 54 = .ok (.iaload, 1) := by decide +kernel
theorem dX6_endTerm_55 : decode cX6_endTerm 55 = .ok (.iconst 2, 1) := by decide +kernel
theorem dX6_endTerm_56 : decode cX6_endTerm 56 = .ok (.invokestatic 67, 3) := by decide +kernel
theorem dX6_endTerm_59 : decode cX6_endTerm 59 = .ok (.putfield 71, 3) := by decide +kernel
theorem dX6_endTerm_62 : decode cX6_endTerm 62 = .ok (.aload_n 0, 1) := by decide +kernel
theorem dX6_endTerm_63 : decode cX6_endTerm 63 = .ok (.bipush 32, 2) := by decide +kernel
theorem dX6_endTerm_65 : decode cX6_endTerm 65 = .ok (.invokevirtual 148, 3) := by decide +kernel
theorem dX6_endTerm_68 : decode cX6_endTerm 68 = .ok (.ifCond .eq 8, 3) := by decide +kernel
theorem dX6_endTerm_71 : decode cX6_endTerm 71 = .ok (.bipush 6, 2) := by decide +kernel
theorem dX6_endTerm_73 : decode cX6_endTerm 73 = .ok (.goto 4, 3) := by decide +kernel
theorem dX6_endTerm_76 : decode cX6_endTerm 76 = .ok (.iconst 3, 1) := by decide +kernel
theorem dX6_endTerm_77 : decode cX6_endTerm 77 = .ok (.ireturn, 1) := by decide +kernel
theorem dX6_endTerm_78 : decode cX6_endTerm 78 = .ok (.aload_n 0, 1) := by decide +kernel
theorem dX6_endTerm_79 : decode cX6_endTerm 79 = .ok (.getfield 26, 3) := by decide +kernel
theorem dX6_endTerm_82 : decode cX6_endTerm 82 = .ok (.iload_n 1, 1) := by decide +kernel
theorem dX6_endTerm_83 : decode cX6_endTerm 83 = .ok (.iaload, 1) := by decide +kernel
theorem dX6_endTerm_84 : decode cX6_endTerm 84 = .ok (.iconst 2, 1) := by decide +kernel
theorem dX6_endTerm_85 : decode cX6_endTerm 85 = .ok (.if_icmp .ne 14, 3) := by decide +kernel
theorem dX6_endTerm_88 : decode cX6_endTerm 88 = .ok (.aload_n 0, 1) := by decide +kernel
theorem dX6_endTerm_89 : decode cX6_endTerm 89 = .ok (.bipush 41, 2) := by decide +kernel
theorem dX6_endTerm_91 : decode cX6_endTerm 91 = .ok (.invokevirtual 148, 3) := by decide +kernel
theorem dX6_endTerm_94 : decode cX6_endTerm 94 = .ok (.ifCond .ne 5, 3) := by decide +kernel
theorem dX6_endTerm_97 : decode cX6_endTerm 97 = .ok (.iconst 3, 1) := by decide +kernel
theorem dX6_endTerm_98 : decode cX6_endTerm 98 = .ok (.ireturn, 1) := by decide +kernel
theorem dX6_endTerm_99 : decode cX6_endTerm 99 = .ok (.aload_n 0, 1) := by decide +kernel
theorem dX6_endTerm_100 : decode cX6_endTerm 100 = .ok (.getfield 26, 3) := by decide +kernel
theorem dX6_endTerm_103 : decode cX6_endTerm 103 = .ok (.iload_n 1, 1) := by decide +kernel
theorem dX6_endTerm_104 : decode cX6_endTerm 104 = .ok (.iaload, 1) := by decide +kernel
theorem dX6_endTerm_105 : decode cX6_endTerm 105 = .ok (.ifCond .ne 7, 3) := by decide +kernel
theorem dX6_endTerm_108 : decode cX6_endTerm 108 = .ok (.aload_n 0, 1) := by decide +kernel
theorem dX6_endTerm_109 : decode cX6_endTerm 109 = .ok (.invokevirtual 168, 3) := by decide +kernel
theorem dX6_endTerm_112 : decode cX6_endTerm 112 = .ok (.aload_n 0, 1) := by decide +kernel
theorem dX6_endTerm_113 : decode cX6_endTerm 113 = .ok (.iload_n 1, 1) := by decide +kernel
theorem dX6_endTerm_114 : decode cX6_endTerm 114 = .ok (.putfield 58, 3) := by decide +kernel
theorem dX6_endTerm_117 : decode cX6_endTerm 117 = .ok (.iinc 1 (-1), 3) := by decide +kernel
theorem dX6_endTerm_120 : decode cX6_endTerm 120 = .ok (.goto (-113), 3) := by decide +kernel
theorem dX6_endTerm_123 : decode cX6_endTerm 123 = .ok (.iconst 0, 1) := by decide +kernel
theorem dX6_endTerm_124 : decode cX6_endTerm 124 = .ok (.ireturn, 1) := by decide +kernel
set_option maxRecDepth 20000 in
theorem ggX6_push_X1_changes : GoodIn wsX6_push wsX1_changes := goodIn_r _ [10, 11, 28, 29, 30, 31, 32, 33, 34, 35] (by decide +kernel) (by decide +kernel)
set_option maxRecDepth 20000 in
theorem gX6_push_X1_changes : GoodIn wsX6_push (wsV RX6 171 RX1 yX1_changes wsX1_changes) := goodIn_app (goodIn_of _ (by decide +kernel)) ggX6_push_X1_changes
theorem dX6_push_0 : decode cX6_push 0 = .ok (.aload_n 0, 1) := by decide +kernel
theorem dX6_push_1 : decode cX6_push 1 = .ok (.getfield 58, 3) := by decide +kernel
theorem dX6_push_4 : decode cX6_push 4 = .ok (.sipush 4000, 3) := by decide +kernel
theorem dX6_push_7 : decode cX6_push 7 = .ok (.if_icmp .ge 49, 3) := by decide +kernel
theorem dX6_push_10 : decode cX6_push 10 = .ok (.aload_n 0, 1) := by decide +kernel
theorem dX6_push_11 : decode cX6_push 11 = .ok (.getfield 26, 3) := by decide +kernel
theorem dX6_push_14 : decode cX6_push 14 = .ok (.aload_n 0, 1) := by decide +kernel
theorem dX6_push_15 : decode cX6_push 15 = .ok (.getfield 58, 3) := by decide +kernel
theorem dX6_push_18 : decode cX6_push 18 = .ok (.iload_n 1, 1) := by decide +kernel
theorem dX6_push_19 : decode cX6_push 19 = .ok (.iastore, 1) := by decide +kernel
theorem dX6_push_20 : decode cX6_push 20 = .ok (.aload_n 0, 1) := by decide +kernel
theorem dX6_push_21 : decode cX6_push 21 = .ok (.getfield 29, 3) := by decide +kernel
theorem dX6_push_24 : decode cX6_push 24 = .ok (.aload_n 0, 1) := by decide +kernel
theorem dX6_push_25 : decode cX6_push 25 = .ok (.getfield 58, 3) := by decide +kernel
theorem dX6_push_28 : decode cX6_push 28 = .ok (.iload_n 2, 1) := by decide +kernel
theorem dX6_push_29 : decode cX6_push 29 = .ok (.iastore, 1) := by decide +kernel
theorem dX6_push_30 : decode cX6_push 30 = .ok (.aload_n 0, 1) := by decide +kernel
theorem dX6_push_31 : decode cX6_push 31 = .ok (.getfield 32, 3) := by decide +kernel
theorem dX6_push_34 : decode cX6_push 34 = .ok (.aload_n 0, 1) := by decide +kernel
theorem dX6_push_35 : decode cX6_push 35 = .ok (.getfield 58, 3) := by decide +kernel
theorem dX6_push_38 : decode cX6_push 38 = .ok (.aload_n 0, 1) := by decide +kernel
theorem dX6_push_39 : decode cX6_push 39 = .ok (.getfield 12, 3) := by decide +kernel
theorem dX6_push_42 : decode cX6_push 42 = .ok (.invokevirtual 171, 3) := by decide +kernel
theorem dX6_push_45 : decode cX6_push 45 = .ok (.iastore, 1) := by decide +kernel
theorem dX6_push_46 : decode cX6_push 46 = .ok (.aload_n 0, 1) := by decide +kernel
theorem dX6_push_47 : decode cX6_push 47 = .ok (.dup, 1) := by decide +kernel
theorem dX6_push_48 : decode cX6_push 48 = .ok (.getfield 58, 3) := by decide +kernel
theorem dX6_push_51 : decode cX6_push 51 = .ok (.iconst 1, 1) := by decide +kernel
theorem dX6_push_52 : decode cX6_push 52 = .ok (.iadd, 1) := by decide +kernel
theorem dX6_push_53 : decode cX6_push 53 = .ok (.putfield 58, 3) := by decide +kernel
theorem dX6_push_56 : decode cX6_push 56 = .ok (.return_, 1) := by decide +kernel
theorem dX6_forgetBinder_0 : decode cX6_forgetBinder 0 = .ok (.aload_n 0, 1) := by decide +kernel
theorem dX6_forgetBinder_1 : decode cX6_forgetBinder 1 = .ok (.getfield 61, 3) := by decide +kernel
theorem dX6_forgetBinder_4 : decode cX6_forgetBinder 4 = .ok (.ifCond .le 36, 3) := by decide +kernel
theorem dX6_forgetBinder_7 : decode cX6_forgetBinder 7 = .ok (.aload_n 0, 1) := by decide +kernel
theorem dX6_forgetBinder_8 : decode cX6_forgetBinder 8 = .ok (.getfield 61, 3) := by decide +kernel
theorem dX6_forgetBinder_11 : decode cX6_forgetBinder 11 = .ok (.sipush 4000, 3) := by decide +kernel
theorem dX6_forgetBinder_14 : decode cX6_forgetBinder 14 = .ok (.if_icmp .gt 26, 3) := by decide +kernel
theorem dX6_forgetBinder_17 : decode cX6_forgetBinder 17 = .ok (.aload_n 0, 1) := by decide +kernel
theorem dX6_forgetBinder_18 : decode cX6_forgetBinder 18 = .ok (.dup, 1) := by decide +kernel
theorem dX6_forgetBinder_19 : decode cX6_forgetBinder 19 = .ok (.getfield 61, 3) := by decide +kernel
theorem dX6_forgetBinder_22 : decode cX6_forgetBinder 22 = .ok (.iconst 1, 1) := by decide +kernel
theorem dX6_forgetBinder_23 : decode cX6_forgetBinder 23 = .ok (.isub, 1) := by decide +kernel
theorem dX6_forgetBinder_24 : decode cX6_forgetBinder 24 = .ok (.putfield 61, 3) := by decide +kernel
theorem dX6_forgetBinder_27 : decode cX6_forgetBinder 27 = .ok (.aload_n 0, 1) := by decide +kernel
theorem dX6_forgetBinder_28 : decode cX6_forgetBinder 28 = .ok (.aload_n 0, 1) := by decide +kernel
theorem dX6_forgetBinder_29 : decode cX6_forgetBinder 29 = .ok (.getfield 38, 3) := by decide +kernel
theorem dX6_forgetBinder_32 : decode cX6_forgetBinder 32 = .ok (.aload_n 0, 1) := by decide +kernel
theorem dX6_forgetBinder_33 : decode cX6_forgetBinder 33 = .ok (.getfield 61, 3) := by decide +kernel
theorem dX6_forgetBinder_36 : decode cX6_forgetBinder 36 = .ok (.iaload, 1) := by decide +kernel
theorem dX6_forgetBinder_37 : decode cX6_forgetBinder 37 = .ok (.putfield 64, 3) := by decide +kernel
theorem dX6_forgetBinder_40 : decode cX6_forgetBinder 40 = .ok (.return_, 1) := by decide +kernel
set_option maxRecDepth 20000 in
theorem ggX6_keepLevels_X6_growLevels : GoodIn wsX6_keepLevels wsX6_growLevels := goodIn_r _ [8, 2, 9, 10, 11, 12, 13, 14, 15, 16, 17, 18, 26, 27, 28, 29, 30, 31, 32, 33, 34, 35, 36, 37, 38, 39, 40, 41] (by decide +kernel) (by decide +kernel)
set_option maxRecDepth 20000 in
theorem gX6_keepLevels_X6_growLevels : GoodIn wsX6_keepLevels (wsV RX6 174 RX6 yX6_growLevels wsX6_growLevels) := goodIn_app (goodIn_of _ (by decide +kernel)) ggX6_keepLevels_X6_growLevels
set_option maxRecDepth 20000 in
theorem ggX6_keepLevels_X1_level : GoodIn wsX6_keepLevels wsX1_level := goodIn_r _ [23, 24, 25, 42, 43, 44, 45, 46, 47, 48, 49] (by decide +kernel) (by decide +kernel)
set_option maxRecDepth 20000 in
theorem gX6_keepLevels_X1_level : GoodIn wsX6_keepLevels (wsV RX6 177 RX1 yX1_level wsX1_level) := goodIn_app (goodIn_of _ (by decide +kernel)) ggX6_keepLevels_X1_level
theorem dX6_keepLevels_0 : decode cX6_keepLevels 0 = .ok (.aload_n 0, 1) := by decide +kernel
theorem dX6_keepLevels_1 : decode cX6_keepLevels 1 = .ok (.aload_n 0, 1) := by decide +kernel
theorem dX6_keepLevels_2 : decode cX6_keepLevels 2 = .ok (.getfield 64, 3) := by decide +kernel
theorem dX6_keepLevels_5 : decode cX6_keepLevels 5 = .ok (.iload_n 1, 1) := by decide +kernel
theorem dX6_keepLevels_6 : decode cX6_keepLevels 6 = .ok (.iadd, 1) := by decide +kernel
theorem dX6_keepLevels_7 : decode cX6_keepLevels 7 = .ok (.invokevirtual 174, 3) := by decide +kernel
theorem dX6_keepLevels_10 : decode cX6_keepLevels 10 = .ok (.iconst 0, 1) := by decide +kernel
theorem dX6_keepLevels_11 : decode cX6_keepLevels 11 = .ok (.istore_n 2, 1) := by decide +kernel
theorem dX6_keepLevels_12 : decode cX6_keepLevels 12 = .ok (.iload_n 2, 1) := by decide +kernel
theorem dX6_keepLevels_13 : decode cX6_keepLevels 13 = .ok (.iload_n 1, 1) := by decide +kernel
theorem dX6_keepLevels_14 : decode cX6_keepLevels 14 = .ok (.if_icmp .ge 48, 3) := by decide +kernel
theorem dX6_keepLevels_17 : decode cX6_keepLevels 17 = .ok (.aload_n 0, 1) := by decide +kernel
theorem dX6_keepLevels_18 : decode cX6_keepLevels 18 = .ok (.getfield 64, 3) := by decide +kernel
theorem dX6_keepLevels_21 : decode cX6_keepLevels 21 = .ok (.aload_n 0, 1) := by decide +kernel
theorem dX6_keepLevels_22 : decode cX6_keepLevels 22 = .ok (.getfield 41, 3) := by decide +kernel
theorem dX6_keepLevels_25 : decode cX6_keepLevels 25 = .ok (.arraylength, 1) := by decide +kernel
theorem dX6_keepLevels_26 : decode cX6_keepLevels 26 = .ok (.if_icmp .ge 36, 3) := by decide +kernel
theorem dX6_keepLevels_29 : decode cX6_keepLevels 29 = .ok (.aload_n 0, 1) := by decide +kernel
theorem dX6_keepLevels_30 : decode cX6_keepLevels 30 = .ok (.getfield 41, 3) := by decide +kernel
theorem dX6_keepLevels_33 : decode cX6_keepLevels 33 = .ok (.aload_n 0, 1) := by decide +kernel
theorem dX6_keepLevels_34 : decode cX6_keepLevels 34 = .ok (.getfield 64, 3) := by decide +kernel
theorem dX6_keepLevels_37 : decode cX6_keepLevels 37 = .ok (.aload_n 0, 1) := by decide +kernel
theorem dX6_keepLevels_38 : decode cX6_keepLevels 38 = .ok (.getfield 12, 3) := by decide +kernel
theorem dX6_keepLevels_41 : decode cX6_keepLevels 41 = .ok (.iload_n 2, 1) := by decide +kernel
theorem dX6_keepLevels_42 : decode cX6_keepLevels 42 = .ok (.invokevirtual 177, 3) := by decide +kernel
theorem dX6_keepLevels_45 : decode cX6_keepLevels 45 = .ok (.iastore, 1) := by decide +kernel
theorem dX6_keepLevels_46 : decode cX6_keepLevels 46 = .ok (.aload_n 0, 1) := by decide +kernel
theorem dX6_keepLevels_47 : decode cX6_keepLevels 47 = .ok (.dup, 1) := by decide +kernel
theorem dX6_keepLevels_48 : decode cX6_keepLevels 48 = .ok (.getfield 64, 3) := by decide +kernel
theorem dX6_keepLevels_51 : decode cX6_keepLevels 51 = .ok (.iconst 1, 1) := by decide +kernel
theorem dX6_keepLevels_52 : decode cX6_keepLevels 52 = .ok (.iadd, 1) := by decide +kernel
theorem dX6_keepLevels_53 : decode cX6_keepLevels 53 = .ok (.putfield 64, 3) := by decide +kernel
theorem dX6_keepLevels_56 : decode cX6_keepLevels 56 = .ok (.iinc 2 1, 3) := by decide +kernel
theorem dX6_keepLevels_59 : decode cX6_keepLevels 59 = .ok (.goto (-47), 3) := by decide +kernel
theorem dX6_keepLevels_62 : decode cX6_keepLevels 62 = .ok (.return_, 1) := by decide +kernel
theorem dX6_growLevels_0 : decode cX6_growLevels 0 = .ok (.iload_n 1, 1) := by decide +kernel
theorem dX6_growLevels_1 : decode cX6_growLevels 1 = .ok (.aload_n 0, 1) := by decide +kernel
theorem dX6_growLevels_2 : decode cX6_growLevels 2 = .ok (.getfield 41, 3) := by decide +kernel
theorem dX6_growLevels_5 : decode cX6_growLevels 5 = .ok (.arraylength, 1) := by decide +kernel
theorem dX6_growLevels_6 : decode cX6_growLevels 6 = .ok (.if_icmp .le 40, 3) := by decide +kernel
theorem dX6_growLevels_9 : decode cX6_growLevels 9 = .ok (.iload_n 1, 1) := by decide +kernel
theorem dX6_growLevels_10 : decode cX6_growLevels 10 = .ok (.ldc 180, 2) := by decide +kernel
theorem dX6_growLevels_12 : decode cX6_growLevels 12 = .ok (.if_icmp .gt 34, 3) := by decide +kernel
theorem dX6_growLevels_15 : decode cX6_growLevels 15 = .ok (.iload_n 1, 1) := by decide +kernel
theorem dX6_growLevels_16 : decode cX6_growLevels 16 = .ok (.iconst 2, 1) := by decide +kernel
theorem dX6_growLevels_17 : decode cX6_growLevels 17 = .ok (.imul, 1) := by decide +kernel
theorem dX6_growLevels_18 : decode cX6_growLevels 18 = .ok (.ldc 180, 2) := by decide +kernel
theorem dX6_growLevels_20 : decode cX6_growLevels 20 = .ok (.invokestatic 181, 3) := by decide +kernel
theorem dX6_growLevels_23 : decode cX6_growLevels 23 = .ok (.newarray .int, 2) := by decide +kernel
theorem dX6_growLevels_25 : decode cX6_growLevels 25 = .ok (.astore_n 2, 1) := by decide +kernel
theorem dX6_growLevels_26 : decode cX6_growLevels 26 = .ok (.aload_n 0, 1) := by decide +kernel
theorem dX6_growLevels_27 : decode cX6_growLevels 27 = .ok (.getfield 41, 3) := by decide +kernel
theorem dX6_growLevels_30 : decode cX6_growLevels 30 = .ok (.iconst 0, 1) := by decide +kernel
theorem dX6_growLevels_31 : decode cX6_growLevels 31 = .ok (.aload_n 2, 1) := by decide +kernel
theorem dX6_growLevels_32 : decode cX6_growLevels 32 = .ok (.iconst 0, 1) := by decide +kernel
theorem dX6_growLevels_33 : decode cX6_growLevels 33 = .ok (.aload_n 0, 1) := by decide +kernel
theorem dX6_growLevels_34 : decode cX6_growLevels 34 = .ok (.getfield 41, 3) := by decide +kernel
theorem dX6_growLevels_37 : decode cX6_growLevels 37 = .ok (.arraylength, 1) := by decide +kernel
theorem dX6_growLevels_38 : decode cX6_growLevels 38 = .ok (.invokestatic 186, 3) := by decide +kernel
theorem dX6_growLevels_41 : decode cX6_growLevels 41 = .ok (.aload_n 0, 1) := by decide +kernel
theorem dX6_growLevels_42 : decode cX6_growLevels 42 = .ok (.aload_n 2, 1) := by decide +kernel
theorem dX6_growLevels_43 : decode cX6_growLevels 43 = .ok (.putfield 41, 3) := by decide +kernel
theorem dX6_growLevels_46 : decode cX6_growLevels 46 = .ok (.return_, 1) := by decide +kernel
set_option maxRecDepth 20000 in
theorem ggX6_hasLevels_X1_level : GoodIn wsX6_hasLevels wsX1_level := goodIn_r _ [7, 8, 9, 26, 27, 28, 29, 30, 31, 32, 33] (by decide +kernel) (by decide +kernel)
set_option maxRecDepth 20000 in
theorem gX6_hasLevels_X1_level : GoodIn wsX6_hasLevels (wsV RX6 177 RX1 yX1_level wsX1_level) := goodIn_app (goodIn_of _ (by decide +kernel)) ggX6_hasLevels_X1_level
theorem dX6_hasLevels_0 : decode cX6_hasLevels 0 = .ok (.iload_n 1, 1) := by decide +kernel
theorem dX6_hasLevels_1 : decode cX6_hasLevels 1 = .ok (.ifCond .lt 14, 3) := by decide +kernel
theorem dX6_hasLevels_4 : decode cX6_hasLevels 4 = .ok (.iload_n 1, 1) := by decide +kernel
theorem dX6_hasLevels_5 : decode cX6_hasLevels 5 = .ok (.iload_n 2, 1) := by decide +kernel
theorem dX6_hasLevels_6 : decode cX6_hasLevels 6 = .ok (.iadd, 1) := by decide +kernel
theorem dX6_hasLevels_7 : decode cX6_hasLevels 7 = .ok (.aload_n 0, 1) := by decide +kernel
theorem dX6_hasLevels_8 : decode cX6_hasLevels 8 = .ok (.getfield 41, 3) := by decide +kernel
theorem dX6_hasLevels_11 : decode cX6_hasLevels 11 = .ok (.arraylength, 1) := by decide +kernel
theorem dX6_hasLevels_12 : decode cX6_hasLevels 12 = .ok (.if_icmp .le 5, 3) := by decide +kernel
theorem dX6_hasLevels_15 : decode cX6_hasLevels 15 = .ok (.iconst 0, 1) := by decide +kernel
theorem dX6_hasLevels_16 : decode cX6_hasLevels 16 = .ok (.ireturn, 1) := by decide +kernel
theorem dX6_hasLevels_17 : decode cX6_hasLevels 17 = .ok (.iconst 0, 1) := by decide +kernel
theorem dX6_hasLevels_18 : decode cX6_hasLevels 18 = .ok (.istore_n 3, 1) := by decide +kernel
theorem dX6_hasLevels_19 : decode cX6_hasLevels 19 = .ok (.iload_n 3, 1) := by decide +kernel
theorem dX6_hasLevels_20 : decode cX6_hasLevels 20 = .ok (.iload_n 2, 1) := by decide +kernel
theorem dX6_hasLevels_21 : decode cX6_hasLevels 21 = .ok (.if_icmp .ge 30, 3) := by decide +kernel
theorem dX6_hasLevels_24 : decode cX6_hasLevels 24 = .ok (.aload_n 0, 1) := by decide +kernel
theorem dX6_hasLevels_25 : decode cX6_hasLevels 25 = .ok (.getfield 41, 3) := by decide +kernel
theorem dX6_hasLevels_28 : decode cX6_hasLevels 28 = .ok (.iload_n 1, 1) := by decide +kernel
theorem dX6_hasLevels_29 : decode cX6_hasLevels 29 = .ok (.iload_n 3, 1) := by decide +kernel
theorem dX6_hasLevels_30 : decode cX6_hasLevels 30 = .ok (.iadd, 1) := by decide +kernel
theorem dX6_hasLevels_31 : decode cX6_hasLevels 31 = .ok (.iaload, 1) := by decide +kernel
theorem dX6_hasLevels_32 : decode cX6_hasLevels 32 = .ok (.aload_n 0, 1) := by decide +kernel
theorem dX6_hasLevels_33 : decode cX6_hasLevels 33 = .ok (.getfield 12, 3) := by decide +kernel
theorem dX6_hasLevels_36 : decode cX6_hasLevels 36 = .ok (.iload_n 3, 1) := by decide +kernel
theorem dX6_hasLevels_37 : decode cX6_hasLevels 37 = .ok (.invokevirtual 177, 3) := by decide +kernel
theorem dX6_hasLevels_40 : decode cX6_hasLevels 40 = .ok (.if_icmp .eq 5, 3) := by decide +kernel
theorem dX6_hasLevels_43 : decode cX6_hasLevels 43 = .ok (.iconst 0, 1) := by decide +kernel
theorem dX6_hasLevels_44 : decode cX6_hasLevels 44 = .ok (.ireturn, 1) := by decide +kernel
theorem dX6_hasLevels_45 : decode cX6_hasLevels 45 = .ok (.iinc 3 1, 3) := by decide +kernel
theorem dX6_hasLevels_48 : decode cX6_hasLevels 48 = .ok (.goto (-29), 3) := by decide +kernel
theorem dX6_hasLevels_51 : decode cX6_hasLevels 51 = .ok (.iconst 1, 1) := by decide +kernel
theorem dX6_hasLevels_52 : decode cX6_hasLevels 52 = .ok (.ireturn, 1) := by decide +kernel
set_option maxRecDepth 20000 in
theorem ggX6_tellNumber_X6_tell : GoodIn wsX6_tellNumber wsX6_tell := goodIn_r _ [5, 6, 7, 8, 9, 10, 11, 12, 13, 14, 15, 16, 17, 18, 19, 20, 21, 22, 23] (by decide +kernel) (by decide +kernel)
set_option maxRecDepth 20000 in
theorem gX6_tellNumber_X6_tell : GoodIn wsX6_tellNumber (wsV RX6 148 RX6 yX6_tell wsX6_tell) := goodIn_app (goodIn_of _ (by decide +kernel)) ggX6_tellNumber_X6_tell
theorem dX6_tellNumber_0 : decode cX6_tellNumber 0 = .ok (.iconst 1, 1) := by decide +kernel
theorem dX6_tellNumber_1 : decode cX6_tellNumber 1 = .ok (.istore_n 2, 1) := by decide +kernel
theorem dX6_tellNumber_2 : decode cX6_tellNumber 2 = .ok (.iload_n 2, 1) := by decide +kernel
theorem dX6_tellNumber_3 : decode cX6_tellNumber 3 = .ok (.sipush 1000, 3) := by decide +kernel
theorem dX6_tellNumber_6 : decode cX6_tellNumber 6 = .ok (.if_icmp .ge 19, 3) := by decide +kernel
theorem dX6_tellNumber_9 : decode cX6_tellNumber 9 = .ok (.iload_n 2, 1) := by decide +kernel
theorem dX6_tellNumber_10 : decode cX6_tellNumber 10 = .ok (.bipush 10, 2) := by decide +kernel
theorem dX6_tellNumber_12 : decode cX6_tellNumber 12 = .ok (.imul, 1) := by decide +kernel
theorem dX6_tellNumber_13 : decode cX6_tellNumber 13 = .ok (.iload_n 1, 1) := by decide +kernel
theorem dX6_tellNumber_14 : decode cX6_tellNumber 14 = .ok (.if_icmp .gt 11, 3) := by decide +kernel
theorem dX6_tellNumber_17 : decode cX6_tellNumber 17 = .ok (.iload_n 2, 1) := by decide +kernel
theorem dX6_tellNumber_18 : decode cX6_tellNumber 18 = .ok (.bipush 10, 2) := by decide +kernel
theorem dX6_tellNumber_20 : decode cX6_tellNumber 20 = .ok (.imul, 1) := by decide +kernel
theorem dX6_tellNumber_21 : decode cX6_tellNumber 21 = .ok (.istore_n 2, 1) := by decide +kernel
theorem dX6_tellNumber_22 : decode cX6_tellNumber 22 = .ok (.goto (-20), 3) := by decide +kernel
theorem dX6_tellNumber_25 : decode cX6_tellNumber 25 = .ok (.iconst 1, 1) := by decide +kernel
theorem dX6_tellNumber_26 : decode cX6_tellNumber 26 = .ok (.istore_n 3, 1) := by decide +kernel
theorem dX6_tellNumber_27 : decode cX6_tellNumber 27 = .ok (.iload_n 2, 1) := by decide +kernel
theorem dX6_tellNumber_28 : decode cX6_tellNumber 28 = .ok (.istore 4, 2) := by decide +kernel
theorem dX6_tellNumber_30 : decode cX6_tellNumber 30 = .ok (.iload 4, 2) := by decide +kernel
theorem dX6_tellNumber_32 : decode cX6_tellNumber 32 = .ok (.ifCond .le 41, 3) := by decide +kernel
theorem dX6_tellNumber_35 : decode cX6_tellNumber 35 = .ok (.aload_n 0, 1) := by decide +kernel
theorem dX6_tellNumber_36 : decode cX6_tellNumber 36 = .ok (.bipush 48, 2) := by decide +kernel
theorem dX6_tellNumber_38 : decode cX6_tellNumber 38 = .ok (.iload_n 1, 1) := by decide +kernel
theorem dX6_tellNumber_39 : decode cX6_tellNumber 39 = .ok (.iload 4, 2) := by decide +kernel
theorem dX6_tellNumber_41 : decode cX6_tellNumber 41 = .ok (.idiv, 1) := by decide +kernel
theorem dX6_tellNumber_42 : decode cX6_tellNumber 42 = .ok (.bipush 10, 2) := by decide +kernel
theorem dX6_tellNumber_44 : decode cX6_tellNumber 44 = .ok (.irem, 1) := by decide +kernel
theorem dX6_tellNumber_45 : decode cX6_tellNumber 45 = .ok (.iadd, 1) := by decide +kernel
theorem dX6_tellNumber_46 : decode cX6_tellNumber 46 = .ok (.i2c, 1) := by decide +kernel
theorem dX6_tellNumber_47 : decode cX6_tellNumber 47 = .ok (.invokevirtual 148, 3) := by decide +kernel
theorem dX6_tellNumber_50 : decode cX6_tellNumber 50 = .ok (.ifCond .eq 11, 3) := by decide +kernel
theorem dX6_tellNumber_53 : decode cX6_tellNumber 53 = .ok (.iload_n 3, 1) := by decide +kernel
theorem dX6_tellNumber_54 : decode cX6_tellNumber 54 = .ok (.ifCond .eq 7, 3) := by decide +kernel
theorem dX6_tellNumber_57 : decode cX6_tellNumber 57 = .ok (.iconst 1, 1) := by decide +kernel
theorem dX6_tellNumber_58 : decode cX6_tellNumber 58 = .ok (.goto 4, 3) := by decide +kernel
theorem dX6_tellNumber_61 : decode cX6_tellNumber 61 = .ok (.iconst 0, 1) := by decide +kernel
theorem dX6_tellNumber_62 : decode cX6_tellNumber 62 = .ok (.istore_n 3, 1) := by decide +kernel
theorem dX6_tellNumber_63 : decode cX6_tellNumber 63 = .ok (.iload 4, 2) := by decide +kernel
theorem dX6_tellNumber_65 : decode cX6_tellNumber 65 = .ok (.bipush 10, 2) := by decide +kernel
theorem dX6_tellNumber_67 : decode cX6_tellNumber 67 = .ok (.idiv, 1) := by decide +kernel
theorem dX6_tellNumber_68 : decode cX6_tellNumber 68 = .ok (.istore 4, 2) := by decide +kernel
theorem dX6_tellNumber_70 : decode cX6_tellNumber 70 = .ok (.goto (-40), 3) := by decide +kernel
theorem dX6_tellNumber_73 : decode cX6_tellNumber 73 = .ok (.iload_n 3, 1) := by decide +kernel
theorem dX6_tellNumber_74 : decode cX6_tellNumber 74 = .ok (.ireturn, 1) := by decide +kernel
theorem dX6_tell_0 : decode cX6_tell 0 = .ok (.aload_n 0, 1) := by decide +kernel
theorem dX6_tell_1 : decode cX6_tell 1 = .ok (.getfield 51, 3) := by decide +kernel
theorem dX6_tell_4 : decode cX6_tell 4 = .ok (.sipush 4000, 3) := by decide +kernel
theorem dX6_tell_7 : decode cX6_tell 7 = .ok (.if_icmp .lt 5, 3) := by decide +kernel
theorem dX6_tell_10 : decode cX6_tell 10 = .ok (.iconst 0, 1) := by decide +kernel
theorem dX6_tell_11 : decode cX6_tell 11 = .ok (.ireturn, 1) := by decide +kernel
theorem dX6_tell_12 : decode cX6_tell 12 = .ok (.aload_n 0, 1) := by decide +kernel
theorem dX6_tell_13 : decode cX6_tell 13 = .ok (.getfield 18, 3) := by decide +kernel
theorem dX6_tell_16 : decode cX6_tell 16 = .ok (.aload_n 0, 1) := by decide +kernel
theorem dX6_tell_17 : decode cX6_tell 17 = .ok (.getfield 51, 3) := by decide +kernel
theorem dX6_tell_20 : decode cX6_tell 20 = .ok (.iload_n 1, 1) := by decide +kernel
theorem dX6_tell_21 : decode cX6_tell 21 = .ok (.castore, 1) := by decide +kernel
theorem dX6_tell_22 : decode cX6_tell 22 = .ok (.aload_n 0, 1) := by decide +kernel
theorem dX6_tell_23 : decode cX6_tell 23 = .ok (.dup, 1) := by decide +kernel
theorem dX6_tell_24 : decode cX6_tell 24 = .ok (.getfield 51, 3) := by decide +kernel
theorem dX6_tell_27 : decode cX6_tell 27 = .ok (.iconst 1, 1) := by decide +kernel
theorem dX6_tell_28 : decode cX6_tell 28 = .ok (.iadd, 1) := by decide +kernel
theorem dX6_tell_29 : decode cX6_tell 29 = .ok (.putfield 51, 3) := by decide +kernel
theorem dX6_tell_32 : decode cX6_tell 32 = .ok (.iconst 1, 1) := by decide +kernel
theorem dX6_tell_33 : decode cX6_tell 33 = .ok (.ireturn, 1) := by decide +kernel
set_option maxRecDepth 20000 in
theorem ggX7_init_X4_init : GoodIn wsX7_init wsX4_init := goodIn_r _ [27, 28, 2, 3, 4, 29, 30, 31, 32, 33, 34, 35, 321, 322, 323, 324, 325, 326, 327, 328, 329, 330, 331, 332, 333, 334, 335] (by decide +kernel) (by decide +kernel)
set_option maxRecDepth 20000 in
theorem gX7_init_X4_init_n15 : GoodIn wsX7_init (wsX4_init) := ggX7_init_X4_init
set_option maxRecDepth 20000 in
theorem ggX7_init_X2_init : GoodIn wsX7_init wsX2_init := goodIn_r _ [37, 38, 2, 3, 4, 39, 40, 41, 42, 43, 44, 45, 46, 336, 337, 338, 339, 340, 341, 342, 343, 344, 345] (by decide +kernel) (by decide +kernel)
set_option maxRecDepth 20000 in
theorem gX7_init_X2_init_n22 : GoodIn wsX7_init (wsX2_init) := ggX7_init_X2_init
set_option maxRecDepth 20000 in
theorem ggX7_init_X0_init : GoodIn wsX7_init wsX0_init := goodIn_r _ [49, 50, 2, 3, 4, 51, 52, 53, 54, 346, 347, 348, 349] (by decide +kernel) (by decide +kernel)
set_option maxRecDepth 20000 in
theorem gX7_init_X0_init : GoodIn wsX7_init (wsX0_init) := ggX7_init_X0_init
set_option maxRecDepth 20000 in
theorem ggX7_init_X3_init : GoodIn wsX7_init wsX3_init := goodIn_r _ [57, 58, 2, 3, 59, 350, 351, 352, 353] (by decide +kernel) (by decide +kernel)
set_option maxRecDepth 20000 in
theorem gX7_init_X3_init : GoodIn wsX7_init (wsX3_init) := ggX7_init_X3_init
set_option maxRecDepth 20000 in
theorem ggX7_init_X6_init : GoodIn wsX7_init wsX6_init := goodIn_r _ [62, 63, 2, 3, 64, 65, 66, 67, 68, 69, 4, 70, 71, 72, 73, 74, 75, 76, 77, 78, 79, 80, 81, 82, 83, 84, 85, 86, 87, 88, 89, 90, 91, 92, 93, 94, 95, 96, 97, 98, 370, 371, 372, 373, 374, 375, 376, 377, 354, 355, 356, 357, 358, 359, 360, 361, 362, 363, 364, 365, 366, 367, 368, 369, 378, 379, 380, 381, 382, 383] (by decide +kernel) (by decide +kernel)
set_option maxRecDepth 20000 in
theorem gX7_init_X6_init : GoodIn wsX7_init (wsX6_init) := ggX7_init_X6_init
set_option maxRecDepth 20000 in
theorem ggX7_init_X4_scan : GoodIn wsX7_init wsX4_scan := goodIn_r _ [102, 103, 104, 105, 106, 107, 108, 8, 109, 35, 110, 111, 112, 113, 114, 115, 116, 117, 118, 119, 120, 121, 122, 123, 124, 125, 126, 127, 128, 129, 130, 131, 132, 133, 134, 135, 136, 137, 138, 139, 140, 141, 142, 143, 144, 145, 146, 147, 148, 149, 150, 151, 152, 153, 154, 155, 32, 33, 34, 156, 157, 158, 159, 160, 161, 162, 163, 164, 165, 166, 167, 168, 169, 170, 171, 172, 173, 174, 175, 29, 30, 31, 176, 177, 178, 179, 180, 181, 182, 183, 184, 185, 186, 187, 188, 189, 190, 191, 321, 322, 323, 324, 325, 326, 327, 328, 329, 330, 331, 332, 333, 334, 335] (by decide +kernel) (by decide +kernel)
set_option maxRecDepth 20000 in
theorem gX7_init_X4_scan : GoodIn wsX7_init (wsV RX7 50 RX4 yX4_scan wsX4_scan) := goodIn_app (goodIn_of _ (by decide +kernel)) ggX7_init_X4_scan
set_option maxRecDepth 20000 in
theorem ggX7_init_X7_takeTerm : GoodIn wsX7_init wsX7_takeTerm := goodIn_r _ [196, 13, 21, 17, 9, 197, 198, 199, 200, 12, 201, 39, 46, 42, 43, 202, 203, 204, 205, 206, 207, 20, 208, 209, 210, 211, 212, 213, 214, 16, 215, 216, 54, 51, 217, 218, 219, 220, 40, 221, 222, 223, 8, 224, 110, 225, 226, 227, 228, 30, 229, 230, 231, 232, 31, 233, 234, 235, 236, 29, 237, 238, 239, 240, 53, 241, 195, 242, 243, 244, 245, 246, 247, 248, 249, 250, 41, 251, 252, 253, 254, 255, 256, 44, 257, 258, 259, 260, 261, 262, 263, 264, 265, 266, 267, 268, 269, 270, 271, 272, 273, 274, 275, 276, 277, 278, 279, 280, 281, 282, 283, 284, 285, 286, 287, 288, 289, 290, 291, 292, 293, 294, 295, 296, 297, 298, 299, 300, 301, 302, 303, 304, 305, 306, 307, 308, 309, 310, 311, 312, 313, 314, 315, 316, 317, 318, 319, 320, 336, 337, 338, 339, 340, 341, 342, 343, 344, 345, 350, 351, 352, 353, 346, 347, 348, 349, 321, 322, 323, 324, 325, 326, 327, 328, 329, 330, 331, 332, 333, 334, 335] (by decide +kernel) (by decide +kernel)
set_option maxRecDepth 20000 in
theorem gX7_init_X7_takeTerm : GoodIn wsX7_init (wsV RX7 54 RX7 yX7_takeTerm wsX7_takeTerm) := goodIn_app (goodIn_of _ (by decide +kernel)) ggX7_init_X7_takeTerm
theorem dX7_init_0 : decode cX7_init 0 = .ok (.aload_n 0, 1) := by decide +kernel
theorem dX7_init_1 : decode cX7_init 1 = .ok (.invokespecial 1, 3) := by decide +kernel
theorem dX7_init_4 : decode cX7_init 4 = .ok (.aload_n 0, 1) := by decide +kernel
theorem dX7_init_5 : decode cX7_init 5 = .ok (.sipush 600, 3) := by decide +kernel
theorem dX7_init_8 : decode cX7_init 8 = .ok (.newarray .int, 2) := by decide +kernel
theorem dX7_init_10 : decode cX7_init 10 = .ok (.putfield 9, 3) := by decide +kernel
theorem dX7_init_13 : decode cX7_init 13 = .ok (.aload_n 0, 1) := by decide +kernel
theorem dX7_init_14 : decode cX7_init 14 = .ok (.new 13, 3) := by decide +kernel
theorem dX7_init_17 : decode cX7_init 17 = .ok (.dup, 1) := by decide +kernel
theorem dX7_init_18 : decode cX7_init 18 = .ok (.invokespecial 15, 3) := by decide +kernel
theorem dX7_init_21 : decode cX7_init 21 = .ok (.putfield 16, 3) := by decide +kernel
theorem dX7_init_24 : decode cX7_init 24 = .ok (.aload_n 0, 1) := by decide +kernel
theorem dX7_init_25 : decode cX7_init 25 = .ok (.new 20, 3) := by decide +kernel
theorem dX7_init_28 : decode cX7_init 28 = .ok (.dup, 1) := by decide +kernel
theorem dX7_init_29 : decode cX7_init 29 = .ok (.invokespecial 22, 3) := by decide +kernel
theorem dX7_init_32 : decode cX7_init 32 = .ok (.putfield 23, 3) := by decide +kernel
theorem dX7_init_35 : decode cX7_init 35 = .ok (.aload_n 0, 1) := by decide +kernel
theorem dX7_init_36 : decode cX7_init 36 = .ok (.new 27, 3) := by decide +kernel
theorem dX7_init_39 : decode cX7_init 39 = .ok (.dup, 1) := by decide +kernel
theorem dX7_init_40 : decode cX7_init 40 = .ok (.aload_n 0, 1) := by decide +kernel
theorem dX7_init_41 : decode cX7_init 41 = .ok (.getfield 23, 3) := by decide +kernel
theorem dX7_init_44 : decode cX7_init 44 = .ok (.invokespecial 29, 3) := by decide +kernel
theorem dX7_init_47 : decode cX7_init 47 = .ok (.putfield 32, 3) := by decide +kernel
theorem dX7_init_50 : decode cX7_init 50 = .ok (.aload_n 0, 1) := by decide +kernel
theorem dX7_init_51 : decode cX7_init 51 = .ok (.new 36, 3) := by decide +kernel
theorem dX7_init_54 : decode cX7_init 54 = .ok (.dup, 1) := by decide +kernel
theorem dX7_init_55 : decode cX7_init 55 = .ok (.aload_n 0, 1) := by decide +kernel
theorem dX7_init_56 : decode cX7_init 56 = .ok (.getfield 23, 3) := by decide +kernel
theorem dX7_init_59 : decode cX7_init 59 = .ok (.invokespecial 38, 3) := by decide +kernel
theorem dX7_init_62 : decode cX7_init 62 = .ok (.putfield 39, 3) := by decide +kernel
theorem dX7_init_65 : decode cX7_init 65 = .ok (.aload_n 0, 1) := by decide +kernel
theorem dX7_init_66 : decode cX7_init 66 = .ok (.new 43, 3) := by decide +kernel
theorem dX7_init_69 : decode cX7_init 69 = .ok (.dup, 1) := by decide +kernel
theorem dX7_init_70 : decode cX7_init 70 = .ok (.aload_n 0, 1) := by decide +kernel
theorem dX7_init_71 : decode cX7_init 71 = .ok (.getfield 23, 3) := by decide +kernel
theorem dX7_init_74 : decode cX7_init 74 = .ok (.invokespecial 45, 3) := by decide +kernel
theorem dX7_init_77 : decode cX7_init 77 = .ok (.putfield 46, 3) := by decide +kernel
theorem dX7_init_80 : decode cX7_init 80 = .ok (.aload_n 0, 1) := by decide +kernel
theorem dX7_init_81 : decode cX7_init 81 = .ok (.getfield 9, 3) := by decide +kernel
theorem dX7_init_84 : decode cX7_init 84 = .ok (.iconst 0, 1) := by decide +kernel
theorem dX7_init_85 : decode cX7_init 85 = .ok (.bipush 92, 2) := by decide +kernel
theorem dX7_init_87 : decode cX7_init 87 = .ok (.iastore, 1) := by decide +kernel
theorem dX7_init_88 : decode cX7_init 88 = .ok (.aload_n 0, 1) := by decide +kernel
theorem dX7_init_89 : decode cX7_init 89 = .ok (.getfield 9, 3) := by decide +kernel
theorem dX7_init_92 : decode cX7_init 92 = .ok (.iconst 1, 1) := by decide +kernel
theorem dX7_init_93 : decode cX7_init 93 = .ok (.bipush 120, 2) := by decide +kernel
theorem dX7_init_95 : decode cX7_init 95 = .ok (.iastore, 1) := by decide +kernel
theorem dX7_init_96 : decode cX7_init 96 = .ok (.aload_n 0, 1) := by decide +kernel
theorem dX7_init_97 : decode cX7_init 97 = .ok (.getfield 9, 3) := by decide +kernel
theorem dX7_init_100 : decode cX7_init 100 = .ok (.iconst 2, 1) := by decide +kernel
theorem dX7_init_101 : decode cX7_init 101 = .ok (.bipush 46, 2) := by decide +kernel
theorem dX7_init_103 : decode cX7_init 103 = .ok (.iastore, 1) := by decide +kernel
theorem dX7_init_104 : decode cX7_init 104 = .ok (.aload_n 0, 1) := by decide +kernel
theorem dX7_init_105 : decode cX7_init 105 = .ok (.getfield 9, 3) := by decide +kernel
theorem dX7_init_108 : decode cX7_init 108 = .ok (.iconst 3, 1) := by decide +kernel
theorem dX7_init_109 : decode cX7_init 109 = .ok (.bipush 120, 2) := by decide +kernel
theorem dX7_init_111 : decode cX7_init 111 = .ok (.iastore, 1) := by decide +kernel
theorem dX7_init_112 : decode cX7_init 112 = .ok (.aload_n 0, 1) := by decide +kernel
theorem dX7_init_113 : decode cX7_init 113 = .ok (.getfield 16, 3) := by decide +kernel
theorem dX7_init_116 : decode cX7_init 116 = .ok (.aload_n 0, 1) := by decide +kernel
theorem dX7_init_117 : decode cX7_init 117 = .ok (.getfield 9, 3) := by decide +kernel
theorem dX7_init_120 : decode cX7_init 120 = .ok (.iconst 4, 1) := by decide +kernel
theorem dX7_init_121 : decode cX7_init 121 = .ok (.invokevirtual 50, 3) := by decide +kernel
theorem dX7_init_124 : decode cX7_init 124 = .ok (.pop, 1) := by decide +kernel
theorem dX7_init_125 : decode cX7_init 125 = .ok (.aload_n 0, 1) := by decide +kernel
theorem dX7_init_126 : decode cX7_init 126 = .ok (.invokevirtual 54, 3) := by decide +kernel
theorem dX7_init_129 : decode cX7_init 129 = .ok (.return_, 1) := by decide +kernel
theorem dX7_type_0 : decode cX7_type 0 = .ok (.iload_n 3, 1) := by decide +kernel
theorem dX7_type_1 : decode cX7_type 1 = .ok (.iconst 1, 1) := by decide +kernel
theorem dX7_type_2 : decode cX7_type 2 = .ok (.if_icmp .lt 9, 3) := by decide +kernel
theorem dX7_type_5 : decode cX7_type 5 = .ok (.iload_n 3, 1) := by decide +kernel
theorem dX7_type_6 : decode cX7_type 6 = .ok (.bipush 8, 2) := by decide +kernel
theorem dX7_type_8 : decode cX7_type 8 = .ok (.if_icmp .le 13, 3) := by decide +kernel
theorem dX7_type_11 : decode cX7_type 11 = .ok (.new 57, 3) := by decide +kernel
theorem dX7_type_14 : decode cX7_type 14 = .ok (.dup, 1) := by decide +kernel
theorem dX7_type_15 : decode cX7_type 15 = .ok (.ldc 59, 2) := by decide +kernel
theorem dX7_type_17 : decode cX7_type 17 = .ok (.invokespecial 61, 3) := by decide +kernel
theorem dX7_type_20 : decode cX7_type 20 = .ok (.athrow, 1) := by decide +kernel
theorem dX7_type_21 : decode cX7_type 21 = .ok (.aload_n 0, 1) := by decide +kernel
theorem dX7_type_22 : decode cX7_type 22 = .ok (.getfield 64, 3) := by decide +kernel
theorem dX7_type_25 : decode cX7_type 25 = .ok (.iload_n 3, 1) := by decide +kernel
theorem dX7_type_26 : decode cX7_type 26 = .ok (.iadd, 1) := by decide +kernel
theorem dX7_type_27 : decode cX7_type 27 = .ok (.sipush 600, 3) := by decide +kernel
theorem dX7_type_30 : decode cX7_type 30 = .ok (.if_icmp .le 13, 3) := by decide +kernel
theorem dX7_type_33 : decode cX7_type 33 = .ok (.new 68, 3) := by decide +kernel
theorem dX7_type_36 : decode cX7_type 36 = .ok (.dup, 1) := by decide +kernel
theorem dX7_type_37 : decode cX7_type 37 = .ok (.ldc 70, 2) := by decide +kernel
theorem dX7_type_39 : decode cX7_type 39 = .ok (.invokespecial 72, 3) := by decide +kernel
theorem dX7_type_42 : decode cX7_type 42 = .ok (.athrow, 1) := by decide +kernel
theorem dX7_type_43 : decode cX7_type 43 = .ok (.iload_n 3, 1) := by decide +kernel
theorem dX7_type_44 : decode cX7_type 44 = .ok (.iconst 1, 1) := by decide +kernel
theorem dX7_type_45 : decode cX7_type 45 = .ok (.isub, 1) := by decide +kernel
theorem dX7_type_46 : decode cX7_type 46 = .ok (.istore 4, 2) := by decide +kernel
theorem dX7_type_48 : decode cX7_type 48 = .ok (.iload 4, 2) := by decide +kernel
theorem dX7_type_50 : decode cX7_type 50 = .ok (.ifCond .lt 40, 3) := by decide +kernel
theorem dX7_type_53 : decode cX7_type 53 = .ok (.aload_n 0, 1) := by decide +kernel
theorem dX7_type_54 : decode cX7_type 54 = .ok (.getfield 9, 3) := by decide +kernel
theorem dX7_type_57 : decode cX7_type 57 = .ok (.aload_n 0, 1) := by decide +kernel
theorem dX7_type_58 : decode cX7_type 58 = .ok (.getfield 64, 3) := by decide +kernel
theorem dX7_type_61 : decode cX7_type 61 = .ok (.lload_n 1, 1) := by decide +kernel
theorem dX7_type_62 : decode cX7_type 62 = .ok (.bipush 8, 2) := by decide +kernel
theorem dX7_type_64 : decode cX7_type 64 = .ok (.iload 4, 2) := by decide +kernel
theorem dX7_type_66 : decode cX7_type 66 = .ok (.imul, 1) := by decide +kernel
theorem dX7_type_67 : decode cX7_type 67 = .ok (.lshr, 1) := by decide +kernel
theorem dX7_type_68 : decode cX7_type 68 = .ok (.l2i, 1) := by decide +kernel
theorem dX7_type_69 : decode cX7_type 69 = .ok (.sipush 255, 3) := by decide +kernel
theorem dX7_type_72 : decode cX7_type 72 = .ok (.iand, 1) := by decide +kernel
theorem dX7_type_73 : decode cX7_type 73 = .ok (.iastore, 1) := by decide +kernel
theorem dX7_type_74 : decode cX7_type 74 = .ok (.aload_n 0, 1) := by decide +kernel
theorem dX7_type_75 : decode cX7_type 75 = .ok (.dup, 1) := by decide +kernel
theorem dX7_type_76 : decode cX7_type 76 = .ok (.getfield 64, 3) := by decide +kernel
theorem dX7_type_79 : decode cX7_type 79 = .ok (.iconst 1, 1) := by decide +kernel
theorem dX7_type_80 : decode cX7_type 80 = .ok (.iadd, 1) := by decide +kernel
theorem dX7_type_81 : decode cX7_type 81 = .ok (.putfield 64, 3) := by decide +kernel
theorem dX7_type_84 : decode cX7_type 84 = .ok (.iinc 4 (-1), 3) := by decide +kernel
theorem dX7_type_87 : decode cX7_type 87 = .ok (.goto (-39), 3) := by decide +kernel
theorem dX7_type_90 : decode cX7_type 90 = .ok (.aload_n 0, 1) := by decide +kernel
theorem dX7_type_91 : decode cX7_type 91 = .ok (.getfield 64, 3) := by decide +kernel
theorem dX7_type_94 : decode cX7_type 94 = .ok (.ireturn, 1) := by decide +kernel
theorem dX7_keep_0 : decode cX7_keep 0 = .ok (.iload_n 1, 1) := by decide +kernel
theorem dX7_keep_1 : decode cX7_keep 1 = .ok (.ifCond .lt 11, 3) := by decide +kernel
theorem dX7_keep_4 : decode cX7_keep 4 = .ok (.iload_n 1, 1) := by decide +kernel
theorem dX7_keep_5 : decode cX7_keep 5 = .ok (.aload_n 0, 1) := by decide +kernel
theorem dX7_keep_6 : decode cX7_keep 6 = .ok (.getfield 64, 3) := by decide +kernel
theorem dX7_keep_9 : decode cX7_keep 9 = .ok (.if_icmp .le 13, 3) := by decide +kernel
theorem dX7_keep_12 : decode cX7_keep 12 = .ok (.new 57, 3) := by decide +kernel
theorem dX7_keep_15 : decode cX7_keep 15 = .ok (.dup, 1) := by decide +kernel
theorem dX7_keep_16 : decode cX7_keep 16 = .ok (.ldc 73, 2) := by decide +kernel
theorem dX7_keep_18 : decode cX7_keep 18 = .ok (.invokespecial 61, 3) := by decide +kernel
theorem dX7_keep_21 : decode cX7_keep 21 = .ok (.athrow, 1) := by decide +kernel
theorem dX7_keep_22 : decode cX7_keep 22 = .ok (.aload_n 0, 1) := by decide +kernel
theorem dX7_keep_23 : decode cX7_keep 23 = .ok (.iload_n 1, 1) := by decide +kernel
theorem dX7_keep_24 : decode cX7_keep 24 = .ok (.putfield 64, 3) := by decide +kernel
theorem dX7_keep_27 : decode cX7_keep 27 = .ok (.return_, 1) := by decide +kernel
set_option maxRecDepth 20000 in
theorem ggX7_read_X4_scan : GoodIn wsX7_read wsX4_scan := goodIn_r _ [10, 11, 12, 13, 14, 15, 16, 9, 17, 18, 19, 20, 21, 22, 23, 24, 25, 26, 27, 28, 29, 30, 31, 32, 33, 34, 35, 36, 37, 38, 39, 40, 41, 42, 43, 44, 45, 46, 47, 48, 49, 50, 51, 52, 53, 54, 55, 56, 57, 58, 59, 60, 61, 62, 63, 64, 65, 66, 67, 68, 69, 70, 71, 72, 73, 74, 75, 76, 77, 78, 79, 80, 81, 82, 83, 84, 85, 86, 87, 88, 89, 90, 91, 92, 93, 94, 95, 96, 97, 98, 99, 100, 101, 102, 103, 104, 105, 106, 259, 260, 261, 262, 263, 264, 265, 266, 267, 268, 269, 270, 271, 272, 273] (by decide +kernel) (by decide +kernel)
set_option maxRecDepth 20000 in
theorem gX7_read_X4_scan : GoodIn wsX7_read (wsV RX7 50 RX4 yX4_scan wsX4_scan) := goodIn_app (goodIn_of _ (by decide +kernel)) ggX7_read_X4_scan
set_option maxRecDepth 20000 in
theorem ggX7_read_X4_place : GoodIn wsX7_read wsX4_place := goodIn_r _ [110, 12, 259, 260, 261, 262, 263, 264, 265, 266, 267, 268, 269, 270, 271, 272, 273] (by decide +kernel) (by decide +kernel)
set_option maxRecDepth 20000 in
theorem gX7_read_X4_place : GoodIn wsX7_read (wsV RX7 78 RX4 yX4_place wsX4_place) := goodIn_app (goodIn_of _ (by decide +kernel)) ggX7_read_X4_place
set_option maxRecDepth 20000 in
theorem ggX7_read_X7_takeTerm : GoodIn wsX7_read wsX7_takeTerm := goodIn_r _ [115, 5, 116, 117, 1, 118, 119, 120, 121, 122, 123, 124, 125, 126, 127, 128, 129, 130, 131, 132, 133, 134, 135, 136, 137, 138, 139, 140, 141, 142, 143, 144, 145, 146, 147, 148, 149, 150, 151, 152, 153, 154, 9, 155, 19, 156, 157, 158, 159, 89, 160, 161, 162, 163, 90, 164, 165, 166, 167, 88, 168, 169, 170, 171, 172, 173, 114, 174, 175, 176, 177, 178, 179, 180, 181, 182, 183, 184, 185, 186, 187, 188, 189, 190, 191, 192, 193, 194, 195, 196, 197, 198, 199, 200, 201, 202, 203, 204, 205, 206, 207, 208, 209, 210, 211, 212, 213, 214, 215, 216, 217, 218, 219, 220, 221, 222, 223, 224, 225, 226, 227, 228, 229, 230, 231, 232, 233, 234, 235, 236, 237, 238, 239, 240, 241, 242, 243, 244, 245, 250, 251, 252, 253, 254, 255, 256, 257, 258, 274, 275, 276, 277, 278, 279, 280, 281, 282, 283, 284, 285, 286, 287, 288, 289, 290, 291, 259, 260, 261, 262, 263, 264, 265, 266, 267, 268, 269, 270, 271, 272, 273] (by decide +kernel) (by decide +kernel)
set_option maxRecDepth 20000 in
theorem gX7_read_X7_takeTerm : GoodIn wsX7_read (wsV RX7 54 RX7 yX7_takeTerm wsX7_takeTerm) := goodIn_app (goodIn_of _ (by decide +kernel)) ggX7_read_X7_takeTerm
set_option maxRecDepth 20000 in
theorem ggX7_read_X2_size : GoodIn wsX7_read wsX2_size := goodIn_r _ [249, 128, 274, 275, 276, 277, 278, 279, 280, 281, 282, 283] (by decide +kernel) (by decide +kernel)
set_option maxRecDepth 20000 in
theorem gX7_read_X2_size : GoodIn wsX7_read (wsV RX7 82 RX2 yX2_size wsX2_size) := goodIn_app (goodIn_of _ (by decide +kernel)) ggX7_read_X2_size
theorem dX7_read_0 : decode cX7_read 0 = .ok (.aload_n 0, 1) := by decide +kernel
theorem dX7_read_1 : decode cX7_read 1 = .ok (.aload_n 0, 1) := by decide +kernel
theorem dX7_read_2 : decode cX7_read 2 = .ok (.getfield 16, 3) := by decide +kernel
theorem dX7_read_5 : decode cX7_read 5 = .ok (.aload_n 0, 1) := by decide +kernel
theorem dX7_read_6 : decode cX7_read 6 = .ok (.getfield 9, 3) := by decide +kernel
theorem dX7_read_9 : decode cX7_read 9 = .ok (.aload_n 0, 1) := by decide +kernel
theorem dX7_read_10 : decode cX7_read 10 = .ok (.getfield 64, 3) := by decide +kernel
theorem dX7_read_13 : decode cX7_read 13 = .ok (.invokevirtual 50, 3) := by decide +kernel
theorem dX7_read_16 : decode cX7_read 16 = .ok (.putfield 75, 3) := by decide +kernel
theorem dX7_read_19 : decode cX7_read 19 = .ok (.aload_n 0, 1) := by decide +kernel
theorem dX7_read_20 : decode cX7_read 20 = .ok (.iconst 0, 1) := by decide +kernel
theorem dX7_read_21 : decode cX7_read 21 = .ok (.putfield 64, 3) := by decide +kernel
theorem dX7_read_24 : decode cX7_read 24 = .ok (.aload_n 0, 1) := by decide +kernel
theorem dX7_read_25 : decode cX7_read 25 = .ok (.getfield 75, 3) := by decide +kernel
theorem dX7_read_28 : decode cX7_read 28 = .ok (.ifCond .eq 13, 3) := by decide +kernel
theorem dX7_read_31 : decode cX7_read 31 = .ok (.iconst (-1), 1) := by decide +kernel
theorem dX7_read_32 : decode cX7_read 32 = .ok (.aload_n 0, 1) := by decide +kernel
theorem dX7_read_33 : decode cX7_read 33 = .ok (.getfield 16, 3) := by decide +kernel
theorem dX7_read_36 : decode cX7_read 36 = .ok (.invokevirtual 78, 3) := by decide +kernel
theorem dX7_read_39 : decode cX7_read 39 = .ok (.isub, 1) := by decide +kernel
theorem dX7_read_40 : decode cX7_read 40 = .ok (.ireturn, 1) := by decide +kernel
theorem dX7_read_41 : decode cX7_read 41 = .ok (.aload_n 0, 1) := by decide +kernel
theorem dX7_read_42 : decode cX7_read 42 = .ok (.invokevirtual 54, 3) := by decide +kernel
theorem dX7_read_45 : decode cX7_read 45 = .ok (.aload_n 0, 1) := by decide +kernel
theorem dX7_read_46 : decode cX7_read 46 = .ok (.getfield 23, 3) := by decide +kernel
theorem dX7_read_49 : decode cX7_read 49 = .ok (.invokevirtual 82, 3) := by decide +kernel
theorem dX7_read_52 : decode cX7_read 52 = .ok (.ireturn, 1) := by decide +kernel
set_option maxRecDepth 20000 in
theorem ggX7_run_X7_reduce : GoodIn wsX7_run wsX7_reduce := goodIn_r _ [10, 4, 11, 12, 13, 14, 15, 16, 17, 18, 19, 20, 21, 22, 23, 24, 25, 26, 27, 28, 29, 30, 31, 32, 33, 34, 35, 36, 37, 38, 39, 40, 41, 42, 43, 44, 45, 46, 47, 9, 48, 49, 50, 51, 52, 53, 54, 55, 56, 57, 58, 59, 60, 61, 62, 63, 64, 65, 66, 67, 68, 69, 70, 71, 72, 73, 74, 75, 76, 77, 78, 79, 80, 81, 82, 83, 84, 85, 86, 87, 88, 89, 90, 91, 92, 93, 94, 95, 96, 97, 98, 99, 100, 101, 102, 103, 104, 105, 106, 107, 108, 109, 110, 111, 112, 113, 114, 115, 116, 117, 118, 119, 120, 121, 122, 123, 124, 125, 126, 127, 128, 129, 130, 131, 132, 133, 134, 135, 136, 137, 138, 139, 140, 141, 142, 143, 144, 145, 146, 147, 148, 149, 150, 151, 152, 153, 154, 155, 156, 157, 158, 159, 160, 161, 162, 163, 164, 165, 166, 167, 168, 169, 170, 171, 172, 173, 174, 175, 176, 177, 178, 179, 180, 181, 182, 183, 184, 185, 186, 187, 188, 189, 190, 191, 192, 193, 194, 195, 196, 197, 198, 199, 200, 201, 202, 203, 204, 205, 206, 207, 208, 209, 210, 211, 212, 213, 214, 215, 216, 217, 218, 219, 220, 221, 222, 223, 224, 225, 226, 227, 228, 229, 230, 231, 232, 233, 234, 235, 236, 237, 238, 239, 240, 241, 242, 243, 244, 245, 246, 247, 248, 249, 250, 251, 252, 253, 254, 255, 256, 257, 258, 259, 260, 261, 262, 263, 264, 265, 266, 267, 268, 269, 270, 271, 272, 273, 274, 275, 276, 277, 278, 279, 280, 281, 282, 283, 284, 285, 286, 287, 288, 289, 290, 291, 292, 293, 294, 295, 296, 297, 298, 299, 300, 301, 302, 303, 304, 305, 306, 307, 308, 309, 310, 311, 312, 313, 314, 315, 316, 317, 318, 319, 320, 321, 322, 323, 324, 325, 326, 327, 328, 329, 330, 331, 332, 333, 334, 335, 336, 337, 338, 339, 340, 341, 342, 343, 344, 345, 346, 347, 348, 349, 350, 351, 352, 353, 354, 355, 356, 357, 358, 359, 360, 361, 362, 363, 364, 365, 366, 367, 368, 369, 370, 371, 372, 377, 378, 379, 380, 381, 382, 383, 384, 385, 386, 387, 388, 389, 390, 391, 392, 393, 394, 395, 396, 397, 398, 399, 400, 401, 402, 403, 404, 405, 406, 407, 408, 409, 410, 411, 412, 413, 414, 415, 416, 417, 418, 419, 420, 421, 422, 423, 424, 425, 426, 427, 428, 429] (by decide +kernel) (by decide +kernel)
set_option maxRecDepth 20000 in
theorem gX7_run_X7_reduce : GoodIn wsX7_run (wsV RX7 88 RX7 yX7_reduce wsX7_reduce) := goodIn_app (goodIn_of _ (by decide +kernel)) ggX7_run_X7_reduce
set_option maxRecDepth 20000 in
theorem ggX7_run_X6_told : GoodIn wsX7_run wsX6_told := goodIn_r _ [376, 19, 386, 387, 388, 389, 390, 391, 392, 393, 394, 395, 396, 397, 398, 399, 400, 401] (by decide +kernel) (by decide +kernel)
set_option maxRecDepth 20000 in
theorem gX7_run_X6_told : GoodIn wsX7_run (wsV RX7 92 RX6 yX6_told wsX6_told) := goodIn_app (goodIn_of _ (by decide +kernel)) ggX7_run_X6_told
theorem dX7_run_0 : decode cX7_run 0 = .ok (.iload_n 1, 1) := by decide +kernel
theorem dX7_run_1 : decode cX7_run 1 = .ok (.ifCond .lt 9, 3) := by decide +kernel
theorem dX7_run_4 : decode cX7_run 4 = .ok (.iload_n 1, 1) := by decide +kernel
theorem dX7_run_5 : decode cX7_run 5 = .ok (.ldc 85, 2) := by decide +kernel
theorem dX7_run_7 : decode cX7_run 7 = .ok (.if_icmp .le 13, 3) := by decide +kernel
theorem dX7_run_10 : decode cX7_run 10 = .ok (.new 57, 3) := by decide +kernel
theorem dX7_run_13 : decode cX7_run 13 = .ok (.dup, 1) := by decide +kernel
theorem dX7_run_14 : decode cX7_run 14 = .ok (.ldc 86, 2) := by decide +kernel
theorem dX7_run_16 : decode cX7_run 16 = .ok (.invokespecial 61, 3) := by decide +kernel
theorem dX7_run_19 : decode cX7_run 19 = .ok (.athrow, 1) := by decide +kernel
theorem dX7_run_20 : decode cX7_run 20 = .ok (.aload_n 0, 1) := by decide +kernel
theorem dX7_run_21 : decode cX7_run 21 = .ok (.iload_n 1, 1) := by decide +kernel
theorem dX7_run_22 : decode cX7_run 22 = .ok (.invokevirtual 88, 3) := by decide +kernel
theorem dX7_run_25 : decode cX7_run 25 = .ok (.istore_n 2, 1) := by decide +kernel
theorem dX7_run_26 : decode cX7_run 26 = .ok (.aload_n 0, 1) := by decide +kernel
theorem dX7_run_27 : decode cX7_run 27 = .ok (.iload_n 2, 1) := by decide +kernel
theorem dX7_run_28 : decode cX7_run 28 = .ok (.ifCond .ne 13, 3) := by decide +kernel
theorem dX7_run_31 : decode cX7_run 31 = .ok (.aload_n 0, 1) := by decide +kernel
theorem dX7_run_32 : decode cX7_run 32 = .ok (.getfield 46, 3) := by decide +kernel
theorem dX7_run_35 : decode cX7_run 35 = .ok (.invokevirtual 92, 3) := by decide +kernel
theorem dX7_run_38 : decode cX7_run 38 = .ok (.goto 4, 3) := by decide +kernel
theorem dX7_run_41 : decode cX7_run 41 = .ok (.iconst 0, 1) := by decide +kernel
theorem dX7_run_42 : decode cX7_run 42 = .ok (.putfield 95, 3) := by decide +kernel
theorem dX7_run_45 : decode cX7_run 45 = .ok (.iload_n 2, 1) := by decide +kernel
theorem dX7_run_46 : decode cX7_run 46 = .ok (.ireturn, 1) := by decide +kernel
set_option maxRecDepth 20000 in
theorem ggX7_count_X3_betas : GoodIn wsX7_count wsX3_betas := goodIn_r _ [12, 13, 44, 45, 46, 47] (by decide +kernel) (by decide +kernel)
set_option maxRecDepth 20000 in
theorem gX7_count_X3_betas : GoodIn wsX7_count (wsV RX7 98 RX3 yX3_betas wsX3_betas) := goodIn_app (goodIn_of _ (by decide +kernel)) ggX7_count_X3_betas
set_option maxRecDepth 20000 in
theorem ggX7_count_X3_annihilations : GoodIn wsX7_count wsX3_annihilations := goodIn_r _ [17, 18, 44, 45, 46, 47] (by decide +kernel) (by decide +kernel)
set_option maxRecDepth 20000 in
theorem gX7_count_X3_annihilations : GoodIn wsX7_count (wsV RX7 101 RX3 yX3_annihilations wsX3_annihilations) := goodIn_app (goodIn_of _ (by decide +kernel)) ggX7_count_X3_annihilations
set_option maxRecDepth 20000 in
theorem ggX7_count_X3_passings : GoodIn wsX7_count wsX3_passings := goodIn_r _ [22, 23, 44, 45, 46, 47] (by decide +kernel) (by decide +kernel)
set_option maxRecDepth 20000 in
theorem gX7_count_X3_passings : GoodIn wsX7_count (wsV RX7 104 RX3 yX3_passings wsX3_passings) := goodIn_app (goodIn_of _ (by decide +kernel)) ggX7_count_X3_passings
set_option maxRecDepth 20000 in
theorem ggX7_count_X2_erasedNodes : GoodIn wsX7_count wsX2_erasedNodes := goodIn_r _ [28, 29, 48, 49, 50, 51, 52, 53, 54, 55, 56, 57] (by decide +kernel) (by decide +kernel)
set_option maxRecDepth 20000 in
theorem gX7_count_X2_erasedNodes : GoodIn wsX7_count (wsV RX7 107 RX2 yX2_erasedNodes wsX2_erasedNodes) := goodIn_app (goodIn_of _ (by decide +kernel)) ggX7_count_X2_erasedNodes
set_option maxRecDepth 20000 in
theorem ggX7_count_X2_size : GoodIn wsX7_count wsX2_size := goodIn_r _ [33, 34, 48, 49, 50, 51, 52, 53, 54, 55, 56, 57] (by decide +kernel) (by decide +kernel)
set_option maxRecDepth 20000 in
theorem gX7_count_X2_size : GoodIn wsX7_count (wsV RX7 82 RX2 yX2_size wsX2_size) := goodIn_app (goodIn_of _ (by decide +kernel)) ggX7_count_X2_size
theorem dX7_count_0 : decode cX7_count 0 = .ok (.iload_n 1, 1) := by decide +kernel
theorem dX7_count_1 : decode cX7_count 1 = .ok (.tableswitch 102 0 7 #[47, 52, 60, 68, 76, 84, 92, 97], 47) := by decide +kernel
theorem dX7_count_48 : decode cX7_count 48 = .ok (.aload_n 0, 1) := by decide +kernel
theorem dX7_count_49 : decode cX7_count 49 = .ok (.getfield 75, 3) := by decide +kernel
theorem dX7_count_52 : decode cX7_count 52 = .ok (.ireturn, 1) := by decide +kernel
theorem dX7_count_53 : decode cX7_count 53 = .ok (.aload_n 0, 1) := by decide +kernel
theorem dX7_count_54 : decode cX7_count 54 = .ok (.getfield 39, 3) := by decide +kernel
theorem dX7_count_57 : decode cX7_count 57 = .ok (.invokevirtual 98, 3) := by decide +kernel
theorem dX7_count_60 : decode cX7_count 60 = .ok (.ireturn, 1) := by decide +kernel
theorem dX7_count_61 : decode cX7_count 61 = .ok (.aload_n 0, 1) := by decide +kernel
theorem dX7_count_62 : decode cX7_count 62 = .ok (.getfield 39, 3) := by decide +kernel
theorem dX7_count_65 : decode cX7_count 65 = .ok (.invokevirtual 101, 3) := by decide +kernel
theorem dX7_count_68 : decode cX7_count 68 = .ok (.ireturn, 1) := by decide +kernel
theorem dX7_count_69 : decode cX7_count 69 = .ok (.aload_n 0, 1) := by decide +kernel
theorem dX7_count_70 : decode cX7_count 70 = .ok (.getfield 39, 3) := by decide +kernel
theorem dX7_count_73 : decode cX7_count 73 = .ok (.invokevirtual 104, 3) := by decide +kernel
theorem dX7_count_76 : decode cX7_count 76 = .ok (.ireturn, 1) := by decide +kernel
theorem dX7_count_77 : decode cX7_count 77 = .ok (.aload_n 0, 1) := by decide +kernel
theorem dX7_count_78 : decode cX7_count 78 = .ok (.getfield 23, 3) := by decide +kernel
theorem dX7_count_81 : decode cX7_count 81 = .ok (.invokevirtual 107, 3) := by decide +kernel
theorem dX7_count_84 : decode cX7_count 84 = .ok (.ireturn, 1) := by decide +kernel
theorem dX7_count_85 : decode cX7_count 85 = .ok (.aload_n 0, 1) := by decide +kernel
theorem dX7_count_86 : decode cX7_count 86 = .ok (.getfield 23, 3) := by decide +kernel
theorem dX7_count_89 : decode cX7_count 89 = .ok (.invokevirtual 82, 3) := by decide +kernel
theorem dX7_count_92 : decode cX7_count 92 = .ok (.ireturn, 1) := by decide +kernel
theorem dX7_count_93 : decode cX7_count 93 = .ok (.aload_n 0, 1) := by decide +kernel
theorem dX7_count_94 : decode cX7_count 94 = .ok (.getfield 95, 3) := by decide +kernel
theorem dX7_count_97 : decode cX7_count 97 = .ok (.ireturn, 1) := by decide +kernel
theorem dX7_count_98 : decode cX7_count 98 = .ok (.aload_n 0, 1) := by decide +kernel
theorem dX7_count_99 : decode cX7_count 99 = .ok (.getfield 64, 3) := by decide +kernel
theorem dX7_count_102 : decode cX7_count 102 = .ok (.ireturn, 1) := by decide +kernel
theorem dX7_count_103 : decode cX7_count 103 = .ok (.new 110, 3) := by decide +kernel
theorem dX7_count_106 : decode cX7_count 106 = .ok (.dup, 1) := by decide +kernel
theorem dX7_count_107 : decode cX7_count 107 = .ok (.ldc 112, 2) := by decide +kernel
theorem dX7_count_109 : decode cX7_count 109 = .ok (.invokespecial 114, 3) := by decide +kernel
theorem dX7_count_112 : decode cX7_count 112 = .ok (.athrow, 1) := by decide +kernel
set_option maxRecDepth 20000 in
theorem ggX7_letter_X6_letterAt : GoodIn wsX7_letter wsX6_letterAt := goodIn_r _ [9, 10, 11, 21, 22, 23, 24, 25, 26, 27, 28, 29, 30, 31, 32, 33, 34, 35, 36] (by decide +kernel) (by decide +kernel)
set_option maxRecDepth 20000 in
theorem gX7_letter_X6_letterAt : GoodIn wsX7_letter (wsV RX7 117 RX6 yX6_letterAt wsX6_letterAt) := goodIn_app (goodIn_of _ (by decide +kernel)) ggX7_letter_X6_letterAt
theorem dX7_letter_0 : decode cX7_letter 0 = .ok (.iload_n 1, 1) := by decide +kernel
theorem dX7_letter_1 : decode cX7_letter 1 = .ok (.ifCond .lt 11, 3) := by decide +kernel
theorem dX7_letter_4 : decode cX7_letter 4 = .ok (.iload_n 1, 1) := by decide +kernel
theorem dX7_letter_5 : decode cX7_letter 5 = .ok (.aload_n 0, 1) := by decide +kernel
theorem dX7_letter_6 : decode cX7_letter 6 = .ok (.getfield 95, 3) := by decide +kernel
theorem dX7_letter_9 : decode cX7_letter 9 = .ok (.if_icmp .lt 13, 3) := by decide +kernel
theorem dX7_letter_12 : decode cX7_letter 12 = .ok (.new 110, 3) := by decide +kernel
theorem dX7_letter_15 : decode cX7_letter 15 = .ok (.dup, 1) := by decide +kernel
theorem dX7_letter_16 : decode cX7_letter 16 = .ok (.ldc 115, 2) := by decide +kernel
theorem dX7_letter_18 : decode cX7_letter 18 = .ok (.invokespecial 114, 3) := by decide +kernel
theorem dX7_letter_21 : decode cX7_letter 21 = .ok (.athrow, 1) := by decide +kernel
theorem dX7_letter_22 : decode cX7_letter 22 = .ok (.aload_n 0, 1) := by decide +kernel
theorem dX7_letter_23 : decode cX7_letter 23 = .ok (.getfield 46, 3) := by decide +kernel
theorem dX7_letter_26 : decode cX7_letter 26 = .ok (.iload_n 1, 1) := by decide +kernel
theorem dX7_letter_27 : decode cX7_letter 27 = .ok (.invokevirtual 117, 3) := by decide +kernel
theorem dX7_letter_30 : decode cX7_letter 30 = .ok (.ireturn, 1) := by decide +kernel
set_option maxRecDepth 20000 in
theorem ggX7_nodes_X2_population : GoodIn wsX7_nodes wsX2_population := goodIn_r _ [8, 9, 19, 20, 21, 22, 23, 24, 25, 26, 27, 28] (by decide +kernel) (by decide +kernel)
set_option maxRecDepth 20000 in
theorem gX7_nodes_X2_population : GoodIn wsX7_nodes (wsV RX7 122 RX2 yX2_population wsX2_population) := goodIn_app (goodIn_of _ (by decide +kernel)) ggX7_nodes_X2_population
theorem dX7_nodes_0 : decode cX7_nodes 0 = .ok (.iload_n 1, 1) := by decide +kernel
theorem dX7_nodes_1 : decode cX7_nodes 1 = .ok (.ifCond .lt 8, 3) := by decide +kernel
theorem dX7_nodes_4 : decode cX7_nodes 4 = .ok (.iload_n 1, 1) := by decide +kernel
theorem dX7_nodes_5 : decode cX7_nodes 5 = .ok (.iconst 5, 1) := by decide +kernel
theorem dX7_nodes_6 : decode cX7_nodes 6 = .ok (.if_icmp .le 13, 3) := by decide +kernel
theorem dX7_nodes_9 : decode cX7_nodes 9 = .ok (.new 110, 3) := by decide +kernel
theorem dX7_nodes_12 : decode cX7_nodes 12 = .ok (.dup, 1) := by decide +kernel
theorem dX7_nodes_13 : decode cX7_nodes 13 = .ok (.ldc 120, 2) := by decide +kernel
theorem dX7_nodes_15 : decode cX7_nodes 15 = .ok (.invokespecial 114, 3) := by decide +kernel
theorem dX7_nodes_18 : decode cX7_nodes 18 = .ok (.athrow, 1) := by decide +kernel
theorem dX7_nodes_19 : decode cX7_nodes 19 = .ok (.aload_n 0, 1) := by decide +kernel
theorem dX7_nodes_20 : decode cX7_nodes 20 = .ok (.getfield 23, 3) := by decide +kernel
theorem dX7_nodes_23 : decode cX7_nodes 23 = .ok (.iload_n 1, 1) := by decide +kernel
theorem dX7_nodes_24 : decode cX7_nodes 24 = .ok (.invokevirtual 122, 3) := by decide +kernel
theorem dX7_nodes_27 : decode cX7_nodes 27 = .ok (.ireturn, 1) := by decide +kernel
set_option maxRecDepth 20000 in
theorem ggX7_takeTerm_X2_clear : GoodIn wsX7_takeTerm wsX2_clear := goodIn_r _ [10, 11, 12, 13, 14, 15, 16, 17, 148, 149, 150, 151, 152, 153, 154, 155, 156, 157] (by decide +kernel) (by decide +kernel)
set_option maxRecDepth 20000 in
theorem gX7_takeTerm_X2_clear : GoodIn wsX7_takeTerm (wsV RX7 125 RX2 yX2_clear wsX2_clear) := goodIn_app (goodIn_of _ (by decide +kernel)) ggX7_takeTerm_X2_clear
set_option maxRecDepth 20000 in
theorem ggX7_takeTerm_X3_clear : GoodIn wsX7_takeTerm wsX3_clear := goodIn_r _ [22, 23, 24, 25, 158, 159, 160, 161] (by decide +kernel) (by decide +kernel)
set_option maxRecDepth 20000 in
theorem gX7_takeTerm_X3_clear : GoodIn wsX7_takeTerm (wsV RX7 128 RX3 yX3_clear wsX3_clear) := goodIn_app (goodIn_of _ (by decide +kernel)) ggX7_takeTerm_X3_clear
set_option maxRecDepth 20000 in
theorem ggX7_takeTerm_X0_build : GoodIn wsX7_takeTerm wsX0_build := goodIn_r _ [30, 31, 32, 33, 34, 35, 36, 9, 37, 15, 13, 11, 38, 14, 39, 40, 41, 42, 43, 44, 45, 46, 47, 48, 49, 50, 51, 52, 53, 54, 55, 56, 57, 58, 59, 60, 61, 62, 29, 63, 64, 65, 66, 67, 68, 69, 70, 71, 72, 73, 74, 75, 76, 77, 78, 79, 80, 81, 82, 16, 12, 83, 84, 85, 86, 87, 88, 89, 90, 91, 92, 93, 94, 95, 162, 163, 164, 165, 148, 149, 150, 151, 152, 153, 154, 155, 156, 157, 166, 167, 168, 169, 170, 171, 172, 173, 174, 175, 176, 177, 178, 179, 180] (by decide +kernel) (by decide +kernel)
set_option maxRecDepth 20000 in
theorem gX7_takeTerm_X0_build : GoodIn wsX7_takeTerm (wsV RX7 129 RX0 yX0_build wsX0_build) := goodIn_app (goodIn_of _ (by decide +kernel)) ggX7_takeTerm_X0_build
set_option maxRecDepth 20000 in
theorem ggX7_takeTerm_X2_eraseAll : GoodIn wsX7_takeTerm wsX2_eraseAll := goodIn_r _ [99, 100, 16, 83, 101, 102, 103, 9, 104, 12, 11, 65, 66, 67, 105, 106, 107, 108, 76, 77, 78, 109, 110, 111, 112, 113, 114, 115, 116, 15, 14, 13, 117, 118, 119, 120, 121, 122, 123, 124, 125, 126, 127, 128, 129, 130, 17, 131, 132, 133, 35, 36, 37, 38, 134, 135, 136, 137, 138, 73, 74, 75, 79, 80, 81, 82, 148, 149, 150, 151, 152, 153, 154, 155, 156, 157] (by decide +kernel) (by decide +kernel)
set_option maxRecDepth 20000 in
theorem gX7_takeTerm_X2_eraseAll : GoodIn wsX7_takeTerm (wsV RX7 133 RX2 yX2_eraseAll wsX2_eraseAll) := goodIn_app (goodIn_of _ (by decide +kernel)) ggX7_takeTerm_X2_eraseAll
theorem dX7_takeTerm_0 : decode cX7_takeTerm 0 = .ok (.aload_n 0, 1) := by decide +kernel
theorem dX7_takeTerm_1 : decode cX7_takeTerm 1 = .ok (.getfield 23, 3) := by decide +kernel
theorem dX7_takeTerm_4 : decode cX7_takeTerm 4 = .ok (.invokevirtual 125, 3) := by decide +kernel
theorem dX7_takeTerm_7 : decode cX7_takeTerm 7 = .ok (.aload_n 0, 1) := by decide +kernel
theorem dX7_takeTerm_8 : decode cX7_takeTerm 8 = .ok (.getfield 39, 3) := by decide +kernel
theorem dX7_takeTerm_11 : decode cX7_takeTerm 11 = .ok (.invokevirtual 128, 3) := by decide +kernel
theorem dX7_takeTerm_14 : decode cX7_takeTerm 14 = .ok (.aload_n 0, 1) := by decide +kernel
theorem dX7_takeTerm_15 : decode cX7_takeTerm 15 = .ok (.getfield 32, 3) := by decide +kernel
theorem dX7_takeTerm_18 : decode cX7_takeTerm 18 = .ok (.aload_n 0, 1) := by decide +kernel
theorem dX7_takeTerm_19 : decode cX7_takeTerm 19 = .ok (.getfield 16, 3) := by decide +kernel
theorem dX7_takeTerm_22 : decode cX7_takeTerm 22 = .ok (.invokevirtual 129, 3) := by decide +kernel
theorem dX7_takeTerm_25 : decode cX7_takeTerm 25 = .ok (.aload_n 0, 1) := by decide +kernel
theorem dX7_takeTerm_26 : decode cX7_takeTerm 26 = .ok (.getfield 23, 3) := by decide +kernel
theorem dX7_takeTerm_29 : decode cX7_takeTerm 29 = .ok (.invokevirtual 133, 3) := by decide +kernel
theorem dX7_takeTerm_32 : decode cX7_takeTerm 32 = .ok (.aload_n 0, 1) := by decide +kernel
theorem dX7_takeTerm_33 : decode cX7_takeTerm 33 = .ok (.iconst 0, 1) := by decide +kernel
theorem dX7_takeTerm_34 : decode cX7_takeTerm 34 = .ok (.putfield 95, 3) := by decide +kernel
theorem dX7_takeTerm_37 : decode cX7_takeTerm 37 = .ok (.return_, 1) := by decide +kernel
set_option maxRecDepth 20000 in
theorem ggX7_reduce_X6_begin : GoodIn wsX7_reduce wsX6_begin := goodIn_r _ [8, 9, 10, 11, 12, 13, 14, 15, 16, 17, 18, 19, 20, 21, 22, 23, 24, 25, 26, 27, 28, 29, 30, 31, 32, 33, 34, 35, 36, 37, 38, 39, 40, 374, 375, 376, 377, 378, 379, 380, 381, 382, 383, 384, 385, 386, 387, 388, 389, 390, 391, 392, 393, 394, 395, 396, 397, 398, 399, 400, 401, 402, 403] (by decide +kernel) (by decide +kernel)
set_option maxRecDepth 20000 in
theorem gX7_reduce_X6_begin : GoodIn wsX7_reduce (wsV RX7 136 RX6 yX6_begin wsX6_begin) := goodIn_app (goodIn_of _ (by decide +kernel)) ggX7_reduce_X6_begin
set_option maxRecDepth 20000 in
theorem ggX7_reduce_X6_advance : GoodIn wsX7_reduce wsX6_advance := goodIn_r _ [44, 11, 45, 15, 46, 47, 48, 49, 50, 51, 52, 53, 54, 55, 7, 56, 57, 39, 58, 59, 60, 61, 62, 63, 64, 65, 66, 67, 68, 69, 9, 70, 71, 72, 73, 74, 75, 76, 77, 78, 79, 80, 81, 82, 13, 83, 84, 14, 85, 86, 87, 88, 10, 89, 90, 91, 92, 93, 94, 95, 96, 97, 98, 99, 100, 101, 102, 103, 104, 105, 106, 107, 108, 109, 110, 111, 19, 112, 21, 113, 114, 115, 116, 117, 12, 118, 119, 120, 121, 122, 123, 124, 22, 125, 126, 127, 128, 38, 40, 129, 130, 131, 132, 133, 134, 135, 136, 137, 138, 139, 140, 141, 142, 143, 144, 145, 146, 147, 148, 149, 150, 151, 152, 153, 154, 155, 156, 23, 157, 158, 159, 160, 27, 161, 29, 162, 163, 164, 165, 166, 167, 168, 169, 170, 171, 172, 173, 174, 175, 176, 177, 178, 179, 180, 181, 182, 183, 184, 185, 186, 187, 188, 189, 190, 31, 191, 192, 193, 194, 32, 195, 196, 197, 198, 33, 199, 200, 201, 202, 203, 204, 205, 206, 30, 34, 35, 36, 37, 207, 208, 209, 210, 211, 212, 213, 214, 215, 216, 217, 218, 219, 220, 221, 222, 223, 224, 225, 226, 227, 228, 229, 230, 231, 232, 233, 234, 24, 25, 26, 28, 235, 236, 237, 238, 374, 375, 376, 377, 378, 379, 380, 381, 382, 383, 384, 385, 386, 387, 388, 389, 404, 405, 406, 407, 408, 409, 410, 411, 412, 413, 390, 391, 392, 393, 394, 395, 396, 397, 398, 399, 400, 401, 402, 403] (by decide +kernel) (by decide +kernel)
set_option maxRecDepth 20000 in
theorem gX7_reduce_X6_advance : GoodIn wsX7_reduce (wsV RX7 139 RX6 yX6_advance wsX6_advance) := goodIn_app (goodIn_of _ (by decide +kernel)) ggX7_reduce_X6_advance
set_option maxRecDepth 20000 in
theorem ggX7_reduce_X6_nodeLeft : GoodIn wsX7_reduce wsX6_nodeLeft := goodIn_r _ [242, 15, 59, 39, 60, 374, 375, 376, 377, 378, 379, 380, 381, 382, 383, 384, 385, 386, 387, 388, 389] (by decide +kernel) (by decide +kernel)
set_option maxRecDepth 20000 in
theorem gX7_reduce_X6_nodeLeft : GoodIn wsX7_reduce (wsV RX7 142 RX6 yX6_nodeLeft wsX6_nodeLeft) := goodIn_app (goodIn_of _ (by decide +kernel)) ggX7_reduce_X6_nodeLeft
set_option maxRecDepth 20000 in
theorem ggX7_reduce_X6_nodeAhead : GoodIn wsX7_reduce wsX6_nodeAhead := goodIn_r _ [246, 45, 15, 47, 48, 49, 50, 51, 52, 59, 39, 60, 374, 375, 376, 377, 378, 379, 380, 381, 382, 383, 384, 385, 386, 387, 388, 389, 404, 405, 406, 407, 408, 409, 410, 411, 412, 413] (by decide +kernel) (by decide +kernel)
set_option maxRecDepth 20000 in
theorem gX7_reduce_X6_nodeAhead : GoodIn wsX7_reduce (wsV RX7 145 RX6 yX6_nodeAhead wsX6_nodeAhead) := goodIn_app (goodIn_of _ (by decide +kernel)) ggX7_reduce_X6_nodeAhead
set_option maxRecDepth 20000 in
theorem ggX7_reduce_X3_refusal : GoodIn wsX7_reduce wsX3_refusal := goodIn_r _ [251, 252, 253, 254, 250, 255, 256, 257, 62, 63, 50, 64, 65, 258, 259, 260, 261, 262, 71, 72, 73, 74, 263, 264, 265, 266, 267, 39, 268, 269, 270, 271, 272, 273, 274, 275, 276, 277, 278, 279, 280, 281, 282, 283, 284, 285, 286, 287, 414, 415, 416, 417, 404, 405, 406, 407, 408, 409, 410, 411, 412, 413] (by decide +kernel) (by decide +kernel)
set_option maxRecDepth 20000 in
theorem gX7_reduce_X3_refusal : GoodIn wsX7_reduce (wsV RX7 148 RX3 yX3_refusal wsX3_refusal) := goodIn_app (goodIn_of _ (by decide +kernel)) ggX7_reduce_X3_refusal
set_option maxRecDepth 20000 in
theorem ggX7_reduce_X6_stepBack : GoodIn wsX7_reduce wsX6_stepBack := goodIn_r _ [291, 11, 45, 15, 9, 12, 10, 46, 59, 39, 60, 61, 62, 63, 50, 64, 65, 292, 232, 233, 19, 234, 22, 154, 155, 153, 23, 156, 162, 163, 164, 165, 21, 113, 166, 106, 107, 108, 171, 172, 173, 174, 175, 176, 177, 178, 157, 110, 111, 112, 195, 196, 197, 27, 198, 29, 33, 24, 25, 26, 28, 30, 31, 32, 34, 35, 36, 37, 374, 375, 376, 377, 378, 379, 380, 381, 382, 383, 384, 385, 386, 387, 388, 389, 404, 405, 406, 407, 408, 409, 410, 411, 412, 413, 390, 391, 392, 393, 394, 395, 396, 397, 398, 399, 400, 401, 402, 403] (by decide +kernel) (by decide +kernel)
set_option maxRecDepth 20000 in
theorem gX7_reduce_X6_stepBack : GoodIn wsX7_reduce (wsV RX7 152 RX6 yX6_stepBack wsX6_stepBack) := goodIn_app (goodIn_of _ (by decide +kernel)) ggX7_reduce_X6_stepBack
set_option maxRecDepth 20000 in
theorem ggX7_reduce_X3_act : GoodIn wsX7_reduce wsX3_act := goodIn_r _ [296, 297, 298, 252, 253, 254, 250, 255, 256, 257, 62, 63, 50, 64, 65, 258, 259, 260, 261, 262, 71, 72, 73, 74, 299, 300, 301, 302, 282, 39, 283, 38, 40, 303, 304, 305, 306, 307, 48, 49, 51, 52, 308, 309, 310, 311, 59, 60, 312, 313, 314, 315, 316, 317, 318, 319, 320, 321, 322, 281, 323, 324, 325, 263, 264, 265, 266, 267, 268, 269, 270, 271, 272, 326, 327, 328, 329, 330, 284, 285, 286, 287, 331, 332, 333, 334, 335, 336, 337, 338, 339, 414, 415, 416, 417, 404, 405, 406, 407, 408, 409, 410, 411, 412, 413] (by decide +kernel) (by decide +kernel)
set_option maxRecDepth 20000 in
theorem gX7_reduce_X3_act : GoodIn wsX7_reduce (wsV RX7 155 RX3 yX3_act wsX3_act) := goodIn_app (goodIn_of _ (by decide +kernel)) ggX7_reduce_X3_act
set_option maxRecDepth 20000 in
theorem ggX7_reduce_X2_eraseAll : GoodIn wsX7_reduce wsX2_eraseAll := goodIn_r _ [343, 344, 316, 318, 345, 346, 347, 50, 348, 317, 65, 38, 39, 40, 307, 48, 49, 51, 52, 59, 60, 325, 62, 63, 64, 349, 320, 321, 322, 281, 323, 324, 57, 58, 350, 351, 352, 353, 354, 355, 356, 357, 358, 359, 360, 361, 362, 282, 283, 363, 332, 333, 334, 74, 364, 336, 337, 338, 308, 309, 310, 311, 312, 313, 314, 315, 404, 405, 406, 407, 408, 409, 410, 411, 412, 413] (by decide +kernel) (by decide +kernel)
set_option maxRecDepth 20000 in
theorem gX7_reduce_X2_eraseAll : GoodIn wsX7_reduce (wsV RX7 133 RX2 yX2_eraseAll wsX2_eraseAll) := goodIn_app (goodIn_of _ (by decide +kernel)) ggX7_reduce_X2_eraseAll
theorem dX7_reduce_0 : decode cX7_reduce 0 = .ok (.aload_n 0, 1) := by decide +kernel
theorem dX7_reduce_1 : decode cX7_reduce 1 = .ok (.getfield 46, 3) := by decide +kernel
theorem dX7_reduce_4 : decode cX7_reduce 4 = .ok (.invokevirtual 136, 3) := by decide +kernel
theorem dX7_reduce_7 : decode cX7_reduce 7 = .ok (.iload_n 1, 1) := by decide +kernel
theorem dX7_reduce_8 : decode cX7_reduce 8 = .ok (.istore_n 2, 1) := by decide +kernel
theorem dX7_reduce_9 : decode cX7_reduce 9 = .ok (.iload_n 2, 1) := by decide +kernel
theorem dX7_reduce_10 : decode cX7_reduce 10 = .ok (.ifCond .lt 95, 3) := by decide +kernel
theorem dX7_reduce_13 : decode cX7_reduce 13 = .ok (.aload_n 0, 1) := by decide +kernel
theorem dX7_reduce_14 : decode cX7_reduce 14 = .ok (.getfield 46, 3) := by decide +kernel
theorem dX7_reduce_17 : decode cX7_reduce 17 = .ok (.invokevirtual 139, 3) := by decide +kernel
theorem dX7_reduce_20 : decode cX7_reduce 20 = .ok (.istore_n 3, 1) := by decide +kernel
theorem dX7_reduce_21 : decode cX7_reduce 21 = .ok (.iload_n 3, 1) := by decide +kernel
theorem dX7_reduce_22 : decode cX7_reduce 22 = .ok (.iconst 5, 1) := by decide +kernel
theorem dX7_reduce_23 : decode cX7_reduce 23 = .ok (.if_icmp .eq 5, 3) := by decide +kernel
theorem dX7_reduce_26 : decode cX7_reduce 26 = .ok (.iload_n 3, 1) := by decide +kernel
theorem dX7_reduce_27 : decode cX7_reduce 27 = .ok (.ireturn, 1) := by decide +kernel
theorem dX7_reduce_28 : decode cX7_reduce 28 = .ok (.iload_n 2, 1) := by decide +kernel
theorem dX7_reduce_29 : decode cX7_reduce 29 = .ok (.ifCond .ne 5, 3) := by decide +kernel
theorem dX7_reduce_32 : decode cX7_reduce 32 = .ok (.iconst 1, 1) := by decide +kernel
theorem dX7_reduce_33 : decode cX7_reduce 33 = .ok (.ireturn, 1) := by decide +kernel
theorem dX7_reduce_34 : decode cX7_reduce 34 = .ok (.aload_n 0, 1) := by decide +kernel
theorem dX7_reduce_35 : decode cX7_reduce 35 = .ok (.getfield 46, 3) := by decide +kernel
theorem dX7_reduce_38 : decode cX7_reduce 38 = .ok (.invokevirtual 142, 3) := by decide +kernel
theorem dX7_reduce_41 : decode cX7_reduce 41 = .ok (.istore 4, 2) := by decide +kernel
theorem dX7_reduce_43 : decode cX7_reduce 43 = .ok (.aload_n 0, 1) := by decide +kernel
theorem dX7_reduce_44 : decode cX7_reduce 44 = .ok (.getfield 46, 3) := by decide +kernel
theorem dX7_reduce_47 : decode cX7_reduce 47 = .ok (.invokevirtual 145, 3) := by decide +kernel
theorem dX7_reduce_50 : decode cX7_reduce 50 = .ok (.istore 5, 2) := by decide +kernel
theorem dX7_reduce_52 : decode cX7_reduce 52 = .ok (.aload_n 0, 1) := by decide +kernel
theorem dX7_reduce_53 : decode cX7_reduce 53 = .ok (.getfield 39, 3) := by decide +kernel
theorem dX7_reduce_56 : decode cX7_reduce 56 = .ok (.iload 4, 2) := by decide +kernel
theorem dX7_reduce_58 : decode cX7_reduce 58 = .ok (.iload 5, 2) := by decide +kernel
theorem dX7_reduce_60 : decode cX7_reduce 60 = .ok (.invokevirtual 148, 3) := by decide +kernel
theorem dX7_reduce_63 : decode cX7_reduce 63 = .ok (.istore 6, 2) := by decide +kernel
theorem dX7_reduce_65 : decode cX7_reduce 65 = .ok (.iload 6, 2) := by decide +kernel
theorem dX7_reduce_67 : decode cX7_reduce 67 = .ok (.iconst 5, 1) := by decide +kernel
theorem dX7_reduce_68 : decode cX7_reduce 68 = .ok (.if_icmp .eq 6, 3) := by decide +kernel
theorem dX7_reduce_71 : decode cX7_reduce 71 = .ok (.iload 6, 2) := by decide +kernel
theorem dX7_reduce_73 : decode cX7_reduce 73 = .ok (.ireturn, 1) := by decide +kernel
theorem dX7_reduce_74 : decode cX7_reduce 74 = .ok (.aload_n 0, 1) := by decide +kernel
theorem dX7_reduce_75 : decode cX7_reduce 75 = .ok (.getfield 46, 3) := by decide +kernel
theorem dX7_reduce_78 : decode cX7_reduce 78 = .ok (.invokevirtual 152, 3) := by decide +kernel
theorem dX7_reduce_81 : decode cX7_reduce 81 = .ok (.aload_n 0, 1) := by decide +kernel
theorem dX7_reduce_82 : decode cX7_reduce 82 = .ok (.getfield 39, 3) := by decide +kernel
theorem dX7_reduce_85 : decode cX7_reduce 85 = .ok (.iload 4, 2) := by decide +kernel
theorem dX7_reduce_87 : decode cX7_reduce 87 = .ok (.iload 5, 2) := by decide +kernel
theorem dX7_reduce_89 : decode cX7_reduce 89 = .ok (.invokevirtual 155, 3) := by decide +kernel
theorem dX7_reduce_92 : decode cX7_reduce 92 = .ok (.aload_n 0, 1) := by decide +kernel
theorem dX7_reduce_93 : decode cX7_reduce 93 = .ok (.getfield 23, 3) := by decide +kernel
theorem dX7_reduce_96 : decode cX7_reduce 96 = .ok (.invokevirtual 133, 3) := by decide +kernel
theorem dX7_reduce_99 : decode cX7_reduce 99 = .ok (.iinc 2 (-1), 3) := by decide +kernel
theorem dX7_reduce_102 : decode cX7_reduce 102 = .ok (.goto (-93), 3) := by decide +kernel
theorem dX7_reduce_105 : decode cX7_reduce 105 = .ok (.iconst 1, 1) := by decide +kernel
theorem dX7_reduce_106 : decode cX7_reduce 106 = .ok (.ireturn, 1) := by decide +kernel
theorem dX7_isControl_0 : decode cX7_isControl 0 = .ok (.iload_n 0, 1) := by decide +kernel
theorem dX7_isControl_1 : decode cX7_isControl 1 = .ok (.iconst 2, 1) := by decide +kernel
theorem dX7_isControl_2 : decode cX7_isControl 2 = .ok (.if_icmp .eq 13, 3) := by decide +kernel
theorem dX7_isControl_5 : decode cX7_isControl 5 = .ok (.iload_n 0, 1) := by decide +kernel
theorem dX7_isControl_6 : decode cX7_isControl 6 = .ok (.iconst 3, 1) := by decide +kernel
theorem dX7_isControl_7 : decode cX7_isControl 7 = .ok (.if_icmp .eq 8, 3) := by decide +kernel
theorem dX7_isControl_10 : decode cX7_isControl 10 = .ok (.iload_n 0, 1) := by decide +kernel
theorem dX7_isControl_11 : decode cX7_isControl 11 = .ok (.iconst 4, 1) := by decide +kernel
theorem dX7_isControl_12 : decode cX7_isControl 12 = .ok (.if_icmp .ne 7, 3) := by decide +kernel
theorem dX7_isControl_15 : decode cX7_isControl 15 = .ok (.iconst 1, 1) := by decide +kernel
theorem dX7_isControl_16 : decode cX7_isControl 16 = .ok (.goto 4, 3) := by decide +kernel
theorem dX7_isControl_19 : decode cX7_isControl 19 = .ok (.iconst 0, 1) := by decide +kernel
theorem dX7_isControl_20 : decode cX7_isControl 20 = .ok (.ireturn, 1) := by decide +kernel
theorem dX7_otherPorts_0 : decode cX7_otherPorts 0 = .ok (.iload_n 0, 1) := by decide +kernel
theorem dX7_otherPorts_1 : decode cX7_otherPorts 1 = .ok (.tableswitch 39 0 4 #[35, 35, 35, 37, 37], 35) := by decide +kernel
theorem dX7_otherPorts_36 : decode cX7_otherPorts 36 = .ok (.iconst 2, 1) := by decide +kernel
theorem dX7_otherPorts_37 : decode cX7_otherPorts 37 = .ok (.ireturn, 1) := by decide +kernel
theorem dX7_otherPorts_38 : decode cX7_otherPorts 38 = .ok (.iconst 1, 1) := by decide +kernel
theorem dX7_otherPorts_39 : decode cX7_otherPorts 39 = .ok (.ireturn, 1) := by decide +kernel
theorem dX7_otherPorts_40 : decode cX7_otherPorts 40 = .ok (.iconst 0, 1) := by decide +kernel
theorem dX7_otherPorts_41 : decode cX7_otherPorts 41 = .ok (.ireturn, 1) := by decide +kernel
theorem dX7_portOf_0 : decode cX7_portOf 0 = .ok (.iload_n 0, 1) := by decide +kernel
theorem dX7_portOf_1 : decode cX7_portOf 1 = .ok (.iconst 4, 1) := by decide +kernel
theorem dX7_portOf_2 : decode cX7_portOf 2 = .ok (.imul, 1) := by decide +kernel
theorem dX7_portOf_3 : decode cX7_portOf 3 = .ok (.iload_n 1, 1) := by decide +kernel
theorem dX7_portOf_4 : decode cX7_portOf 4 = .ok (.iadd, 1) := by decide +kernel
theorem dX7_portOf_5 : decode cX7_portOf 5 = .ok (.ireturn, 1) := by decide +kernel
theorem dX7_nodeAt_0 : decode cX7_nodeAt 0 = .ok (.iload_n 0, 1) := by decide +kernel
theorem dX7_nodeAt_1 : decode cX7_nodeAt 1 = .ok (.iconst 2, 1) := by decide +kernel
theorem dX7_nodeAt_2 : decode cX7_nodeAt 2 = .ok (.ishr, 1) := by decide +kernel
theorem dX7_nodeAt_3 : decode cX7_nodeAt 3 = .ok (.ireturn, 1) := by decide +kernel
theorem dX7_whichAt_0 : decode cX7_whichAt 0 = .ok (.iload_n 0, 1) := by decide +kernel
theorem dX7_whichAt_1 : decode cX7_whichAt 1 = .ok (.iconst 3, 1) := by decide +kernel
theorem dX7_whichAt_2 : decode cX7_whichAt 2 = .ok (.iand, 1) := by decide +kernel
theorem dX7_whichAt_3 : decode cX7_whichAt 3 = .ok (.ireturn, 1) := by decide +kernel
theorem dX8_thrown_0 : decode cX8_thrown 0 = .ok (.aload_n 0, 1) := by decide +kernel
theorem dX8_thrown_1 : decode cX8_thrown 1 = .ok (.getfield 1, 3) := by decide +kernel
theorem dX8_thrown_4 : decode cX8_thrown 4 = .ok (.ireturn, 1) := by decide +kernel
theorem dX8_type_0 : decode cX8_type 0 = .ok (.aload_n 0, 1) := by decide +kernel
theorem dX8_type_1 : decode cX8_type 1 = .ok (.iload_n 3, 1) := by decide +kernel
theorem dX8_type_2 : decode cX8_type 2 = .ok (.iconst 1, 1) := by decide +kernel
theorem dX8_type_3 : decode cX8_type 3 = .ok (.if_icmp .lt 9, 3) := by decide +kernel
theorem dX8_type_6 : decode cX8_type 6 = .ok (.iload_n 3, 1) := by decide +kernel
theorem dX8_type_7 : decode cX8_type 7 = .ok (.bipush 8, 2) := by decide +kernel
theorem dX8_type_9 : decode cX8_type 9 = .ok (.if_icmp .le 7, 3) := by decide +kernel
theorem dX8_type_12 : decode cX8_type 12 = .ok (.iconst 1, 1) := by decide +kernel
theorem dX8_type_13 : decode cX8_type 13 = .ok (.goto 20, 3) := by decide +kernel
theorem dX8_type_16 : decode cX8_type 16 = .ok (.aload_n 0, 1) := by decide +kernel
theorem dX8_type_17 : decode cX8_type 17 = .ok (.getfield 7, 3) := by decide +kernel
theorem dX8_type_20 : decode cX8_type 20 = .ok (.iload_n 3, 1) := by decide +kernel
theorem dX8_type_21 : decode cX8_type 21 = .ok (.iadd, 1) := by decide +kernel
theorem dX8_type_22 : decode cX8_type 22 = .ok (.sipush 600, 3) := by decide +kernel
theorem dX8_type_25 : decode cX8_type 25 = .ok (.if_icmp .le 7, 3) := by decide +kernel
theorem dX8_type_28 : decode cX8_type 28 = .ok (.iconst 2, 1) := by decide +kernel
theorem dX8_type_29 : decode cX8_type 29 = .ok (.goto 4, 3) := by decide +kernel
theorem dX8_type_32 : decode cX8_type 32 = .ok (.iconst 0, 1) := by decide +kernel
theorem dX8_type_33 : decode cX8_type 33 = .ok (.putfield 1, 3) := by decide +kernel
theorem dX8_type_36 : decode cX8_type 36 = .ok (.aload_n 0, 1) := by decide +kernel
theorem dX8_type_37 : decode cX8_type 37 = .ok (.getfield 1, 3) := by decide +kernel
theorem dX8_type_40 : decode cX8_type 40 = .ok (.ifCond .le 5, 3) := by decide +kernel
theorem dX8_type_43 : decode cX8_type 43 = .ok (.iconst 0, 1) := by decide +kernel
theorem dX8_type_44 : decode cX8_type 44 = .ok (.ireturn, 1) := by decide +kernel
theorem dX8_type_45 : decode cX8_type 45 = .ok (.iload_n 3, 1) := by decide +kernel
theorem dX8_type_46 : decode cX8_type 46 = .ok (.iconst 1, 1) := by decide +kernel
theorem dX8_type_47 : decode cX8_type 47 = .ok (.isub, 1) := by decide +kernel
theorem dX8_type_48 : decode cX8_type 48 = .ok (.istore 4, 2) := by decide +kernel
theorem dX8_type_50 : decode cX8_type 50 = .ok (.iload 4, 2) := by decide +kernel
theorem dX8_type_52 : decode cX8_type 52 = .ok (.ifCond .lt 37, 3) := by decide +kernel
theorem dX8_type_55 : decode cX8_type 55 = .ok (.aload_n 0, 1) := by decide +kernel
theorem dX8_type_56 : decode cX8_type 56 = .ok (.getfield 10, 3) := by decide +kernel
theorem dX8_type_59 : decode cX8_type 59 = .ok (.aload_n 0, 1) := by decide +kernel
theorem dX8_type_60 : decode cX8_type 60 = .ok (.getfield 7, 3) := by decide +kernel
theorem dX8_type_63 : decode cX8_type 63 = .ok (.lload_n 1, 1) := by decide +kernel
theorem dX8_type_64 : decode cX8_type 64 = .ok (.bipush 8, 2) := by decide +kernel
theorem dX8_type_66 : decode cX8_type 66 = .ok (.iload 4, 2) := by decide +kernel
theorem dX8_type_68 : decode cX8_type 68 = .ok (.imul, 1) := by decide +kernel
theorem dX8_type_69 : decode cX8_type 69 = .ok (.lshr, 1) := by decide +kernel
theorem dX8_type_70 : decode cX8_type 70 = .ok (.l2i, 1) := by decide +kernel
theorem dX8_type_71 : decode cX8_type 71 = .ok (.i2b, 1) := by decide +kernel
theorem dX8_type_72 : decode cX8_type 72 = .ok (.bastore, 1) := by decide +kernel
theorem dX8_type_73 : decode cX8_type 73 = .ok (.aload_n 0, 1) := by decide +kernel
theorem dX8_type_74 : decode cX8_type 74 = .ok (.dup, 1) := by decide +kernel
theorem dX8_type_75 : decode cX8_type 75 = .ok (.getfield 7, 3) := by decide +kernel
theorem dX8_type_78 : decode cX8_type 78 = .ok (.iconst 1, 1) := by decide +kernel
theorem dX8_type_79 : decode cX8_type 79 = .ok (.iadd, 1) := by decide +kernel
theorem dX8_type_80 : decode cX8_type 80 = .ok (.putfield 7, 3) := by decide +kernel
theorem dX8_type_83 : decode cX8_type 83 = .ok (.iinc 4 (-1), 3) := by decide +kernel
theorem dX8_type_86 : decode cX8_type 86 = .ok (.goto (-36), 3) := by decide +kernel
theorem dX8_type_89 : decode cX8_type 89 = .ok (.aload_n 0, 1) := by decide +kernel
theorem dX8_type_90 : decode cX8_type 90 = .ok (.getfield 7, 3) := by decide +kernel
theorem dX8_type_93 : decode cX8_type 93 = .ok (.ireturn, 1) := by decide +kernel
theorem dX8_keep_0 : decode cX8_keep 0 = .ok (.aload_n 0, 1) := by decide +kernel
theorem dX8_keep_1 : decode cX8_keep 1 = .ok (.iload_n 1, 1) := by decide +kernel
theorem dX8_keep_2 : decode cX8_keep 2 = .ok (.ifCond .lt 11, 3) := by decide +kernel
theorem dX8_keep_5 : decode cX8_keep 5 = .ok (.iload_n 1, 1) := by decide +kernel
theorem dX8_keep_6 : decode cX8_keep 6 = .ok (.aload_n 0, 1) := by decide +kernel
theorem dX8_keep_7 : decode cX8_keep 7 = .ok (.getfield 7, 3) := by decide +kernel
theorem dX8_keep_10 : decode cX8_keep 10 = .ok (.if_icmp .le 7, 3) := by decide +kernel
theorem dX8_keep_13 : decode cX8_keep 13 = .ok (.iconst 1, 1) := by decide +kernel
theorem dX8_keep_14 : decode cX8_keep 14 = .ok (.goto 4, 3) := by decide +kernel
theorem dX8_keep_17 : decode cX8_keep 17 = .ok (.iconst 0, 1) := by decide +kernel
theorem dX8_keep_18 : decode cX8_keep 18 = .ok (.putfield 1, 3) := by decide +kernel
theorem dX8_keep_21 : decode cX8_keep 21 = .ok (.aload_n 0, 1) := by decide +kernel
theorem dX8_keep_22 : decode cX8_keep 22 = .ok (.aload_n 0, 1) := by decide +kernel
theorem dX8_keep_23 : decode cX8_keep 23 = .ok (.getfield 1, 3) := by decide +kernel
theorem dX8_keep_26 : decode cX8_keep 26 = .ok (.ifCond .le 10, 3) := by decide +kernel
theorem dX8_keep_29 : decode cX8_keep 29 = .ok (.aload_n 0, 1) := by decide +kernel
theorem dX8_keep_30 : decode cX8_keep 30 = .ok (.getfield 7, 3) := by decide +kernel
theorem dX8_keep_33 : decode cX8_keep 33 = .ok (.goto 4, 3) := by decide +kernel
theorem dX8_keep_36 : decode cX8_keep 36 = .ok (.iload_n 1, 1) := by decide +kernel
theorem dX8_keep_37 : decode cX8_keep 37 = .ok (.putfield 7, 3) := by decide +kernel
theorem dX8_keep_40 : decode cX8_keep 40 = .ok (.return_, 1) := by decide +kernel
theorem dX8_look_0 : decode cX8_look 0 = .ok (.aload_n 0, 1) := by decide +kernel
theorem dX8_look_1 : decode cX8_look 1 = .ok (.getfield 14, 3) := by decide +kernel
theorem dX8_look_4 : decode cX8_look 4 = .ok (.aload_n 0, 1) := by decide +kernel
theorem dX8_look_5 : decode cX8_look 5 = .ok (.getfield 7, 3) := by decide +kernel
theorem dX8_look_8 : decode cX8_look 8 = .ok (.if_icmp .ge 72, 3) := by decide +kernel
theorem dX8_look_11 : decode cX8_look 11 = .ok (.aload_n 0, 1) := by decide +kernel
theorem dX8_look_12 : decode cX8_look 12 = .ok (.getfield 10, 3) := by decide +kernel
theorem dX8_look_15 : decode cX8_look 15 = .ok (.aload_n 0, 1) := by decide +kernel
theorem dX8_look_16 : decode cX8_look 16 = .ok (.getfield 14, 3) := by decide +kernel
theorem dX8_look_19 : decode cX8_look 19 = .ok (.baload, 1) := by decide +kernel
theorem dX8_look_20 : decode cX8_look 20 = .ok (.bipush 9, 2) := by decide +kernel
theorem dX8_look_22 : decode cX8_look 22 = .ok (.if_icmp .eq 45, 3) := by decide +kernel
theorem dX8_look_25 : decode cX8_look 25 = .ok (.aload_n 0, 1) := by decide +kernel
theorem dX8_look_26 : decode cX8_look 26 = .ok (.getfield 10, 3) := by decide +kernel
theorem dX8_look_29 : decode cX8_look 29 = .ok (.aload_n 0, 1) := by decide +kernel
theorem dX8_look_30 : decode cX8_look 30 = .ok (.getfield 14, 3) := by decide +kernel
theorem dX8_look_33 : decode cX8_look 33 = .ok (.baload, 1) := by decide +kernel
theorem dX8_look_34 : decode cX8_look 34 = .ok (.bipush 10, 2) := by decide +kernel
theorem dX8_look_36 : decode cX8_look 36 = .ok (.if_icmp .eq 31, 3) := by decide +kernel
theorem dX8_look_39 : decode cX8_look 39 = .ok (.aload_n 0, 1) := by decide +kernel
theorem dX8_look_40 : decode cX8_look 40 = .ok (.getfield 10, 3) := by decide +kernel
theorem dX8_look_43 : decode cX8_look 43 = .ok (.aload_n 0, 1) := by decide +kernel
theorem dX8_look_44 : decode cX8_look 44 = .ok (.getfield 14, 3) := by decide +kernel
theorem dX8_look_47 : decode cX8_look 47 = .ok (.baload, 1) := by decide +kernel
theorem dX8_look_48 : decode cX8_look 48 = .ok (.bipush 13, 2) := by decide +kernel
theorem dX8_look_50 : decode cX8_look 50 = .ok (.if_icmp .eq 17, 3) := by decide +kernel
theorem dX8_look_53 : decode cX8_look 53 = .ok (.aload_n 0, 1) := by decide +kernel
theorem dX8_look_54 : decode cX8_look 54 = .ok (.getfield 10, 3) := by decide +kernel
theorem dX8_look_57 : decode cX8_look 57 = .ok (.aload_n 0, 1) := by decide +kernel
theorem dX8_look_58 : decode cX8_look 58 = .ok (.getfield 14, 3) := by decide +kernel
theorem dX8_look_61 : decode cX8_look 61 = .ok (.baload, 1) := by decide +kernel
theorem dX8_look_62 : decode cX8_look 62 = .ok (.bipush 32, 2) := by decide +kernel
theorem dX8_look_64 : decode cX8_look 64 = .ok (.if_icmp .ne 16, 3) := by decide +kernel
theorem dX8_look_67 : decode cX8_look 67 = .ok (.aload_n 0, 1) := by decide +kernel
theorem dX8_look_68 : decode cX8_look 68 = .ok (.dup, 1) := by decide +kernel
theorem dX8_look_69 : decode cX8_look 69 = .ok (.getfield 14, 3) := by decide +kernel
theorem dX8_look_72 : decode cX8_look 72 = .ok (.iconst 1, 1) := by decide +kernel
theorem dX8_look_73 : decode cX8_look 73 = .ok (.iadd, 1) := by decide +kernel
theorem dX8_look_74 : decode cX8_look 74 = .ok (.putfield 14, 3) := by decide +kernel
theorem dX8_look_77 : decode cX8_look 77 = .ok (.goto (-77), 3) := by decide +kernel
theorem dX8_look_80 : decode cX8_look 80 = .ok (.aload_n 0, 1) := by decide +kernel
theorem dX8_look_81 : decode cX8_look 81 = .ok (.getfield 14, 3) := by decide +kernel
theorem dX8_look_84 : decode cX8_look 84 = .ok (.aload_n 0, 1) := by decide +kernel
theorem dX8_look_85 : decode cX8_look 85 = .ok (.getfield 7, 3) := by decide +kernel
